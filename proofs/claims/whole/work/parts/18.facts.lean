theorem cod_J0_coder_7d493 : cod kJ0_coder_7d493 = cJ0_coder_7d493 := rfl
theorem own_J0_coder_7d493 : own_ kJ0_coder_7d493 = 13 := by decide +kernel
theorem mf_J0_coder_7d493 : sta kJ0_coder_7d493 = false ∧ ((nam kJ0_coder_7d493).name == "<init>") = false ∧ nar kJ0_coder_7d493 = 1 ∧ mlo kJ0_coder_7d493 = 1 := ⟨by decide +kernel, by decide +kernel, by decide +kernel, by decide +kernel⟩
theorem ret_J0_coder_7d493 : ret_ kJ0_coder_7d493 = (some .byte) := rfl
theorem lt_J0_coder_7d493 : kJ0_coder_7d493 < 1000 := by decide
theorem cod_J0_length_8abf5 : cod kJ0_length_8abf5 = cJ0_length_8abf5 := rfl
theorem own_J0_length_8abf5 : own_ kJ0_length_8abf5 = 13 := by decide +kernel
theorem mf_J0_length_8abf5 : sta kJ0_length_8abf5 = false ∧ ((nam kJ0_length_8abf5).name == "<init>") = false ∧ nar kJ0_length_8abf5 = 1 ∧ mlo kJ0_length_8abf5 = 1 := ⟨by decide +kernel, by decide +kernel, by decide +kernel, by decide +kernel⟩
theorem ret_J0_length_8abf5 : ret_ kJ0_length_8abf5 = (some .int) := rfl
theorem lt_J0_length_8abf5 : kJ0_length_8abf5 < 1000 := by decide
theorem cod_J0_isLatin1_aae02 : cod kJ0_isLatin1_aae02 = cJ0_isLatin1_aae02 := rfl
theorem own_J0_isLatin1_aae02 : own_ kJ0_isLatin1_aae02 = 13 := by decide +kernel
theorem mf_J0_isLatin1_aae02 : sta kJ0_isLatin1_aae02 = false ∧ ((nam kJ0_isLatin1_aae02).name == "<init>") = false ∧ nar kJ0_isLatin1_aae02 = 1 ∧ mlo kJ0_isLatin1_aae02 = 1 := ⟨by decide +kernel, by decide +kernel, by decide +kernel, by decide +kernel⟩
theorem ret_J0_isLatin1_aae02 : ret_ kJ0_isLatin1_aae02 = (some .boolean) := rfl
theorem lt_J0_isLatin1_aae02 : kJ0_isLatin1_aae02 < 1000 := by decide
theorem cod_J0_checkIndex_df160 : cod kJ0_checkIndex_df160 = cJ0_checkIndex_df160 := rfl
theorem own_J0_checkIndex_df160 : own_ kJ0_checkIndex_df160 = 13 := by decide +kernel
theorem mf_J0_checkIndex_df160 : sta kJ0_checkIndex_df160 = true ∧ ((nam kJ0_checkIndex_df160).name == "<init>") = false ∧ nar kJ0_checkIndex_df160 = 2 ∧ mlo kJ0_checkIndex_df160 = 2 := ⟨by decide +kernel, by decide +kernel, by decide +kernel, by decide +kernel⟩
theorem ret_J0_checkIndex_df160 : ret_ kJ0_checkIndex_df160 = none := rfl
theorem lt_J0_checkIndex_df160 : kJ0_checkIndex_df160 < 1000 := by decide
theorem cod_J0_charAt_5068e : cod kJ0_charAt_5068e = cJ0_charAt_5068e := rfl
theorem own_J0_charAt_5068e : own_ kJ0_charAt_5068e = 13 := by decide +kernel
theorem mf_J0_charAt_5068e : sta kJ0_charAt_5068e = false ∧ ((nam kJ0_charAt_5068e).name == "<init>") = false ∧ nar kJ0_charAt_5068e = 2 ∧ mlo kJ0_charAt_5068e = 2 := ⟨by decide +kernel, by decide +kernel, by decide +kernel, by decide +kernel⟩
theorem ret_J0_charAt_5068e : ret_ kJ0_charAt_5068e = (some .char) := rfl
theorem lt_J0_charAt_5068e : kJ0_charAt_5068e < 1000 := by decide
theorem cod_J1_charAt_3b067 : cod kJ1_charAt_3b067 = cJ1_charAt_3b067 := rfl
theorem own_J1_charAt_3b067 : own_ kJ1_charAt_3b067 = 14 := by decide +kernel
theorem mf_J1_charAt_3b067 : sta kJ1_charAt_3b067 = true ∧ ((nam kJ1_charAt_3b067).name == "<init>") = false ∧ nar kJ1_charAt_3b067 = 2 ∧ mlo kJ1_charAt_3b067 = 2 := ⟨by decide +kernel, by decide +kernel, by decide +kernel, by decide +kernel⟩
theorem ret_J1_charAt_3b067 : ret_ kJ1_charAt_3b067 = (some .char) := rfl
theorem lt_J1_charAt_3b067 : kJ1_charAt_3b067 < 1000 := by decide
theorem cod_J3_checkIndex_8e157 : cod kJ3_checkIndex_8e157 = cJ3_checkIndex_8e157 := rfl
theorem own_J3_checkIndex_8e157 : own_ kJ3_checkIndex_8e157 = 15 := by decide +kernel
theorem mf_J3_checkIndex_8e157 : sta kJ3_checkIndex_8e157 = true ∧ ((nam kJ3_checkIndex_8e157).name == "<init>") = false ∧ nar kJ3_checkIndex_8e157 = 3 ∧ mlo kJ3_checkIndex_8e157 = 3 := ⟨by decide +kernel, by decide +kernel, by decide +kernel, by decide +kernel⟩
theorem ret_J3_checkIndex_8e157 : ret_ kJ3_checkIndex_8e157 = (some .int) := rfl
theorem lt_J3_checkIndex_8e157 : kJ3_checkIndex_8e157 < 1000 := by decide
theorem cod_J6_bitCount_0f7a4 : cod kJ6_bitCount_0f7a4 = cJ6_bitCount_0f7a4 := rfl
theorem own_J6_bitCount_0f7a4 : own_ kJ6_bitCount_0f7a4 = 16 := by decide +kernel
theorem mf_J6_bitCount_0f7a4 : sta kJ6_bitCount_0f7a4 = true ∧ ((nam kJ6_bitCount_0f7a4).name == "<init>") = false ∧ nar kJ6_bitCount_0f7a4 = 1 ∧ mlo kJ6_bitCount_0f7a4 = 1 := ⟨by decide +kernel, by decide +kernel, by decide +kernel, by decide +kernel⟩
theorem ret_J6_bitCount_0f7a4 : ret_ kJ6_bitCount_0f7a4 = (some .int) := rfl
theorem lt_J6_bitCount_0f7a4 : kJ6_bitCount_0f7a4 < 1000 := by decide
theorem cod_J6_compare_7cf53 : cod kJ6_compare_7cf53 = cJ6_compare_7cf53 := rfl
theorem own_J6_compare_7cf53 : own_ kJ6_compare_7cf53 = 16 := by decide +kernel
theorem mf_J6_compare_7cf53 : sta kJ6_compare_7cf53 = true ∧ ((nam kJ6_compare_7cf53).name == "<init>") = false ∧ nar kJ6_compare_7cf53 = 2 ∧ mlo kJ6_compare_7cf53 = 2 := ⟨by decide +kernel, by decide +kernel, by decide +kernel, by decide +kernel⟩
theorem ret_J6_compare_7cf53 : ret_ kJ6_compare_7cf53 = (some .int) := rfl
theorem lt_J6_compare_7cf53 : kJ6_compare_7cf53 < 1000 := by decide
theorem cod_J6_numberOfTrailingZeros_0f7a4 : cod kJ6_numberOfTrailingZeros_0f7a4 = cJ6_numberOfTrailingZeros_0f7a4 := rfl
theorem own_J6_numberOfTrailingZeros_0f7a4 : own_ kJ6_numberOfTrailingZeros_0f7a4 = 16 := by decide +kernel
theorem mf_J6_numberOfTrailingZeros_0f7a4 : sta kJ6_numberOfTrailingZeros_0f7a4 = true ∧ ((nam kJ6_numberOfTrailingZeros_0f7a4).name == "<init>") = false ∧ nar kJ6_numberOfTrailingZeros_0f7a4 = 1 ∧ mlo kJ6_numberOfTrailingZeros_0f7a4 = 2 := ⟨by decide +kernel, by decide +kernel, by decide +kernel, by decide +kernel⟩
theorem ret_J6_numberOfTrailingZeros_0f7a4 : ret_ kJ6_numberOfTrailingZeros_0f7a4 = (some .int) := rfl
theorem lt_J6_numberOfTrailingZeros_0f7a4 : kJ6_numberOfTrailingZeros_0f7a4 < 1000 := by decide
theorem cod_J7_fill_d0a16 : cod kJ7_fill_d0a16 = cJ7_fill_d0a16 := rfl
theorem own_J7_fill_d0a16 : own_ kJ7_fill_d0a16 = 19 := by decide +kernel
theorem mf_J7_fill_d0a16 : sta kJ7_fill_d0a16 = true ∧ ((nam kJ7_fill_d0a16).name == "<init>") = false ∧ nar kJ7_fill_d0a16 = 2 ∧ mlo kJ7_fill_d0a16 = 5 := ⟨by decide +kernel, by decide +kernel, by decide +kernel, by decide +kernel⟩
theorem ret_J7_fill_d0a16 : ret_ kJ7_fill_d0a16 = none := rfl
theorem lt_J7_fill_d0a16 : kJ7_fill_d0a16 < 1000 := by decide
theorem cod_J13_numberOfTrailingZeros_95d88 : cod kJ13_numberOfTrailingZeros_95d88 = cJ13_numberOfTrailingZeros_95d88 := rfl
theorem own_J13_numberOfTrailingZeros_95d88 : own_ kJ13_numberOfTrailingZeros_95d88 = 17 := by decide +kernel
theorem mf_J13_numberOfTrailingZeros_95d88 : sta kJ13_numberOfTrailingZeros_95d88 = true ∧ ((nam kJ13_numberOfTrailingZeros_95d88).name == "<init>") = false ∧ nar kJ13_numberOfTrailingZeros_95d88 = 1 ∧ mlo kJ13_numberOfTrailingZeros_95d88 = 3 := ⟨by decide +kernel, by decide +kernel, by decide +kernel, by decide +kernel⟩
theorem ret_J13_numberOfTrailingZeros_95d88 : ret_ kJ13_numberOfTrailingZeros_95d88 = (some .int) := rfl
theorem lt_J13_numberOfTrailingZeros_95d88 : kJ13_numberOfTrailingZeros_95d88 < 1000 := by decide
theorem cod_X0_init : cod kX0_init = cX0_init := rfl
theorem own_X0_init : own_ kX0_init = 0 := by decide +kernel
theorem mf_X0_init : sta kX0_init = false ∧ ((nam kX0_init).name == "<init>") = true ∧ nar kX0_init = 1 ∧ mlo kX0_init = 1 := ⟨by decide +kernel, by decide +kernel, by decide +kernel, by decide +kernel⟩
theorem ret_X0_init : ret_ kX0_init = none := rfl
theorem lt_X0_init : kX0_init < 1000 := by decide
theorem cod_X0_become : cod kX0_become = cX0_become := rfl
theorem own_X0_become : own_ kX0_become = 0 := by decide +kernel
theorem mf_X0_become : sta kX0_become = false ∧ ((nam kX0_become).name == "<init>") = false ∧ nar kX0_become = 4 ∧ mlo kX0_become = 4 := ⟨by decide +kernel, by decide +kernel, by decide +kernel, by decide +kernel⟩
theorem ret_X0_become : ret_ kX0_become = none := rfl
theorem lt_X0_become : kX0_become < 1000 := by decide
theorem cod_X0_begins : cod kX0_begins = cX0_begins := rfl
theorem own_X0_begins : own_ kX0_begins = 0 := by decide +kernel
theorem mf_X0_begins : sta kX0_begins = false ∧ ((nam kX0_begins).name == "<init>") = false ∧ nar kX0_begins = 2 ∧ mlo kX0_begins = 2 := ⟨by decide +kernel, by decide +kernel, by decide +kernel, by decide +kernel⟩
theorem ret_X0_begins : ret_ kX0_begins = none := rfl
theorem lt_X0_begins : kX0_begins < 1000 := by decide
theorem cod_X0_plainSteps : cod kX0_plainSteps = cX0_plainSteps := rfl
theorem own_X0_plainSteps : own_ kX0_plainSteps = 0 := by decide +kernel
theorem mf_X0_plainSteps : sta kX0_plainSteps = false ∧ ((nam kX0_plainSteps).name == "<init>") = false ∧ nar kX0_plainSteps = 2 ∧ mlo kX0_plainSteps = 2 := ⟨by decide +kernel, by decide +kernel, by decide +kernel, by decide +kernel⟩
theorem ret_X0_plainSteps : ret_ kX0_plainSteps = (some .int) := rfl
theorem lt_X0_plainSteps : kX0_plainSteps < 1000 := by decide
theorem cod_X0_steps : cod kX0_steps = cX0_steps := rfl
theorem own_X0_steps : own_ kX0_steps = 0 := by decide +kernel
theorem mf_X0_steps : sta kX0_steps = false ∧ ((nam kX0_steps).name == "<init>") = false ∧ nar kX0_steps = 2 ∧ mlo kX0_steps = 2 := ⟨by decide +kernel, by decide +kernel, by decide +kernel, by decide +kernel⟩
theorem ret_X0_steps : ret_ kX0_steps = (some .int) := rfl
theorem lt_X0_steps : kX0_steps < 1000 := by decide
theorem cod_X0_plainTurns : cod kX0_plainTurns = cX0_plainTurns := rfl
theorem own_X0_plainTurns : own_ kX0_plainTurns = 0 := by decide +kernel
theorem mf_X0_plainTurns : sta kX0_plainTurns = false ∧ ((nam kX0_plainTurns).name == "<init>") = false ∧ nar kX0_plainTurns = 2 ∧ mlo kX0_plainTurns = 2 := ⟨by decide +kernel, by decide +kernel, by decide +kernel, by decide +kernel⟩
theorem ret_X0_plainTurns : ret_ kX0_plainTurns = (some .int) := rfl
theorem lt_X0_plainTurns : kX0_plainTurns < 1000 := by decide
theorem cod_X0_turns : cod kX0_turns = cX0_turns := rfl
theorem own_X0_turns : own_ kX0_turns = 0 := by decide +kernel
theorem mf_X0_turns : sta kX0_turns = false ∧ ((nam kX0_turns).name == "<init>") = false ∧ nar kX0_turns = 2 ∧ mlo kX0_turns = 3 := ⟨by decide +kernel, by decide +kernel, by decide +kernel, by decide +kernel⟩
theorem ret_X0_turns : ret_ kX0_turns = (some .int) := rfl
theorem lt_X0_turns : kX0_turns < 1000 := by decide
theorem cod_X0_plainTells : cod kX0_plainTells = cX0_plainTells := rfl
theorem own_X0_plainTells : own_ kX0_plainTells = 0 := by decide +kernel
theorem mf_X0_plainTells : sta kX0_plainTells = false ∧ ((nam kX0_plainTells).name == "<init>") = false ∧ nar kX0_plainTells = 2 ∧ mlo kX0_plainTells = 2 := ⟨by decide +kernel, by decide +kernel, by decide +kernel, by decide +kernel⟩
theorem ret_X0_plainTells : ret_ kX0_plainTells = (some .int) := rfl
theorem lt_X0_plainTells : kX0_plainTells < 1000 := by decide
theorem cod_X0_tells : cod kX0_tells = cX0_tells := rfl
theorem own_X0_tells : own_ kX0_tells = 0 := by decide +kernel
theorem mf_X0_tells : sta kX0_tells = false ∧ ((nam kX0_tells).name == "<init>") = false ∧ nar kX0_tells = 2 ∧ mlo kX0_tells = 3 := ⟨by decide +kernel, by decide +kernel, by decide +kernel, by decide +kernel⟩
theorem ret_X0_tells : ret_ kX0_tells = (some .int) := rfl
theorem lt_X0_tells : kX0_tells < 1000 := by decide
theorem cod_X1_init : cod kX1_init = cX1_init := rfl
theorem own_X1_init : own_ kX1_init = 1 := by decide +kernel
theorem mf_X1_init : sta kX1_init = false ∧ ((nam kX1_init).name == "<init>") = true ∧ nar kX1_init = 2 ∧ mlo kX1_init = 2 := ⟨by decide +kernel, by decide +kernel, by decide +kernel, by decide +kernel⟩
theorem ret_X1_init : ret_ kX1_init = none := rfl
theorem lt_X1_init : kX1_init < 1000 := by decide
theorem cod_X1_join : cod kX1_join = cX1_join := rfl
theorem own_X1_join : own_ kX1_join = 1 := by decide +kernel
theorem mf_X1_join : sta kX1_join = true ∧ ((nam kX1_join).name == "<init>") = false ∧ nar kX1_join = 4 ∧ mlo kX1_join = 6 := ⟨by decide +kernel, by decide +kernel, by decide +kernel, by decide +kernel⟩
theorem ret_X1_join : ret_ kX1_join = none := rfl
theorem lt_X1_join : kX1_join < 1000 := by decide
theorem cod_X1_alone_ : cod kX1_alone_ = cX1_alone_ := rfl
theorem own_X1_alone_ : own_ kX1_alone_ = 1 := by decide +kernel
theorem mf_X1_alone_ : sta kX1_alone_ = false ∧ ((nam kX1_alone_).name == "<init>") = false ∧ nar kX1_alone_ = 6 ∧ mlo kX1_alone_ = 6 := ⟨by decide +kernel, by decide +kernel, by decide +kernel, by decide +kernel⟩
theorem ret_X1_alone_ : ret_ kX1_alone_ = none := rfl
theorem lt_X1_alone_ : kX1_alone_ < 1000 := by decide
theorem cod_X1_alone : cod kX1_alone = cX1_alone := rfl
theorem own_X1_alone : own_ kX1_alone = 1 := by decide +kernel
theorem mf_X1_alone : sta kX1_alone = false ∧ ((nam kX1_alone).name == "<init>") = false ∧ nar kX1_alone = 3 ∧ mlo kX1_alone = 3 := ⟨by decide +kernel, by decide +kernel, by decide +kernel, by decide +kernel⟩
theorem ret_X1_alone : ret_ kX1_alone = none := rfl
theorem lt_X1_alone : kX1_alone < 1000 := by decide
theorem cod_X1_around : cod kX1_around = cX1_around := rfl
theorem own_X1_around : own_ kX1_around = 1 := by decide +kernel
theorem mf_X1_around : sta kX1_around = false ∧ ((nam kX1_around).name == "<init>") = false ∧ nar kX1_around = 6 ∧ mlo kX1_around = 7 := ⟨by decide +kernel, by decide +kernel, by decide +kernel, by decide +kernel⟩
theorem ret_X1_around : ret_ kX1_around = none := rfl
theorem lt_X1_around : kX1_around < 1000 := by decide
theorem cod_X1_among : cod kX1_among = cX1_among := rfl
theorem own_X1_among : own_ kX1_among = 1 := by decide +kernel
theorem mf_X1_among : sta kX1_among = false ∧ ((nam kX1_among).name == "<init>") = false ∧ nar kX1_among = 3 ∧ mlo kX1_among = 4 := ⟨by decide +kernel, by decide +kernel, by decide +kernel, by decide +kernel⟩
theorem ret_X1_among : ret_ kX1_among = (some .long) := rfl
theorem lt_X1_among : kX1_among < 1000 := by decide
theorem cod_X1_spread : cod kX1_spread = cX1_spread := rfl
theorem own_X1_spread : own_ kX1_spread = 1 := by decide +kernel
theorem mf_X1_spread : sta kX1_spread = false ∧ ((nam kX1_spread).name == "<init>") = false ∧ nar kX1_spread = 4 ∧ mlo kX1_spread = 10 := ⟨by decide +kernel, by decide +kernel, by decide +kernel, by decide +kernel⟩
theorem ret_X1_spread : ret_ kX1_spread = none := rfl
theorem lt_X1_spread : kX1_spread < 1000 := by decide
theorem cod_X1_advance : cod kX1_advance = cX1_advance := rfl
theorem own_X1_advance : own_ kX1_advance = 1 := by decide +kernel
theorem mf_X1_advance : sta kX1_advance = false ∧ ((nam kX1_advance).name == "<init>") = false ∧ nar kX1_advance = 2 ∧ mlo kX1_advance = 4 := ⟨by decide +kernel, by decide +kernel, by decide +kernel, by decide +kernel⟩
theorem ret_X1_advance : ret_ kX1_advance = none := rfl
theorem lt_X1_advance : kX1_advance < 1000 := by decide
theorem cod_X1_keep : cod kX1_keep = cX1_keep := rfl
theorem own_X1_keep : own_ kX1_keep = 1 := by decide +kernel
theorem mf_X1_keep : sta kX1_keep = false ∧ ((nam kX1_keep).name == "<init>") = false ∧ nar kX1_keep = 2 ∧ mlo kX1_keep = 3 := ⟨by decide +kernel, by decide +kernel, by decide +kernel, by decide +kernel⟩
theorem ret_X1_keep : ret_ kX1_keep = none := rfl
theorem lt_X1_keep : kX1_keep < 1000 := by decide
theorem cod_X1_cells : cod kX1_cells = cX1_cells := rfl
theorem own_X1_cells : own_ kX1_cells = 1 := by decide +kernel
theorem mf_X1_cells : sta kX1_cells = false ∧ ((nam kX1_cells).name == "<init>") = false ∧ nar kX1_cells = 1 ∧ mlo kX1_cells = 4 := ⟨by decide +kernel, by decide +kernel, by decide +kernel, by decide +kernel⟩
theorem ret_X1_cells : ret_ kX1_cells = (some .long) := rfl
theorem lt_X1_cells : kX1_cells < 1000 := by decide
theorem cod_X1_facing : cod kX1_facing = cX1_facing := rfl
theorem own_X1_facing : own_ kX1_facing = 1 := by decide +kernel
theorem mf_X1_facing : sta kX1_facing = false ∧ ((nam kX1_facing).name == "<init>") = false ∧ nar kX1_facing = 2 ∧ mlo kX1_facing = 5 := ⟨by decide +kernel, by decide +kernel, by decide +kernel, by decide +kernel⟩
theorem ret_X1_facing : ret_ kX1_facing = (some .long) := rfl
theorem lt_X1_facing : kX1_facing < 1000 := by decide
theorem cod_X1_beatsTo : cod kX1_beatsTo = cX1_beatsTo := rfl
theorem own_X1_beatsTo : own_ kX1_beatsTo = 1 := by decide +kernel
theorem mf_X1_beatsTo : sta kX1_beatsTo = false ∧ ((nam kX1_beatsTo).name == "<init>") = false ∧ nar kX1_beatsTo = 2 ∧ mlo kX1_beatsTo = 3 := ⟨by decide +kernel, by decide +kernel, by decide +kernel, by decide +kernel⟩
theorem ret_X1_beatsTo : ret_ kX1_beatsTo = (some .int) := rfl
theorem lt_X1_beatsTo : kX1_beatsTo < 1000 := by decide
theorem cod_X2_init : cod kX2_init = cX2_init := rfl
theorem own_X2_init : own_ kX2_init = 2 := by decide +kernel
theorem mf_X2_init : sta kX2_init = false ∧ ((nam kX2_init).name == "<init>") = true ∧ nar kX2_init = 2 ∧ mlo kX2_init = 2 := ⟨by decide +kernel, by decide +kernel, by decide +kernel, by decide +kernel⟩
theorem ret_X2_init : ret_ kX2_init = none := rfl
theorem lt_X2_init : kX2_init < 1000 := by decide
theorem cod_X2_become : cod kX2_become = cX2_become := rfl
theorem own_X2_become : own_ kX2_become = 2 := by decide +kernel
theorem mf_X2_become : sta kX2_become = false ∧ ((nam kX2_become).name == "<init>") = false ∧ nar kX2_become = 6 ∧ mlo kX2_become = 6 := ⟨by decide +kernel, by decide +kernel, by decide +kernel, by decide +kernel⟩
theorem ret_X2_become : ret_ kX2_become = none := rfl
theorem lt_X2_become : kX2_become < 1000 := by decide
theorem cod_X2_isOn : cod kX2_isOn = cX2_isOn := rfl
theorem own_X2_isOn : own_ kX2_isOn = 2 := by decide +kernel
theorem mf_X2_isOn : sta kX2_isOn = false ∧ ((nam kX2_isOn).name == "<init>") = false ∧ nar kX2_isOn = 1 ∧ mlo kX2_isOn = 1 := ⟨by decide +kernel, by decide +kernel, by decide +kernel, by decide +kernel⟩
theorem ret_X2_isOn : ret_ kX2_isOn = (some .boolean) := rfl
theorem lt_X2_isOn : kX2_isOn < 1000 := by decide
theorem cod_X2_rests : cod kX2_rests = cX2_rests := rfl
theorem own_X2_rests : own_ kX2_rests = 2 := by decide +kernel
theorem mf_X2_rests : sta kX2_rests = false ∧ ((nam kX2_rests).name == "<init>") = false ∧ nar kX2_rests = 1 ∧ mlo kX2_rests = 1 := ⟨by decide +kernel, by decide +kernel, by decide +kernel, by decide +kernel⟩
theorem ret_X2_rests : ret_ kX2_rests = (some .boolean) := rfl
theorem lt_X2_rests : kX2_rests < 1000 := by decide
theorem cod_X2_isRound : cod kX2_isRound = cX2_isRound := rfl
theorem own_X2_isRound : own_ kX2_isRound = 2 := by decide +kernel
theorem mf_X2_isRound : sta kX2_isRound = false ∧ ((nam kX2_isRound).name == "<init>") = false ∧ nar kX2_isRound = 1 ∧ mlo kX2_isRound = 1 := ⟨by decide +kernel, by decide +kernel, by decide +kernel, by decide +kernel⟩
theorem ret_X2_isRound : ret_ kX2_isRound = (some .boolean) := rfl
theorem lt_X2_isRound : kX2_isRound < 1000 := by decide
theorem cod_X2_way : cod kX2_way = cX2_way := rfl
theorem own_X2_way : own_ kX2_way = 2 := by decide +kernel
theorem mf_X2_way : sta kX2_way = false ∧ ((nam kX2_way).name == "<init>") = false ∧ nar kX2_way = 4 ∧ mlo kX2_way = 4 := ⟨by decide +kernel, by decide +kernel, by decide +kernel, by decide +kernel⟩
theorem ret_X2_way : ret_ kX2_way = (some .int) := rfl
theorem lt_X2_way : kX2_way < 1000 := by decide
theorem cod_X2_ons : cod kX2_ons = cX2_ons := rfl
theorem own_X2_ons : own_ kX2_ons = 2 := by decide +kernel
theorem mf_X2_ons : sta kX2_ons = false ∧ ((nam kX2_ons).name == "<init>") = false ∧ nar kX2_ons = 3 ∧ mlo kX2_ons = 5 := ⟨by decide +kernel, by decide +kernel, by decide +kernel, by decide +kernel⟩
theorem ret_X2_ons : ret_ kX2_ons = (some .long) := rfl
theorem lt_X2_ons : kX2_ons < 1000 := by decide
theorem cod_X2_leaves : cod kX2_leaves = cX2_leaves := rfl
theorem own_X2_leaves : own_ kX2_leaves = 2 := by decide +kernel
theorem mf_X2_leaves : sta kX2_leaves = false ∧ ((nam kX2_leaves).name == "<init>") = false ∧ nar kX2_leaves = 3 ∧ mlo kX2_leaves = 3 := ⟨by decide +kernel, by decide +kernel, by decide +kernel, by decide +kernel⟩
theorem ret_X2_leaves : ret_ kX2_leaves = (some .long) := rfl
theorem lt_X2_leaves : kX2_leaves < 1000 := by decide
theorem cod_X2_starts : cod kX2_starts = cX2_starts := rfl
theorem own_X2_starts : own_ kX2_starts = 2 := by decide +kernel
theorem mf_X2_starts : sta kX2_starts = false ∧ ((nam kX2_starts).name == "<init>") = false ∧ nar kX2_starts = 4 ∧ mlo kX2_starts = 4 := ⟨by decide +kernel, by decide +kernel, by decide +kernel, by decide +kernel⟩
theorem ret_X2_starts : ret_ kX2_starts = (some .long) := rfl
theorem lt_X2_starts : kX2_starts < 1000 := by decide
theorem cod_X2_tick : cod kX2_tick = cX2_tick := rfl
theorem own_X2_tick : own_ kX2_tick = 2 := by decide +kernel
theorem mf_X2_tick : sta kX2_tick = false ∧ ((nam kX2_tick).name == "<init>") = false ∧ nar kX2_tick = 1 ∧ mlo kX2_tick = 1 := ⟨by decide +kernel, by decide +kernel, by decide +kernel, by decide +kernel⟩
theorem ret_X2_tick : ret_ kX2_tick = none := rfl
theorem lt_X2_tick : kX2_tick < 1000 := by decide
theorem cod_X2_steps : cod kX2_steps = cX2_steps := rfl
theorem own_X2_steps : own_ kX2_steps = 2 := by decide +kernel
theorem mf_X2_steps : sta kX2_steps = false ∧ ((nam kX2_steps).name == "<init>") = false ∧ nar kX2_steps = 4 ∧ mlo kX2_steps = 6 := ⟨by decide +kernel, by decide +kernel, by decide +kernel, by decide +kernel⟩
theorem ret_X2_steps : ret_ kX2_steps = (some .int) := rfl
theorem lt_X2_steps : kX2_steps < 1000 := by decide
theorem cod_X3_rhythm : cod kX3_rhythm = cX3_rhythm := rfl
theorem own_X3_rhythm : own_ kX3_rhythm = 3 := by decide +kernel
theorem mf_X3_rhythm : sta kX3_rhythm = false ∧ ((nam kX3_rhythm).name == "<init>") = false ∧ nar kX3_rhythm = 1 ∧ mlo kX3_rhythm = 1 := ⟨by decide +kernel, by decide +kernel, by decide +kernel, by decide +kernel⟩
theorem ret_X3_rhythm : ret_ kX3_rhythm = (some .int) := rfl
theorem lt_X3_rhythm : kX3_rhythm < 1000 := by decide
theorem cod_X3_beat : cod kX3_beat = cX3_beat := rfl
theorem own_X3_beat : own_ kX3_beat = 3 := by decide +kernel
theorem mf_X3_beat : sta kX3_beat = false ∧ ((nam kX3_beat).name == "<init>") = false ∧ nar kX3_beat = 2 ∧ mlo kX3_beat = 3 := ⟨by decide +kernel, by decide +kernel, by decide +kernel, by decide +kernel⟩
theorem ret_X3_beat : ret_ kX3_beat = (some .int) := rfl
theorem lt_X3_beat : kX3_beat < 1000 := by decide
theorem cod_X3_backward : cod kX3_backward = cX3_backward := rfl
theorem own_X3_backward : own_ kX3_backward = 3 := by decide +kernel
theorem mf_X3_backward : sta kX3_backward = false ∧ ((nam kX3_backward).name == "<init>") = false ∧ nar kX3_backward = 2 ∧ mlo kX3_backward = 2 := ⟨by decide +kernel, by decide +kernel, by decide +kernel, by decide +kernel⟩
theorem ret_X3_backward : ret_ kX3_backward = (some .long) := rfl
theorem lt_X3_backward : kX3_backward < 1000 := by decide
theorem cod_X3_onward : cod kX3_onward = cX3_onward := rfl
theorem own_X3_onward : own_ kX3_onward = 3 := by decide +kernel
theorem mf_X3_onward : sta kX3_onward = false ∧ ((nam kX3_onward).name == "<init>") = false ∧ nar kX3_onward = 3 ∧ mlo kX3_onward = 3 := ⟨by decide +kernel, by decide +kernel, by decide +kernel, by decide +kernel⟩
theorem ret_X3_onward : ret_ kX3_onward = (some .long) := rfl
theorem lt_X3_onward : kX3_onward < 1000 := by decide
theorem cod_X3_init : cod kX3_init = cX3_init := rfl
theorem own_X3_init : own_ kX3_init = 3 := by decide +kernel
theorem mf_X3_init : sta kX3_init = false ∧ ((nam kX3_init).name == "<init>") = true ∧ nar kX3_init = 4 ∧ mlo kX3_init = 6 := ⟨by decide +kernel, by decide +kernel, by decide +kernel, by decide +kernel⟩
theorem ret_X3_init : ret_ kX3_init = none := rfl
theorem lt_X3_init : kX3_init < 1000 := by decide
theorem cod_X3_marked : cod kX3_marked = cX3_marked := rfl
theorem own_X3_marked : own_ kX3_marked = 3 := by decide +kernel
theorem mf_X3_marked : sta kX3_marked = false ∧ ((nam kX3_marked).name == "<init>") = false ∧ nar kX3_marked = 2 ∧ mlo kX3_marked = 2 := ⟨by decide +kernel, by decide +kernel, by decide +kernel, by decide +kernel⟩
theorem ret_X3_marked : ret_ kX3_marked = (some .long) := rfl
theorem lt_X3_marked : kX3_marked < 1000 := by decide
theorem cod_X4_init : cod kX4_init = cX4_init := rfl
theorem own_X4_init : own_ kX4_init = 4 := by decide +kernel
theorem mf_X4_init : sta kX4_init = false ∧ ((nam kX4_init).name == "<init>") = true ∧ nar kX4_init = 2 ∧ mlo kX4_init = 2 := ⟨by decide +kernel, by decide +kernel, by decide +kernel, by decide +kernel⟩
theorem ret_X4_init : ret_ kX4_init = none := rfl
theorem lt_X4_init : kX4_init < 1000 := by decide
theorem cod_X4_join : cod kX4_join = cX4_join := rfl
theorem own_X4_join : own_ kX4_join = 4 := by decide +kernel
theorem mf_X4_join : sta kX4_join = true ∧ ((nam kX4_join).name == "<init>") = false ∧ nar kX4_join = 5 ∧ mlo kX4_join = 7 := ⟨by decide +kernel, by decide +kernel, by decide +kernel, by decide +kernel⟩
theorem ret_X4_join : ret_ kX4_join = none := rfl
theorem lt_X4_join : kX4_join < 1000 := by decide
theorem cod_X4_alone : cod kX4_alone = cX4_alone := rfl
theorem own_X4_alone : own_ kX4_alone = 4 := by decide +kernel
theorem mf_X4_alone : sta kX4_alone = false ∧ ((nam kX4_alone).name == "<init>") = false ∧ nar kX4_alone = 3 ∧ mlo kX4_alone = 3 := ⟨by decide +kernel, by decide +kernel, by decide +kernel, by decide +kernel⟩
theorem ret_X4_alone : ret_ kX4_alone = none := rfl
theorem lt_X4_alone : kX4_alone < 1000 := by decide
theorem cod_X4_part : cod kX4_part = cX4_part := rfl
theorem own_X4_part : own_ kX4_part = 4 := by decide +kernel
theorem mf_X4_part : sta kX4_part = false ∧ ((nam kX4_part).name == "<init>") = false ∧ nar kX4_part = 5 ∧ mlo kX4_part = 12 := ⟨by decide +kernel, by decide +kernel, by decide +kernel, by decide +kernel⟩
theorem ret_X4_part : ret_ kX4_part = none := rfl
theorem lt_X4_part : kX4_part < 1000 := by decide
theorem cod_X4_advance : cod kX4_advance = cX4_advance := rfl
theorem own_X4_advance : own_ kX4_advance = 4 := by decide +kernel
theorem mf_X4_advance : sta kX4_advance = false ∧ ((nam kX4_advance).name == "<init>") = false ∧ nar kX4_advance = 1 ∧ mlo kX4_advance = 2 := ⟨by decide +kernel, by decide +kernel, by decide +kernel, by decide +kernel⟩
theorem ret_X4_advance : ret_ kX4_advance = none := rfl
theorem lt_X4_advance : kX4_advance < 1000 := by decide
theorem cod_X4_shares : cod kX4_shares = cX4_shares := rfl
theorem own_X4_shares : own_ kX4_shares = 4 := by decide +kernel
theorem mf_X4_shares : sta kX4_shares = false ∧ ((nam kX4_shares).name == "<init>") = false ∧ nar kX4_shares = 2 ∧ mlo kX4_shares = 5 := ⟨by decide +kernel, by decide +kernel, by decide +kernel, by decide +kernel⟩
theorem ret_X4_shares : ret_ kX4_shares = (some .long) := rfl
theorem lt_X4_shares : kX4_shares < 1000 := by decide
theorem cod_X5_init : cod kX5_init = cX5_init := rfl
theorem own_X5_init : own_ kX5_init = 5 := by decide +kernel
theorem mf_X5_init : sta kX5_init = false ∧ ((nam kX5_init).name == "<init>") = true ∧ nar kX5_init = 2 ∧ mlo kX5_init = 3 := ⟨by decide +kernel, by decide +kernel, by decide +kernel, by decide +kernel⟩
theorem ret_X5_init : ret_ kX5_init = none := rfl
theorem lt_X5_init : kX5_init < 1000 := by decide
theorem cod_X5_who : cod kX5_who = cX5_who := rfl
theorem own_X5_who : own_ kX5_who = 5 := by decide +kernel
theorem mf_X5_who : sta kX5_who = false ∧ ((nam kX5_who).name == "<init>") = false ∧ nar kX5_who = 2 ∧ mlo kX5_who = 2 := ⟨by decide +kernel, by decide +kernel, by decide +kernel, by decide +kernel⟩
theorem ret_X5_who : ret_ kX5_who = (some (.object "TwoOnOneBack$Walker")) := rfl
theorem lt_X5_who : kX5_who < 1000 := by decide
theorem cod_X5_added : cod kX5_added = cX5_added := rfl
theorem own_X5_added : own_ kX5_added = 5 := by decide +kernel
theorem mf_X5_added : sta kX5_added = false ∧ ((nam kX5_added).name == "<init>") = false ∧ nar kX5_added = 1 ∧ mlo kX5_added = 1 := ⟨by decide +kernel, by decide +kernel, by decide +kernel, by decide +kernel⟩
theorem ret_X5_added : ret_ kX5_added = (some (.object "TwoOnOneBack$Walker")) := rfl
theorem lt_X5_added : kX5_added < 1000 := by decide
theorem cod_X5_become : cod kX5_become = cX5_become := rfl
theorem own_X5_become : own_ kX5_become = 5 := by decide +kernel
theorem mf_X5_become : sta kX5_become = false ∧ ((nam kX5_become).name == "<init>") = false ∧ nar kX5_become = 2 ∧ mlo kX5_become = 3 := ⟨by decide +kernel, by decide +kernel, by decide +kernel, by decide +kernel⟩
theorem ret_X5_become : ret_ kX5_become = none := rfl
theorem lt_X5_become : kX5_become < 1000 := by decide
theorem cod_X6_init : cod kX6_init = cX6_init := rfl
theorem own_X6_init : own_ kX6_init = 6 := by decide +kernel
theorem mf_X6_init : sta kX6_init = false ∧ ((nam kX6_init).name == "<init>") = true ∧ nar kX6_init = 1 ∧ mlo kX6_init = 1 := ⟨by decide +kernel, by decide +kernel, by decide +kernel, by decide +kernel⟩
theorem ret_X6_init : ret_ kX6_init = none := rfl
theorem lt_X6_init : kX6_init < 1000 := by decide
theorem cod_X6_become : cod kX6_become = cX6_become := rfl
theorem own_X6_become : own_ kX6_become = 6 := by decide +kernel
theorem mf_X6_become : sta kX6_become = false ∧ ((nam kX6_become).name == "<init>") = false ∧ nar kX6_become = 3 ∧ mlo kX6_become = 3 := ⟨by decide +kernel, by decide +kernel, by decide +kernel, by decide +kernel⟩
theorem ret_X6_become : ret_ kX6_become = none := rfl
theorem lt_X6_become : kX6_become < 1000 := by decide
theorem cod_X6_has : cod kX6_has = cX6_has := rfl
theorem own_X6_has : own_ kX6_has = 6 := by decide +kernel
theorem mf_X6_has : sta kX6_has = false ∧ ((nam kX6_has).name == "<init>") = false ∧ nar kX6_has = 2 ∧ mlo kX6_has = 3 := ⟨by decide +kernel, by decide +kernel, by decide +kernel, by decide +kernel⟩
theorem ret_X6_has : ret_ kX6_has = (some .boolean) := rfl
theorem lt_X6_has : kX6_has < 1000 := by decide
theorem cod_X6_reaches : cod kX6_reaches = cX6_reaches := rfl
theorem own_X6_reaches : own_ kX6_reaches = 6 := by decide +kernel
theorem mf_X6_reaches : sta kX6_reaches = false ∧ ((nam kX6_reaches).name == "<init>") = false ∧ nar kX6_reaches = 3 ∧ mlo kX6_reaches = 3 := ⟨by decide +kernel, by decide +kernel, by decide +kernel, by decide +kernel⟩
theorem ret_X6_reaches : ret_ kX6_reaches = (some .boolean) := rfl
theorem lt_X6_reaches : kX6_reaches < 1000 := by decide
theorem cod_X6_value : cod kX6_value = cX6_value := rfl
theorem own_X6_value : own_ kX6_value = 6 := by decide +kernel
theorem mf_X6_value : sta kX6_value = false ∧ ((nam kX6_value).name == "<init>") = false ∧ nar kX6_value = 2 ∧ mlo kX6_value = 2 := ⟨by decide +kernel, by decide +kernel, by decide +kernel, by decide +kernel⟩
theorem ret_X6_value : ret_ kX6_value = (some .long) := rfl
theorem lt_X6_value : kX6_value < 1000 := by decide
theorem cod_X6_cut : cod kX6_cut = cX6_cut := rfl
theorem own_X6_cut : own_ kX6_cut = 6 := by decide +kernel
theorem mf_X6_cut : sta kX6_cut = false ∧ ((nam kX6_cut).name == "<init>") = false ∧ nar kX6_cut = 2 ∧ mlo kX6_cut = 3 := ⟨by decide +kernel, by decide +kernel, by decide +kernel, by decide +kernel⟩
theorem ret_X6_cut : ret_ kX6_cut = (some .long) := rfl
theorem lt_X6_cut : kX6_cut < 1000 := by decide
theorem cod_X6_write : cod kX6_write = cX6_write := rfl
theorem own_X6_write : own_ kX6_write = 6 := by decide +kernel
theorem mf_X6_write : sta kX6_write = false ∧ ((nam kX6_write).name == "<init>") = false ∧ nar kX6_write = 3 ∧ mlo kX6_write = 4 := ⟨by decide +kernel, by decide +kernel, by decide +kernel, by decide +kernel⟩
theorem ret_X6_write : ret_ kX6_write = none := rfl
theorem lt_X6_write : kX6_write < 1000 := by decide
theorem cod_X7_init : cod kX7_init = cX7_init := rfl
theorem own_X7_init : own_ kX7_init = 7 := by decide +kernel
theorem mf_X7_init : sta kX7_init = false ∧ ((nam kX7_init).name == "<init>") = true ∧ nar kX7_init = 1 ∧ mlo kX7_init = 1 := ⟨by decide +kernel, by decide +kernel, by decide +kernel, by decide +kernel⟩
theorem ret_X7_init : ret_ kX7_init = none := rfl
theorem lt_X7_init : kX7_init < 1000 := by decide
theorem cod_X7_add : cod kX7_add = cX7_add := rfl
theorem own_X7_add : own_ kX7_add = 7 := by decide +kernel
theorem mf_X7_add : sta kX7_add = false ∧ ((nam kX7_add).name == "<init>") = false ∧ nar kX7_add = 2 ∧ mlo kX7_add = 2 := ⟨by decide +kernel, by decide +kernel, by decide +kernel, by decide +kernel⟩
theorem ret_X7_add : ret_ kX7_add = (some .boolean) := rfl
theorem lt_X7_add : kX7_add < 1000 := by decide
theorem cod_X7_takes : cod kX7_takes = cX7_takes := rfl
theorem own_X7_takes : own_ kX7_takes = 7 := by decide +kernel
theorem mf_X7_takes : sta kX7_takes = false ∧ ((nam kX7_takes).name == "<init>") = false ∧ nar kX7_takes = 2 ∧ mlo kX7_takes = 2 := ⟨by decide +kernel, by decide +kernel, by decide +kernel, by decide +kernel⟩
theorem ret_X7_takes : ret_ kX7_takes = (some .boolean) := rfl
theorem lt_X7_takes : kX7_takes < 1000 := by decide
theorem cod_X7_needs : cod kX7_needs = cX7_needs := rfl
theorem own_X7_needs : own_ kX7_needs = 7 := by decide +kernel
theorem mf_X7_needs : sta kX7_needs = false ∧ ((nam kX7_needs).name == "<init>") = false ∧ nar kX7_needs = 2 ∧ mlo kX7_needs = 3 := ⟨by decide +kernel, by decide +kernel, by decide +kernel, by decide +kernel⟩
theorem ret_X7_needs : ret_ kX7_needs = none := rfl
theorem lt_X7_needs : kX7_needs < 1000 := by decide
theorem cod_X7_oneIf : cod kX7_oneIf = cX7_oneIf := rfl
theorem own_X7_oneIf : own_ kX7_oneIf = 7 := by decide +kernel
theorem mf_X7_oneIf : sta kX7_oneIf = false ∧ ((nam kX7_oneIf).name == "<init>") = false ∧ nar kX7_oneIf = 2 ∧ mlo kX7_oneIf = 3 := ⟨by decide +kernel, by decide +kernel, by decide +kernel, by decide +kernel⟩
theorem ret_X7_oneIf : ret_ kX7_oneIf = (some .int) := rfl
theorem lt_X7_oneIf : kX7_oneIf < 1000 := by decide
theorem cod_X7_number : cod kX7_number = cX7_number := rfl
theorem own_X7_number : own_ kX7_number = 7 := by decide +kernel
theorem mf_X7_number : sta kX7_number = false ∧ ((nam kX7_number).name == "<init>") = false ∧ nar kX7_number = 1 ∧ mlo kX7_number = 3 := ⟨by decide +kernel, by decide +kernel, by decide +kernel, by decide +kernel⟩
theorem ret_X7_number : ret_ kX7_number = (some .int) := rfl
theorem lt_X7_number : kX7_number < 1000 := by decide
theorem cod_X7_oneOf : cod kX7_oneOf = cX7_oneOf := rfl
theorem own_X7_oneOf : own_ kX7_oneOf = 7 := by decide +kernel
theorem mf_X7_oneOf : sta kX7_oneOf = false ∧ ((nam kX7_oneOf).name == "<init>") = false ∧ nar kX7_oneOf = 2 ∧ mlo kX7_oneOf = 3 := ⟨by decide +kernel, by decide +kernel, by decide +kernel, by decide +kernel⟩
theorem ret_X7_oneOf : ret_ kX7_oneOf = (some .int) := rfl
theorem lt_X7_oneOf : kX7_oneOf < 1000 := by decide
theorem cod_X7_measure : cod kX7_measure = cX7_measure := rfl
theorem own_X7_measure : own_ kX7_measure = 7 := by decide +kernel
theorem mf_X7_measure : sta kX7_measure = true ∧ ((nam kX7_measure).name == "<init>") = false ∧ nar kX7_measure = 2 ∧ mlo kX7_measure = 4 := ⟨by decide +kernel, by decide +kernel, by decide +kernel, by decide +kernel⟩
theorem ret_X7_measure : ret_ kX7_measure = (some .int) := rfl
theorem lt_X7_measure : kX7_measure < 1000 := by decide
theorem cod_X7_tested : cod kX7_tested = cX7_tested := rfl
theorem own_X7_tested : own_ kX7_tested = 7 := by decide +kernel
theorem mf_X7_tested : sta kX7_tested = true ∧ ((nam kX7_tested).name == "<init>") = false ∧ nar kX7_tested = 3 ∧ mlo kX7_tested = 6 := ⟨by decide +kernel, by decide +kernel, by decide +kernel, by decide +kernel⟩
theorem ret_X7_tested : ret_ kX7_tested = (some .long) := rfl
theorem lt_X7_tested : kX7_tested < 1000 := by decide
theorem cod_X7_both : cod kX7_both = cX7_both := rfl
theorem own_X7_both : own_ kX7_both = 7 := by decide +kernel
theorem mf_X7_both : sta kX7_both = false ∧ ((nam kX7_both).name == "<init>") = false ∧ nar kX7_both = 2 ∧ mlo kX7_both = 5 := ⟨by decide +kernel, by decide +kernel, by decide +kernel, by decide +kernel⟩
theorem ret_X7_both : ret_ kX7_both = (some .long) := rfl
theorem lt_X7_both : kX7_both < 1000 := by decide
theorem cod_X7_either : cod kX7_either = cX7_either := rfl
theorem own_X7_either : own_ kX7_either = 7 := by decide +kernel
theorem mf_X7_either : sta kX7_either = false ∧ ((nam kX7_either).name == "<init>") = false ∧ nar kX7_either = 2 ∧ mlo kX7_either = 5 := ⟨by decide +kernel, by decide +kernel, by decide +kernel, by decide +kernel⟩
theorem ret_X7_either : ret_ kX7_either = (some .long) := rfl
theorem lt_X7_either : kX7_either < 1000 := by decide
theorem cod_X7_single : cod kX7_single = cX7_single := rfl
theorem own_X7_single : own_ kX7_single = 7 := by decide +kernel
theorem mf_X7_single : sta kX7_single = false ∧ ((nam kX7_single).name == "<init>") = false ∧ nar kX7_single = 2 ∧ mlo kX7_single = 4 := ⟨by decide +kernel, by decide +kernel, by decide +kernel, by decide +kernel⟩
theorem ret_X7_single : ret_ kX7_single = (some .long) := rfl
theorem lt_X7_single : kX7_single < 1000 := by decide
theorem cod_X7_clause : cod kX7_clause = cX7_clause := rfl
theorem own_X7_clause : own_ kX7_clause = 7 := by decide +kernel
theorem mf_X7_clause : sta kX7_clause = false ∧ ((nam kX7_clause).name == "<init>") = false ∧ nar kX7_clause = 1 ∧ mlo kX7_clause = 1 := ⟨by decide +kernel, by decide +kernel, by decide +kernel, by decide +kernel⟩
theorem ret_X7_clause : ret_ kX7_clause = none := rfl
theorem lt_X7_clause : kX7_clause < 1000 := by decide
theorem cod_X7_parsed : cod kX7_parsed = cX7_parsed := rfl
theorem own_X7_parsed : own_ kX7_parsed = 7 := by decide +kernel
theorem mf_X7_parsed : sta kX7_parsed = false ∧ ((nam kX7_parsed).name == "<init>") = false ∧ nar kX7_parsed = 1 ∧ mlo kX7_parsed = 2 := ⟨by decide +kernel, by decide +kernel, by decide +kernel, by decide +kernel⟩
theorem ret_X7_parsed : ret_ kX7_parsed = (some (.object "TwoOnOneBack$Land")) := rfl
theorem lt_X7_parsed : kX7_parsed < 1000 := by decide
theorem cod_X8_init : cod kX8_init = cX8_init := rfl
theorem own_X8_init : own_ kX8_init = 8 := by decide +kernel
theorem mf_X8_init : sta kX8_init = false ∧ ((nam kX8_init).name == "<init>") = true ∧ nar kX8_init = 1 ∧ mlo kX8_init = 1 := ⟨by decide +kernel, by decide +kernel, by decide +kernel, by decide +kernel⟩
theorem ret_X8_init : ret_ kX8_init = none := rfl
theorem lt_X8_init : kX8_init < 1000 := by decide
theorem cod_X8_become : cod kX8_become = cX8_become := rfl
theorem own_X8_become : own_ kX8_become = 8 := by decide +kernel
theorem mf_X8_become : sta kX8_become = false ∧ ((nam kX8_become).name == "<init>") = false ∧ nar kX8_become = 2 ∧ mlo kX8_become = 2 := ⟨by decide +kernel, by decide +kernel, by decide +kernel, by decide +kernel⟩
theorem ret_X8_become : ret_ kX8_become = none := rfl
theorem lt_X8_become : kX8_become < 1000 := by decide
theorem cod_X8_at : cod kX8_at = cX8_at := rfl
theorem own_X8_at : own_ kX8_at = 8 := by decide +kernel
theorem mf_X8_at : sta kX8_at = false ∧ ((nam kX8_at).name == "<init>") = false ∧ nar kX8_at = 2 ∧ mlo kX8_at = 2 := ⟨by decide +kernel, by decide +kernel, by decide +kernel, by decide +kernel⟩
theorem ret_X8_at : ret_ kX8_at = (some .int) := rfl
theorem lt_X8_at : kX8_at < 1000 := by decide
theorem cod_X8_tell : cod kX8_tell = cX8_tell := rfl
theorem own_X8_tell : own_ kX8_tell = 8 := by decide +kernel
theorem mf_X8_tell : sta kX8_tell = false ∧ ((nam kX8_tell).name == "<init>") = false ∧ nar kX8_tell = 2 ∧ mlo kX8_tell = 2 := ⟨by decide +kernel, by decide +kernel, by decide +kernel, by decide +kernel⟩
theorem ret_X8_tell : ret_ kX8_tell = (some .int) := rfl
theorem lt_X8_tell : kX8_tell < 1000 := by decide
theorem cod_X9_init : cod kX9_init = cX9_init := rfl
theorem own_X9_init : own_ kX9_init = 9 := by decide +kernel
theorem mf_X9_init : sta kX9_init = false ∧ ((nam kX9_init).name == "<init>") = true ∧ nar kX9_init = 1 ∧ mlo kX9_init = 1 := ⟨by decide +kernel, by decide +kernel, by decide +kernel, by decide +kernel⟩
theorem ret_X9_init : ret_ kX9_init = none := rfl
theorem lt_X9_init : kX9_init < 1000 := by decide
theorem cod_X9_become : cod kX9_become = cX9_become := rfl
theorem own_X9_become : own_ kX9_become = 9 := by decide +kernel
theorem mf_X9_become : sta kX9_become = false ∧ ((nam kX9_become).name == "<init>") = false ∧ nar kX9_become = 2 ∧ mlo kX9_become = 2 := ⟨by decide +kernel, by decide +kernel, by decide +kernel, by decide +kernel⟩
theorem ret_X9_become : ret_ kX9_become = none := rfl
theorem lt_X9_become : kX9_become < 1000 := by decide
theorem cod_X9_stands : cod kX9_stands = cX9_stands := rfl
theorem own_X9_stands : own_ kX9_stands = 9 := by decide +kernel
theorem mf_X9_stands : sta kX9_stands = false ∧ ((nam kX9_stands).name == "<init>") = false ∧ nar kX9_stands = 4 ∧ mlo kX9_stands = 4 := ⟨by decide +kernel, by decide +kernel, by decide +kernel, by decide +kernel⟩
theorem ret_X9_stands : ret_ kX9_stands = none := rfl
theorem lt_X9_stands : kX9_stands < 1000 := by decide
theorem cod_X10_across : cod kX10_across = cX10_across := rfl
theorem own_X10_across : own_ kX10_across = 10 := by decide +kernel
theorem mf_X10_across : sta kX10_across = true ∧ ((nam kX10_across).name == "<init>") = false ∧ nar kX10_across = 1 ∧ mlo kX10_across = 1 := ⟨by decide +kernel, by decide +kernel, by decide +kernel, by decide +kernel⟩
theorem ret_X10_across : ret_ kX10_across = (some .int) := rfl
theorem lt_X10_across : kX10_across < 1000 := by decide
theorem cod_X10_facingBy : cod kX10_facingBy = cX10_facingBy := rfl
theorem own_X10_facingBy : own_ kX10_facingBy = 10 := by decide +kernel
theorem mf_X10_facingBy : sta kX10_facingBy = true ∧ ((nam kX10_facingBy).name == "<init>") = false ∧ nar kX10_facingBy = 2 ∧ mlo kX10_facingBy = 2 := ⟨by decide +kernel, by decide +kernel, by decide +kernel, by decide +kernel⟩
theorem ret_X10_facingBy : ret_ kX10_facingBy = (some .int) := rfl
theorem lt_X10_facingBy : kX10_facingBy < 1000 := by decide
theorem cod_X10_cameBy : cod kX10_cameBy = cX10_cameBy := rfl
theorem own_X10_cameBy : own_ kX10_cameBy = 10 := by decide +kernel
theorem mf_X10_cameBy : sta kX10_cameBy = true ∧ ((nam kX10_cameBy).name == "<init>") = false ∧ nar kX10_cameBy = 3 ∧ mlo kX10_cameBy = 3 := ⟨by decide +kernel, by decide +kernel, by decide +kernel, by decide +kernel⟩
theorem ret_X10_cameBy : ret_ kX10_cameBy = (some .int) := rfl
theorem lt_X10_cameBy : kX10_cameBy < 1000 := by decide
theorem cod_X10_moved : cod kX10_moved = cX10_moved := rfl
theorem own_X10_moved : own_ kX10_moved = 10 := by decide +kernel
theorem mf_X10_moved : sta kX10_moved = true ∧ ((nam kX10_moved).name == "<init>") = false ∧ nar kX10_moved = 2 ∧ mlo kX10_moved = 3 := ⟨by decide +kernel, by decide +kernel, by decide +kernel, by decide +kernel⟩
theorem ret_X10_moved : ret_ kX10_moved = (some .long) := rfl
theorem lt_X10_moved : kX10_moved < 1000 := by decide
theorem cod_X10_holds : cod kX10_holds = cX10_holds := rfl
theorem own_X10_holds : own_ kX10_holds = 10 := by decide +kernel
theorem mf_X10_holds : sta kX10_holds = true ∧ ((nam kX10_holds).name == "<init>") = false ∧ nar kX10_holds = 2 ∧ mlo kX10_holds = 3 := ⟨by decide +kernel, by decide +kernel, by decide +kernel, by decide +kernel⟩
theorem ret_X10_holds : ret_ kX10_holds = (some .boolean) := rfl
theorem lt_X10_holds : kX10_holds < 1000 := by decide
theorem cod_X10_next : cod kX10_next = cX10_next := rfl
theorem own_X10_next : own_ kX10_next = 10 := by decide +kernel
theorem mf_X10_next : sta kX10_next = true ∧ ((nam kX10_next).name == "<init>") = false ∧ nar kX10_next = 2 ∧ mlo kX10_next = 2 := ⟨by decide +kernel, by decide +kernel, by decide +kernel, by decide +kernel⟩
theorem ret_X10_next : ret_ kX10_next = (some .int) := rfl
theorem lt_X10_next : kX10_next < 1000 := by decide
theorem cod_X10_init : cod kX10_init = cX10_init := rfl
theorem own_X10_init : own_ kX10_init = 10 := by decide +kernel
theorem mf_X10_init : sta kX10_init = false ∧ ((nam kX10_init).name == "<init>") = true ∧ nar kX10_init = 1 ∧ mlo kX10_init = 3 := ⟨by decide +kernel, by decide +kernel, by decide +kernel, by decide +kernel⟩
theorem ret_X10_init : ret_ kX10_init = none := rfl
theorem lt_X10_init : kX10_init < 1000 := by decide
theorem cod_X10_feed : cod kX10_feed = cX10_feed := rfl
theorem own_X10_feed : own_ kX10_feed = 10 := by decide +kernel
theorem mf_X10_feed : sta kX10_feed = false ∧ ((nam kX10_feed).name == "<init>") = false ∧ nar kX10_feed = 2 ∧ mlo kX10_feed = 2 := ⟨by decide +kernel, by decide +kernel, by decide +kernel, by decide +kernel⟩
theorem ret_X10_feed : ret_ kX10_feed = (some .int) := rfl
theorem lt_X10_feed : kX10_feed < 1000 := by decide
theorem cod_X10_land : cod kX10_land = cX10_land := rfl
theorem own_X10_land : own_ kX10_land = 10 := by decide +kernel
theorem mf_X10_land : sta kX10_land = false ∧ ((nam kX10_land).name == "<init>") = false ∧ nar kX10_land = 1 ∧ mlo kX10_land = 2 := ⟨by decide +kernel, by decide +kernel, by decide +kernel, by decide +kernel⟩
theorem ret_X10_land : ret_ kX10_land = (some .int) := rfl
theorem lt_X10_land : kX10_land < 1000 := by decide
theorem cod_X10_told : cod kX10_told = cX10_told := rfl
theorem own_X10_told : own_ kX10_told = 10 := by decide +kernel
theorem mf_X10_told : sta kX10_told = false ∧ ((nam kX10_told).name == "<init>") = false ∧ nar kX10_told = 2 ∧ mlo kX10_told = 2 := ⟨by decide +kernel, by decide +kernel, by decide +kernel, by decide +kernel⟩
theorem ret_X10_told : ret_ kX10_told = (some .int) := rfl
theorem lt_X10_told : kX10_told < 1000 := by decide
theorem cod_X10_isCell : cod kX10_isCell = cX10_isCell := rfl
theorem own_X10_isCell : own_ kX10_isCell = 10 := by decide +kernel
theorem mf_X10_isCell : sta kX10_isCell = true ∧ ((nam kX10_isCell).name == "<init>") = false ∧ nar kX10_isCell = 1 ∧ mlo kX10_isCell = 1 := ⟨by decide +kernel, by decide +kernel, by decide +kernel, by decide +kernel⟩
theorem ret_X10_isCell : ret_ kX10_isCell = (some .boolean) := rfl
theorem lt_X10_isCell : kX10_isCell < 1000 := by decide
theorem cod_X10_ground : cod kX10_ground = cX10_ground := rfl
theorem own_X10_ground : own_ kX10_ground = 10 := by decide +kernel
theorem mf_X10_ground : sta kX10_ground = false ∧ ((nam kX10_ground).name == "<init>") = false ∧ nar kX10_ground = 3 ∧ mlo kX10_ground = 3 := ⟨by decide +kernel, by decide +kernel, by decide +kernel, by decide +kernel⟩
theorem ret_X10_ground : ret_ kX10_ground = (some .int) := rfl
theorem lt_X10_ground : kX10_ground < 1000 := by decide
theorem cod_X10_isKind : cod kX10_isKind = cX10_isKind := rfl
theorem own_X10_isKind : own_ kX10_isKind = 10 := by decide +kernel
theorem mf_X10_isKind : sta kX10_isKind = true ∧ ((nam kX10_isKind).name == "<init>") = false ∧ nar kX10_isKind = 1 ∧ mlo kX10_isKind = 1 := ⟨by decide +kernel, by decide +kernel, by decide +kernel, by decide +kernel⟩
theorem ret_X10_isKind : ret_ kX10_isKind = (some .boolean) := rfl
theorem lt_X10_isKind : kX10_isKind < 1000 := by decide
theorem cod_X10_isWay : cod kX10_isWay = cX10_isWay := rfl
theorem own_X10_isWay : own_ kX10_isWay = 10 := by decide +kernel
theorem mf_X10_isWay : sta kX10_isWay = true ∧ ((nam kX10_isWay).name == "<init>") = false ∧ nar kX10_isWay = 1 ∧ mlo kX10_isWay = 1 := ⟨by decide +kernel, by decide +kernel, by decide +kernel, by decide +kernel⟩
theorem ret_X10_isWay : ret_ kX10_isWay = (some .boolean) := rfl
theorem lt_X10_isWay : kX10_isWay < 1000 := by decide
theorem cod_X10_isNumber : cod kX10_isNumber = cX10_isNumber := rfl
theorem own_X10_isNumber : own_ kX10_isNumber = 10 := by decide +kernel
theorem mf_X10_isNumber : sta kX10_isNumber = true ∧ ((nam kX10_isNumber).name == "<init>") = false ∧ nar kX10_isNumber = 1 ∧ mlo kX10_isNumber = 1 := ⟨by decide +kernel, by decide +kernel, by decide +kernel, by decide +kernel⟩
theorem ret_X10_isNumber : ret_ kX10_isNumber = (some .boolean) := rfl
theorem lt_X10_isNumber : kX10_isNumber < 1000 := by decide
theorem cod_X10_walker : cod kX10_walker = cX10_walker := rfl
theorem own_X10_walker : own_ kX10_walker = 10 := by decide +kernel
theorem mf_X10_walker : sta kX10_walker = false ∧ ((nam kX10_walker).name == "<init>") = false ∧ nar kX10_walker = 5 ∧ mlo kX10_walker = 6 := ⟨by decide +kernel, by decide +kernel, by decide +kernel, by decide +kernel⟩
theorem ret_X10_walker : ret_ kX10_walker = (some .int) := rfl
theorem lt_X10_walker : kX10_walker < 1000 := by decide
theorem cod_X10_of : cod kX10_of = cX10_of := rfl
theorem own_X10_of : own_ kX10_of = 10 := by decide +kernel
theorem mf_X10_of : sta kX10_of = false ∧ ((nam kX10_of).name == "<init>") = false ∧ nar kX10_of = 3 ∧ mlo kX10_of = 4 := ⟨by decide +kernel, by decide +kernel, by decide +kernel, by decide +kernel⟩
theorem ret_X10_of : ret_ kX10_of = (some .int) := rfl
theorem lt_X10_of : kX10_of < 1000 := by decide
theorem cod_X10_put : cod kX10_put = cX10_put := rfl
theorem own_X10_put : own_ kX10_put = 10 := by decide +kernel
theorem mf_X10_put : sta kX10_put = false ∧ ((nam kX10_put).name == "<init>") = false ∧ nar kX10_put = 5 ∧ mlo kX10_put = 7 := ⟨by decide +kernel, by decide +kernel, by decide +kernel, by decide +kernel⟩
theorem ret_X10_put : ret_ kX10_put = (some .int) := rfl
theorem lt_X10_put : kX10_put < 1000 := by decide
theorem cod_X10_allowed : cod kX10_allowed = cX10_allowed := rfl
theorem own_X10_allowed : own_ kX10_allowed = 10 := by decide +kernel
theorem mf_X10_allowed : sta kX10_allowed = false ∧ ((nam kX10_allowed).name == "<init>") = false ∧ nar kX10_allowed = 2 ∧ mlo kX10_allowed = 2 := ⟨by decide +kernel, by decide +kernel, by decide +kernel, by decide +kernel⟩
theorem ret_X10_allowed : ret_ kX10_allowed = (some .int) := rfl
theorem lt_X10_allowed : kX10_allowed < 1000 := by decide
theorem cod_X10_may : cod kX10_may = cX10_may := rfl
theorem own_X10_may : own_ kX10_may = 10 := by decide +kernel
theorem mf_X10_may : sta kX10_may = false ∧ ((nam kX10_may).name == "<init>") = false ∧ nar kX10_may = 2 ∧ mlo kX10_may = 3 := ⟨by decide +kernel, by decide +kernel, by decide +kernel, by decide +kernel⟩
theorem ret_X10_may : ret_ kX10_may = (some .int) := rfl
theorem lt_X10_may : kX10_may < 1000 := by decide
theorem cod_X10_isStep : cod kX10_isStep = cX10_isStep := rfl
theorem own_X10_isStep : own_ kX10_isStep = 10 := by decide +kernel
theorem mf_X10_isStep : sta kX10_isStep = true ∧ ((nam kX10_isStep).name == "<init>") = false ∧ nar kX10_isStep = 1 ∧ mlo kX10_isStep = 1 := ⟨by decide +kernel, by decide +kernel, by decide +kernel, by decide +kernel⟩
theorem ret_X10_isStep : ret_ kX10_isStep = (some .boolean) := rfl
theorem lt_X10_isStep : kX10_isStep < 1000 := by decide
theorem cod_X10_goes : cod kX10_goes = cX10_goes := rfl
theorem own_X10_goes : own_ kX10_goes = 10 := by decide +kernel
theorem mf_X10_goes : sta kX10_goes = false ∧ ((nam kX10_goes).name == "<init>") = false ∧ nar kX10_goes = 3 ∧ mlo kX10_goes = 4 := ⟨by decide +kernel, by decide +kernel, by decide +kernel, by decide +kernel⟩
theorem ret_X10_goes : ret_ kX10_goes = (some .boolean) := rfl
theorem lt_X10_goes : kX10_goes < 1000 := by decide
theorem cod_X10_step : cod kX10_step = cX10_step := rfl
theorem own_X10_step : own_ kX10_step = 10 := by decide +kernel
theorem mf_X10_step : sta kX10_step = false ∧ ((nam kX10_step).name == "<init>") = false ∧ nar kX10_step = 3 ∧ mlo kX10_step = 4 := ⟨by decide +kernel, by decide +kernel, by decide +kernel, by decide +kernel⟩
theorem ret_X10_step : ret_ kX10_step = (some .int) := rfl
theorem lt_X10_step : kX10_step < 1000 := by decide
theorem cod_X10_isPart : cod kX10_isPart = cX10_isPart := rfl
theorem own_X10_isPart : own_ kX10_isPart = 10 := by decide +kernel
theorem mf_X10_isPart : sta kX10_isPart = true ∧ ((nam kX10_isPart).name == "<init>") = false ∧ nar kX10_isPart = 1 ∧ mlo kX10_isPart = 1 := ⟨by decide +kernel, by decide +kernel, by decide +kernel, by decide +kernel⟩
theorem ret_X10_isPart : ret_ kX10_isPart = (some .boolean) := rfl
theorem lt_X10_isPart : kX10_isPart < 1000 := by decide
theorem cod_X10_firstStep : cod kX10_firstStep = cX10_firstStep := rfl
theorem own_X10_firstStep : own_ kX10_firstStep = 10 := by decide +kernel
theorem mf_X10_firstStep : sta kX10_firstStep = false ∧ ((nam kX10_firstStep).name == "<init>") = false ∧ nar kX10_firstStep = 4 ∧ mlo kX10_firstStep = 6 := ⟨by decide +kernel, by decide +kernel, by decide +kernel, by decide +kernel⟩
theorem ret_X10_firstStep : ret_ kX10_firstStep = (some .int) := rfl
theorem lt_X10_firstStep : kX10_firstStep < 1000 := by decide
theorem cod_X10_soonest : cod kX10_soonest = cX10_soonest := rfl
theorem own_X10_soonest : own_ kX10_soonest = 10 := by decide +kernel
theorem mf_X10_soonest : sta kX10_soonest = false ∧ ((nam kX10_soonest).name == "<init>") = false ∧ nar kX10_soonest = 4 ∧ mlo kX10_soonest = 6 := ⟨by decide +kernel, by decide +kernel, by decide +kernel, by decide +kernel⟩
theorem ret_X10_soonest : ret_ kX10_soonest = (some .int) := rfl
theorem lt_X10_soonest : kX10_soonest < 1000 := by decide
theorem cod_X10_begin : cod kX10_begin = cX10_begin := rfl
theorem own_X10_begin : own_ kX10_begin = 10 := by decide +kernel
theorem mf_X10_begin : sta kX10_begin = false ∧ ((nam kX10_begin).name == "<init>") = false ∧ nar kX10_begin = 4 ∧ mlo kX10_begin = 9 := ⟨by decide +kernel, by decide +kernel, by decide +kernel, by decide +kernel⟩
theorem ret_X10_begin : ret_ kX10_begin = (some .int) := rfl
theorem lt_X10_begin : kX10_begin < 1000 := by decide
theorem cod_X10_within : cod kX10_within = cX10_within := rfl
theorem own_X10_within : own_ kX10_within = 10 := by decide +kernel
theorem mf_X10_within : sta kX10_within = false ∧ ((nam kX10_within).name == "<init>") = false ∧ nar kX10_within = 3 ∧ mlo kX10_within = 6 := ⟨by decide +kernel, by decide +kernel, by decide +kernel, by decide +kernel⟩
theorem ret_X10_within : ret_ kX10_within = (some .long) := rfl
theorem lt_X10_within : kX10_within < 1000 := by decide
theorem cod_X10_reached : cod kX10_reached = cX10_reached := rfl
theorem own_X10_reached : own_ kX10_reached = 10 := by decide +kernel
theorem mf_X10_reached : sta kX10_reached = false ∧ ((nam kX10_reached).name == "<init>") = false ∧ nar kX10_reached = 3 ∧ mlo kX10_reached = 4 := ⟨by decide +kernel, by decide +kernel, by decide +kernel, by decide +kernel⟩
theorem ret_X10_reached : ret_ kX10_reached = (some .long) := rfl
theorem lt_X10_reached : kX10_reached < 1000 := by decide
theorem cod_X10_never : cod kX10_never = cX10_never := rfl
theorem own_X10_never : own_ kX10_never = 10 := by decide +kernel
theorem mf_X10_never : sta kX10_never = false ∧ ((nam kX10_never).name == "<init>") = false ∧ nar kX10_never = 2 ∧ mlo kX10_never = 3 := ⟨by decide +kernel, by decide +kernel, by decide +kernel, by decide +kernel⟩
theorem ret_X10_never : ret_ kX10_never = (some .long) := rfl
theorem lt_X10_never : kX10_never < 1000 := by decide
theorem cod_X10_meet : cod kX10_meet = cX10_meet := rfl
theorem own_X10_meet : own_ kX10_meet = 10 := by decide +kernel
theorem mf_X10_meet : sta kX10_meet = false ∧ ((nam kX10_meet).name == "<init>") = false ∧ nar kX10_meet = 4 ∧ mlo kX10_meet = 9 := ⟨by decide +kernel, by decide +kernel, by decide +kernel, by decide +kernel⟩
theorem ret_X10_meet : ret_ kX10_meet = (some .int) := rfl
theorem lt_X10_meet : kX10_meet < 1000 := by decide
theorem cod_X10_home : cod kX10_home = cX10_home := rfl
theorem own_X10_home : own_ kX10_home = 10 := by decide +kernel
theorem mf_X10_home : sta kX10_home = false ∧ ((nam kX10_home).name == "<init>") = false ∧ nar kX10_home = 2 ∧ mlo kX10_home = 5 := ⟨by decide +kernel, by decide +kernel, by decide +kernel, by decide +kernel⟩
theorem ret_X10_home : ret_ kX10_home = (some .int) := rfl
theorem lt_X10_home : kX10_home < 1000 := by decide
theorem cod_X10_row : cod kX10_row = cX10_row := rfl
theorem own_X10_row : own_ kX10_row = 10 := by decide +kernel
theorem mf_X10_row : sta kX10_row = false ∧ ((nam kX10_row).name == "<init>") = false ∧ nar kX10_row = 2 ∧ mlo kX10_row = 2 := ⟨by decide +kernel, by decide +kernel, by decide +kernel, by decide +kernel⟩
theorem ret_X10_row : ret_ kX10_row = (some .int) := rfl
theorem lt_X10_row : kX10_row < 1000 := by decide
theorem cod_X10_hand : cod kX10_hand = cX10_hand := rfl
theorem own_X10_hand : own_ kX10_hand = 10 := by decide +kernel
theorem mf_X10_hand : sta kX10_hand = false ∧ ((nam kX10_hand).name == "<init>") = false ∧ nar kX10_hand = 3 ∧ mlo kX10_hand = 5 := ⟨by decide +kernel, by decide +kernel, by decide +kernel, by decide +kernel⟩
theorem ret_X10_hand : ret_ kX10_hand = (some .int) := rfl
theorem lt_X10_hand : kX10_hand < 1000 := by decide
theorem cod_X10_track : cod kX10_track = cX10_track := rfl
theorem own_X10_track : own_ kX10_track = 10 := by decide +kernel
theorem mf_X10_track : sta kX10_track = false ∧ ((nam kX10_track).name == "<init>") = false ∧ nar kX10_track = 2 ∧ mlo kX10_track = 2 := ⟨by decide +kernel, by decide +kernel, by decide +kernel, by decide +kernel⟩
theorem ret_X10_track : ret_ kX10_track = (some .int) := rfl
theorem lt_X10_track : kX10_track < 1000 := by decide
theorem cod_X10_left : cod kX10_left = cX10_left := rfl
theorem own_X10_left : own_ kX10_left = 10 := by decide +kernel
theorem mf_X10_left : sta kX10_left = false ∧ ((nam kX10_left).name == "<init>") = false ∧ nar kX10_left = 4 ∧ mlo kX10_left = 5 := ⟨by decide +kernel, by decide +kernel, by decide +kernel, by decide +kernel⟩
theorem ret_X10_left : ret_ kX10_left = (some .boolean) := rfl
theorem lt_X10_left : kX10_left < 1000 := by decide
theorem cod_X10_tracks : cod kX10_tracks = cX10_tracks := rfl
theorem own_X10_tracks : own_ kX10_tracks = 10 := by decide +kernel
theorem mf_X10_tracks : sta kX10_tracks = false ∧ ((nam kX10_tracks).name == "<init>") = false ∧ nar kX10_tracks = 3 ∧ mlo kX10_tracks = 5 := ⟨by decide +kernel, by decide +kernel, by decide +kernel, by decide +kernel⟩
theorem ret_X10_tracks : ret_ kX10_tracks = (some .int) := rfl
theorem lt_X10_tracks : kX10_tracks < 1000 := by decide
theorem cod_X10_common : cod kX10_common = cX10_common := rfl
theorem own_X10_common : own_ kX10_common = 10 := by decide +kernel
theorem mf_X10_common : sta kX10_common = true ∧ ((nam kX10_common).name == "<init>") = false ∧ nar kX10_common = 2 ∧ mlo kX10_common = 11 := ⟨by decide +kernel, by decide +kernel, by decide +kernel, by decide +kernel⟩
theorem ret_X10_common : ret_ kX10_common = (some .long) := rfl
theorem lt_X10_common : kX10_common < 1000 := by decide
theorem cod_X10_lot : cod kX10_lot = cX10_lot := rfl
theorem own_X10_lot : own_ kX10_lot = 10 := by decide +kernel
theorem mf_X10_lot : sta kX10_lot = false ∧ ((nam kX10_lot).name == "<init>") = false ∧ nar kX10_lot = 5 ∧ mlo kX10_lot = 12 := ⟨by decide +kernel, by decide +kernel, by decide +kernel, by decide +kernel⟩
theorem ret_X10_lot : ret_ kX10_lot = (some .long) := rfl
theorem lt_X10_lot : kX10_lot < 1000 := by decide
theorem cod_X10_slower : cod kX10_slower = cX10_slower := rfl
theorem own_X10_slower : own_ kX10_slower = 10 := by decide +kernel
theorem mf_X10_slower : sta kX10_slower = false ∧ ((nam kX10_slower).name == "<init>") = false ∧ nar kX10_slower = 5 ∧ mlo kX10_slower = 8 := ⟨by decide +kernel, by decide +kernel, by decide +kernel, by decide +kernel⟩
theorem ret_X10_slower : ret_ kX10_slower = (some .int) := rfl
theorem lt_X10_slower : kX10_slower < 1000 := by decide
theorem cod_X10_tapeAt : cod kX10_tapeAt = cX10_tapeAt := rfl
theorem own_X10_tapeAt : own_ kX10_tapeAt = 10 := by decide +kernel
theorem mf_X10_tapeAt : sta kX10_tapeAt = false ∧ ((nam kX10_tapeAt).name == "<init>") = false ∧ nar kX10_tapeAt = 2 ∧ mlo kX10_tapeAt = 2 := ⟨by decide +kernel, by decide +kernel, by decide +kernel, by decide +kernel⟩
theorem ret_X10_tapeAt : ret_ kX10_tapeAt = (some (.object "TwoOnOneBack$Tape")) := rfl
theorem lt_X10_tapeAt : kX10_tapeAt < 1000 := by decide
theorem cod_X10_judge : cod kX10_judge = cX10_judge := rfl
theorem own_X10_judge : own_ kX10_judge = 10 := by decide +kernel
theorem mf_X10_judge : sta kX10_judge = false ∧ ((nam kX10_judge).name == "<init>") = false ∧ nar kX10_judge = 3 ∧ mlo kX10_judge = 6 := ⟨by decide +kernel, by decide +kernel, by decide +kernel, by decide +kernel⟩
theorem ret_X10_judge : ret_ kX10_judge = (some .int) := rfl
theorem lt_X10_judge : kX10_judge < 1000 := by decide
theorem cod_X10_image : cod kX10_image = cX10_image := rfl
theorem own_X10_image : own_ kX10_image = 10 := by decide +kernel
theorem mf_X10_image : sta kX10_image = false ∧ ((nam kX10_image).name == "<init>") = false ∧ nar kX10_image = 1 ∧ mlo kX10_image = 1 := ⟨by decide +kernel, by decide +kernel, by decide +kernel, by decide +kernel⟩
theorem ret_X10_image : ret_ kX10_image = (some .int) := rfl
theorem lt_X10_image : kX10_image < 1000 := by decide
theorem cod_X10_undo : cod kX10_undo = cX10_undo := rfl
theorem own_X10_undo : own_ kX10_undo = 10 := by decide +kernel
theorem mf_X10_undo : sta kX10_undo = false ∧ ((nam kX10_undo).name == "<init>") = false ∧ nar kX10_undo = 1 ∧ mlo kX10_undo = 1 := ⟨by decide +kernel, by decide +kernel, by decide +kernel, by decide +kernel⟩
theorem ret_X10_undo : ret_ kX10_undo = (some .int) := rfl
theorem lt_X10_undo : kX10_undo < 1000 := by decide
theorem cod_X10_act : cod kX10_act = cX10_act := rfl
theorem own_X10_act : own_ kX10_act = 10 := by decide +kernel
theorem mf_X10_act : sta kX10_act = false ∧ ((nam kX10_act).name == "<init>") = false ∧ nar kX10_act = 4 ∧ mlo kX10_act = 5 := ⟨by decide +kernel, by decide +kernel, by decide +kernel, by decide +kernel⟩
theorem ret_X10_act : ret_ kX10_act = (some .int) := rfl
theorem lt_X10_act : kX10_act < 1000 := by decide
theorem cod_X10_trace : cod kX10_trace = cX10_trace := rfl
theorem own_X10_trace : own_ kX10_trace = 10 := by decide +kernel
theorem mf_X10_trace : sta kX10_trace = false ∧ ((nam kX10_trace).name == "<init>") = false ∧ nar kX10_trace = 2 ∧ mlo kX10_trace = 2 := ⟨by decide +kernel, by decide +kernel, by decide +kernel, by decide +kernel⟩
theorem ret_X10_trace : ret_ kX10_trace = (some .int) := rfl
theorem lt_X10_trace : kX10_trace < 1000 := by decide
theorem cod_X10_above : cod kX10_above = cX10_above := rfl
theorem own_X10_above : own_ kX10_above = 10 := by decide +kernel
theorem mf_X10_above : sta kX10_above = true ∧ ((nam kX10_above).name == "<init>") = false ∧ nar kX10_above = 1 ∧ mlo kX10_above = 1 := ⟨by decide +kernel, by decide +kernel, by decide +kernel, by decide +kernel⟩
theorem ret_X10_above : ret_ kX10_above = (some .int) := rfl
theorem lt_X10_above : kX10_above < 1000 := by decide
theorem cod_X10_isUnder : cod kX10_isUnder = cX10_isUnder := rfl
theorem own_X10_isUnder : own_ kX10_isUnder = 10 := by decide +kernel
theorem mf_X10_isUnder : sta kX10_isUnder = true ∧ ((nam kX10_isUnder).name == "<init>") = false ∧ nar kX10_isUnder = 2 ∧ mlo kX10_isUnder = 4 := ⟨by decide +kernel, by decide +kernel, by decide +kernel, by decide +kernel⟩
theorem ret_X10_isUnder : ret_ kX10_isUnder = (some .boolean) := rfl
theorem lt_X10_isUnder : kX10_isUnder < 1000 := by decide
theorem cod_X10_taken : cod kX10_taken = cX10_taken := rfl
theorem own_X10_taken : own_ kX10_taken = 10 := by decide +kernel
theorem mf_X10_taken : sta kX10_taken = false ∧ ((nam kX10_taken).name == "<init>") = false ∧ nar kX10_taken = 3 ∧ mlo kX10_taken = 4 := ⟨by decide +kernel, by decide +kernel, by decide +kernel, by decide +kernel⟩
theorem ret_X10_taken : ret_ kX10_taken = (some .int) := rfl
theorem lt_X10_taken : kX10_taken < 1000 := by decide
theorem cod_X10_count : cod kX10_count = cX10_count := rfl
theorem own_X10_count : own_ kX10_count = 10 := by decide +kernel
theorem mf_X10_count : sta kX10_count = false ∧ ((nam kX10_count).name == "<init>") = false ∧ nar kX10_count = 2 ∧ mlo kX10_count = 2 := ⟨by decide +kernel, by decide +kernel, by decide +kernel, by decide +kernel⟩
theorem ret_X10_count : ret_ kX10_count = (some .int) := rfl
theorem lt_X10_count : kX10_count < 1000 := by decide
theorem cod_X10_tape : cod kX10_tape = cX10_tape := rfl
theorem own_X10_tape : own_ kX10_tape = 10 := by decide +kernel
theorem mf_X10_tape : sta kX10_tape = false ∧ ((nam kX10_tape).name == "<init>") = false ∧ nar kX10_tape = 4 ∧ mlo kX10_tape = 5 := ⟨by decide +kernel, by decide +kernel, by decide +kernel, by decide +kernel⟩
theorem ret_X10_tape : ret_ kX10_tape = (some .int) := rfl
theorem lt_X10_tape : kX10_tape < 1000 := by decide
theorem cod_X10_item : cod kX10_item = cX10_item := rfl
theorem own_X10_item : own_ kX10_item = 10 := by decide +kernel
theorem mf_X10_item : sta kX10_item = false ∧ ((nam kX10_item).name == "<init>") = false ∧ nar kX10_item = 4 ∧ mlo kX10_item = 6 := ⟨by decide +kernel, by decide +kernel, by decide +kernel, by decide +kernel⟩
theorem ret_X10_item : ret_ kX10_item = (some .int) := rfl
theorem lt_X10_item : kX10_item < 1000 := by decide
theorem cod_X10_read : cod kX10_read = cX10_read := rfl
theorem own_X10_read : own_ kX10_read = 10 := by decide +kernel
theorem mf_X10_read : sta kX10_read = false ∧ ((nam kX10_read).name == "<init>") = false ∧ nar kX10_read = 3 ∧ mlo kX10_read = 4 := ⟨by decide +kernel, by decide +kernel, by decide +kernel, by decide +kernel⟩
theorem ret_X10_read : ret_ kX10_read = (some .long) := rfl
theorem lt_X10_read : kX10_read < 1000 := by decide
theorem cod_X10_shift : cod kX10_shift = cX10_shift := rfl
theorem own_X10_shift : own_ kX10_shift = 10 := by decide +kernel
theorem mf_X10_shift : sta kX10_shift = false ∧ ((nam kX10_shift).name == "<init>") = false ∧ nar kX10_shift = 6 ∧ mlo kX10_shift = 8 := ⟨by decide +kernel, by decide +kernel, by decide +kernel, by decide +kernel⟩
theorem ret_X10_shift : ret_ kX10_shift = (some .int) := rfl
theorem lt_X10_shift : kX10_shift < 1000 := by decide
theorem cod_X11_init : cod kX11_init = cX11_init := rfl
theorem own_X11_init : own_ kX11_init = 11 := by decide +kernel
theorem mf_X11_init : sta kX11_init = false ∧ ((nam kX11_init).name == "<init>") = true ∧ nar kX11_init = 1 ∧ mlo kX11_init = 1 := ⟨by decide +kernel, by decide +kernel, by decide +kernel, by decide +kernel⟩
theorem ret_X11_init : ret_ kX11_init = none := rfl
theorem lt_X11_init : kX11_init < 1000 := by decide
theorem cod_X11_isIn : cod kX11_isIn = cX11_isIn := rfl
theorem own_X11_isIn : own_ kX11_isIn = 11 := by decide +kernel
theorem mf_X11_isIn : sta kX11_isIn = true ∧ ((nam kX11_isIn).name == "<init>") = false ∧ nar kX11_isIn = 2 ∧ mlo kX11_isIn = 2 := ⟨by decide +kernel, by decide +kernel, by decide +kernel, by decide +kernel⟩
theorem ret_X11_isIn : ret_ kX11_isIn = (some .boolean) := rfl
theorem lt_X11_isIn : kX11_isIn < 1000 := by decide
theorem cod_X11_isWalker : cod kX11_isWalker = cX11_isWalker := rfl
theorem own_X11_isWalker : own_ kX11_isWalker = 11 := by decide +kernel
theorem mf_X11_isWalker : sta kX11_isWalker = false ∧ ((nam kX11_isWalker).name == "<init>") = false ∧ nar kX11_isWalker = 2 ∧ mlo kX11_isWalker = 2 := ⟨by decide +kernel, by decide +kernel, by decide +kernel, by decide +kernel⟩
theorem ret_X11_isWalker : ret_ kX11_isWalker = (some .boolean) := rfl
theorem lt_X11_isWalker : kX11_isWalker < 1000 := by decide
theorem cod_X11_isCell : cod kX11_isCell = cX11_isCell := rfl
theorem own_X11_isCell : own_ kX11_isCell = 11 := by decide +kernel
theorem mf_X11_isCell : sta kX11_isCell = true ∧ ((nam kX11_isCell).name == "<init>") = false ∧ nar kX11_isCell = 1 ∧ mlo kX11_isCell = 1 := ⟨by decide +kernel, by decide +kernel, by decide +kernel, by decide +kernel⟩
theorem ret_X11_isCell : ret_ kX11_isCell = (some .boolean) := rfl
theorem lt_X11_isCell : kX11_isCell < 1000 := by decide
theorem cod_X11_get : cod kX11_get = cX11_get := rfl
theorem own_X11_get : own_ kX11_get = 11 := by decide +kernel
theorem mf_X11_get : sta kX11_get = false ∧ ((nam kX11_get).name == "<init>") = false ∧ nar kX11_get = 3 ∧ mlo kX11_get = 3 := ⟨by decide +kernel, by decide +kernel, by decide +kernel, by decide +kernel⟩
theorem ret_X11_get : ret_ kX11_get = (some .int) := rfl
theorem lt_X11_get : kX11_get < 1000 := by decide
theorem cod_X11_puts : cod kX11_puts = cX11_puts := rfl
theorem own_X11_puts : own_ kX11_puts = 11 := by decide +kernel
theorem mf_X11_puts : sta kX11_puts = false ∧ ((nam kX11_puts).name == "<init>") = false ∧ nar kX11_puts = 4 ∧ mlo kX11_puts = 4 := ⟨by decide +kernel, by decide +kernel, by decide +kernel, by decide +kernel⟩
theorem ret_X11_puts : ret_ kX11_puts = none := rfl
theorem lt_X11_puts : kX11_puts < 1000 := by decide
theorem cod_X11_feed : cod kX11_feed = cX11_feed := rfl
theorem own_X11_feed : own_ kX11_feed = 11 := by decide +kernel
theorem mf_X11_feed : sta kX11_feed = false ∧ ((nam kX11_feed).name == "<init>") = false ∧ nar kX11_feed = 2 ∧ mlo kX11_feed = 2 := ⟨by decide +kernel, by decide +kernel, by decide +kernel, by decide +kernel⟩
theorem ret_X11_feed : ret_ kX11_feed = (some .int) := rfl
theorem lt_X11_feed : kX11_feed < 1000 := by decide
theorem cod_X11_here : cod kX11_here = cX11_here := rfl
theorem own_X11_here : own_ kX11_here = 11 := by decide +kernel
theorem mf_X11_here : sta kX11_here = false ∧ ((nam kX11_here).name == "<init>") = false ∧ nar kX11_here = 1 ∧ mlo kX11_here = 1 := ⟨by decide +kernel, by decide +kernel, by decide +kernel, by decide +kernel⟩
theorem ret_X11_here : ret_ kX11_here = (some .int) := rfl
theorem lt_X11_here : kX11_here < 1000 := by decide
theorem cod_X11_takes : cod kX11_takes = cX11_takes := rfl
theorem own_X11_takes : own_ kX11_takes = 11 := by decide +kernel
theorem mf_X11_takes : sta kX11_takes = false ∧ ((nam kX11_takes).name == "<init>") = false ∧ nar kX11_takes = 2 ∧ mlo kX11_takes = 2 := ⟨by decide +kernel, by decide +kernel, by decide +kernel, by decide +kernel⟩
theorem ret_X11_takes : ret_ kX11_takes = none := rfl
theorem lt_X11_takes : kX11_takes < 1000 := by decide
theorem cod_X11_number : cod kX11_number = cX11_number := rfl
theorem own_X11_number : own_ kX11_number = 11 := by decide +kernel
theorem mf_X11_number : sta kX11_number = false ∧ ((nam kX11_number).name == "<init>") = false ∧ nar kX11_number = 1 ∧ mlo kX11_number = 3 := ⟨by decide +kernel, by decide +kernel, by decide +kernel, by decide +kernel⟩
theorem ret_X11_number : ret_ kX11_number = (some .int) := rfl
theorem lt_X11_number : kX11_number < 1000 := by decide
theorem cod_X11_amount : cod kX11_amount = cX11_amount := rfl
theorem own_X11_amount : own_ kX11_amount = 11 := by decide +kernel
theorem mf_X11_amount : sta kX11_amount = true ∧ ((nam kX11_amount).name == "<init>") = false ∧ nar kX11_amount = 1 ∧ mlo kX11_amount = 1 := ⟨by decide +kernel, by decide +kernel, by decide +kernel, by decide +kernel⟩
theorem ret_X11_amount : ret_ kX11_amount = (some .int) := rfl
theorem lt_X11_amount : kX11_amount < 1000 := by decide
theorem cod_X11_valueOf : cod kX11_valueOf = cX11_valueOf := rfl
theorem own_X11_valueOf : own_ kX11_valueOf = 11 := by decide +kernel
theorem mf_X11_valueOf : sta kX11_valueOf = true ∧ ((nam kX11_valueOf).name == "<init>") = false ∧ nar kX11_valueOf = 2 ∧ mlo kX11_valueOf = 4 := ⟨by decide +kernel, by decide +kernel, by decide +kernel, by decide +kernel⟩
theorem ret_X11_valueOf : ret_ kX11_valueOf = (some .int) := rfl
theorem lt_X11_valueOf : kX11_valueOf < 1000 := by decide
theorem cod_X11_test : cod kX11_test = cX11_test := rfl
theorem own_X11_test : own_ kX11_test = 11 := by decide +kernel
theorem mf_X11_test : sta kX11_test = false ∧ ((nam kX11_test).name == "<init>") = false ∧ nar kX11_test = 1 ∧ mlo kX11_test = 8 := ⟨by decide +kernel, by decide +kernel, by decide +kernel, by decide +kernel⟩
theorem ret_X11_test : ret_ kX11_test = (some .long) := rfl
theorem lt_X11_test : kX11_test < 1000 := by decide
theorem cod_X11_either : cod kX11_either = cX11_either := rfl
theorem own_X11_either : own_ kX11_either = 11 := by decide +kernel
theorem mf_X11_either : sta kX11_either = false ∧ ((nam kX11_either).name == "<init>") = false ∧ nar kX11_either = 1 ∧ mlo kX11_either = 3 := ⟨by decide +kernel, by decide +kernel, by decide +kernel, by decide +kernel⟩
theorem ret_X11_either : ret_ kX11_either = (some .long) := rfl
theorem lt_X11_either : kX11_either < 1000 := by decide
theorem cod_X11_factor : cod kX11_factor = cX11_factor := rfl
theorem own_X11_factor : own_ kX11_factor = 11 := by decide +kernel
theorem mf_X11_factor : sta kX11_factor = false ∧ ((nam kX11_factor).name == "<init>") = false ∧ nar kX11_factor = 1 ∧ mlo kX11_factor = 4 := ⟨by decide +kernel, by decide +kernel, by decide +kernel, by decide +kernel⟩
theorem ret_X11_factor : ret_ kX11_factor = (some .long) := rfl
theorem lt_X11_factor : kX11_factor < 1000 := by decide
theorem cod_X11_term : cod kX11_term = cX11_term := rfl
theorem own_X11_term : own_ kX11_term = 11 := by decide +kernel
theorem mf_X11_term : sta kX11_term = false ∧ ((nam kX11_term).name == "<init>") = false ∧ nar kX11_term = 1 ∧ mlo kX11_term = 3 := ⟨by decide +kernel, by decide +kernel, by decide +kernel, by decide +kernel⟩
theorem ret_X11_term : ret_ kX11_term = (some .long) := rfl
theorem lt_X11_term : kX11_term < 1000 := by decide
theorem cod_X11_word : cod kX11_word = cX11_word := rfl
theorem own_X11_word : own_ kX11_word = 11 := by decide +kernel
theorem mf_X11_word : sta kX11_word = false ∧ ((nam kX11_word).name == "<init>") = false ∧ nar kX11_word = 6 ∧ mlo kX11_word = 6 := ⟨by decide +kernel, by decide +kernel, by decide +kernel, by decide +kernel⟩
theorem ret_X11_word : ret_ kX11_word = none := rfl
theorem lt_X11_word : kX11_word < 1000 := by decide
theorem cod_X11_marksBy : cod kX11_marksBy = cX11_marksBy := rfl
theorem own_X11_marksBy : own_ kX11_marksBy = 11 := by decide +kernel
theorem mf_X11_marksBy : sta kX11_marksBy = false ∧ ((nam kX11_marksBy).name == "<init>") = false ∧ nar kX11_marksBy = 2 ∧ mlo kX11_marksBy = 5 := ⟨by decide +kernel, by decide +kernel, by decide +kernel, by decide +kernel⟩
theorem ret_X11_marksBy : ret_ kX11_marksBy = none := rfl
theorem lt_X11_marksBy : kX11_marksBy < 1000 := by decide
theorem cod_X11_clause : cod kX11_clause = cX11_clause := rfl
theorem own_X11_clause : own_ kX11_clause = 11 := by decide +kernel
theorem mf_X11_clause : sta kX11_clause = false ∧ ((nam kX11_clause).name == "<init>") = false ∧ nar kX11_clause = 1 ∧ mlo kX11_clause = 1 := ⟨by decide +kernel, by decide +kernel, by decide +kernel, by decide +kernel⟩
theorem ret_X11_clause : ret_ kX11_clause = none := rfl
theorem lt_X11_clause : kX11_clause < 1000 := by decide
theorem cod_X11_held : cod kX11_held = cX11_held := rfl
theorem own_X11_held : own_ kX11_held = 11 := by decide +kernel
theorem mf_X11_held : sta kX11_held = true ∧ ((nam kX11_held).name == "<init>") = false ∧ nar kX11_held = 1 ∧ mlo kX11_held = 1 := ⟨by decide +kernel, by decide +kernel, by decide +kernel, by decide +kernel⟩
theorem ret_X11_held : ret_ kX11_held = (some .int) := rfl
theorem lt_X11_held : kX11_held < 1000 := by decide
theorem cod_X11_reads : cod kX11_reads = cX11_reads := rfl
theorem own_X11_reads : own_ kX11_reads = 11 := by decide +kernel
theorem mf_X11_reads : sta kX11_reads = false ∧ ((nam kX11_reads).name == "<init>") = false ∧ nar kX11_reads = 1 ∧ mlo kX11_reads = 2 := ⟨by decide +kernel, by decide +kernel, by decide +kernel, by decide +kernel⟩
theorem ret_X11_reads : ret_ kX11_reads = none := rfl
theorem lt_X11_reads : kX11_reads < 1000 := by decide
theorem cod_X11_land : cod kX11_land = cX11_land := rfl
theorem own_X11_land : own_ kX11_land = 11 := by decide +kernel
theorem mf_X11_land : sta kX11_land = false ∧ ((nam kX11_land).name == "<init>") = false ∧ nar kX11_land = 1 ∧ mlo kX11_land = 2 := ⟨by decide +kernel, by decide +kernel, by decide +kernel, by decide +kernel⟩
theorem ret_X11_land : ret_ kX11_land = (some .int) := rfl
theorem lt_X11_land : kX11_land < 1000 := by decide
theorem cod_X11_onBeats : cod kX11_onBeats = cX11_onBeats := rfl
theorem own_X11_onBeats : own_ kX11_onBeats = 11 := by decide +kernel
theorem mf_X11_onBeats : sta kX11_onBeats = false ∧ ((nam kX11_onBeats).name == "<init>") = false ∧ nar kX11_onBeats = 1 ∧ mlo kX11_onBeats = 1 := ⟨by decide +kernel, by decide +kernel, by decide +kernel, by decide +kernel⟩
theorem ret_X11_onBeats : ret_ kX11_onBeats = (some .int) := rfl
theorem lt_X11_onBeats : kX11_onBeats < 1000 := by decide
theorem cod_X11_beats : cod kX11_beats = cX11_beats := rfl
theorem own_X11_beats : own_ kX11_beats = 11 := by decide +kernel
theorem mf_X11_beats : sta kX11_beats = false ∧ ((nam kX11_beats).name == "<init>") = false ∧ nar kX11_beats = 1 ∧ mlo kX11_beats = 1 := ⟨by decide +kernel, by decide +kernel, by decide +kernel, by decide +kernel⟩
theorem ret_X11_beats : ret_ kX11_beats = (some .int) := rfl
theorem lt_X11_beats : kX11_beats < 1000 := by decide
theorem cod_X11_told : cod kX11_told = cX11_told := rfl
theorem own_X11_told : own_ kX11_told = 11 := by decide +kernel
theorem mf_X11_told : sta kX11_told = false ∧ ((nam kX11_told).name == "<init>") = false ∧ nar kX11_told = 2 ∧ mlo kX11_told = 2 := ⟨by decide +kernel, by decide +kernel, by decide +kernel, by decide +kernel⟩
theorem ret_X11_told : ret_ kX11_told = (some .int) := rfl
theorem lt_X11_told : kX11_told < 1000 := by decide
theorem cod_X11_isMarked : cod kX11_isMarked = cX11_isMarked := rfl
theorem own_X11_isMarked : own_ kX11_isMarked = 11 := by decide +kernel
theorem mf_X11_isMarked : sta kX11_isMarked = false ∧ ((nam kX11_isMarked).name == "<init>") = false ∧ nar kX11_isMarked = 3 ∧ mlo kX11_isMarked = 3 := ⟨by decide +kernel, by decide +kernel, by decide +kernel, by decide +kernel⟩
theorem ret_X11_isMarked : ret_ kX11_isMarked = (some .boolean) := rfl
theorem lt_X11_isMarked : kX11_isMarked < 1000 := by decide
theorem cod_X11_ground : cod kX11_ground = cX11_ground := rfl
theorem own_X11_ground : own_ kX11_ground = 11 := by decide +kernel
theorem mf_X11_ground : sta kX11_ground = false ∧ ((nam kX11_ground).name == "<init>") = false ∧ nar kX11_ground = 3 ∧ mlo kX11_ground = 3 := ⟨by decide +kernel, by decide +kernel, by decide +kernel, by decide +kernel⟩
theorem ret_X11_ground : ret_ kX11_ground = (some .int) := rfl
theorem lt_X11_ground : kX11_ground < 1000 := by decide
theorem cod_X11_walker : cod kX11_walker = cX11_walker := rfl
theorem own_X11_walker : own_ kX11_walker = 11 := by decide +kernel
theorem mf_X11_walker : sta kX11_walker = false ∧ ((nam kX11_walker).name == "<init>") = false ∧ nar kX11_walker = 5 ∧ mlo kX11_walker = 6 := ⟨by decide +kernel, by decide +kernel, by decide +kernel, by decide +kernel⟩
theorem ret_X11_walker : ret_ kX11_walker = (some .int) := rfl
theorem lt_X11_walker : kX11_walker < 1000 := by decide
theorem cod_X11_beatOf : cod kX11_beatOf = cX11_beatOf := rfl
theorem own_X11_beatOf : own_ kX11_beatOf = 11 := by decide +kernel
theorem mf_X11_beatOf : sta kX11_beatOf = false ∧ ((nam kX11_beatOf).name == "<init>") = false ∧ nar kX11_beatOf = 2 ∧ mlo kX11_beatOf = 2 := ⟨by decide +kernel, by decide +kernel, by decide +kernel, by decide +kernel⟩
theorem ret_X11_beatOf : ret_ kX11_beatOf = (some .int) := rfl
theorem lt_X11_beatOf : kX11_beatOf < 1000 := by decide
theorem cod_X11_of : cod kX11_of = cX11_of := rfl
theorem own_X11_of : own_ kX11_of = 11 := by decide +kernel
theorem mf_X11_of : sta kX11_of = false ∧ ((nam kX11_of).name == "<init>") = false ∧ nar kX11_of = 3 ∧ mlo kX11_of = 3 := ⟨by decide +kernel, by decide +kernel, by decide +kernel, by decide +kernel⟩
theorem ret_X11_of : ret_ kX11_of = (some .int) := rfl
theorem lt_X11_of : kX11_of < 1000 := by decide
theorem cod_X11_put : cod kX11_put = cX11_put := rfl
theorem own_X11_put : own_ kX11_put = 11 := by decide +kernel
theorem mf_X11_put : sta kX11_put = false ∧ ((nam kX11_put).name == "<init>") = false ∧ nar kX11_put = 5 ∧ mlo kX11_put = 6 := ⟨by decide +kernel, by decide +kernel, by decide +kernel, by decide +kernel⟩
theorem ret_X11_put : ret_ kX11_put = (some .int) := rfl
theorem lt_X11_put : kX11_put < 1000 := by decide
theorem cod_X11_beside : cod kX11_beside = cX11_beside := rfl
theorem own_X11_beside : own_ kX11_beside = 11 := by decide +kernel
theorem mf_X11_beside : sta kX11_beside = true ∧ ((nam kX11_beside).name == "<init>") = false ∧ nar kX11_beside = 2 ∧ mlo kX11_beside = 2 := ⟨by decide +kernel, by decide +kernel, by decide +kernel, by decide +kernel⟩
theorem ret_X11_beside : ret_ kX11_beside = (some .int) := rfl
theorem lt_X11_beside : kX11_beside < 1000 := by decide
theorem cod_X11_goesOn : cod kX11_goesOn = cX11_goesOn := rfl
theorem own_X11_goesOn : own_ kX11_goesOn = 11 := by decide +kernel
theorem mf_X11_goesOn : sta kX11_goesOn = false ∧ ((nam kX11_goesOn).name == "<init>") = false ∧ nar kX11_goesOn = 4 ∧ mlo kX11_goesOn = 5 := ⟨by decide +kernel, by decide +kernel, by decide +kernel, by decide +kernel⟩
theorem ret_X11_goesOn : ret_ kX11_goesOn = (some .boolean) := rfl
theorem lt_X11_goesOn : kX11_goesOn < 1000 := by decide
theorem cod_X11_backTo : cod kX11_backTo = cX11_backTo := rfl
theorem own_X11_backTo : own_ kX11_backTo = 11 := by decide +kernel
theorem mf_X11_backTo : sta kX11_backTo = false ∧ ((nam kX11_backTo).name == "<init>") = false ∧ nar kX11_backTo = 5 ∧ mlo kX11_backTo = 5 := ⟨by decide +kernel, by decide +kernel, by decide +kernel, by decide +kernel⟩
theorem ret_X11_backTo : ret_ kX11_backTo = (some .int) := rfl
theorem lt_X11_backTo : kX11_backTo < 1000 := by decide
theorem cod_X11_goesBack : cod kX11_goesBack = cX11_goesBack := rfl
theorem own_X11_goesBack : own_ kX11_goesBack = 11 := by decide +kernel
theorem mf_X11_goesBack : sta kX11_goesBack = false ∧ ((nam kX11_goesBack).name == "<init>") = false ∧ nar kX11_goesBack = 5 ∧ mlo kX11_goesBack = 6 := ⟨by decide +kernel, by decide +kernel, by decide +kernel, by decide +kernel⟩
theorem ret_X11_goesBack : ret_ kX11_goesBack = (some .boolean) := rfl
theorem lt_X11_goesBack : kX11_goesBack < 1000 := by decide
theorem cod_X11_mayOn : cod kX11_mayOn = cX11_mayOn := rfl
theorem own_X11_mayOn : own_ kX11_mayOn = 11 := by decide +kernel
theorem mf_X11_mayOn : sta kX11_mayOn = false ∧ ((nam kX11_mayOn).name == "<init>") = false ∧ nar kX11_mayOn = 6 ∧ mlo kX11_mayOn = 11 := ⟨by decide +kernel, by decide +kernel, by decide +kernel, by decide +kernel⟩
theorem ret_X11_mayOn : ret_ kX11_mayOn = (some .int) := rfl
theorem lt_X11_mayOn : kX11_mayOn < 1000 := by decide
theorem cod_X11_mayBy : cod kX11_mayBy = cX11_mayBy := rfl
theorem own_X11_mayBy : own_ kX11_mayBy = 11 := by decide +kernel
theorem mf_X11_mayBy : sta kX11_mayBy = false ∧ ((nam kX11_mayBy).name == "<init>") = false ∧ nar kX11_mayBy = 8 ∧ mlo kX11_mayBy = 9 := ⟨by decide +kernel, by decide +kernel, by decide +kernel, by decide +kernel⟩
theorem ret_X11_mayBy : ret_ kX11_mayBy = (some .int) := rfl
theorem lt_X11_mayBy : kX11_mayBy < 1000 := by decide
theorem cod_X11_mayNow : cod kX11_mayNow = cX11_mayNow := rfl
theorem own_X11_mayNow : own_ kX11_mayNow = 11 := by decide +kernel
theorem mf_X11_mayNow : sta kX11_mayNow = false ∧ ((nam kX11_mayNow).name == "<init>") = false ∧ nar kX11_mayNow = 2 ∧ mlo kX11_mayNow = 2 := ⟨by decide +kernel, by decide +kernel, by decide +kernel, by decide +kernel⟩
theorem ret_X11_mayNow : ret_ kX11_mayNow = (some .int) := rfl
theorem lt_X11_mayNow : kX11_mayNow < 1000 := by decide
theorem cod_X11_may : cod kX11_may = cX11_may := rfl
theorem own_X11_may : own_ kX11_may = 11 := by decide +kernel
theorem mf_X11_may : sta kX11_may = false ∧ ((nam kX11_may).name == "<init>") = false ∧ nar kX11_may = 2 ∧ mlo kX11_may = 2 := ⟨by decide +kernel, by decide +kernel, by decide +kernel, by decide +kernel⟩
theorem ret_X11_may : ret_ kX11_may = (some .int) := rfl
theorem lt_X11_may : kX11_may < 1000 := by decide
theorem cod_X11_steps : cod kX11_steps = cX11_steps := rfl
theorem own_X11_steps : own_ kX11_steps = 11 := by decide +kernel
theorem mf_X11_steps : sta kX11_steps = false ∧ ((nam kX11_steps).name == "<init>") = false ∧ nar kX11_steps = 3 ∧ mlo kX11_steps = 4 := ⟨by decide +kernel, by decide +kernel, by decide +kernel, by decide +kernel⟩
theorem ret_X11_steps : ret_ kX11_steps = none := rfl
theorem lt_X11_steps : kX11_steps < 1000 := by decide
theorem cod_X11_step : cod kX11_step = cX11_step := rfl
theorem own_X11_step : own_ kX11_step = 11 := by decide +kernel
theorem mf_X11_step : sta kX11_step = false ∧ ((nam kX11_step).name == "<init>") = false ∧ nar kX11_step = 3 ∧ mlo kX11_step = 3 := ⟨by decide +kernel, by decide +kernel, by decide +kernel, by decide +kernel⟩
theorem ret_X11_step : ret_ kX11_step = (some .int) := rfl
theorem lt_X11_step : kX11_step < 1000 := by decide
theorem cod_X11_stateOf : cod kX11_stateOf = cX11_stateOf := rfl
theorem own_X11_stateOf : own_ kX11_stateOf = 11 := by decide +kernel
theorem mf_X11_stateOf : sta kX11_stateOf = true ∧ ((nam kX11_stateOf).name == "<init>") = false ∧ nar kX11_stateOf = 3 ∧ mlo kX11_stateOf = 3 := ⟨by decide +kernel, by decide +kernel, by decide +kernel, by decide +kernel⟩
theorem ret_X11_stateOf : ret_ kX11_stateOf = (some .int) := rfl
theorem lt_X11_stateOf : kX11_stateOf < 1000 := by decide
theorem cod_X11_comesTo : cod kX11_comesTo = cX11_comesTo := rfl
theorem own_X11_comesTo : own_ kX11_comesTo = 11 := by decide +kernel
theorem mf_X11_comesTo : sta kX11_comesTo = true ∧ ((nam kX11_comesTo).name == "<init>") = false ∧ nar kX11_comesTo = 4 ∧ mlo kX11_comesTo = 6 := ⟨by decide +kernel, by decide +kernel, by decide +kernel, by decide +kernel⟩
theorem ret_X11_comesTo : ret_ kX11_comesTo = (some .int) := rfl
theorem lt_X11_comesTo : kX11_comesTo < 1000 := by decide
theorem cod_X11_begins : cod kX11_begins = cX11_begins := rfl
theorem own_X11_begins : own_ kX11_begins = 11 := by decide +kernel
theorem mf_X11_begins : sta kX11_begins = false ∧ ((nam kX11_begins).name == "<init>") = false ∧ nar kX11_begins = 8 ∧ mlo kX11_begins = 9 := ⟨by decide +kernel, by decide +kernel, by decide +kernel, by decide +kernel⟩
theorem ret_X11_begins : ret_ kX11_begins = none := rfl
theorem lt_X11_begins : kX11_begins < 1000 := by decide
theorem cod_X11_beginsAs : cod kX11_beginsAs = cX11_beginsAs := rfl
theorem own_X11_beginsAs : own_ kX11_beginsAs = 11 := by decide +kernel
theorem mf_X11_beginsAs : sta kX11_beginsAs = false ∧ ((nam kX11_beginsAs).name == "<init>") = false ∧ nar kX11_beginsAs = 3 ∧ mlo kX11_beginsAs = 3 := ⟨by decide +kernel, by decide +kernel, by decide +kernel, by decide +kernel⟩
theorem ret_X11_beginsAs : ret_ kX11_beginsAs = none := rfl
theorem lt_X11_beginsAs : kX11_beginsAs < 1000 := by decide
theorem cod_X11_bits : cod kX11_bits = cX11_bits := rfl
theorem own_X11_bits : own_ kX11_bits = 11 := by decide +kernel
theorem mf_X11_bits : sta kX11_bits = true ∧ ((nam kX11_bits).name == "<init>") = false ∧ nar kX11_bits = 1 ∧ mlo kX11_bits = 3 := ⟨by decide +kernel, by decide +kernel, by decide +kernel, by decide +kernel⟩
theorem ret_X11_bits : ret_ kX11_bits = (some .int) := rfl
theorem lt_X11_bits : kX11_bits < 1000 := by decide
theorem cod_X11_goesBeat : cod kX11_goesBeat = cX11_goesBeat := rfl
theorem own_X11_goesBeat : own_ kX11_goesBeat = 11 := by decide +kernel
theorem mf_X11_goesBeat : sta kX11_goesBeat = false ∧ ((nam kX11_goesBeat).name == "<init>") = false ∧ nar kX11_goesBeat = 1 ∧ mlo kX11_goesBeat = 10 := ⟨by decide +kernel, by decide +kernel, by decide +kernel, by decide +kernel⟩
theorem ret_X11_goesBeat : ret_ kX11_goesBeat = none := rfl
theorem lt_X11_goesBeat : kX11_goesBeat < 1000 := by decide
theorem cod_X11_cellsNow : cod kX11_cellsNow = cX11_cellsNow := rfl
theorem own_X11_cellsNow : own_ kX11_cellsNow = 11 := by decide +kernel
theorem mf_X11_cellsNow : sta kX11_cellsNow = false ∧ ((nam kX11_cellsNow).name == "<init>") = false ∧ nar kX11_cellsNow = 1 ∧ mlo kX11_cellsNow = 4 := ⟨by decide +kernel, by decide +kernel, by decide +kernel, by decide +kernel⟩
theorem ret_X11_cellsNow : ret_ kX11_cellsNow = (some .long) := rfl
theorem lt_X11_cellsNow : kX11_cellsNow < 1000 := by decide
theorem cod_X11_firstTo : cod kX11_firstTo = cX11_firstTo := rfl
theorem own_X11_firstTo : own_ kX11_firstTo = 11 := by decide +kernel
theorem mf_X11_firstTo : sta kX11_firstTo = false ∧ ((nam kX11_firstTo).name == "<init>") = false ∧ nar kX11_firstTo = 2 ∧ mlo kX11_firstTo = 4 := ⟨by decide +kernel, by decide +kernel, by decide +kernel, by decide +kernel⟩
theorem ret_X11_firstTo : ret_ kX11_firstTo = (some .int) := rfl
theorem lt_X11_firstTo : kX11_firstTo < 1000 := by decide
theorem cod_X11_soonestTo : cod kX11_soonestTo = cX11_soonestTo := rfl
theorem own_X11_soonestTo : own_ kX11_soonestTo = 11 := by decide +kernel
theorem mf_X11_soonestTo : sta kX11_soonestTo = false ∧ ((nam kX11_soonestTo).name == "<init>") = false ∧ nar kX11_soonestTo = 2 ∧ mlo kX11_soonestTo = 4 := ⟨by decide +kernel, by decide +kernel, by decide +kernel, by decide +kernel⟩
theorem ret_X11_soonestTo : ret_ kX11_soonestTo = (some .int) := rfl
theorem lt_X11_soonestTo : kX11_soonestTo < 1000 := by decide
theorem cod_X11_soonest : cod kX11_soonest = cX11_soonest := rfl
theorem own_X11_soonest : own_ kX11_soonest = 11 := by decide +kernel
theorem mf_X11_soonest : sta kX11_soonest = false ∧ ((nam kX11_soonest).name == "<init>") = false ∧ nar kX11_soonest = 4 ∧ mlo kX11_soonest = 5 := ⟨by decide +kernel, by decide +kernel, by decide +kernel, by decide +kernel⟩
theorem ret_X11_soonest : ret_ kX11_soonest = (some .int) := rfl
theorem lt_X11_soonest : kX11_soonest < 1000 := by decide
theorem cod_X11_begin : cod kX11_begin = cX11_begin := rfl
theorem own_X11_begin : own_ kX11_begin = 11 := by decide +kernel
theorem mf_X11_begin : sta kX11_begin = false ∧ ((nam kX11_begin).name == "<init>") = false ∧ nar kX11_begin = 4 ∧ mlo kX11_begin = 8 := ⟨by decide +kernel, by decide +kernel, by decide +kernel, by decide +kernel⟩
theorem ret_X11_begin : ret_ kX11_begin = (some .int) := rfl
theorem lt_X11_begin : kX11_begin < 1000 := by decide
theorem cod_X11_within : cod kX11_within = cX11_within := rfl
theorem own_X11_within : own_ kX11_within = 11 := by decide +kernel
theorem mf_X11_within : sta kX11_within = false ∧ ((nam kX11_within).name == "<init>") = false ∧ nar kX11_within = 3 ∧ mlo kX11_within = 6 := ⟨by decide +kernel, by decide +kernel, by decide +kernel, by decide +kernel⟩
theorem ret_X11_within : ret_ kX11_within = (some .long) := rfl
theorem lt_X11_within : kX11_within < 1000 := by decide
theorem cod_X11_reached : cod kX11_reached = cX11_reached := rfl
theorem own_X11_reached : own_ kX11_reached = 11 := by decide +kernel
theorem mf_X11_reached : sta kX11_reached = false ∧ ((nam kX11_reached).name == "<init>") = false ∧ nar kX11_reached = 3 ∧ mlo kX11_reached = 3 := ⟨by decide +kernel, by decide +kernel, by decide +kernel, by decide +kernel⟩
theorem ret_X11_reached : ret_ kX11_reached = (some .long) := rfl
theorem lt_X11_reached : kX11_reached < 1000 := by decide
theorem cod_X11_never : cod kX11_never = cX11_never := rfl
theorem own_X11_never : own_ kX11_never = 11 := by decide +kernel
theorem mf_X11_never : sta kX11_never = false ∧ ((nam kX11_never).name == "<init>") = false ∧ nar kX11_never = 2 ∧ mlo kX11_never = 5 := ⟨by decide +kernel, by decide +kernel, by decide +kernel, by decide +kernel⟩
theorem ret_X11_never : ret_ kX11_never = (some .long) := rfl
theorem lt_X11_never : kX11_never < 1000 := by decide
theorem cod_X11_meet : cod kX11_meet = cX11_meet := rfl
theorem own_X11_meet : own_ kX11_meet = 11 := by decide +kernel
theorem mf_X11_meet : sta kX11_meet = false ∧ ((nam kX11_meet).name == "<init>") = false ∧ nar kX11_meet = 4 ∧ mlo kX11_meet = 8 := ⟨by decide +kernel, by decide +kernel, by decide +kernel, by decide +kernel⟩
theorem ret_X11_meet : ret_ kX11_meet = (some .int) := rfl
theorem lt_X11_meet : kX11_meet < 1000 := by decide
theorem cod_X11_home : cod kX11_home = cX11_home := rfl
theorem own_X11_home : own_ kX11_home = 11 := by decide +kernel
theorem mf_X11_home : sta kX11_home = false ∧ ((nam kX11_home).name == "<init>") = false ∧ nar kX11_home = 2 ∧ mlo kX11_home = 4 := ⟨by decide +kernel, by decide +kernel, by decide +kernel, by decide +kernel⟩
theorem ret_X11_home : ret_ kX11_home = (some .int) := rfl
theorem lt_X11_home : kX11_home < 1000 := by decide
theorem cod_X11_row : cod kX11_row = cX11_row := rfl
theorem own_X11_row : own_ kX11_row = 11 := by decide +kernel
theorem mf_X11_row : sta kX11_row = false ∧ ((nam kX11_row).name == "<init>") = false ∧ nar kX11_row = 2 ∧ mlo kX11_row = 2 := ⟨by decide +kernel, by decide +kernel, by decide +kernel, by decide +kernel⟩
theorem ret_X11_row : ret_ kX11_row = (some .int) := rfl
theorem lt_X11_row : kX11_row < 1000 := by decide
theorem cod_X11_hand : cod kX11_hand = cX11_hand := rfl
theorem own_X11_hand : own_ kX11_hand = 11 := by decide +kernel
theorem mf_X11_hand : sta kX11_hand = false ∧ ((nam kX11_hand).name == "<init>") = false ∧ nar kX11_hand = 3 ∧ mlo kX11_hand = 6 := ⟨by decide +kernel, by decide +kernel, by decide +kernel, by decide +kernel⟩
theorem ret_X11_hand : ret_ kX11_hand = (some .int) := rfl
theorem lt_X11_hand : kX11_hand < 1000 := by decide
theorem cod_X11_track : cod kX11_track = cX11_track := rfl
theorem own_X11_track : own_ kX11_track = 11 := by decide +kernel
theorem mf_X11_track : sta kX11_track = false ∧ ((nam kX11_track).name == "<init>") = false ∧ nar kX11_track = 2 ∧ mlo kX11_track = 2 := ⟨by decide +kernel, by decide +kernel, by decide +kernel, by decide +kernel⟩
theorem ret_X11_track : ret_ kX11_track = (some .int) := rfl
theorem lt_X11_track : kX11_track < 1000 := by decide
theorem cod_X11_mightHave : cod kX11_mightHave = cX11_mightHave := rfl
theorem own_X11_mightHave : own_ kX11_mightHave = 11 := by decide +kernel
theorem mf_X11_mightHave : sta kX11_mightHave = false ∧ ((nam kX11_mightHave).name == "<init>") = false ∧ nar kX11_mightHave = 5 ∧ mlo kX11_mightHave = 9 := ⟨by decide +kernel, by decide +kernel, by decide +kernel, by decide +kernel⟩
theorem ret_X11_mightHave : ret_ kX11_mightHave = (some .boolean) := rfl
theorem lt_X11_mightHave : kX11_mightHave < 1000 := by decide
theorem cod_X11_tracks : cod kX11_tracks = cX11_tracks := rfl
theorem own_X11_tracks : own_ kX11_tracks = 11 := by decide +kernel
theorem mf_X11_tracks : sta kX11_tracks = false ∧ ((nam kX11_tracks).name == "<init>") = false ∧ nar kX11_tracks = 3 ∧ mlo kX11_tracks = 7 := ⟨by decide +kernel, by decide +kernel, by decide +kernel, by decide +kernel⟩
theorem ret_X11_tracks : ret_ kX11_tracks = (some .int) := rfl
theorem lt_X11_tracks : kX11_tracks < 1000 := by decide
theorem cod_X11_common : cod kX11_common = cX11_common := rfl
theorem own_X11_common : own_ kX11_common = 11 := by decide +kernel
theorem mf_X11_common : sta kX11_common = true ∧ ((nam kX11_common).name == "<init>") = false ∧ nar kX11_common = 2 ∧ mlo kX11_common = 4 := ⟨by decide +kernel, by decide +kernel, by decide +kernel, by decide +kernel⟩
theorem ret_X11_common : ret_ kX11_common = (some .long) := rfl
theorem lt_X11_common : kX11_common < 1000 := by decide
theorem cod_X11_lot : cod kX11_lot = cX11_lot := rfl
theorem own_X11_lot : own_ kX11_lot = 11 := by decide +kernel
theorem mf_X11_lot : sta kX11_lot = false ∧ ((nam kX11_lot).name == "<init>") = false ∧ nar kX11_lot = 5 ∧ mlo kX11_lot = 11 := ⟨by decide +kernel, by decide +kernel, by decide +kernel, by decide +kernel⟩
theorem ret_X11_lot : ret_ kX11_lot = (some .long) := rfl
theorem lt_X11_lot : kX11_lot < 1000 := by decide
theorem cod_X11_soonestBy : cod kX11_soonestBy = cX11_soonestBy := rfl
theorem own_X11_soonestBy : own_ kX11_soonestBy = 11 := by decide +kernel
theorem mf_X11_soonestBy : sta kX11_soonestBy = false ∧ ((nam kX11_soonestBy).name == "<init>") = false ∧ nar kX11_soonestBy = 4 ∧ mlo kX11_soonestBy = 4 := ⟨by decide +kernel, by decide +kernel, by decide +kernel, by decide +kernel⟩
theorem ret_X11_soonestBy : ret_ kX11_soonestBy = (some .int) := rfl
theorem lt_X11_soonestBy : kX11_soonestBy < 1000 := by decide
theorem cod_X11_slower : cod kX11_slower = cX11_slower := rfl
theorem own_X11_slower : own_ kX11_slower = 11 := by decide +kernel
theorem mf_X11_slower : sta kX11_slower = false ∧ ((nam kX11_slower).name == "<init>") = false ∧ nar kX11_slower = 5 ∧ mlo kX11_slower = 7 := ⟨by decide +kernel, by decide +kernel, by decide +kernel, by decide +kernel⟩
theorem ret_X11_slower : ret_ kX11_slower = (some .int) := rfl
theorem lt_X11_slower : kX11_slower < 1000 := by decide
theorem cod_X11_above : cod kX11_above = cX11_above := rfl
theorem own_X11_above : own_ kX11_above = 11 := by decide +kernel
theorem mf_X11_above : sta kX11_above = true ∧ ((nam kX11_above).name == "<init>") = false ∧ nar kX11_above = 1 ∧ mlo kX11_above = 1 := ⟨by decide +kernel, by decide +kernel, by decide +kernel, by decide +kernel⟩
theorem ret_X11_above : ret_ kX11_above = (some .int) := rfl
theorem lt_X11_above : kX11_above < 1000 := by decide
theorem cod_X11_runs : cod kX11_runs = cX11_runs := rfl
theorem own_X11_runs : own_ kX11_runs = 11 := by decide +kernel
theorem mf_X11_runs : sta kX11_runs = false ∧ ((nam kX11_runs).name == "<init>") = false ∧ nar kX11_runs = 2 ∧ mlo kX11_runs = 2 := ⟨by decide +kernel, by decide +kernel, by decide +kernel, by decide +kernel⟩
theorem ret_X11_runs : ret_ kX11_runs = none := rfl
theorem lt_X11_runs : kX11_runs < 1000 := by decide
theorem cod_X11_hasBody : cod kX11_hasBody = cX11_hasBody := rfl
theorem own_X11_hasBody : own_ kX11_hasBody = 11 := by decide +kernel
theorem mf_X11_hasBody : sta kX11_hasBody = true ∧ ((nam kX11_hasBody).name == "<init>") = false ∧ nar kX11_hasBody = 2 ∧ mlo kX11_hasBody = 2 := ⟨by decide +kernel, by decide +kernel, by decide +kernel, by decide +kernel⟩
theorem ret_X11_hasBody : ret_ kX11_hasBody = (some .boolean) := rfl
theorem lt_X11_hasBody : kX11_hasBody < 1000 := by decide
theorem cod_X11_acts : cod kX11_acts = cX11_acts := rfl
theorem own_X11_acts : own_ kX11_acts = 11 := by decide +kernel
theorem mf_X11_acts : sta kX11_acts = false ∧ ((nam kX11_acts).name == "<init>") = false ∧ nar kX11_acts = 3 ∧ mlo kX11_acts = 3 := ⟨by decide +kernel, by decide +kernel, by decide +kernel, by decide +kernel⟩
theorem ret_X11_acts : ret_ kX11_acts = (some .int) := rfl
theorem lt_X11_acts : kX11_acts < 1000 := by decide
theorem cod_X11_bodyOf : cod kX11_bodyOf = cX11_bodyOf := rfl
theorem own_X11_bodyOf : own_ kX11_bodyOf = 11 := by decide +kernel
theorem mf_X11_bodyOf : sta kX11_bodyOf = false ∧ ((nam kX11_bodyOf).name == "<init>") = false ∧ nar kX11_bodyOf = 4 ∧ mlo kX11_bodyOf = 8 := ⟨by decide +kernel, by decide +kernel, by decide +kernel, by decide +kernel⟩
theorem ret_X11_bodyOf : ret_ kX11_bodyOf = (some .int) := rfl
theorem lt_X11_bodyOf : kX11_bodyOf < 1000 := by decide
theorem cod_X11_act : cod kX11_act = cX11_act := rfl
theorem own_X11_act : own_ kX11_act = 11 := by decide +kernel
theorem mf_X11_act : sta kX11_act = false ∧ ((nam kX11_act).name == "<init>") = false ∧ nar kX11_act = 4 ∧ mlo kX11_act = 4 := ⟨by decide +kernel, by decide +kernel, by decide +kernel, by decide +kernel⟩
theorem ret_X11_act : ret_ kX11_act = (some .int) := rfl
theorem lt_X11_act : kX11_act < 1000 := by decide
theorem cod_X11_trace : cod kX11_trace = cX11_trace := rfl
theorem own_X11_trace : own_ kX11_trace = 11 := by decide +kernel
theorem mf_X11_trace : sta kX11_trace = false ∧ ((nam kX11_trace).name == "<init>") = false ∧ nar kX11_trace = 2 ∧ mlo kX11_trace = 2 := ⟨by decide +kernel, by decide +kernel, by decide +kernel, by decide +kernel⟩
theorem ret_X11_trace : ret_ kX11_trace = (some .int) := rfl
theorem lt_X11_trace : kX11_trace < 1000 := by decide
theorem cod_X11_taken : cod kX11_taken = cX11_taken := rfl
theorem own_X11_taken : own_ kX11_taken = 11 := by decide +kernel
theorem mf_X11_taken : sta kX11_taken = false ∧ ((nam kX11_taken).name == "<init>") = false ∧ nar kX11_taken = 3 ∧ mlo kX11_taken = 5 := ⟨by decide +kernel, by decide +kernel, by decide +kernel, by decide +kernel⟩
theorem ret_X11_taken : ret_ kX11_taken = (some .int) := rfl
theorem lt_X11_taken : kX11_taken < 1000 := by decide
theorem cod_X11_judge : cod kX11_judge = cX11_judge := rfl
theorem own_X11_judge : own_ kX11_judge = 11 := by decide +kernel
theorem mf_X11_judge : sta kX11_judge = false ∧ ((nam kX11_judge).name == "<init>") = false ∧ nar kX11_judge = 3 ∧ mlo kX11_judge = 4 := ⟨by decide +kernel, by decide +kernel, by decide +kernel, by decide +kernel⟩
theorem ret_X11_judge : ret_ kX11_judge = (some .int) := rfl
theorem lt_X11_judge : kX11_judge < 1000 := by decide
theorem cod_X11_image : cod kX11_image = cX11_image := rfl
theorem own_X11_image : own_ kX11_image = 11 := by decide +kernel
theorem mf_X11_image : sta kX11_image = false ∧ ((nam kX11_image).name == "<init>") = false ∧ nar kX11_image = 1 ∧ mlo kX11_image = 2 := ⟨by decide +kernel, by decide +kernel, by decide +kernel, by decide +kernel⟩
theorem ret_X11_image : ret_ kX11_image = (some .int) := rfl
theorem lt_X11_image : kX11_image < 1000 := by decide
theorem cod_X11_undo : cod kX11_undo = cX11_undo := rfl
theorem own_X11_undo : own_ kX11_undo = 11 := by decide +kernel
theorem mf_X11_undo : sta kX11_undo = false ∧ ((nam kX11_undo).name == "<init>") = false ∧ nar kX11_undo = 1 ∧ mlo kX11_undo = 2 := ⟨by decide +kernel, by decide +kernel, by decide +kernel, by decide +kernel⟩
theorem ret_X11_undo : ret_ kX11_undo = (some .int) := rfl
theorem lt_X11_undo : kX11_undo < 1000 := by decide
theorem cod_X11_count : cod kX11_count = cX11_count := rfl
theorem own_X11_count : own_ kX11_count = 11 := by decide +kernel
theorem mf_X11_count : sta kX11_count = false ∧ ((nam kX11_count).name == "<init>") = false ∧ nar kX11_count = 2 ∧ mlo kX11_count = 2 := ⟨by decide +kernel, by decide +kernel, by decide +kernel, by decide +kernel⟩
theorem ret_X11_count : ret_ kX11_count = (some .int) := rfl
theorem lt_X11_count : kX11_count < 1000 := by decide
theorem cod_X11_tape : cod kX11_tape = cX11_tape := rfl
theorem own_X11_tape : own_ kX11_tape = 11 := by decide +kernel
theorem mf_X11_tape : sta kX11_tape = false ∧ ((nam kX11_tape).name == "<init>") = false ∧ nar kX11_tape = 4 ∧ mlo kX11_tape = 5 := ⟨by decide +kernel, by decide +kernel, by decide +kernel, by decide +kernel⟩
theorem ret_X11_tape : ret_ kX11_tape = (some .int) := rfl
theorem lt_X11_tape : kX11_tape < 1000 := by decide
theorem cod_X11_item : cod kX11_item = cX11_item := rfl
theorem own_X11_item : own_ kX11_item = 11 := by decide +kernel
theorem mf_X11_item : sta kX11_item = false ∧ ((nam kX11_item).name == "<init>") = false ∧ nar kX11_item = 4 ∧ mlo kX11_item = 5 := ⟨by decide +kernel, by decide +kernel, by decide +kernel, by decide +kernel⟩
theorem ret_X11_item : ret_ kX11_item = (some .int) := rfl
theorem lt_X11_item : kX11_item < 1000 := by decide
theorem cod_X11_read : cod kX11_read = cX11_read := rfl
theorem own_X11_read : own_ kX11_read = 11 := by decide +kernel
theorem mf_X11_read : sta kX11_read = false ∧ ((nam kX11_read).name == "<init>") = false ∧ nar kX11_read = 3 ∧ mlo kX11_read = 3 := ⟨by decide +kernel, by decide +kernel, by decide +kernel, by decide +kernel⟩
theorem ret_X11_read : ret_ kX11_read = (some .long) := rfl
theorem lt_X11_read : kX11_read < 1000 := by decide
theorem cod_X11_shift : cod kX11_shift = cX11_shift := rfl
theorem own_X11_shift : own_ kX11_shift = 11 := by decide +kernel
theorem mf_X11_shift : sta kX11_shift = false ∧ ((nam kX11_shift).name == "<init>") = false ∧ nar kX11_shift = 6 ∧ mlo kX11_shift = 8 := ⟨by decide +kernel, by decide +kernel, by decide +kernel, by decide +kernel⟩
theorem ret_X11_shift : ret_ kX11_shift = (some .int) := rfl
theorem lt_X11_shift : kX11_shift < 1000 := by decide
theorem cod_L_law : cod kL_law = cL_law := rfl
theorem own_L_law : own_ kL_law = 12 := by decide +kernel
theorem mf_L_law : sta kL_law = true ∧ ((nam kL_law).name == "<init>") = false ∧ nar kL_law = 1 ∧ mlo kL_law = 4 := ⟨by decide +kernel, by decide +kernel, by decide +kernel, by decide +kernel⟩
theorem ret_L_law : ret_ kL_law = (some .boolean) := rfl
theorem lt_L_law : kL_law < 1000 := by decide
theorem fl_7_9 : fld 7 9 = some (7, 0) := by decide +kernel
theorem fl_7_15 : fld 7 15 = some (7, 1) := by decide +kernel
theorem fl_7_30 : fld 7 30 = some (7, 2) := by decide +kernel
theorem fl_7_33 : fld 7 33 = some (7, 3) := by decide +kernel
theorem fl_7_26 : fld 7 26 = some (7, 4) := by decide +kernel
theorem fl_7_19 : fld 7 19 = some (7, 5) := by decide +kernel
theorem fl_10_84 : fld 10 84 = some (7, 5) := by decide +kernel
theorem fl_7_23 : fld 7 23 = some (7, 6) := by decide +kernel
theorem fl_10_95 : fld 10 95 = some (7, 6) := by decide +kernel
theorem fl_1_27 : fld 1 27 = some (9, 0) := by decide +kernel
theorem fl_4_27 : fld 4 27 = some (9, 0) := by decide +kernel
theorem fl_9_24 : fld 9 24 = some (9, 0) := by decide +kernel
theorem fl_10_136 : fld 10 136 = some (9, 0) := by decide +kernel
theorem fl_1_33 : fld 1 33 = some (9, 1) := by decide +kernel
theorem fl_4_33 : fld 4 33 = some (9, 1) := by decide +kernel
theorem fl_9_27 : fld 9 27 = some (9, 1) := by decide +kernel
theorem fl_10_139 : fld 10 139 = some (9, 1) := by decide +kernel
theorem fl_9_15 : fld 9 15 = some (9, 2) := by decide +kernel
theorem fl_4_52 : fld 4 52 = some (9, 2) := by decide +kernel
theorem fl_1_62 : fld 1 62 = some (9, 2) := by decide +kernel
theorem fl_10_156 : fld 10 156 = some (9, 2) := by decide +kernel
theorem fl_9_18 : fld 9 18 = some (9, 3) := by decide +kernel
theorem fl_4_55 : fld 4 55 = some (9, 3) := by decide +kernel
theorem fl_1_56 : fld 1 56 = some (9, 3) := by decide +kernel
theorem fl_10_159 : fld 10 159 = some (9, 3) := by decide +kernel
theorem fl_9_21 : fld 9 21 = some (9, 4) := by decide +kernel
theorem fl_1_36 : fld 1 36 = some (9, 4) := by decide +kernel
theorem fl_4_36 : fld 4 36 = some (9, 4) := by decide +kernel
theorem fl_10_162 : fld 10 162 = some (9, 4) := by decide +kernel
theorem fl_4_39 : fld 4 39 = some (9, 5) := by decide +kernel
theorem fl_1_43 : fld 1 43 = some (9, 5) := by decide +kernel
theorem fl_9_30 : fld 9 30 = some (9, 5) := by decide +kernel
theorem fl_10_142 : fld 10 142 = some (9, 5) := by decide +kernel
theorem fl_9_9 : fld 9 9 = some (9, 6) := by decide +kernel
theorem fl_4_58 : fld 4 58 = some (9, 6) := by decide +kernel
theorem fl_1_59 : fld 1 59 = some (9, 6) := by decide +kernel
theorem fl_10_168 : fld 10 168 = some (9, 6) := by decide +kernel
theorem fl_0_9 : fld 0 9 = some (0, 0) := by decide +kernel
theorem fl_10_328 : fld 10 328 = some (0, 0) := by decide +kernel
theorem fl_0_45 : fld 0 45 = some (0, 1) := by decide +kernel
theorem fl_10_315 : fld 10 315 = some (0, 1) := by decide +kernel
theorem fl_0_15 : fld 0 15 = some (0, 2) := by decide +kernel
theorem fl_0_19 : fld 0 19 = some (0, 3) := by decide +kernel
theorem fl_0_22 : fld 0 22 = some (0, 4) := by decide +kernel
theorem fl_3_18 : fld 3 18 = some (3, 0) := by decide +kernel
theorem fl_10_102 : fld 10 102 = some (3, 0) := by decide +kernel
theorem fl_2_73 : fld 2 73 = some (3, 0) := by decide +kernel
theorem fl_3_22 : fld 3 22 = some (3, 1) := by decide +kernel
theorem fl_10_105 : fld 10 105 = some (3, 1) := by decide +kernel
theorem fl_3_25 : fld 3 25 = some (3, 2) := by decide +kernel
theorem fl_10_128 : fld 10 128 = some (3, 2) := by decide +kernel
theorem fl_3_29 : fld 3 29 = some (3, 3) := by decide +kernel
theorem fl_3_32 : fld 3 32 = some (3, 4) := by decide +kernel
theorem fl_3_35 : fld 3 35 = some (3, 5) := by decide +kernel
theorem fl_3_9 : fld 3 9 = some (3, 6) := by decide +kernel
theorem fl_3_15 : fld 3 15 = some (3, 7) := by decide +kernel
theorem fl_3_42 : fld 3 42 = some (3, 8) := by decide +kernel
theorem fl_3_45 : fld 3 45 = some (3, 9) := by decide +kernel
theorem fl_8_9 : fld 8 9 = some (8, 0) := by decide +kernel
theorem fl_8_15 : fld 8 15 = some (8, 1) := by decide +kernel
theorem fl_10_266 : fld 10 266 = some (8, 1) := by decide +kernel
theorem fl_5_11 : fld 5 11 = some (5, 0) := by decide +kernel
theorem fl_5_32 : fld 5 32 = some (5, 1) := by decide +kernel
theorem fl_10_149 : fld 10 149 = some (5, 1) := by decide +kernel
theorem fl_5_20 : fld 5 20 = some (5, 2) := by decide +kernel
theorem fl_10_254 : fld 10 254 = some (5, 2) := by decide +kernel
theorem fl_5_24 : fld 5 24 = some (5, 3) := by decide +kernel
theorem fl_10_269 : fld 10 269 = some (5, 3) := by decide +kernel
theorem fl_5_27 : fld 5 27 = some (5, 4) := by decide +kernel
theorem fl_10_98 : fld 10 98 = some (5, 4) := by decide +kernel
theorem fl_2_9 : fld 2 9 = some (2, 0) := by decide +kernel
theorem fl_2_15 : fld 2 15 = some (2, 1) := by decide +kernel
theorem fl_2_19 : fld 2 19 = some (2, 2) := by decide +kernel
theorem fl_2_28 : fld 2 28 = some (2, 3) := by decide +kernel
theorem fl_10_206 : fld 10 206 = some (2, 3) := by decide +kernel
theorem fl_2_30 : fld 2 30 = some (2, 4) := by decide +kernel
theorem fl_10_207 : fld 10 207 = some (2, 4) := by decide +kernel
theorem fl_1_9 : fld 1 9 = some (1, 0) := by decide +kernel
theorem fl_1_15 : fld 1 15 = some (1, 1) := by decide +kernel
theorem fl_1_23 : fld 1 23 = some (1, 2) := by decide +kernel
theorem fl_10_251 : fld 10 251 = some (1, 2) := by decide +kernel
theorem fl_4_11 : fld 4 11 = some (4, 0) := by decide +kernel
theorem fl_4_15 : fld 4 15 = some (4, 1) := by decide +kernel
theorem fl_4_23 : fld 4 23 = some (4, 2) := by decide +kernel
theorem fl_6_9 : fld 6 9 = some (6, 0) := by decide +kernel
theorem fl_10_346 : fld 10 346 = some (6, 0) := by decide +kernel
theorem fl_6_15 : fld 6 15 = some (6, 1) := by decide +kernel
theorem fl_10_298 : fld 10 298 = some (6, 1) := by decide +kernel
theorem fl_6_19 : fld 6 19 = some (6, 2) := by decide +kernel
theorem fl_10_14 : fld 10 14 = some (10, 0) := by decide +kernel
theorem fl_10_48 : fld 10 48 = some (10, 1) := by decide +kernel
theorem fl_10_52 : fld 10 52 = some (10, 2) := by decide +kernel
theorem fl_10_58 : fld 10 58 = some (10, 3) := by decide +kernel
theorem fl_10_21 : fld 10 21 = some (10, 4) := by decide +kernel
theorem fl_10_65 : fld 10 65 = some (10, 5) := by decide +kernel
theorem fl_10_69 : fld 10 69 = some (10, 6) := by decide +kernel
theorem fl_10_75 : fld 10 75 = some (10, 7) := by decide +kernel
theorem fl_10_28 : fld 10 28 = some (10, 8) := by decide +kernel
theorem fl_10_34 : fld 10 34 = some (10, 9) := by decide +kernel
theorem fl_10_88 : fld 10 88 = some (10, 10) := by decide +kernel
theorem fl_10_311 : fld 10 311 = some (10, 11) := by decide +kernel
theorem fl_11_9 : fld 11 9 = some (11, 0) := by decide +kernel
theorem fl_11_13 : fld 11 13 = some (11, 1) := by decide +kernel
theorem fl_11_286 : fld 11 286 = some (11, 2) := by decide +kernel
theorem fl_11_16 : fld 11 16 = some (11, 3) := by decide +kernel
theorem fl_11_19 : fld 11 19 = some (11, 4) := by decide +kernel
theorem fl_11_22 : fld 11 22 = some (11, 5) := by decide +kernel
theorem fl_11_136 : fld 11 136 = some (11, 6) := by decide +kernel
theorem fl_11_25 : fld 11 25 = some (11, 7) := by decide +kernel
theorem fl_11_70 : fld 11 70 = some (11, 8) := by decide +kernel
theorem fl_11_74 : fld 11 74 = some (11, 9) := by decide +kernel
theorem fl_11_100 : fld 11 100 = some (11, 10) := by decide +kernel
theorem fl_11_77 : fld 11 77 = some (11, 11) := by decide +kernel
theorem fl_11_28 : fld 11 28 = some (11, 12) := by decide +kernel
theorem fl_11_124 : fld 11 124 = some (11, 13) := by decide +kernel
theorem fl_11_127 : fld 11 127 = some (11, 14) := by decide +kernel
theorem fl_11_31 : fld 11 31 = some (11, 15) := by decide +kernel
theorem fl_11_34 : fld 11 34 = some (11, 16) := by decide +kernel
theorem fl_11_37 : fld 11 37 = some (11, 17) := by decide +kernel
theorem fl_11_41 : fld 11 41 = some (11, 18) := by decide +kernel
theorem fl_11_205 : fld 11 205 = some (11, 19) := by decide +kernel
theorem fl_11_208 : fld 11 208 = some (11, 20) := by decide +kernel
theorem fl_11_210 : fld 11 210 = some (11, 21) := by decide +kernel
theorem fl_11_213 : fld 11 213 = some (11, 22) := by decide +kernel
theorem fl_11_216 : fld 11 216 = some (11, 23) := by decide +kernel
theorem fl_11_235 : fld 11 235 = some (11, 24) := by decide +kernel
theorem fl_11_44 : fld 11 44 = some (11, 25) := by decide +kernel
theorem fl_11_47 : fld 11 47 = some (11, 26) := by decide +kernel
theorem fl_11_50 : fld 11 50 = some (11, 27) := by decide +kernel
theorem fl_11_265 : fld 11 265 = some (11, 28) := by decide +kernel
theorem fl_11_274 : fld 11 274 = some (11, 29) := by decide +kernel
theorem fl_11_53 : fld 11 53 = some (11, 30) := by decide +kernel
theorem fl_11_56 : fld 11 56 = some (11, 31) := by decide +kernel
theorem fl_11_59 : fld 11 59 = some (11, 32) := by decide +kernel
theorem fl_11_63 : fld 11 63 = some (11, 33) := by decide +kernel
theorem fl_13_9 : fld 13 9 = some (13, 0) := by decide +kernel
theorem fl_13_15 : fld 13 15 = some (13, 1) := by decide +kernel
theorem ml_12_9 : mth 12 9 = some kX10_init := by decide +kernel
theorem ml_10_5 : mth 10 5 = some 1000 := by decide +kernel
theorem ml_10_13 : mth 10 13 = some kX7_init := by decide +kernel
theorem ml_7_3 : mth 7 3 = some 1000 := by decide +kernel
theorem ml_10_20 : mth 10 20 = some kX9_init := by decide +kernel
theorem ml_9_3 : mth 9 3 = some 1000 := by decide +kernel
theorem ml_10_27 : mth 10 27 = some kX0_init := by decide +kernel
theorem ml_0_3 : mth 0 3 = some 1000 := by decide +kernel
theorem ml_10_40 : mth 10 40 = some kX3_init := by decide +kernel
theorem ml_3_3 : mth 3 3 = some 1000 := by decide +kernel
theorem ml_3_48 : mth 3 48 = some kX10_across := by decide +kernel
theorem ml_3_52 : mth 3 52 = some kX10_moved := by decide +kernel
theorem ml_10_45 : mth 10 45 = some kX5_init := by decide +kernel
theorem ml_5_3 : mth 5 3 = some 1000 := by decide +kernel
theorem ml_5_19 : mth 5 19 = some kX8_init := by decide +kernel
theorem ml_8_3 : mth 8 3 = some 1000 := by decide +kernel
theorem ml_5_31 : mth 5 31 = some kX9_init := by decide +kernel
theorem ml_10_57 : mth 10 57 = some kX2_init := by decide +kernel
theorem ml_2_3 : mth 2 3 = some 1000 := by decide +kernel
theorem ml_10_64 : mth 10 64 = some kX1_init := by decide +kernel
theorem ml_1_3 : mth 1 3 = some 1000 := by decide +kernel
theorem ml_1_20 : mth 1 20 = some kX2_init := by decide +kernel
theorem ml_10_74 : mth 10 74 = some kX4_init := by decide +kernel
theorem ml_4_3 : mth 4 3 = some 1000 := by decide +kernel
theorem ml_4_20 : mth 4 20 = some kX2_init := by decide +kernel
theorem ml_10_79 : mth 10 79 = some kX6_init := by decide +kernel
theorem ml_6_3 : mth 6 3 = some 1000 := by decide +kernel
theorem ml_12_13 : mth 12 13 = some kX10_feed := by decide +kernel
theorem ml_10_80 : mth 10 80 = some kX7_add := by decide +kernel
theorem ml_12_18 : mth 12 18 = some kX10_land := by decide +kernel
theorem ml_10_91 : mth 10 91 = some kX7_parsed := by decide +kernel
theorem ml_7_36 : mth 7 36 = some kJ7_fill_d0a16 := by decide +kernel
theorem ml_7_42 : mth 7 42 = some kX7_clause := by decide +kernel
theorem ml_7_45 : mth 7 45 = some kX7_takes := by decide +kernel
theorem ml_7_56 : mth 7 56 = some kX7_needs := by decide +kernel
theorem ml_7_128 : mth 7 128 = some kJ0_length_8abf5 := by decide +kernel
theorem ml_13_335 : mth 13 335 = some kJ0_coder_7d493 := by decide +kernel
theorem ml_7_132 : mth 7 132 = some kJ0_charAt_5068e := by decide +kernel
theorem ml_13_492 : mth 13 492 = some kJ0_isLatin1_aae02 := by decide +kernel
theorem ml_13_495 : mth 13 495 = some kJ1_charAt_3b067 := by decide +kernel
theorem ml_14_9 : mth 14 9 = some kJ0_checkIndex_df160 := by decide +kernel
theorem ml_13_1059 : mth 13 1059 = some kJ3_checkIndex_8e157 := by decide +kernel
theorem ml_7_60 : mth 7 60 = some kX7_number := by decide +kernel
theorem ml_7_125 : mth 7 125 = some kX7_oneIf := by decide +kernel
theorem ml_7_64 : mth 7 64 = some 1004 := by decide +kernel
theorem ml_7_70 : mth 7 70 = some 1003 := by decide +kernel
theorem ml_7_77 : mth 7 77 = some kX7_either := by decide +kernel
theorem ml_7_87 : mth 7 87 = some kX7_both := by decide +kernel
theorem ml_7_90 : mth 7 90 = some kX7_single := by decide +kernel
theorem ml_7_101 : mth 7 101 = some kX7_oneOf := by decide +kernel
theorem ml_7_107 : mth 7 107 = some kX7_tested := by decide +kernel
theorem ml_7_111 : mth 7 111 = some kX7_measure := by decide +kernel
theorem ml_7_119 : mth 7 119 = some 1002 := by decide +kernel
theorem ml_7_114 : mth 7 114 = some kJ6_compare_7cf53 := by decide +kernel
theorem ml_7_51 : mth 7 51 = some kX3_init := by decide +kernel
theorem ml_12_23 : mth 12 23 = some kX10_told := by decide +kernel
theorem ml_12_27 : mth 12 27 = some kX10_ground := by decide +kernel
theorem ml_10_108 : mth 10 108 = some kX10_isCell := by decide +kernel
theorem ml_10_111 : mth 10 111 = some kX3_marked := by decide +kernel
theorem ml_10_115 : mth 10 115 = some kX10_holds := by decide +kernel
theorem ml_12_32 : mth 12 32 = some kX10_walker := by decide +kernel
theorem ml_10_119 : mth 10 119 = some kX10_isKind := by decide +kernel
theorem ml_10_122 : mth 10 122 = some kX10_isWay := by decide +kernel
theorem ml_10_125 : mth 10 125 = some kX10_isNumber := by decide +kernel
theorem ml_10_132 : mth 10 132 = some kX5_added := by decide +kernel
theorem ml_5_36 : mth 5 36 = some kX5_who := by decide +kernel
theorem ml_10_145 : mth 10 145 = some kX9_stands := by decide +kernel
theorem ml_12_37 : mth 12 37 = some kX10_of := by decide +kernel
theorem ml_10_152 : mth 10 152 = some kX5_who := by decide +kernel
theorem ml_10_165 : mth 10 165 = some kX3_beat := by decide +kernel
theorem ml_3_56 : mth 3 56 = some kX3_rhythm := by decide +kernel
theorem ml_10_171 : mth 10 171 = some kX10_next := by decide +kernel
theorem ml_12_41 : mth 12 41 = some kX10_put := by decide +kernel
theorem ml_12_45 : mth 12 45 = some kX10_may := by decide +kernel
theorem ml_10_175 : mth 10 175 = some kX10_allowed := by decide +kernel
theorem ml_10_186 : mth 10 186 = some kX2_become := by decide +kernel
theorem ml_2_22 : mth 2 22 = some kX3_beat := by decide +kernel
theorem ml_10_190 : mth 10 190 = some kX2_steps := by decide +kernel
theorem ml_2_33 : mth 2 33 = some kX2_starts := by decide +kernel
theorem ml_2_41 : mth 2 41 = some kX2_rests := by decide +kernel
theorem ml_2_53 : mth 2 53 = some kX2_isOn := by decide +kernel
theorem ml_2_47 : mth 2 47 = some kX2_leaves := by decide +kernel
theorem ml_2_56 : mth 2 56 = some kX2_way := by decide +kernel
theorem ml_2_67 : mth 2 67 = some kX2_isRound := by decide +kernel
theorem ml_2_70 : mth 2 70 = some kX10_across := by decide +kernel
theorem ml_2_60 : mth 2 60 = some kX3_backward := by decide +kernel
theorem ml_2_64 : mth 2 64 = some kX2_ons := by decide +kernel
theorem ml_2_76 : mth 2 76 = some kX3_onward := by decide +kernel
theorem ml_2_37 : mth 2 37 = some kX10_holds := by decide +kernel
theorem ml_12_49 : mth 12 49 = some kX10_step := by decide +kernel
theorem ml_10_179 : mth 10 179 = some kX10_isStep := by decide +kernel
theorem ml_10_182 : mth 10 182 = some kX10_goes := by decide +kernel
theorem ml_10_194 : mth 10 194 = some kX2_way := by decide +kernel
theorem ml_10_197 : mth 10 197 = some kX10_cameBy := by decide +kernel
theorem ml_10_360 : mth 10 360 = some kX10_across := by decide +kernel
theorem ml_10_200 : mth 10 200 = some kX10_facingBy := by decide +kernel
theorem ml_10_203 : mth 10 203 = some kX2_tick := by decide +kernel
theorem ml_12_53 : mth 12 53 = some kX10_soonest := by decide +kernel
theorem ml_10_208 : mth 10 208 = some kX10_isPart := by decide +kernel
theorem ml_10_211 : mth 10 211 = some kX1_alone := by decide +kernel
theorem ml_1_39 : mth 1 39 = some kX1_alone_ := by decide +kernel
theorem ml_1_46 : mth 1 46 = some kX2_become := by decide +kernel
theorem ml_1_50 : mth 1 50 = some kJ7_fill_d0a16 := by decide +kernel
theorem ml_1_65 : mth 1 65 = some kX1_join := by decide +kernel
theorem ml_10_215 : mth 10 215 = some kX1_beatsTo := by decide +kernel
theorem ml_1_99 : mth 1 99 = some kX1_cells := by decide +kernel
theorem ml_1_103 : mth 1 103 = some kX10_holds := by decide +kernel
theorem ml_1_107 : mth 1 107 = some kX1_advance := by decide +kernel
theorem ml_1_69 : mth 1 69 = some kX1_spread := by decide +kernel
theorem ml_1_76 : mth 1 76 = some kX1_among := by decide +kernel
theorem ml_1_80 : mth 1 80 = some kX2_starts := by decide +kernel
theorem ml_1_84 : mth 1 84 = some kX2_way := by decide +kernel
theorem ml_1_88 : mth 1 88 = some kX10_facingBy := by decide +kernel
theorem ml_1_92 : mth 1 92 = some kX10_cameBy := by decide +kernel
theorem ml_1_95 : mth 1 95 = some kX10_moved := by decide +kernel
theorem ml_1_73 : mth 1 73 = some kX2_tick := by decide +kernel
theorem ml_10_218 : mth 10 218 = some kX10_firstStep := by decide +kernel
theorem ml_10_222 : mth 10 222 = some kX1_advance := by decide +kernel
theorem ml_10_226 : mth 10 226 = some kX1_cells := by decide +kernel
theorem ml_12_58 : mth 12 58 = some kX10_begin := by decide +kernel
theorem ml_10_230 : mth 10 230 = some kX3_rhythm := by decide +kernel
theorem ml_10_234 : mth 10 234 = some kX1_alone_ := by decide +kernel
theorem ml_12_62 : mth 12 62 = some kX10_reached := by decide +kernel
theorem ml_10_239 : mth 10 239 = some kX10_within := by decide +kernel
theorem ml_12_67 : mth 12 67 = some kX10_never := by decide +kernel
theorem ml_12_72 : mth 12 72 = some kX10_meet := by decide +kernel
theorem ml_10_247 : mth 10 247 = some kJ13_numberOfTrailingZeros_95d88 := by decide +kernel
theorem ml_17_311 : mth 17 311 = some kJ6_numberOfTrailingZeros_0f7a4 := by decide +kernel
theorem ml_12_76 : mth 12 76 = some kX10_home := by decide +kernel
theorem ml_10_252 : mth 10 252 = some kX1_facing := by decide +kernel
theorem ml_12_80 : mth 12 80 = some kX10_row := by decide +kernel
theorem ml_10_258 : mth 10 258 = some kX8_tell := by decide +kernel
theorem ml_12_84 : mth 12 84 = some kX10_hand := by decide +kernel
theorem ml_10_263 : mth 10 263 = some kX9_become := by decide +kernel
theorem ml_10_267 : mth 10 267 = some kX8_at := by decide +kernel
theorem ml_12_88 : mth 12 88 = some kX10_track := by decide +kernel
theorem ml_12_92 : mth 12 92 = some kX10_tracks := by decide +kernel
theorem ml_10_272 : mth 10 272 = some kX10_left := by decide +kernel
theorem ml_10_276 : mth 10 276 = some kX1_around := by decide +kernel
theorem ml_10_279 : mth 10 279 = some kX1_keep := by decide +kernel
theorem ml_12_96 : mth 12 96 = some kX10_lot := by decide +kernel
theorem ml_10_282 : mth 10 282 = some kX4_alone := by decide +kernel
theorem ml_4_42 : mth 4 42 = some kX2_become := by decide +kernel
theorem ml_4_46 : mth 4 46 = some kJ7_fill_d0a16 := by decide +kernel
theorem ml_4_61 : mth 4 61 = some kX4_join := by decide +kernel
theorem ml_10_283 : mth 10 283 = some kX4_advance := by decide +kernel
theorem ml_4_65 : mth 4 65 = some kX4_part := by decide +kernel
theorem ml_4_72 : mth 4 72 = some kX2_steps := by decide +kernel
theorem ml_4_76 : mth 4 76 = some kJ6_bitCount_0f7a4 := by decide +kernel
theorem ml_4_82 : mth 4 82 = some kX2_way := by decide +kernel
theorem ml_4_85 : mth 4 85 = some kX10_next := by decide +kernel
theorem ml_4_89 : mth 4 89 = some kX10_facingBy := by decide +kernel
theorem ml_4_92 : mth 4 92 = some kX10_cameBy := by decide +kernel
theorem ml_4_69 : mth 4 69 = some kX2_tick := by decide +kernel
theorem ml_10_287 : mth 10 287 = some kX4_shares := by decide +kernel
theorem ml_10_290 : mth 10 290 = some kX10_common := by decide +kernel
theorem ml_12_101 : mth 12 101 = some kX10_slower := by decide +kernel
theorem ml_12_105 : mth 12 105 = some kX10_judge := by decide +kernel
theorem ml_10_294 : mth 10 294 = some kX10_tapeAt := by decide +kernel
theorem ml_10_301 : mth 10 301 = some kX6_has := by decide +kernel
theorem ml_10_305 : mth 10 305 = some kX6_value := by decide +kernel
theorem ml_12_109 : mth 12 109 = some kX10_image := by decide +kernel
theorem ml_10_308 : mth 10 308 = some kX5_become := by decide +kernel
theorem ml_5_40 : mth 5 40 = some kX8_become := by decide +kernel
theorem ml_8_19 : mth 8 19 = some 1001 := by decide +kernel
theorem ml_5_44 : mth 5 44 = some kX9_become := by decide +kernel
theorem ml_12_113 : mth 12 113 = some kX10_undo := by decide +kernel
theorem ml_12_117 : mth 12 117 = some kX10_act := by decide +kernel
theorem ml_10_318 : mth 10 318 = some kX0_become := by decide +kernel
theorem ml_10_320 : mth 10 320 = some kX0_steps := by decide +kernel
theorem ml_0_25 : mth 0 25 = some kX0_begins := by decide +kernel
theorem ml_0_29 : mth 0 29 = some kX0_plainSteps := by decide +kernel
theorem ml_10_322 : mth 10 322 = some kX0_turns := by decide +kernel
theorem ml_0_33 : mth 0 33 = some kX0_plainTurns := by decide +kernel
theorem ml_0_42 : mth 0 42 = some kX0_steps := by decide +kernel
theorem ml_10_325 : mth 10 325 = some kX0_tells := by decide +kernel
theorem ml_0_36 : mth 0 36 = some kX0_plainTells := by decide +kernel
theorem ml_0_39 : mth 0 39 = some kX0_turns := by decide +kernel
theorem ml_12_121 : mth 12 121 = some kX10_trace := by decide +kernel
theorem ml_12_125 : mth 12 125 = some kX10_taken := by decide +kernel
theorem ml_10_332 : mth 10 332 = some kX10_isUnder := by decide +kernel
theorem ml_10_363 : mth 10 363 = some kX10_above := by decide +kernel
theorem ml_12_129 : mth 12 129 = some kX10_count := by decide +kernel
theorem ml_12_133 : mth 12 133 = some kX10_tape := by decide +kernel
theorem ml_10_336 : mth 10 336 = some kX6_become := by decide +kernel
theorem ml_6_22 : mth 6 22 = some kJ7_fill_d0a16 := by decide +kernel
theorem ml_12_139 : mth 12 139 = some kX10_item := by decide +kernel
theorem ml_10_339 : mth 10 339 = some kX6_write := by decide +kernel
theorem ml_6_28 : mth 6 28 = some kX6_cut := by decide +kernel
theorem ml_12_144 : mth 12 144 = some kX10_read := by decide +kernel
theorem ml_12_148 : mth 12 148 = some kX10_shift := by decide +kernel
theorem ml_10_343 : mth 10 343 = some kX6_reaches := by decide +kernel
theorem ml_10_350 : mth 10 350 = some 1001 := by decide +kernel
theorem ml_12_12 : mth 12 12 = some kX11_init := by decide +kernel
theorem ml_11_3 : mth 11 3 = some 1000 := by decide +kernel
theorem ml_12_17 : mth 12 17 = some kX11_feed := by decide +kernel
theorem ml_12_22 : mth 12 22 = some kX11_land := by decide +kernel
theorem ml_11_139 : mth 11 139 = some kX11_reads := by decide +kernel
theorem ml_11_133 : mth 11 133 = some kX11_clause := by decide +kernel
theorem ml_11_81 : mth 11 81 = some kX11_here := by decide +kernel
theorem ml_11_120 : mth 11 120 = some kX11_word := by decide +kernel
theorem ml_11_113 : mth 11 113 = some kX11_takes := by decide +kernel
theorem ml_11_89 : mth 11 89 = some kX11_number := by decide +kernel
theorem ml_11_130 : mth 11 130 = some kX11_marksBy := by decide +kernel
theorem ml_11_110 : mth 11 110 = some kX11_either := by decide +kernel
theorem ml_11_117 : mth 11 117 = some kX11_term := by decide +kernel
theorem ml_11_105 : mth 11 105 = some kX11_factor := by decide +kernel
theorem ml_11_96 : mth 11 96 = some kX11_test := by decide +kernel
theorem ml_11_92 : mth 11 92 = some kX11_valueOf := by decide +kernel
theorem ml_11_85 : mth 11 85 = some kX11_amount := by decide +kernel
theorem ml_11_142 : mth 11 142 = some kX11_held := by decide +kernel
theorem ml_12_26 : mth 12 26 = some kX11_told := by decide +kernel
theorem ml_11_145 : mth 11 145 = some kX11_onBeats := by decide +kernel
theorem ml_11_148 : mth 11 148 = some kX11_beats := by decide +kernel
theorem ml_12_31 : mth 12 31 = some kX11_ground := by decide +kernel
theorem ml_11_151 : mth 11 151 = some kX11_isCell := by decide +kernel
theorem ml_11_66 : mth 11 66 = some kX11_isIn := by decide +kernel
theorem ml_11_155 : mth 11 155 = some kX11_isMarked := by decide +kernel
theorem ml_12_36 : mth 12 36 = some kX11_walker := by decide +kernel
theorem ml_11_158 : mth 11 158 = some kX11_puts := by decide +kernel
theorem ml_12_40 : mth 12 40 = some kX11_of := by decide +kernel
theorem ml_11_165 : mth 11 165 = some kX11_isWalker := by decide +kernel
theorem ml_11_168 : mth 11 168 = some kX11_beatOf := by decide +kernel
theorem ml_11_162 : mth 11 162 = some kX11_get := by decide +kernel
theorem ml_12_44 : mth 12 44 = some kX11_put := by decide +kernel
theorem ml_12_48 : mth 12 48 = some kX11_may := by decide +kernel
theorem ml_11_194 : mth 11 194 = some kX11_mayNow := by decide +kernel
theorem ml_11_190 : mth 11 190 = some kX11_mayBy := by decide +kernel
theorem ml_11_182 : mth 11 182 = some kX11_mayOn := by decide +kernel
theorem ml_11_178 : mth 11 178 = some kX11_goesOn := by decide +kernel
theorem ml_11_171 : mth 11 171 = some kX11_beside := by decide +kernel
theorem ml_11_186 : mth 11 186 = some kX11_goesBack := by decide +kernel
theorem ml_11_174 : mth 11 174 = some kX11_backTo := by decide +kernel
theorem ml_12_52 : mth 12 52 = some kX11_step := by decide +kernel
theorem ml_11_197 : mth 11 197 = some kX11_steps := by decide +kernel
theorem ml_12_57 : mth 12 57 = some kX11_soonest := by decide +kernel
theorem ml_11_238 : mth 11 238 = some kX11_beginsAs := by decide +kernel
theorem ml_11_219 : mth 11 219 = some kX11_begins := by decide +kernel
theorem ml_11_201 : mth 11 201 = some kX11_stateOf := by decide +kernel
theorem ml_11_241 : mth 11 241 = some kX11_soonestTo := by decide +kernel
theorem ml_11_229 : mth 11 229 = some kX11_goesBeat := by decide +kernel
theorem ml_11_223 : mth 11 223 = some kX11_comesTo := by decide +kernel
theorem ml_11_226 : mth 11 226 = some kX11_bits := by decide +kernel
theorem ml_11_232 : mth 11 232 = some kX11_firstTo := by decide +kernel
theorem ml_12_61 : mth 12 61 = some kX11_begin := by decide +kernel
theorem ml_12_66 : mth 12 66 = some kX11_reached := by decide +kernel
theorem ml_11_247 : mth 11 247 = some kX11_within := by decide +kernel
theorem ml_11_244 : mth 11 244 = some kX11_cellsNow := by decide +kernel
theorem ml_12_71 : mth 12 71 = some kX11_never := by decide +kernel
theorem ml_12_75 : mth 12 75 = some kX11_meet := by decide +kernel
theorem ml_12_79 : mth 12 79 = some kX11_home := by decide +kernel
theorem ml_12_83 : mth 12 83 = some kX11_row := by decide +kernel
theorem ml_12_87 : mth 12 87 = some kX11_hand := by decide +kernel
theorem ml_12_91 : mth 12 91 = some kX11_track := by decide +kernel
theorem ml_12_95 : mth 12 95 = some kX11_tracks := by decide +kernel
theorem ml_11_253 : mth 11 253 = some kX11_mightHave := by decide +kernel
theorem ml_12_100 : mth 12 100 = some kX11_lot := by decide +kernel
theorem ml_11_256 : mth 11 256 = some kX11_common := by decide +kernel
theorem ml_12_104 : mth 12 104 = some kX11_slower := by decide +kernel
theorem ml_11_262 : mth 11 262 = some kX11_soonestBy := by decide +kernel
theorem ml_12_120 : mth 12 120 = some kX11_act := by decide +kernel
theorem ml_11_283 : mth 11 283 = some kX11_acts := by decide +kernel
theorem ml_11_280 : mth 11 280 = some kX11_bodyOf := by decide +kernel
theorem ml_11_268 : mth 11 268 = some kX11_hasBody := by decide +kernel
theorem ml_11_271 : mth 11 271 = some kX11_above := by decide +kernel
theorem ml_11_277 : mth 11 277 = some kX11_runs := by decide +kernel
theorem ml_12_124 : mth 12 124 = some kX11_trace := by decide +kernel
theorem ml_12_128 : mth 12 128 = some kX11_taken := by decide +kernel
theorem ml_12_108 : mth 12 108 = some kX11_judge := by decide +kernel
theorem ml_12_112 : mth 12 112 = some kX11_image := by decide +kernel
theorem ml_12_116 : mth 12 116 = some kX11_undo := by decide +kernel
theorem ml_12_132 : mth 12 132 = some kX11_count := by decide +kernel
theorem ml_12_136 : mth 12 136 = some kX11_tape := by decide +kernel
theorem ml_12_143 : mth 12 143 = some kX11_item := by decide +kernel
theorem ml_12_147 : mth 12 147 = some kX11_read := by decide +kernel
theorem ml_12_152 : mth 12 152 = some kX11_shift := by decide +kernel
theorem cl_12_7 : cls 12 7 = some 10 := by decide +kernel
theorem cl_10_11 : cls 10 11 = some 7 := by decide +kernel
theorem cl_10_18 : cls 10 18 = some 9 := by decide +kernel
theorem cl_10_25 : cls 10 25 = some 0 := by decide +kernel
theorem cl_10_32 : cls 10 32 = some 6 := by decide +kernel
theorem cl_10_38 : cls 10 38 = some 3 := by decide +kernel
theorem cl_10_43 : cls 10 43 = some 5 := by decide +kernel
theorem cl_5_9 : cls 5 9 = some 9 := by decide +kernel
theorem cl_5_17 : cls 5 17 = some 8 := by decide +kernel
theorem cl_10_55 : cls 10 55 = some 2 := by decide +kernel
theorem cl_10_62 : cls 10 62 = some 1 := by decide +kernel
theorem cl_1_18 : cls 1 18 = some 2 := by decide +kernel
theorem cl_10_72 : cls 10 72 = some 4 := by decide +kernel
theorem cl_4_18 : cls 4 18 = some 2 := by decide +kernel
theorem cl_7_49 : cls 7 49 = some 3 := by decide +kernel
theorem cl_12_10 : cls 12 10 = some 11 := by decide +kernel
theorem lg_3_38 : lng 3 38 = some (68719476735) := by decide +kernel
theorem lg_3_40 : lng 3 40 = some (-1) := by decide +kernel
theorem lg_10_356 : lng 10 356 = some (-34905131041) := by decide +kernel
theorem lg_10_243 : lng 10 243 = some (68719476735) := by decide +kernel
theorem lg_10_358 : lng 10 358 = some (-1090785346) := by decide +kernel
theorem lg_7_93 : lng 7 93 = some (68719476735) := by decide +kernel
theorem lg_7_95 : lng 7 95 = some (-1) := by decide +kernel
theorem lg_2_45 : lng 2 45 = some (68719476735) := by decide +kernel
theorem lg_2_51 : lng 2 51 = some (-1) := by decide +kernel
theorem lg_10_237 : lng 10 237 = some (-9223372036854775808) := by decide +kernel
theorem lg_10_245 : lng 10 245 = some (-1) := by decide +kernel
theorem lg_10_285 : lng 10 285 = some (12) := by decide +kernel
theorem lg_11_103 : lng 11 103 = some (68719476735) := by decide +kernel
theorem lg_11_108 : lng 11 108 = some (-1) := by decide +kernel
theorem lg_11_251 : lng 11 251 = some (-9223372036854775808) := by decide +kernel
theorem lg_11_260 : lng 11 260 = some (60) := by decide +kernel
theorem lg_12_137 : lng 12 137 = some (4294967295) := by decide +kernel
theorem cs_16_264 : cst 16 264 = some (65536) := by decide +kernel
theorem cs_16_265 : cst 16 265 = some (1431655765) := by decide +kernel
theorem cs_16_266 : cst 16 266 = some (858993459) := by decide +kernel
theorem cs_16_267 : cst 16 267 = some (252645135) := by decide +kernel
theorem sr_7_54 : str_ 7 54 = some 1 := by decide +kernel
theorem sr_7_123 : str_ 7 123 = some 2 := by decide +kernel
theorem sr_7_73 : str_ 7 73 = some 3 := by decide +kernel
theorem sr_7_75 : str_ 7 75 = some 4 := by decide +kernel
theorem sr_7_97 : str_ 7 97 = some 5 := by decide +kernel
theorem sr_7_99 : str_ 7 99 = some 6 := by decide +kernel
theorem sr_7_105 : str_ 7 105 = some 7 := by decide +kernel
theorem sr_7_81 : str_ 7 81 = some 8 := by decide +kernel
theorem sr_7_83 : str_ 7 83 = some 9 := by decide +kernel
theorem sr_7_85 : str_ 7 85 = some 10 := by decide +kernel
theorem sc_13_38 : stc 13 38 = some (.int 1) := rfl
theorem sc_13_1053 : stc 13 1053 = some (.retAddr 1) := rfl

