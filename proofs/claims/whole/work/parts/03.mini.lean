/-! ===== the small machine: values as the machine has them; cells are numbered: 0 the script, then the String constants, their bytes, then what the law makes, in its order ===== -/
abbrev MM : Type := (Nat → Nat → Int32) × (Nat → Nat → Int64) × (Nat → Nat → Option Nat) × Nat
def mI (M : MM) (a k : Nat) : Int32 := M.1 a k
def mL (M : MM) (a k : Nat) : Int64 := M.2.1 a k
def mR (M : MM) (a k : Nat) : Option Nat := M.2.2.1 a k
def mN (M : MM) : Nat := M.2.2.2
def up2 {α : Type} (f : Nat → Nat → α) (a k : Nat) (v : α) : Nat → Nat → α := fun b j => if b = a ∧ j = k then v else f b j
def row0 {α : Type} (f : Nat → Nat → α) (a : Nat) (v : α) : Nat → Nat → α := fun b j => if b = a then v else f b j
def cp2 {α : Type} (f : Nat → Nat → α) (a i b j n : Nat) : Nat → Nat → α := fun c x => if c = b ∧ j ≤ x ∧ x < j + n then f a (i + (x - j)) else f c x
def sI (M : MM) (a k : Nat) (v : Int32) : MM := (up2 M.1 a k v, M.2.1, M.2.2.1, M.2.2.2)
def sL (M : MM) (a k : Nat) (v : Int64) : MM := (M.1, up2 M.2.1 a k v, M.2.2.1, M.2.2.2)
def sR (M : MM) (a k : Nat) (v : Option Nat) : MM := (M.1, M.2.1, up2 M.2.2.1 a k v, M.2.2.2)
def cI (M : MM) (a i b j n : Nat) : MM := (cp2 M.1 a i b j n, M.2.1, M.2.2.1, M.2.2.2)
def cL (M : MM) (a i b j n : Nat) : MM := (M.1, cp2 M.2.1 a i b j n, M.2.2.1, M.2.2.2)
def nw (M : MM) : MM := (row0 M.1 M.2.2.2 0, row0 M.2.1 M.2.2.2 0, row0 M.2.2.1 M.2.2.2 none, M.2.2.2 + 1)
def rf : Option Nat → Value
  | none => .null
  | some a => .ref a
def dm : Value := .retAddr 0
def lay0 : List (Nat × Nat) := [(99, 0), (13, 0), (13, 0), (13, 0), (13, 0), (13, 0), (13, 0), (13, 0), (13, 0), (13, 0), (13, 0), (31, 2), (31, 10), (31, 4), (31, 4), (31, 1)]
def lay1 : List (Nat × Nat) := [(31, 5), (31, 3), (31, 5), (31, 4), (31, 6), (10, 0), (7, 0), (22, 100), (21, 4), (9, 0), (0, 0), (20, 20), (25, 6), (3, 0), (21, 4), (21, 4)]
def lay2 : List (Nat × Nat) := [(21, 4), (5, 0), (24, 6), (8, 0), (20, 12), (8, 0), (20, 12), (9, 0), (9, 0), (9, 0), (9, 0), (9, 0), (9, 0), (5, 0), (24, 6), (8, 0)]
def lay3 : List (Nat × Nat) := [(20, 12), (8, 0), (20, 12), (9, 0), (9, 0), (9, 0), (9, 0), (9, 0), (9, 0), (2, 0), (1, 0), (21, 20), (21, 20), (2, 0), (1, 0), (21, 20)]
def lay4 : List (Nat × Nat) := [(21, 20), (2, 0), (4, 0), (21, 720), (21, 720), (2, 0), (6, 0), (21, 60), (6, 0), (21, 60), (6, 0), (21, 60), (6, 0), (21, 60), (6, 0), (21, 60)]
def lay5 : List (Nat × Nat) := [(6, 0), (21, 60), (11, 0), (20, 70), (20, 70), (20, 6), (20, 6), (20, 216), (20, 100), (20, 36), (20, 5184), (20, 5184), (21, 5184), (21, 5184), (21, 41), (20, 7)]
def lay6 : List (Nat × Nat) := [(20, 20), (20, 6), (20, 6), (23, 6), (21, 360)]
def layL : List (Nat × Nat) := lay0 ++ (lay1 ++ (lay2 ++ (lay3 ++ (lay4 ++ (lay5 ++ (lay6))))))
/-- cells 0 .. 100 stand from the law's start on; then three cells a LAND, six times at most -/
def TY (a : Nat) : Nat × Nat := if a < 101 then layL.getD a (99, 0) else if a < 119 then (if (a - 101) % 3 = 0 then (3, 0) else (21, 4)) else (99, 0)
abbrev MR : Type := MethodName × ByteArray × Nat × Option FieldType × Nat × Bool × Nat
abbrev kJ0_coder_7d493 : Nat := 0
abbrev kJ0_length_8abf5 : Nat := 1
abbrev kJ0_isLatin1_aae02 : Nat := 2
abbrev kJ0_checkIndex_df160 : Nat := 3
abbrev kJ0_charAt_5068e : Nat := 4
abbrev kJ1_charAt_3b067 : Nat := 5
abbrev kJ3_checkIndex_8e157 : Nat := 6
abbrev kJ6_bitCount_0f7a4 : Nat := 7
abbrev kJ6_compare_7cf53 : Nat := 8
abbrev kJ6_numberOfTrailingZeros_0f7a4 : Nat := 9
abbrev kJ7_fill_d0a16 : Nat := 10
abbrev kJ13_numberOfTrailingZeros_95d88 : Nat := 11
abbrev kX0_init : Nat := 12
abbrev kX0_become : Nat := 13
abbrev kX0_begins : Nat := 14
abbrev kX0_plainSteps : Nat := 15
abbrev kX0_steps : Nat := 16
abbrev kX0_plainTurns : Nat := 17
abbrev kX0_turns : Nat := 18
abbrev kX0_plainTells : Nat := 19
abbrev kX0_tells : Nat := 20
abbrev kX1_init : Nat := 21
abbrev kX1_join : Nat := 22
abbrev kX1_alone_ : Nat := 23
abbrev kX1_alone : Nat := 24
abbrev kX1_around : Nat := 25
abbrev kX1_among : Nat := 26
abbrev kX1_spread : Nat := 27
abbrev kX1_advance : Nat := 28
abbrev kX1_keep : Nat := 29
abbrev kX1_cells : Nat := 30
abbrev kX1_facing : Nat := 31
abbrev kX1_beatsTo : Nat := 32
abbrev kX2_init : Nat := 33
abbrev kX2_become : Nat := 34
abbrev kX2_isOn : Nat := 35
abbrev kX2_rests : Nat := 36
abbrev kX2_isRound : Nat := 37
abbrev kX2_way : Nat := 38
abbrev kX2_ons : Nat := 39
abbrev kX2_leaves : Nat := 40
abbrev kX2_starts : Nat := 41
abbrev kX2_tick : Nat := 42
abbrev kX2_steps : Nat := 43
abbrev kX3_rhythm : Nat := 44
abbrev kX3_beat : Nat := 45
abbrev kX3_backward : Nat := 46
abbrev kX3_onward : Nat := 47
abbrev kX3_init : Nat := 48
abbrev kX3_marked : Nat := 49
abbrev kX4_init : Nat := 50
abbrev kX4_join : Nat := 51
abbrev kX4_alone : Nat := 52
abbrev kX4_part : Nat := 53
abbrev kX4_advance : Nat := 54
abbrev kX4_shares : Nat := 55
abbrev kX5_init : Nat := 56
abbrev kX5_who : Nat := 57
abbrev kX5_added : Nat := 58
abbrev kX5_become : Nat := 59
abbrev kX6_init : Nat := 60
abbrev kX6_become : Nat := 61
abbrev kX6_has : Nat := 62
abbrev kX6_reaches : Nat := 63
abbrev kX6_value : Nat := 64
abbrev kX6_cut : Nat := 65
abbrev kX6_write : Nat := 66
abbrev kX7_init : Nat := 67
abbrev kX7_add : Nat := 68
abbrev kX7_takes : Nat := 69
abbrev kX7_needs : Nat := 70
abbrev kX7_oneIf : Nat := 71
abbrev kX7_number : Nat := 72
abbrev kX7_oneOf : Nat := 73
abbrev kX7_measure : Nat := 74
abbrev kX7_tested : Nat := 75
abbrev kX7_both : Nat := 76
abbrev kX7_either : Nat := 77
abbrev kX7_single : Nat := 78
abbrev kX7_clause : Nat := 79
abbrev kX7_parsed : Nat := 80
abbrev kX8_init : Nat := 81
abbrev kX8_become : Nat := 82
abbrev kX8_at : Nat := 83
abbrev kX8_tell : Nat := 84
abbrev kX9_init : Nat := 85
abbrev kX9_become : Nat := 86
abbrev kX9_stands : Nat := 87
abbrev kX10_across : Nat := 88
abbrev kX10_facingBy : Nat := 89
abbrev kX10_cameBy : Nat := 90
abbrev kX10_moved : Nat := 91
abbrev kX10_holds : Nat := 92
abbrev kX10_next : Nat := 93
abbrev kX10_init : Nat := 94
abbrev kX10_feed : Nat := 95
abbrev kX10_land : Nat := 96
abbrev kX10_told : Nat := 97
abbrev kX10_isCell : Nat := 98
abbrev kX10_ground : Nat := 99
abbrev kX10_isKind : Nat := 100
abbrev kX10_isWay : Nat := 101
abbrev kX10_isNumber : Nat := 102
abbrev kX10_walker : Nat := 103
abbrev kX10_of : Nat := 104
abbrev kX10_put : Nat := 105
abbrev kX10_allowed : Nat := 106
abbrev kX10_may : Nat := 107
abbrev kX10_isStep : Nat := 108
abbrev kX10_goes : Nat := 109
abbrev kX10_step : Nat := 110
abbrev kX10_isPart : Nat := 111
abbrev kX10_firstStep : Nat := 112
abbrev kX10_soonest : Nat := 113
abbrev kX10_begin : Nat := 114
abbrev kX10_within : Nat := 115
abbrev kX10_reached : Nat := 116
abbrev kX10_never : Nat := 117
abbrev kX10_meet : Nat := 118
abbrev kX10_home : Nat := 119
abbrev kX10_row : Nat := 120
abbrev kX10_hand : Nat := 121
abbrev kX10_track : Nat := 122
abbrev kX10_left : Nat := 123
abbrev kX10_tracks : Nat := 124
abbrev kX10_common : Nat := 125
abbrev kX10_lot : Nat := 126
abbrev kX10_slower : Nat := 127
abbrev kX10_tapeAt : Nat := 128
abbrev kX10_judge : Nat := 129
abbrev kX10_image : Nat := 130
abbrev kX10_undo : Nat := 131
abbrev kX10_act : Nat := 132
abbrev kX10_trace : Nat := 133
abbrev kX10_above : Nat := 134
abbrev kX10_isUnder : Nat := 135
abbrev kX10_taken : Nat := 136
abbrev kX10_count : Nat := 137
abbrev kX10_tape : Nat := 138
abbrev kX10_item : Nat := 139
abbrev kX10_read : Nat := 140
abbrev kX10_shift : Nat := 141
abbrev kX11_init : Nat := 142
abbrev kX11_isIn : Nat := 143
abbrev kX11_isWalker : Nat := 144
abbrev kX11_isCell : Nat := 145
abbrev kX11_get : Nat := 146
abbrev kX11_puts : Nat := 147
abbrev kX11_feed : Nat := 148
abbrev kX11_here : Nat := 149
abbrev kX11_takes : Nat := 150
abbrev kX11_number : Nat := 151
abbrev kX11_amount : Nat := 152
abbrev kX11_valueOf : Nat := 153
abbrev kX11_test : Nat := 154
abbrev kX11_either : Nat := 155
abbrev kX11_factor : Nat := 156
abbrev kX11_term : Nat := 157
abbrev kX11_word : Nat := 158
abbrev kX11_marksBy : Nat := 159
abbrev kX11_clause : Nat := 160
abbrev kX11_held : Nat := 161
abbrev kX11_reads : Nat := 162
abbrev kX11_land : Nat := 163
abbrev kX11_onBeats : Nat := 164
abbrev kX11_beats : Nat := 165
abbrev kX11_told : Nat := 166
abbrev kX11_isMarked : Nat := 167
abbrev kX11_ground : Nat := 168
abbrev kX11_walker : Nat := 169
abbrev kX11_beatOf : Nat := 170
abbrev kX11_of : Nat := 171
abbrev kX11_put : Nat := 172
abbrev kX11_beside : Nat := 173
abbrev kX11_goesOn : Nat := 174
abbrev kX11_backTo : Nat := 175
abbrev kX11_goesBack : Nat := 176
abbrev kX11_mayOn : Nat := 177
abbrev kX11_mayBy : Nat := 178
abbrev kX11_mayNow : Nat := 179
abbrev kX11_may : Nat := 180
abbrev kX11_steps : Nat := 181
abbrev kX11_step : Nat := 182
abbrev kX11_stateOf : Nat := 183
abbrev kX11_comesTo : Nat := 184
abbrev kX11_begins : Nat := 185
abbrev kX11_beginsAs : Nat := 186
abbrev kX11_bits : Nat := 187
abbrev kX11_goesBeat : Nat := 188
abbrev kX11_cellsNow : Nat := 189
abbrev kX11_firstTo : Nat := 190
abbrev kX11_soonestTo : Nat := 191
abbrev kX11_soonest : Nat := 192
abbrev kX11_begin : Nat := 193
abbrev kX11_within : Nat := 194
abbrev kX11_reached : Nat := 195
abbrev kX11_never : Nat := 196
abbrev kX11_meet : Nat := 197
abbrev kX11_home : Nat := 198
abbrev kX11_row : Nat := 199
abbrev kX11_hand : Nat := 200
abbrev kX11_track : Nat := 201
abbrev kX11_mightHave : Nat := 202
abbrev kX11_tracks : Nat := 203
abbrev kX11_common : Nat := 204
abbrev kX11_lot : Nat := 205
abbrev kX11_soonestBy : Nat := 206
abbrev kX11_slower : Nat := 207
abbrev kX11_above : Nat := 208
abbrev kX11_runs : Nat := 209
abbrev kX11_hasBody : Nat := 210
abbrev kX11_acts : Nat := 211
abbrev kX11_bodyOf : Nat := 212
abbrev kX11_act : Nat := 213
abbrev kX11_trace : Nat := 214
abbrev kX11_taken : Nat := 215
abbrev kX11_judge : Nat := 216
abbrev kX11_image : Nat := 217
abbrev kX11_undo : Nat := 218
abbrev kX11_count : Nat := 219
abbrev kX11_tape : Nat := 220
abbrev kX11_item : Nat := 221
abbrev kX11_read : Nat := 222
abbrev kX11_shift : Nat := 223
abbrev kL_law : Nat := 224
def mt0 : List MR := [(yJ0_coder_7d493, cJ0_coder_7d493, 1, (some .byte), 13, false, 1),
  (yJ0_length_8abf5, cJ0_length_8abf5, 1, (some .int), 13, false, 1),
  (yJ0_isLatin1_aae02, cJ0_isLatin1_aae02, 1, (some .boolean), 13, false, 1),
  (yJ0_checkIndex_df160, cJ0_checkIndex_df160, 2, none, 13, true, 2),
  (yJ0_charAt_5068e, cJ0_charAt_5068e, 2, (some .char), 13, false, 2),
  (yJ1_charAt_3b067, cJ1_charAt_3b067, 2, (some .char), 14, true, 2),
  (yJ3_checkIndex_8e157, cJ3_checkIndex_8e157, 3, (some .int), 15, true, 3),
  (yJ6_bitCount_0f7a4, cJ6_bitCount_0f7a4, 1, (some .int), 16, true, 1),
  (yJ6_compare_7cf53, cJ6_compare_7cf53, 2, (some .int), 16, true, 2),
  (yJ6_numberOfTrailingZeros_0f7a4, cJ6_numberOfTrailingZeros_0f7a4, 2, (some .int), 16, true, 1),
  (yJ7_fill_d0a16, cJ7_fill_d0a16, 5, none, 19, true, 2),
  (yJ13_numberOfTrailingZeros_95d88, cJ13_numberOfTrailingZeros_95d88, 3, (some .int), 17, true, 1),
  (yX0_init, cX0_init, 1, none, 0, false, 1),
  (yX0_become, cX0_become, 4, none, 0, false, 4),
  (yX0_begins, cX0_begins, 2, none, 0, false, 2),
  (yX0_plainSteps, cX0_plainSteps, 2, (some .int), 0, false, 2)]
def mt1 : List MR := [(yX0_steps, cX0_steps, 2, (some .int), 0, false, 2),
  (yX0_plainTurns, cX0_plainTurns, 2, (some .int), 0, false, 2),
  (yX0_turns, cX0_turns, 3, (some .int), 0, false, 2),
  (yX0_plainTells, cX0_plainTells, 2, (some .int), 0, false, 2),
  (yX0_tells, cX0_tells, 3, (some .int), 0, false, 2),
  (yX1_init, cX1_init, 2, none, 1, false, 2),
  (yX1_join, cX1_join, 6, none, 1, true, 4),
  (yX1_alone_, cX1_alone_, 6, none, 1, false, 6),
  (yX1_alone, cX1_alone, 3, none, 1, false, 3),
  (yX1_around, cX1_around, 7, none, 1, false, 6),
  (yX1_among, cX1_among, 4, (some .long), 1, false, 3),
  (yX1_spread, cX1_spread, 10, none, 1, false, 4),
  (yX1_advance, cX1_advance, 4, none, 1, false, 2),
  (yX1_keep, cX1_keep, 3, none, 1, false, 2),
  (yX1_cells, cX1_cells, 4, (some .long), 1, false, 1),
  (yX1_facing, cX1_facing, 5, (some .long), 1, false, 2)]
def mt2 : List MR := [(yX1_beatsTo, cX1_beatsTo, 3, (some .int), 1, false, 2),
  (yX2_init, cX2_init, 2, none, 2, false, 2),
  (yX2_become, cX2_become, 6, none, 2, false, 6),
  (yX2_isOn, cX2_isOn, 1, (some .boolean), 2, false, 1),
  (yX2_rests, cX2_rests, 1, (some .boolean), 2, false, 1),
  (yX2_isRound, cX2_isRound, 1, (some .boolean), 2, false, 1),
  (yX2_way, cX2_way, 4, (some .int), 2, false, 4),
  (yX2_ons, cX2_ons, 5, (some .long), 2, false, 3),
  (yX2_leaves, cX2_leaves, 3, (some .long), 2, false, 3),
  (yX2_starts, cX2_starts, 4, (some .long), 2, false, 4),
  (yX2_tick, cX2_tick, 1, none, 2, false, 1),
  (yX2_steps, cX2_steps, 6, (some .int), 2, false, 4),
  (yX3_rhythm, cX3_rhythm, 1, (some .int), 3, false, 1),
  (yX3_beat, cX3_beat, 3, (some .int), 3, false, 2),
  (yX3_backward, cX3_backward, 2, (some .long), 3, false, 2),
  (yX3_onward, cX3_onward, 3, (some .long), 3, false, 3)]
def mt3 : List MR := [(yX3_init, cX3_init, 6, none, 3, false, 4),
  (yX3_marked, cX3_marked, 2, (some .long), 3, false, 2),
  (yX4_init, cX4_init, 2, none, 4, false, 2),
  (yX4_join, cX4_join, 7, none, 4, true, 5),
  (yX4_alone, cX4_alone, 3, none, 4, false, 3),
  (yX4_part, cX4_part, 12, none, 4, false, 5),
  (yX4_advance, cX4_advance, 2, none, 4, false, 1),
  (yX4_shares, cX4_shares, 5, (some .long), 4, false, 2),
  (yX5_init, cX5_init, 3, none, 5, false, 2),
  (yX5_who, cX5_who, 2, (some (.object "TwoOnOneBack$Walker")), 5, false, 2),
  (yX5_added, cX5_added, 1, (some (.object "TwoOnOneBack$Walker")), 5, false, 1),
  (yX5_become, cX5_become, 3, none, 5, false, 2),
  (yX6_init, cX6_init, 1, none, 6, false, 1),
  (yX6_become, cX6_become, 3, none, 6, false, 3),
  (yX6_has, cX6_has, 3, (some .boolean), 6, false, 2),
  (yX6_reaches, cX6_reaches, 3, (some .boolean), 6, false, 3)]
def mt4 : List MR := [(yX6_value, cX6_value, 2, (some .long), 6, false, 2),
  (yX6_cut, cX6_cut, 3, (some .long), 6, false, 2),
  (yX6_write, cX6_write, 4, none, 6, false, 3),
  (yX7_init, cX7_init, 1, none, 7, false, 1),
  (yX7_add, cX7_add, 2, (some .boolean), 7, false, 2),
  (yX7_takes, cX7_takes, 2, (some .boolean), 7, false, 2),
  (yX7_needs, cX7_needs, 3, none, 7, false, 2),
  (yX7_oneIf, cX7_oneIf, 3, (some .int), 7, false, 2),
  (yX7_number, cX7_number, 3, (some .int), 7, false, 1),
  (yX7_oneOf, cX7_oneOf, 3, (some .int), 7, false, 2),
  (yX7_measure, cX7_measure, 4, (some .int), 7, true, 2),
  (yX7_tested, cX7_tested, 6, (some .long), 7, true, 3),
  (yX7_both, cX7_both, 5, (some .long), 7, false, 2),
  (yX7_either, cX7_either, 5, (some .long), 7, false, 2),
  (yX7_single, cX7_single, 4, (some .long), 7, false, 2),
  (yX7_clause, cX7_clause, 1, none, 7, false, 1)]
def mt5 : List MR := [(yX7_parsed, cX7_parsed, 2, (some (.object "TwoOnOneBack$Land")), 7, false, 1),
  (yX8_init, cX8_init, 1, none, 8, false, 1),
  (yX8_become, cX8_become, 2, none, 8, false, 2),
  (yX8_at, cX8_at, 2, (some .int), 8, false, 2),
  (yX8_tell, cX8_tell, 2, (some .int), 8, false, 2),
  (yX9_init, cX9_init, 1, none, 9, false, 1),
  (yX9_become, cX9_become, 2, none, 9, false, 2),
  (yX9_stands, cX9_stands, 4, none, 9, false, 4),
  (yX10_across, cX10_across, 1, (some .int), 10, true, 1),
  (yX10_facingBy, cX10_facingBy, 2, (some .int), 10, true, 2),
  (yX10_cameBy, cX10_cameBy, 3, (some .int), 10, true, 3),
  (yX10_moved, cX10_moved, 3, (some .long), 10, true, 2),
  (yX10_holds, cX10_holds, 3, (some .boolean), 10, true, 2),
  (yX10_next, cX10_next, 2, (some .int), 10, true, 2),
  (yX10_init, cX10_init, 3, none, 10, false, 1),
  (yX10_feed, cX10_feed, 2, (some .int), 10, false, 2)]
def mt6 : List MR := [(yX10_land, cX10_land, 2, (some .int), 10, false, 1),
  (yX10_told, cX10_told, 2, (some .int), 10, false, 2),
  (yX10_isCell, cX10_isCell, 1, (some .boolean), 10, true, 1),
  (yX10_ground, cX10_ground, 3, (some .int), 10, false, 3),
  (yX10_isKind, cX10_isKind, 1, (some .boolean), 10, true, 1),
  (yX10_isWay, cX10_isWay, 1, (some .boolean), 10, true, 1),
  (yX10_isNumber, cX10_isNumber, 1, (some .boolean), 10, true, 1),
  (yX10_walker, cX10_walker, 6, (some .int), 10, false, 5),
  (yX10_of, cX10_of, 4, (some .int), 10, false, 3),
  (yX10_put, cX10_put, 7, (some .int), 10, false, 5),
  (yX10_allowed, cX10_allowed, 2, (some .int), 10, false, 2),
  (yX10_may, cX10_may, 3, (some .int), 10, false, 2),
  (yX10_isStep, cX10_isStep, 1, (some .boolean), 10, true, 1),
  (yX10_goes, cX10_goes, 4, (some .boolean), 10, false, 3),
  (yX10_step, cX10_step, 4, (some .int), 10, false, 3),
  (yX10_isPart, cX10_isPart, 1, (some .boolean), 10, true, 1)]
def mt7 : List MR := [(yX10_firstStep, cX10_firstStep, 6, (some .int), 10, false, 4),
  (yX10_soonest, cX10_soonest, 6, (some .int), 10, false, 4),
  (yX10_begin, cX10_begin, 9, (some .int), 10, false, 4),
  (yX10_within, cX10_within, 6, (some .long), 10, false, 3),
  (yX10_reached, cX10_reached, 4, (some .long), 10, false, 3),
  (yX10_never, cX10_never, 3, (some .long), 10, false, 2),
  (yX10_meet, cX10_meet, 9, (some .int), 10, false, 4),
  (yX10_home, cX10_home, 5, (some .int), 10, false, 2),
  (yX10_row, cX10_row, 2, (some .int), 10, false, 2),
  (yX10_hand, cX10_hand, 5, (some .int), 10, false, 3),
  (yX10_track, cX10_track, 2, (some .int), 10, false, 2),
  (yX10_left, cX10_left, 5, (some .boolean), 10, false, 4),
  (yX10_tracks, cX10_tracks, 5, (some .int), 10, false, 3),
  (yX10_common, cX10_common, 11, (some .long), 10, true, 2),
  (yX10_lot, cX10_lot, 12, (some .long), 10, false, 5),
  (yX10_slower, cX10_slower, 8, (some .int), 10, false, 5)]
def mt8 : List MR := [(yX10_tapeAt, cX10_tapeAt, 2, (some (.object "TwoOnOneBack$Tape")), 10, false, 2),
  (yX10_judge, cX10_judge, 6, (some .int), 10, false, 3),
  (yX10_image, cX10_image, 1, (some .int), 10, false, 1),
  (yX10_undo, cX10_undo, 1, (some .int), 10, false, 1),
  (yX10_act, cX10_act, 5, (some .int), 10, false, 4),
  (yX10_trace, cX10_trace, 2, (some .int), 10, false, 2),
  (yX10_above, cX10_above, 1, (some .int), 10, true, 1),
  (yX10_isUnder, cX10_isUnder, 4, (some .boolean), 10, true, 2),
  (yX10_taken, cX10_taken, 4, (some .int), 10, false, 3),
  (yX10_count, cX10_count, 2, (some .int), 10, false, 2),
  (yX10_tape, cX10_tape, 5, (some .int), 10, false, 4),
  (yX10_item, cX10_item, 6, (some .int), 10, false, 4),
  (yX10_read, cX10_read, 4, (some .long), 10, false, 3),
  (yX10_shift, cX10_shift, 8, (some .int), 10, false, 6),
  (yX11_init, cX11_init, 1, none, 11, false, 1),
  (yX11_isIn, cX11_isIn, 2, (some .boolean), 11, true, 2)]
def mt9 : List MR := [(yX11_isWalker, cX11_isWalker, 2, (some .boolean), 11, false, 2),
  (yX11_isCell, cX11_isCell, 1, (some .boolean), 11, true, 1),
  (yX11_get, cX11_get, 3, (some .int), 11, false, 3),
  (yX11_puts, cX11_puts, 4, none, 11, false, 4),
  (yX11_feed, cX11_feed, 2, (some .int), 11, false, 2),
  (yX11_here, cX11_here, 1, (some .int), 11, false, 1),
  (yX11_takes, cX11_takes, 2, none, 11, false, 2),
  (yX11_number, cX11_number, 3, (some .int), 11, false, 1),
  (yX11_amount, cX11_amount, 1, (some .int), 11, true, 1),
  (yX11_valueOf, cX11_valueOf, 4, (some .int), 11, true, 2),
  (yX11_test, cX11_test, 8, (some .long), 11, false, 1),
  (yX11_either, cX11_either, 3, (some .long), 11, false, 1),
  (yX11_factor, cX11_factor, 4, (some .long), 11, false, 1),
  (yX11_term, cX11_term, 3, (some .long), 11, false, 1),
  (yX11_word, cX11_word, 6, none, 11, false, 6),
  (yX11_marksBy, cX11_marksBy, 5, none, 11, false, 2)]
def mt10 : List MR := [(yX11_clause, cX11_clause, 1, none, 11, false, 1),
  (yX11_held, cX11_held, 1, (some .int), 11, true, 1),
  (yX11_reads, cX11_reads, 2, none, 11, false, 1),
  (yX11_land, cX11_land, 2, (some .int), 11, false, 1),
  (yX11_onBeats, cX11_onBeats, 1, (some .int), 11, false, 1),
  (yX11_beats, cX11_beats, 1, (some .int), 11, false, 1),
  (yX11_told, cX11_told, 2, (some .int), 11, false, 2),
  (yX11_isMarked, cX11_isMarked, 3, (some .boolean), 11, false, 3),
  (yX11_ground, cX11_ground, 3, (some .int), 11, false, 3),
  (yX11_walker, cX11_walker, 6, (some .int), 11, false, 5),
  (yX11_beatOf, cX11_beatOf, 2, (some .int), 11, false, 2),
  (yX11_of, cX11_of, 3, (some .int), 11, false, 3),
  (yX11_put, cX11_put, 6, (some .int), 11, false, 5),
  (yX11_beside, cX11_beside, 2, (some .int), 11, true, 2),
  (yX11_goesOn, cX11_goesOn, 5, (some .boolean), 11, false, 4),
  (yX11_backTo, cX11_backTo, 5, (some .int), 11, false, 5)]
def mt11 : List MR := [(yX11_goesBack, cX11_goesBack, 6, (some .boolean), 11, false, 5),
  (yX11_mayOn, cX11_mayOn, 11, (some .int), 11, false, 6),
  (yX11_mayBy, cX11_mayBy, 9, (some .int), 11, false, 8),
  (yX11_mayNow, cX11_mayNow, 2, (some .int), 11, false, 2),
  (yX11_may, cX11_may, 2, (some .int), 11, false, 2),
  (yX11_steps, cX11_steps, 4, none, 11, false, 3),
  (yX11_step, cX11_step, 3, (some .int), 11, false, 3),
  (yX11_stateOf, cX11_stateOf, 3, (some .int), 11, true, 3),
  (yX11_comesTo, cX11_comesTo, 6, (some .int), 11, true, 4),
  (yX11_begins, cX11_begins, 9, none, 11, false, 8),
  (yX11_beginsAs, cX11_beginsAs, 3, none, 11, false, 3),
  (yX11_bits, cX11_bits, 3, (some .int), 11, true, 1),
  (yX11_goesBeat, cX11_goesBeat, 10, none, 11, false, 1),
  (yX11_cellsNow, cX11_cellsNow, 4, (some .long), 11, false, 1),
  (yX11_firstTo, cX11_firstTo, 4, (some .int), 11, false, 2),
  (yX11_soonestTo, cX11_soonestTo, 4, (some .int), 11, false, 2)]
def mt12 : List MR := [(yX11_soonest, cX11_soonest, 5, (some .int), 11, false, 4),
  (yX11_begin, cX11_begin, 8, (some .int), 11, false, 4),
  (yX11_within, cX11_within, 6, (some .long), 11, false, 3),
  (yX11_reached, cX11_reached, 3, (some .long), 11, false, 3),
  (yX11_never, cX11_never, 5, (some .long), 11, false, 2),
  (yX11_meet, cX11_meet, 8, (some .int), 11, false, 4),
  (yX11_home, cX11_home, 4, (some .int), 11, false, 2),
  (yX11_row, cX11_row, 2, (some .int), 11, false, 2),
  (yX11_hand, cX11_hand, 6, (some .int), 11, false, 3),
  (yX11_track, cX11_track, 2, (some .int), 11, false, 2),
  (yX11_mightHave, cX11_mightHave, 9, (some .boolean), 11, false, 5),
  (yX11_tracks, cX11_tracks, 7, (some .int), 11, false, 3),
  (yX11_common, cX11_common, 4, (some .long), 11, true, 2),
  (yX11_lot, cX11_lot, 11, (some .long), 11, false, 5),
  (yX11_soonestBy, cX11_soonestBy, 4, (some .int), 11, false, 4),
  (yX11_slower, cX11_slower, 7, (some .int), 11, false, 5)]
def mt13 : List MR := [(yX11_above, cX11_above, 1, (some .int), 11, true, 1),
  (yX11_runs, cX11_runs, 2, none, 11, false, 2),
  (yX11_hasBody, cX11_hasBody, 2, (some .boolean), 11, true, 2),
  (yX11_acts, cX11_acts, 3, (some .int), 11, false, 3),
  (yX11_bodyOf, cX11_bodyOf, 8, (some .int), 11, false, 4),
  (yX11_act, cX11_act, 4, (some .int), 11, false, 4),
  (yX11_trace, cX11_trace, 2, (some .int), 11, false, 2),
  (yX11_taken, cX11_taken, 5, (some .int), 11, false, 3),
  (yX11_judge, cX11_judge, 4, (some .int), 11, false, 3),
  (yX11_image, cX11_image, 2, (some .int), 11, false, 1),
  (yX11_undo, cX11_undo, 2, (some .int), 11, false, 1),
  (yX11_count, cX11_count, 2, (some .int), 11, false, 2),
  (yX11_tape, cX11_tape, 5, (some .int), 11, false, 4),
  (yX11_item, cX11_item, 5, (some .int), 11, false, 4),
  (yX11_read, cX11_read, 3, (some .long), 11, false, 3),
  (yX11_shift, cX11_shift, 8, (some .int), 11, false, 6)]
def mt14 : List MR := [(yL_law, cL_law, 4, (some .boolean), 12, true, 1)]
def mtab : List MR := mt0 ++ (mt1 ++ (mt2 ++ (mt3 ++ (mt4 ++ (mt5 ++ (mt6 ++ (mt7 ++ (mt8 ++ (mt9 ++ (mt10 ++ (mt11 ++ (mt12 ++ (mt13 ++ (mt14))))))))))))))
def mrow (k : Nat) : MR := mtab.getD k (⟨"", "", ""⟩, ⟨#[]⟩, 0, none, 98, false, 0)
def nam (k : Nat) : MethodName := (mrow k).1
def cod (k : Nat) : ByteArray := (mrow k).2.1
def mlo (k : Nat) : Nat := (mrow k).2.2.1
def ret_ (k : Nat) : Option FieldType := (mrow k).2.2.2.1
def own_ (k : Nat) : Nat := (mrow k).2.2.2.2.1
def sta (k : Nat) : Bool := (mrow k).2.2.2.2.2.1
def nar (k : Nat) : Nat := (mrow k).2.2.2.2.2.2
def fld_0 : List ((Nat × Nat) × (Nat × Nat)) := [((7, 9), (7, 0)), ((7, 15), (7, 1)), ((7, 30), (7, 2)), ((7, 33), (7, 3)), ((7, 26), (7, 4)), ((7, 19), (7, 5)), ((10, 84), (7, 5)), ((7, 23), (7, 6)), ((10, 95), (7, 6)), ((1, 27), (9, 0)), ((4, 27), (9, 0)), ((9, 24), (9, 0)), ((10, 136), (9, 0)), ((1, 33), (9, 1)), ((4, 33), (9, 1)), ((9, 27), (9, 1)), ((10, 139), (9, 1)), ((9, 15), (9, 2)), ((4, 52), (9, 2)), ((1, 62), (9, 2)), ((10, 156), (9, 2)), ((9, 18), (9, 3)), ((4, 55), (9, 3)), ((1, 56), (9, 3))]
def fld_1 : List ((Nat × Nat) × (Nat × Nat)) := [((10, 159), (9, 3)), ((9, 21), (9, 4)), ((1, 36), (9, 4)), ((4, 36), (9, 4)), ((10, 162), (9, 4)), ((4, 39), (9, 5)), ((1, 43), (9, 5)), ((9, 30), (9, 5)), ((10, 142), (9, 5)), ((9, 9), (9, 6)), ((4, 58), (9, 6)), ((1, 59), (9, 6)), ((10, 168), (9, 6)), ((0, 9), (0, 0)), ((10, 328), (0, 0)), ((0, 45), (0, 1)), ((10, 315), (0, 1)), ((0, 15), (0, 2)), ((0, 19), (0, 3)), ((0, 22), (0, 4)), ((3, 18), (3, 0)), ((10, 102), (3, 0)), ((2, 73), (3, 0)), ((3, 22), (3, 1))]
def fld_2 : List ((Nat × Nat) × (Nat × Nat)) := [((10, 105), (3, 1)), ((3, 25), (3, 2)), ((10, 128), (3, 2)), ((3, 29), (3, 3)), ((3, 32), (3, 4)), ((3, 35), (3, 5)), ((3, 9), (3, 6)), ((3, 15), (3, 7)), ((3, 42), (3, 8)), ((3, 45), (3, 9)), ((8, 9), (8, 0)), ((8, 15), (8, 1)), ((10, 266), (8, 1)), ((5, 11), (5, 0)), ((5, 32), (5, 1)), ((10, 149), (5, 1)), ((5, 20), (5, 2)), ((10, 254), (5, 2)), ((5, 24), (5, 3)), ((10, 269), (5, 3)), ((5, 27), (5, 4)), ((10, 98), (5, 4)), ((2, 9), (2, 0)), ((2, 15), (2, 1))]
def fld_3 : List ((Nat × Nat) × (Nat × Nat)) := [((2, 19), (2, 2)), ((2, 28), (2, 3)), ((10, 206), (2, 3)), ((2, 30), (2, 4)), ((10, 207), (2, 4)), ((1, 9), (1, 0)), ((1, 15), (1, 1)), ((1, 23), (1, 2)), ((10, 251), (1, 2)), ((4, 11), (4, 0)), ((4, 15), (4, 1)), ((4, 23), (4, 2)), ((6, 9), (6, 0)), ((10, 346), (6, 0)), ((6, 15), (6, 1)), ((10, 298), (6, 1)), ((6, 19), (6, 2)), ((10, 14), (10, 0)), ((10, 48), (10, 1)), ((10, 52), (10, 2)), ((10, 58), (10, 3)), ((10, 21), (10, 4)), ((10, 65), (10, 5)), ((10, 69), (10, 6))]
def fld_4 : List ((Nat × Nat) × (Nat × Nat)) := [((10, 75), (10, 7)), ((10, 28), (10, 8)), ((10, 34), (10, 9)), ((10, 88), (10, 10)), ((10, 311), (10, 11)), ((11, 9), (11, 0)), ((11, 13), (11, 1)), ((11, 286), (11, 2)), ((11, 16), (11, 3)), ((11, 19), (11, 4)), ((11, 22), (11, 5)), ((11, 136), (11, 6)), ((11, 25), (11, 7)), ((11, 70), (11, 8)), ((11, 74), (11, 9)), ((11, 100), (11, 10)), ((11, 77), (11, 11)), ((11, 28), (11, 12)), ((11, 124), (11, 13)), ((11, 127), (11, 14)), ((11, 31), (11, 15)), ((11, 34), (11, 16)), ((11, 37), (11, 17)), ((11, 41), (11, 18))]
def fld_5 : List ((Nat × Nat) × (Nat × Nat)) := [((11, 205), (11, 19)), ((11, 208), (11, 20)), ((11, 210), (11, 21)), ((11, 213), (11, 22)), ((11, 216), (11, 23)), ((11, 235), (11, 24)), ((11, 44), (11, 25)), ((11, 47), (11, 26)), ((11, 50), (11, 27)), ((11, 265), (11, 28)), ((11, 274), (11, 29)), ((11, 53), (11, 30)), ((11, 56), (11, 31)), ((11, 59), (11, 32)), ((11, 63), (11, 33)), ((13, 9), (13, 0)), ((13, 15), (13, 1))]
def fldT : List ((Nat × Nat) × (Nat × Nat)) := fld_0 ++ (fld_1 ++ (fld_2 ++ (fld_3 ++ (fld_4 ++ (fld_5)))))
def fld (o i : Nat) : Option ((Nat × Nat)) := fldT.lookup (o, i)
def mth_0 : List ((Nat × Nat) × Nat) := [((12, 9), kX10_init), ((10, 5), 1000), ((10, 13), kX7_init), ((7, 3), 1000), ((10, 20), kX9_init), ((9, 3), 1000), ((10, 27), kX0_init), ((0, 3), 1000), ((10, 40), kX3_init), ((3, 3), 1000), ((3, 48), kX10_across), ((3, 52), kX10_moved), ((10, 45), kX5_init), ((5, 3), 1000), ((5, 19), kX8_init), ((8, 3), 1000), ((5, 31), kX9_init), ((10, 57), kX2_init), ((2, 3), 1000), ((10, 64), kX1_init), ((1, 3), 1000), ((1, 20), kX2_init), ((10, 74), kX4_init), ((4, 3), 1000)]
def mth_1 : List ((Nat × Nat) × Nat) := [((4, 20), kX2_init), ((10, 79), kX6_init), ((6, 3), 1000), ((12, 13), kX10_feed), ((10, 80), kX7_add), ((12, 18), kX10_land), ((10, 91), kX7_parsed), ((7, 36), kJ7_fill_d0a16), ((7, 42), kX7_clause), ((7, 45), kX7_takes), ((7, 56), kX7_needs), ((7, 128), kJ0_length_8abf5), ((13, 335), kJ0_coder_7d493), ((7, 132), kJ0_charAt_5068e), ((13, 492), kJ0_isLatin1_aae02), ((13, 495), kJ1_charAt_3b067), ((14, 9), kJ0_checkIndex_df160), ((13, 1059), kJ3_checkIndex_8e157), ((7, 60), kX7_number), ((7, 125), kX7_oneIf), ((7, 64), 1004), ((7, 70), 1003), ((7, 77), kX7_either), ((7, 87), kX7_both)]
def mth_2 : List ((Nat × Nat) × Nat) := [((7, 90), kX7_single), ((7, 101), kX7_oneOf), ((7, 107), kX7_tested), ((7, 111), kX7_measure), ((7, 119), 1002), ((7, 114), kJ6_compare_7cf53), ((7, 51), kX3_init), ((12, 23), kX10_told), ((12, 27), kX10_ground), ((10, 108), kX10_isCell), ((10, 111), kX3_marked), ((10, 115), kX10_holds), ((12, 32), kX10_walker), ((10, 119), kX10_isKind), ((10, 122), kX10_isWay), ((10, 125), kX10_isNumber), ((10, 132), kX5_added), ((5, 36), kX5_who), ((10, 145), kX9_stands), ((12, 37), kX10_of), ((10, 152), kX5_who), ((10, 165), kX3_beat), ((3, 56), kX3_rhythm), ((10, 171), kX10_next)]
def mth_3 : List ((Nat × Nat) × Nat) := [((12, 41), kX10_put), ((12, 45), kX10_may), ((10, 175), kX10_allowed), ((10, 186), kX2_become), ((2, 22), kX3_beat), ((10, 190), kX2_steps), ((2, 33), kX2_starts), ((2, 41), kX2_rests), ((2, 53), kX2_isOn), ((2, 47), kX2_leaves), ((2, 56), kX2_way), ((2, 67), kX2_isRound), ((2, 70), kX10_across), ((2, 60), kX3_backward), ((2, 64), kX2_ons), ((2, 76), kX3_onward), ((2, 37), kX10_holds), ((12, 49), kX10_step), ((10, 179), kX10_isStep), ((10, 182), kX10_goes), ((10, 194), kX2_way), ((10, 197), kX10_cameBy), ((10, 360), kX10_across), ((10, 200), kX10_facingBy)]
def mth_4 : List ((Nat × Nat) × Nat) := [((10, 203), kX2_tick), ((12, 53), kX10_soonest), ((10, 208), kX10_isPart), ((10, 211), kX1_alone), ((1, 39), kX1_alone_), ((1, 46), kX2_become), ((1, 50), kJ7_fill_d0a16), ((1, 65), kX1_join), ((10, 215), kX1_beatsTo), ((1, 99), kX1_cells), ((1, 103), kX10_holds), ((1, 107), kX1_advance), ((1, 69), kX1_spread), ((1, 76), kX1_among), ((1, 80), kX2_starts), ((1, 84), kX2_way), ((1, 88), kX10_facingBy), ((1, 92), kX10_cameBy), ((1, 95), kX10_moved), ((1, 73), kX2_tick), ((10, 218), kX10_firstStep), ((10, 222), kX1_advance), ((10, 226), kX1_cells), ((12, 58), kX10_begin)]
def mth_5 : List ((Nat × Nat) × Nat) := [((10, 230), kX3_rhythm), ((10, 234), kX1_alone_), ((12, 62), kX10_reached), ((10, 239), kX10_within), ((12, 67), kX10_never), ((12, 72), kX10_meet), ((10, 247), kJ13_numberOfTrailingZeros_95d88), ((17, 311), kJ6_numberOfTrailingZeros_0f7a4), ((12, 76), kX10_home), ((10, 252), kX1_facing), ((12, 80), kX10_row), ((10, 258), kX8_tell), ((12, 84), kX10_hand), ((10, 263), kX9_become), ((10, 267), kX8_at), ((12, 88), kX10_track), ((12, 92), kX10_tracks), ((10, 272), kX10_left), ((10, 276), kX1_around), ((10, 279), kX1_keep), ((12, 96), kX10_lot), ((10, 282), kX4_alone), ((4, 42), kX2_become), ((4, 46), kJ7_fill_d0a16)]
def mth_6 : List ((Nat × Nat) × Nat) := [((4, 61), kX4_join), ((10, 283), kX4_advance), ((4, 65), kX4_part), ((4, 72), kX2_steps), ((4, 76), kJ6_bitCount_0f7a4), ((4, 82), kX2_way), ((4, 85), kX10_next), ((4, 89), kX10_facingBy), ((4, 92), kX10_cameBy), ((4, 69), kX2_tick), ((10, 287), kX4_shares), ((10, 290), kX10_common), ((12, 101), kX10_slower), ((12, 105), kX10_judge), ((10, 294), kX10_tapeAt), ((10, 301), kX6_has), ((10, 305), kX6_value), ((12, 109), kX10_image), ((10, 308), kX5_become), ((5, 40), kX8_become), ((8, 19), 1001), ((5, 44), kX9_become), ((12, 113), kX10_undo), ((12, 117), kX10_act)]
def mth_7 : List ((Nat × Nat) × Nat) := [((10, 318), kX0_become), ((10, 320), kX0_steps), ((0, 25), kX0_begins), ((0, 29), kX0_plainSteps), ((10, 322), kX0_turns), ((0, 33), kX0_plainTurns), ((0, 42), kX0_steps), ((10, 325), kX0_tells), ((0, 36), kX0_plainTells), ((0, 39), kX0_turns), ((12, 121), kX10_trace), ((12, 125), kX10_taken), ((10, 332), kX10_isUnder), ((10, 363), kX10_above), ((12, 129), kX10_count), ((12, 133), kX10_tape), ((10, 336), kX6_become), ((6, 22), kJ7_fill_d0a16), ((12, 139), kX10_item), ((10, 339), kX6_write), ((6, 28), kX6_cut), ((12, 144), kX10_read), ((12, 148), kX10_shift), ((10, 343), kX6_reaches)]
def mth_8 : List ((Nat × Nat) × Nat) := [((10, 350), 1001), ((12, 12), kX11_init), ((11, 3), 1000), ((12, 17), kX11_feed), ((12, 22), kX11_land), ((11, 139), kX11_reads), ((11, 133), kX11_clause), ((11, 81), kX11_here), ((11, 120), kX11_word), ((11, 113), kX11_takes), ((11, 89), kX11_number), ((11, 130), kX11_marksBy), ((11, 110), kX11_either), ((11, 117), kX11_term), ((11, 105), kX11_factor), ((11, 96), kX11_test), ((11, 92), kX11_valueOf), ((11, 85), kX11_amount), ((11, 142), kX11_held), ((12, 26), kX11_told), ((11, 145), kX11_onBeats), ((11, 148), kX11_beats), ((12, 31), kX11_ground), ((11, 151), kX11_isCell)]
def mth_9 : List ((Nat × Nat) × Nat) := [((11, 66), kX11_isIn), ((11, 155), kX11_isMarked), ((12, 36), kX11_walker), ((11, 158), kX11_puts), ((12, 40), kX11_of), ((11, 165), kX11_isWalker), ((11, 168), kX11_beatOf), ((11, 162), kX11_get), ((12, 44), kX11_put), ((12, 48), kX11_may), ((11, 194), kX11_mayNow), ((11, 190), kX11_mayBy), ((11, 182), kX11_mayOn), ((11, 178), kX11_goesOn), ((11, 171), kX11_beside), ((11, 186), kX11_goesBack), ((11, 174), kX11_backTo), ((12, 52), kX11_step), ((11, 197), kX11_steps), ((12, 57), kX11_soonest), ((11, 238), kX11_beginsAs), ((11, 219), kX11_begins), ((11, 201), kX11_stateOf), ((11, 241), kX11_soonestTo)]
def mth_10 : List ((Nat × Nat) × Nat) := [((11, 229), kX11_goesBeat), ((11, 223), kX11_comesTo), ((11, 226), kX11_bits), ((11, 232), kX11_firstTo), ((12, 61), kX11_begin), ((12, 66), kX11_reached), ((11, 247), kX11_within), ((11, 244), kX11_cellsNow), ((12, 71), kX11_never), ((12, 75), kX11_meet), ((12, 79), kX11_home), ((12, 83), kX11_row), ((12, 87), kX11_hand), ((12, 91), kX11_track), ((12, 95), kX11_tracks), ((11, 253), kX11_mightHave), ((12, 100), kX11_lot), ((11, 256), kX11_common), ((12, 104), kX11_slower), ((11, 262), kX11_soonestBy), ((12, 120), kX11_act), ((11, 283), kX11_acts), ((11, 280), kX11_bodyOf), ((11, 268), kX11_hasBody)]
def mth_11 : List ((Nat × Nat) × Nat) := [((11, 271), kX11_above), ((11, 277), kX11_runs), ((12, 124), kX11_trace), ((12, 128), kX11_taken), ((12, 108), kX11_judge), ((12, 112), kX11_image), ((12, 116), kX11_undo), ((12, 132), kX11_count), ((12, 136), kX11_tape), ((12, 143), kX11_item), ((12, 147), kX11_read), ((12, 152), kX11_shift)]
def mthT : List ((Nat × Nat) × Nat) := mth_0 ++ (mth_1 ++ (mth_2 ++ (mth_3 ++ (mth_4 ++ (mth_5 ++ (mth_6 ++ (mth_7 ++ (mth_8 ++ (mth_9 ++ (mth_10 ++ (mth_11)))))))))))
def mth (o i : Nat) : Option Nat := mthT.lookup (o, i)
def cls_0 : List ((Nat × Nat) × Nat) := [((12, 7), 10), ((10, 11), 7), ((10, 18), 9), ((10, 25), 0), ((10, 32), 6), ((10, 38), 3), ((10, 43), 5), ((5, 9), 9), ((5, 17), 8), ((10, 55), 2), ((10, 62), 1), ((1, 18), 2), ((10, 72), 4), ((4, 18), 2), ((7, 49), 3), ((12, 10), 11)]
def clsT : List ((Nat × Nat) × Nat) := cls_0
def cls (o i : Nat) : Option Nat := clsT.lookup (o, i)
def lng_0 : List ((Nat × Nat) × Int64) := [((3, 38), (68719476735)), ((3, 40), (-1)), ((10, 356), (-34905131041)), ((10, 243), (68719476735)), ((10, 358), (-1090785346)), ((7, 93), (68719476735)), ((7, 95), (-1)), ((2, 45), (68719476735)), ((2, 51), (-1)), ((10, 237), (-9223372036854775808)), ((10, 245), (-1)), ((10, 285), (12)), ((11, 103), (68719476735)), ((11, 108), (-1)), ((11, 251), (-9223372036854775808)), ((11, 260), (60)), ((12, 137), (4294967295))]
def lngT : List ((Nat × Nat) × Int64) := lng_0
def lng (o i : Nat) : Option Int64 := lngT.lookup (o, i)
def cst_0 : List ((Nat × Nat) × Int32) := [((16, 264), (65536)), ((16, 265), (1431655765)), ((16, 266), (858993459)), ((16, 267), (252645135))]
def cstT : List ((Nat × Nat) × Int32) := cst_0
def cst (o i : Nat) : Option Int32 := cstT.lookup (o, i)
def str__0 : List ((Nat × Nat) × Nat) := [((7, 54), 1), ((7, 123), 2), ((7, 73), 3), ((7, 75), 4), ((7, 97), 5), ((7, 99), 6), ((7, 105), 7), ((7, 81), 8), ((7, 83), 9), ((7, 85), 10)]
def str_T : List ((Nat × Nat) × Nat) := str__0
def str_ (o i : Nat) : Option Nat := str_T.lookup (o, i)
def stc_0 : List ((Nat × Nat) × Value) := [((13, 38), (.int 1)), ((13, 1053), (.retAddr 1))]
def stcT : List ((Nat × Nat) × Value) := stc_0
def stc (o i : Nat) : Option Value := stcT.lookup (o, i)
def FT (c j : Nat) : FieldType := match c with
  | 0 => tyX0 j
  | 1 => tyX1 j
  | 2 => tyX2 j
  | 3 => tyX3 j
  | 4 => tyX4 j
  | 5 => tyX5 j
  | 6 => tyX6 j
  | 7 => tyX7 j
  | 8 => tyX8 j
  | 9 => tyX9 j
  | 10 => tyX10 j
  | 11 => tyX11 j
  | 13 => if j = 0 then .array .byte else .byte
  | _ => .int
def FF (c j : Nat) : Bool := match c with
  | 0 => (TX0 j).2.2.2
  | 1 => (TX1 j).2.2.2
  | 2 => (TX2 j).2.2.2
  | 3 => (TX3 j).2.2.2
  | 4 => (TX4 j).2.2.2
  | 5 => (TX5 j).2.2.2
  | 6 => (TX6 j).2.2.2
  | 7 => (TX7 j).2.2.2
  | 8 => (TX8 j).2.2.2
  | 9 => (TX9 j).2.2.2
  | 10 => (TX10 j).2.2.2
  | 11 => (TX11 j).2.2.2
  | _ => true
def NF (c : Nat) : Nat := match c with
  | 0 => 5
  | 1 => 3
  | 2 => 5
  | 3 => 10
  | 4 => 3
  | 5 => 5
  | 6 => 3
  | 7 => 7
  | 8 => 2
  | 9 => 7
  | 10 => 12
  | 11 => 34
  | _ => 0
abbrev inb (i : Int32) (n : Nat) : Prop := ¬ (i < 0 ∨ n ≤ i.toNatClampNeg)
/-! ===== one instruction ===== -/
abbrev CF : Type := Nat × List Value × List Value × MM
abbrev RS : Type := Option (CF ⊕ ((Nat × List Value × Nat × List Value × List Value × MM) ⊕ (Option Value × MM)))
def nx (pc : Nat) (ls st : List Value) (M : MM) : RS := some (.inl (pc, ls, st, M))
def cl1 (ls : List Value) (i : Nat) : List Value := match i with
  | 0 => ls
  | j + 1 => match ls[j]? with
    | some v => if v.category = 2 then ls.set j dm else ls
    | none => ls
def st1 (ls : List Value) (i : Nat) (v : Value) : List Value := (cl1 ls i).set i v
def st2 (ls : List Value) (i : Nat) (v : Value) : List Value := ((cl1 ls i).set i v).set (i + 1) dm
def catS : List Value → Nat
  | [] => 0
  | v :: r => v.category + catS r
def ea : List Value → List Value
  | [] => []
  | v :: r => if v.category = 2 then v :: dm :: ea r else v :: ea r
def ent (k : Nat) (as : List Value) : List Value := ea as ++ List.replicate (mlo k - (ea as).length) dm
def jmp (pc : Nat) (off : Int) : Nat := ((pc : Int) + off).toNat
def icc (c : ClassFile.Cond) (x y : Int32) (a b : Nat) : Nat := match c with
  | .eq => if x = y then a else b
  | .ne => if x = y then b else a
  | .lt => if x < y then a else b
  | .ge => if x < y then b else a
  | .gt => if y < x then a else b
  | .le => if y < x then b else a
def swT (pc : Nat) (d : Int) : Int → List Int → Int32 → Nat
  | _, [], _ => jmp pc d
  | lo, o :: os, x => if x = Int32.ofInt lo then jmp pc o else swT pc d (lo + 1) os x
def lkT (pc : Nat) (d : Int) : List (Int × Int) → Int32 → Nat
  | [], _ => jmp pc d
  | (a, o) :: os, x => if x = Int32.ofInt a then jmp pc o else lkT pc d os x
def gv (ty : FieldType) (M : MM) (a j : Nat) : Value := match ty with
  | .long => .long (mL M a j)
  | .object _ => rf (mR M a j)
  | .array _ => rf (mR M a j)
  | _ => .int (mI M a j)
def pv (ty : FieldType) (M : MM) (a j : Nat) (v : Value) : Option MM := match ty, v with
  | .long, .long x => some (sL M a j x)
  | .int, .int x => some (sI M a j x)
  | .boolean, .int x => if x = 0 ∨ x = 1 then some (sI M a j x) else none
  | .object _, .ref q => some (sR M a j (some q))
  | .object _, .null => some (sR M a j none)
  | .array _, .ref q => some (sR M a j (some q))
  | .array _, .null => some (sR M a j none)
  | _, _ => none
def isB (t : Nat) : Bool := t == 22 || t == 23 || t == 31
def isArr (t : Nat) : Bool := (20 ≤ t && t ≤ 25) || t == 31
def slen (M : MM) : Nat := (mI M 1 0).toNatClampNeg
def nbv (t : Nat) (x : Int32) : Int32 := if t = 22 then x.toInt8.toInt32 else x &&& 1
def ldI (pc j : Nat) (ls st : List Value) (M : MM) : RS := match ls[j]? with
  | some (.int x) => nx pc ls (.int x :: st) M
  | _ => none
def ldL (pc j : Nat) (ls st : List Value) (M : MM) : RS := match ls[j]? with
  | some (.long x) => nx pc ls (.long x :: st) M
  | _ => none
def ldA (pc j : Nat) (ls st : List Value) (M : MM) : RS := match ls[j]? with
  | some (.ref a) => nx pc ls (.ref a :: st) M
  | some .null => nx pc ls (.null :: st) M
  | some (.retAddr 2) => nx pc ls (.retAddr 2 :: st) M
  | _ => none
def stI (pc j : Nat) (ls st : List Value) (M : MM) : RS := match st with
  | .int x :: r => if j < ls.length then nx pc (st1 ls j (.int x)) r M else none
  | _ => none
def stL (pc j : Nat) (ls st : List Value) (M : MM) : RS := match st with
  | .long x :: r => if j + 1 < ls.length then nx pc (st2 ls j (.long x)) r M else none
  | _ => none
def stA (pc j : Nat) (ls st : List Value) (M : MM) : RS := match st with
  | .ref a :: r => if j < ls.length then nx pc (st1 ls j (.ref a)) r M else none
  | .null :: r => if j < ls.length then nx pc (st1 ls j .null) r M else none
  | _ => none
def b2I (f : Int32 → Int32 → Int32) (pc : Nat) (ls st : List Value) (M : MM) : RS := match st with
  | .int y :: .int x :: r => nx (pc + 1) ls (.int (f x y) :: r) M
  | _ => none
def b2D (f : Int32 → Int32 → Int32) (pc : Nat) (ls st : List Value) (M : MM) : RS := match st with
  | .int y :: .int x :: r => if y = 0 then none else nx (pc + 1) ls (.int (f x y) :: r) M
  | _ => none
def b2L (f : Int64 → Int64 → Int64) (pc : Nat) (ls st : List Value) (M : MM) : RS := match st with
  | .long y :: .long x :: r => nx (pc + 1) ls (.long (f x y) :: r) M
  | _ => none
def b2E (f : Int64 → Int64 → Int64) (pc : Nat) (ls st : List Value) (M : MM) : RS := match st with
  | .long y :: .long x :: r => if y = 0 then none else nx (pc + 1) ls (.long (f x y) :: r) M
  | _ => none
def b2S (f : Int64 → Int32 → Int64) (pc : Nat) (ls st : List Value) (M : MM) : RS := match st with
  | .int y :: .long x :: r => nx (pc + 1) ls (.long (f x y) :: r) M
  | _ => none
def u1I (f : Int32 → Int32) (pc : Nat) (ls st : List Value) (M : MM) : RS := match st with
  | .int x :: r => nx (pc + 1) ls (.int (f x) :: r) M
  | _ => none
def iRem (x y : Int32) : Int32 := x - x / y * y
def lRem (x y : Int64) : Int64 := x - x / y * y
def iShl (x y : Int32) : Int32 := x <<< (y &&& 31)
def iShr (x y : Int32) : Int32 := x >>> (y &&& 31)
def iUshr (x y : Int32) : Int32 := (x.toUInt32 >>> (y.toUInt32 &&& Int32.toUInt32 31)).toInt32
def lShl (x : Int64) (y : Int32) : Int64 := x <<< (y.toInt64 &&& 63)
def lShr (x : Int64) (y : Int32) : Int64 := x >>> (y.toInt64 &&& 63)
def lUshr (x : Int64) (y : Int32) : Int64 := (x.toUInt64 >>> (y.toInt64.toUInt64 &&& Int64.toUInt64 63)).toInt64
def tagA (t : ArrayType) : Nat := match t with
  | .int => 20
  | .long => 21
  | .byte => 22
  | .boolean => 23
  | _ => 97
def tagO (c : Nat) : Nat := match c with
  | 9 => 24
  | 6 => 25
  | _ => 97
def cmpO (t : Nat) : Nat := match t with
  | 24 => 9
  | 25 => 6
  | _ => 96
def narOK (ty : Option FieldType) (x : Int32) : Prop := ∃ t, ty = some t ∧ narrow t (.int x) = .int x
def narB (ty : Option FieldType) (x : Int32) : Bool := match ty with
  | some .int => true
  | some .boolean => x &&& 1 == x
  | some .char => x.toUInt32.toUInt16.toUInt32.toInt32 == x
  | some .byte => x.toInt8.toInt32 == x
  | some .short => x.toInt16.toInt32 == x
  | _ => false
def isRT (ty : Option FieldType) : Bool := match ty with
  | some (.object _) => true
  | some (.array _) => true
  | _ => false
def rcvB (as : List Value) (c : Nat) : Bool := match as with
  | .ref a :: _ => (TY a).1 == c
  | _ => false
def argB : Value → Bool
  | .int _ => true
  | .long _ => true
  | .ref _ => true
  | .null => true
  | .retAddr n => n == 1
  | _ => false
def acpy (pc : Nat) (ls st : List Value) (M : MM) : RS := match st with
  | .int n :: .int dp :: .ref b :: .int sp :: .ref a :: r =>
    if (¬ sp < 0 ∧ ¬ dp < 0 ∧ ¬ n < 0) ∧ sp.toNatClampNeg + n.toNatClampNeg ≤ (TY a).2 ∧ dp.toNatClampNeg + n.toNatClampNeg ≤ (TY b).2 ∧ catS r ≤ 8 then
      (if (TY a).1 = 20 ∧ (TY b).1 = 20 then nx (pc + 3) ls r (cI M a sp.toNatClampNeg b dp.toNatClampNeg n.toNatClampNeg)
      else if (TY a).1 = 21 ∧ (TY b).1 = 21 then nx (pc + 3) ls r (cL M a sp.toNatClampNeg b dp.toNatClampNeg n.toNatClampNeg) else none)
    else none
  | _ => none
def ivk (kind k idx pc : Nat) (ls st : List Value) (M : MM) : RS := match mth (own_ k) idx with
  | none => none
  | some k' =>
    if k' = 1000 then (match st with
      | .ref _ :: r => if kind = 2 ∧ catS r ≤ 8 then nx (pc + 3) ls r M else none
      | _ => none)
    else if k' = 1001 then (if kind = 1 then acpy pc ls st M else none)
    else if k' = 1002 then (match st with
      | .int x :: r => if kind = 1 ∧ catS r ≤ 8 then nx (pc + 3) ls (.int (if 0 ≤ x then x else 0 - x) :: r) M else none
      | _ => none)
    else if k' = 1003 then (match st with
      | .int y :: .int x :: r => if kind = 1 ∧ catS r ≤ 8 then nx (pc + 3) ls (.int (if x < y then y else x) :: r) M else none
      | _ => none)
    else if k' = 1004 then (match st with
      | .int y :: .int x :: r => if kind = 1 ∧ catS r ≤ 8 then nx (pc + 3) ls (.int (if y < x then y else x) :: r) M else none
      | _ => none)
    else if (kind == 1) = sta k' ∧ ((kind == 2) = ((nam k').name == "<init>")) ∧ ((st.take (nar k')).reverse).length = nar k' ∧ (st.take (nar k')).all argB = true ∧ catS (st.drop (nar k')) ≤ 8 ∧ (ea (st.take (nar k')).reverse).length ≤ mlo k' then
      (if kind = 1 ∨ rcvB (st.take (nar k')).reverse (own_ k') = true then some (.inr (.inl (k', (st.take (nar k')).reverse, pc + 3, ls, st.drop (nar k'), M))) else none)
    else none
def opI (k : Nat) (i : Instr) (len pc : Nat) (ls st : List Value) (M : MM) : RS := match i with
  | .aload_n j => ldA (pc + 1) j.val ls st M
  | .aload j => ldA (pc + 2) j ls st M
  | .iload_n j => ldI (pc + 1) j.val ls st M
  | .iload j => ldI (pc + 2) j ls st M
  | .lload_n j => ldL (pc + 1) j.val ls st M
  | .lload j => ldL (pc + 2) j ls st M
  | .astore_n j => stA (pc + 1) j.val ls st M
  | .astore j => stA (pc + 2) j ls st M
  | .istore_n j => stI (pc + 1) j.val ls st M
  | .istore j => stI (pc + 2) j ls st M
  | .lstore_n j => stL (pc + 1) j.val ls st M
  | .lstore j => stL (pc + 2) j ls st M
  | .iinc j n => (match ls[j]? with
    | some (.int x) => nx (pc + 3) (st1 ls j (.int (x + Int32.ofInt n))) st M
    | _ => none)
  | .iconst n => nx (pc + 1) ls (.int (Int32.ofInt n) :: st) M
  | .lconst n => nx (pc + 1) ls (.long (Int64.ofNat n.val) :: st) M
  | .bipush n => nx (pc + 2) ls (.int (Int8.ofInt n).toInt32 :: st) M
  | .sipush n => nx (pc + 3) ls (.int (Int16.ofInt n).toInt32 :: st) M
  | .aconst_null => nx (pc + 1) ls (.null :: st) M
  | .ldc x => (match str_ (own_ k) x with
    | some a => nx (pc + 2) ls (.ref a :: st) M
    | none => none)
  | .ldc_w x => (match cst (own_ k) x with
    | some v => nx (pc + 3) ls (.int v :: st) M
    | none => none)
  | .ldc2_w x => (match lng (own_ k) x with
    | some v => nx (pc + 3) ls (.long v :: st) M
    | none => none)
  | .getstatic x => (match stc (own_ k) x with
    | some v => nx (pc + 3) ls (v :: st) M
    | none => none)
  | .getfield x => (match fld (own_ k) x with
    | some q => (match st with
      | .ref a :: r => if (TY a).1 = q.1 then nx (pc + 3) ls (gv (FT q.1 q.2) M a q.2 :: r) M else none
      | _ => none)
    | none => none)
  | .putfield x => (match fld (own_ k) x with
    | some q => (match st with
      | v :: .ref a :: r => if (TY a).1 = q.1 ∧ q.1 < 12 ∧ (FF q.1 q.2 = true → (nam k).name = "<init>" ∧ own_ k = q.1) then (match pv (FT q.1 q.2) M a q.2 v with
        | some M' => nx (pc + 3) ls r M'
        | none => none) else none
      | _ => none)
    | none => none)
  | .new x => (match cls (own_ k) x with
    | some c => if c < 12 ∧ TY (mN M) = (c, 0) then nx (pc + 3) ls (.ref (mN M) :: st) (nw M) else none
    | none => none)
  | .newarray t => (match st with
    | .int n :: r => if ¬ n < 0 ∧ TY (mN M) = (tagA t, n.toNatClampNeg) then nx (pc + 2) ls (.ref (mN M) :: r) (nw M) else none
    | _ => none)
  | .anewarray x => (match cls (own_ k) x with
    | some c => (match st with
      | .int n :: r => if ¬ n < 0 ∧ TY (mN M) = (tagO c, n.toNatClampNeg) then nx (pc + 3) ls (.ref (mN M) :: r) (nw M) else none
      | _ => none)
    | none => none)
  | .arraylength => (match st with
    | .ref a :: r => if isArr (TY a).1 = true then nx (pc + 1) ls (.int (Int32.ofNat (TY a).2) :: r) M else none
    | .retAddr 2 :: r => nx (pc + 1) ls (.int (mI M 1 0) :: r) M
    | _ => none)
  | .iaload => (match st with
    | .int i :: .ref a :: r => if (TY a).1 = 20 ∧ inb i (TY a).2 then nx (pc + 1) ls (.int (mI M a i.toNatClampNeg) :: r) M else none
    | .int i :: .retAddr 2 :: r => if inb i (slen M) then nx (pc + 1) ls (.int (mI M 0 i.toNatClampNeg) :: r) M else none
    | _ => none)
  | .baload => (match st with
    | .int i :: .ref a :: r => if isB (TY a).1 = true ∧ inb i (TY a).2 then nx (pc + 1) ls (.int (mI M a i.toNatClampNeg) :: r) M else none
    | _ => none)
  | .laload => (match st with
    | .int i :: .ref a :: r => if (TY a).1 = 21 ∧ inb i (TY a).2 then nx (pc + 1) ls (.long (mL M a i.toNatClampNeg) :: r) M else none
    | _ => none)
  | .aaload => (match st with
    | .int i :: .ref a :: r => if ((TY a).1 = 24 ∨ (TY a).1 = 25) ∧ inb i (TY a).2 then nx (pc + 1) ls (rf (mR M a i.toNatClampNeg) :: r) M else none
    | _ => none)
  | .iastore => (match st with
    | .int x :: .int i :: .ref a :: r => if (TY a).1 = 20 ∧ inb i (TY a).2 then nx (pc + 1) ls r (sI M a i.toNatClampNeg x) else none
    | _ => none)
  | .bastore => (match st with
    | .int x :: .int i :: .ref a :: r => if ((TY a).1 = 22 ∨ (TY a).1 = 23) ∧ inb i (TY a).2 then nx (pc + 1) ls r (sI M a i.toNatClampNeg (nbv (TY a).1 x)) else none
    | _ => none)
  | .lastore => (match st with
    | .long x :: .int i :: .ref a :: r => if (TY a).1 = 21 ∧ inb i (TY a).2 then nx (pc + 1) ls r (sL M a i.toNatClampNeg x) else none
    | _ => none)
  | .aastore => (match st with
    | .ref q :: .int i :: .ref a :: r => if ((TY a).1 = 24 ∨ (TY a).1 = 25) ∧ (TY q).1 = cmpO (TY a).1 ∧ inb i (TY a).2 then nx (pc + 1) ls r (sR M a i.toNatClampNeg (some q)) else none
    | _ => none)
  | .iadd => b2I (fun x y => x + y) pc ls st M
  | .isub => b2I (fun x y => x - y) pc ls st M
  | .imul => b2I (fun x y => x * y) pc ls st M
  | .iand => b2I (fun x y => x &&& y) pc ls st M
  | .ior => b2I (fun x y => x ||| y) pc ls st M
  | .ixor => b2I (fun x y => x ^^^ y) pc ls st M
  | .ishl => b2I iShl pc ls st M
  | .ishr => b2I iShr pc ls st M
  | .iushr => b2I iUshr pc ls st M
  | .idiv => b2D (fun x y => x / y) pc ls st M
  | .irem => b2D iRem pc ls st M
  | .ineg => u1I (fun x => -x) pc ls st M
  | .i2b => u1I (fun x => x.toInt8.toInt32) pc ls st M
  | .i2s => u1I (fun x => x.toInt16.toInt32) pc ls st M
  | .i2c => u1I (fun x => (x.toUInt32 % 65536).toInt32) pc ls st M
  | .i2l => (match st with
    | .int x :: r => nx (pc + 1) ls (.long x.toInt64 :: r) M
    | _ => none)
  | .l2i => (match st with
    | .long x :: r => nx (pc + 1) ls (.int x.toInt32 :: r) M
    | _ => none)
  | .ladd => b2L (fun x y => x + y) pc ls st M
  | .lsub => b2L (fun x y => x - y) pc ls st M
  | .lmul => b2L (fun x y => x * y) pc ls st M
  | .land => b2L (fun x y => x &&& y) pc ls st M
  | .lor => b2L (fun x y => x ||| y) pc ls st M
  | .lxor => b2L (fun x y => x ^^^ y) pc ls st M
  | .ldiv => b2E (fun x y => x / y) pc ls st M
  | .lrem => b2E lRem pc ls st M
  | .lshl => b2S lShl pc ls st M
  | .lshr => b2S lShr pc ls st M
  | .lushr => b2S lUshr pc ls st M
  | .lcmp => (match st with
    | .long y :: .long x :: r => nx (pc + 1) ls (.int (lg_cmp x y) :: r) M
    | _ => none)
  | .dup => (match st with
    | v :: r => if v.category = 1 then nx (pc + 1) ls (v :: v :: r) M else none
    | _ => none)
  | .dup2 => (match st with
    | v :: w :: r => if v.category = 1 ∧ w.category = 1 then nx (pc + 1) ls (v :: w :: v :: w :: r) M else none
    | _ => none)
  | .pop => (match st with
    | v :: r => if v.category = 1 then nx (pc + 1) ls r M else none
    | _ => none)
  | .goto off => if 0 ≤ (pc : Int) + off then nx (jmp pc off) ls st M else none
  | .ifCond c off => (match st with
    | .int x :: r => if 0 ≤ (pc : Int) + off then nx (icc c x 0 (jmp pc off) (pc + 3)) ls r M else none
    | _ => none)
  | .if_icmp c off => (match st with
    | .int y :: .int x :: r => if 0 ≤ (pc : Int) + off then nx (icc c x y (jmp pc off) (pc + 3)) ls r M else none
    | _ => none)
  | .ifnull off => (match st with
    | .null :: r => if 0 ≤ (pc : Int) + off then nx (jmp pc off) ls r M else none
    | .ref _ :: r => if 0 ≤ (pc : Int) + off then nx (pc + 3) ls r M else none
    | _ => none)
  | .ifnonnull off => (match st with
    | .null :: r => if 0 ≤ (pc : Int) + off then nx (pc + 3) ls r M else none
    | .ref _ :: r => if 0 ≤ (pc : Int) + off then nx (jmp pc off) ls r M else none
    | _ => none)
  | .tableswitch d lo hi offs => (match st with
    | .int x :: r => if (0 ≤ (pc : Int) + d ∧ offs.toList.all (fun o => decide (0 ≤ (pc : Int) + o)) = true) ∧ (-2147483648 ≤ lo ∧ hi < 2147483648 ∧ hi + 1 - lo = (offs.toList.length : Int)) then nx (swT pc d lo offs.toList x) ls r M else none
    | _ => none)
  | .lookupswitch d ps => (match st with
    | .int x :: r => if (0 ≤ (pc : Int) + d ∧ ps.toList.all (fun o => decide (0 ≤ (pc : Int) + o.2) && decide ((Int32.ofInt o.1).toInt = o.1)) = true) ∧ (ps.toList.zip (ps.toList.drop 1)).all (fun (a, next) => a.1 < next.1) = true then nx (lkT pc d ps.toList x) ls r M else none
    | _ => none)
  | .invokevirtual x => ivk 0 k x pc ls st M
  | .invokestatic x => ivk 1 k x pc ls st M
  | .invokespecial x => ivk 2 k x pc ls st M
  | .ireturn => (match st with
    | [.int x] => if narB (ret_ k) x = true then some (.inr (.inr (some (.int x), M))) else none
    | _ => none)
  | .lreturn => (match st with
    | [.long x] => if ret_ k = some .long then some (.inr (.inr (some (.long x), M))) else none
    | _ => none)
  | .areturn => (match st with
    | [.ref a] => if isRT (ret_ k) = true then some (.inr (.inr (some (.ref a), M))) else none
    | [.null] => if isRT (ret_ k) = true then some (.inr (.inr (some .null, M))) else none
    | _ => none)
  | .return_ => (match st with
    | [] => if ret_ k = none then some (.inr (.inr (none, M))) else none
    | _ => none)
  | _ => none
def lenB (i : Instr) (len : Nat) : Bool := match i with
  | .aload _ | .iload _ | .lload _ | .astore _ | .istore _ | .lstore _ | .bipush _ | .ldc _ | .newarray _ => len == 2
  | .iinc _ _ | .sipush _ | .ldc_w _ | .ldc2_w _ | .getstatic _ | .getfield _ | .putfield _ | .new _ | .anewarray _ | .goto _ | .ifCond _ _ | .if_icmp _ _ | .ifnull _ | .ifnonnull _ | .invokevirtual _ | .invokestatic _ | .invokespecial _ => len == 3
  | .tableswitch _ _ _ _ | .lookupswitch _ _ => true
  | _ => len == 1
def opS (k : Nat) (i : Instr) (len pc : Nat) (ls st : List Value) (M : MM) : RS := if lenB i len = true then opI k i len pc ls st M else none
def stp (k : Nat) (cf : CF) : RS := match decode (cod k) cf.1 with
  | .ok q => opS k q.1 q.2 cf.1 cf.2.1 cf.2.2.1 cf.2.2.2
  | .error _ => none
def run : Nat → Nat → Nat → CF → Option (Option Value × MM)
  | 0, _, _, _ => none
  | n + 1, d, k, cf => match stp k cf with
    | none => none
    | some (.inl c') => run n d k c'
    | some (.inr (.inl (k', as, pc', ls, r, M))) => (match d with
      | 0 => none
      | d' + 1 => (match run n d' k' (0, ent k' as, [], M) with
        | none => none
        | some (v, M') => run n (d' + 1) k (pc', ls, v.toList ++ r, M')))
    | some (.inr (.inr (v, M))) => some (v, M)
def WP (d k : Nat) (cf : CF) (Q : Option Value → MM → Prop) : Prop := ∃ (n : Nat) (r : Option Value) (M' : MM), run n d k cf = some (r, M') ∧ Q r M'
def CL (d k : Nat) (as : List Value) (M : MM) (Q : Option Value → MM → Prop) : Prop := WP d k (0, ent k as, [], M) Q
theorem run_succ : ∀ (n d k : Nat) (cf : CF) (x : Option Value × MM), run n d k cf = some x → run (n + 1) d k cf = some x := by
  intro n
  induction n with
  | zero => intro d k cf x h; cases h
  | succ n ih =>
    intro d k cf x h
    rw [run] at h ⊢
    cases hs : stp k cf with
    | none => rw [hs] at h; cases h
    | some q =>
      rw [hs] at h
      match q, h with
      | .inl c', h => exact ih _ _ _ _ h
      | .inr (.inr (v, M)), h => exact h
      | .inr (.inl (k', as, pc', ls, r, M)), h =>
        cases d with
        | zero => cases h
        | succ d' =>
          dsimp only at h ⊢
          cases hc : run n d' k' (0, ent k' as, [], M) with
          | none => rw [hc] at h; cases h
          | some y =>
            rw [hc] at h
            rw [ih _ _ _ _ hc]
            exact ih _ _ _ _ h
theorem run_le {n m d k : Nat} {cf : CF} {x : Option Value × MM} (hnm : n ≤ m) (h : run n d k cf = some x) : run m d k cf = some x := by
  induction hnm with
  | refl => exact h
  | step _ ih => exact run_succ _ _ _ _ _ ih
theorem wp_nx {d k : Nat} {cf c' : CF} {Q : Option Value → MM → Prop} (h : stp k cf = some (.inl c')) : WP d k cf Q = WP d k c' Q := by
  apply propext
  constructor
  · rintro ⟨n, r, M', hr, hq⟩
    cases n with
    | zero => cases hr
    | succ n => rw [run, h] at hr; exact ⟨n, r, M', hr, hq⟩
  · rintro ⟨n, r, M', hr, hq⟩
    exact ⟨n + 1, r, M', by rw [run, h]; exact hr, hq⟩
theorem wp_no {d k : Nat} {cf : CF} {Q : Option Value → MM → Prop} (h : stp k cf = none) : WP d k cf Q = False := by
  apply propext
  constructor
  · rintro ⟨n, r, M', hr, hq⟩
    cases n with
    | zero => cases hr
    | succ n => rw [run, h] at hr; cases hr
  · exact False.elim
theorem wp_ret {d k : Nat} {cf : CF} {v : Option Value} {M : MM} {Q : Option Value → MM → Prop} (h : stp k cf = some (.inr (.inr (v, M)))) : WP d k cf Q = Q v M := by
  apply propext
  constructor
  · rintro ⟨n, r, M', hr, hq⟩
    cases n with
    | zero => cases hr
    | succ n => rw [run, h] at hr; cases hr; exact hq
  · intro hq
    exact ⟨1, v, M, by rw [run, h], hq⟩
theorem wp_call {d k k' pc' : Nat} {cf : CF} {as ls r : List Value} {M : MM} {Q : Option Value → MM → Prop} (h : stp k cf = some (.inr (.inl (k', as, pc', ls, r, M)))) :
    WP (d + 1) k cf Q = CL d k' as M (fun v M' => WP (d + 1) k (pc', ls, v.toList ++ r, M') Q) := by
  apply propext
  constructor
  · rintro ⟨n, w, M', hr, hq⟩
    cases n with
    | zero => cases hr
    | succ n =>
      rw [run, h] at hr
      dsimp only at hr
      cases hc : run n d k' (0, ent k' as, [], M) with
      | none => rw [hc] at hr; cases hr
      | some y =>
        rw [hc] at hr
        exact ⟨n, y.1, y.2, hc, n, w, M', hr, hq⟩
  · rintro ⟨n1, v, M1, h1, n2, w, M', h2, hq⟩
    refine ⟨max n1 n2 + 1, w, M', ?_, hq⟩
    rw [run, h]
    dsimp only
    rw [run_le (Nat.le_max_left n1 n2) h1]
    exact run_le (Nat.le_max_right n1 n2) h2
theorem WP.mono {d k : Nat} {cf : CF} {Q Q' : Option Value → MM → Prop} (h : WP d k cf Q) (hq : ∀ r M, Q r M → Q' r M) : WP d k cf Q' := by
  obtain ⟨n, r, M', hr, h1⟩ := h
  exact ⟨n, r, M', hr, hq _ _ h1⟩
theorem CL.mono {d k : Nat} {as : List Value} {M : MM} {Q Q' : Option Value → MM → Prop} (h : CL d k as M Q) (hq : ∀ r M, Q r M → Q' r M) : CL d k as M Q' := WP.mono h hq
/-! ===== an instruction, as a law of WP: its decode row, what it does, what is behind it ===== -/
theorem stp_of {k pc len : Nat} {cc : ByteArray} {i : Instr} {ls st : List Value} {M : MM} {r : RS} (hc : cod k = cc) (hd : decode cc pc = .ok (i, len)) (ho : opS k i len pc ls st M = r) : stp k (pc, ls, st, M) = r := by
  unfold stp
  dsimp only
  rw [hc, hd]
  exact ho
theorem wn {d k pc len : Nat} {cc : ByteArray} {i : Instr} {ls st : List Value} {M : MM} {c' : CF} {Q : Option Value → MM → Prop} {P : Prop} (hc : cod k = cc) (hd : decode cc pc = .ok (i, len)) (ho : opS k i len pc ls st M = some (.inl c')) (h : WP d k c' Q = P) : WP d k (pc, ls, st, M) Q = P := (wp_nx (stp_of hc hd ho)).trans h
theorem wnc {d k pc len : Nat} {cc : ByteArray} {i : Instr} {ls st : List Value} {M : MM} {c' : CF} {Q : Option Value → MM → Prop} {P C : Prop} {inst : Decidable C} (hc : cod k = cc) (hd : decode cc pc = .ok (i, len)) (ho : opS k i len pc ls st M = @ite _ C inst (some (.inl c')) none) (h : C → WP d k c' Q = P) : WP d k (pc, ls, st, M) Q = (C ∧ P) := by
  by_cases hC : C
  · rw [if_pos hC] at ho
    rw [wp_nx (stp_of hc hd ho), h hC]
    exact propext ⟨fun p => ⟨hC, p⟩, fun p => p.2⟩
  · rw [if_neg hC] at ho
    rw [wp_no (stp_of hc hd ho)]
    exact propext ⟨fun p => p.elim, fun p => hC p.1⟩
theorem wit {d k a b : Nat} {ls st : List Value} {M : MM} {Q : Option Value → MM → Prop} {P1 P2 C : Prop} {inst : Decidable C} (h1 : WP d k (a, ls, st, M) Q = P1) (h2 : WP d k (b, ls, st, M) Q = P2) : WP d k (@ite _ C inst a b, ls, st, M) Q = @ite _ C inst P1 P2 := by
  by_cases hC : C
  · rw [if_pos hC, if_pos hC]; exact h1
  · rw [if_neg hC, if_neg hC]; exact h2
theorem wcl {d k pc len k' pc' : Nat} {cc : ByteArray} {i : Instr} {ls st as r : List Value} {M : MM} {Q : Option Value → MM → Prop} (hc : cod k = cc) (hd : decode cc pc = .ok (i, len)) (ho : opS k i len pc ls st M = some (.inr (.inl (k', as, pc', ls, r, M)))) : WP (d + 1) k (pc, ls, st, M) Q = CL d k' as M (fun v M' => WP (d + 1) k (pc', ls, v.toList ++ r, M') Q) := wp_call (stp_of hc hd ho)
theorem wclc {d k pc len k' pc' : Nat} {cc : ByteArray} {i : Instr} {ls st as r : List Value} {M : MM} {Q : Option Value → MM → Prop} {C : Prop} {inst : Decidable C} (hc : cod k = cc) (hd : decode cc pc = .ok (i, len)) (ho : opS k i len pc ls st M = @ite _ C inst (some (.inr (.inl (k', as, pc', ls, r, M)))) none) : WP (d + 1) k (pc, ls, st, M) Q = (C ∧ CL d k' as M (fun v M' => WP (d + 1) k (pc', ls, v.toList ++ r, M') Q)) := by
  by_cases hC : C
  · rw [if_pos hC] at ho
    rw [wp_call (stp_of hc hd ho)]
    exact propext ⟨fun p => ⟨hC, p⟩, fun p => p.2⟩
  · rw [if_neg hC] at ho
    rw [wp_no (stp_of hc hd ho)]
    exact propext ⟨fun p => p.elim, fun p => hC p.1⟩
theorem wrt {d k pc len : Nat} {cc : ByteArray} {i : Instr} {ls st : List Value} {M : MM} {v : Option Value} {Q : Option Value → MM → Prop} (hc : cod k = cc) (hd : decode cc pc = .ok (i, len)) (ho : opS k i len pc ls st M = some (.inr (.inr (v, M)))) : WP d k (pc, ls, st, M) Q = Q v M := wp_ret (stp_of hc hd ho)
theorem wrtc {d k pc len : Nat} {cc : ByteArray} {i : Instr} {ls st : List Value} {M : MM} {v : Option Value} {Q : Option Value → MM → Prop} {C : Prop} {inst : Decidable C} (hc : cod k = cc) (hd : decode cc pc = .ok (i, len)) (ho : opS k i len pc ls st M = @ite _ C inst (some (.inr (.inr (v, M)))) none) : WP d k (pc, ls, st, M) Q = (C ∧ Q v M) := by
  by_cases hC : C
  · rw [if_pos hC] at ho
    rw [wp_ret (stp_of hc hd ho)]
    exact propext ⟨fun p => ⟨hC, p⟩, fun p => p.2⟩
  · rw [if_neg hC] at ho
    rw [wp_no (stp_of hc hd ho)]
    exact propext ⟨fun p => p.elim, fun p => hC p.1⟩
/-- a reference that is used: it isn't null -/
theorem wrf {o : Option Nat} {F : Value → Prop} {P : Nat → Prop} (hn : F .null = False) (hs : ∀ q, F (.ref q) = P q) : F (rf o) = ∃ q, o = some q ∧ P q := by
  cases o with
  | none => rw [show rf none = Value.null from rfl, hn]; exact propext ⟨fun h => h.elim, fun ⟨q, h, _⟩ => by cases h⟩
  | some a => rw [show rf (some a) = Value.ref a from rfl, hs]; exact propext ⟨fun h => ⟨a, rfl, h⟩, fun ⟨q, h, p⟩ => by cases h; exact p⟩
theorem wro {o : Option Nat} {F : Value → Prop} {P1 : Prop} {P : Nat → Prop} (hn : F .null = P1) (hs : ∀ q, F (.ref q) = P q) : F (rf o) = o.elim P1 P := by
  cases o with
  | none => exact hn
  | some a => exact hs a

