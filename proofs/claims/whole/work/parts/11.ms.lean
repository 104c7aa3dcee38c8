def jm_MS : List jx_M := [jm_i0, jm_i1, jm_i2, jm_i3, jm_i4, jm_i5, jm_i6, jm_i7, jm_i8, jm_i9, jm_i10, jm_i11, jm_i12, jm_i13, jm_i14, jm_i15, jm_i16, jm_i17, jm_i18, jm_i19, jm_i20, jm_i21, jm_i22, jm_i23, jm_i24, jm_i25, jm_i26, jm_i27, jm_i28, jm_i29, jm_i30, jm_i31, jm_i32, jm_i33, jm_i34, jm_i35, jm_i36, jm_i37, jm_i38, jm_i39, jm_i40, jm_i41, jm_i42, jm_i43, jm_i44, jm_i45, jm_i46, jm_i47, jm_i48, jm_i49, jm_i50, jm_i51, jm_i52, jm_i53, jm_i54, jm_i55, jm_i56, jm_i57, jm_i58, jm_i59, jm_i60, jm_i61, jm_i62, jm_i63, jm_i64, jm_i65, jm_i66, jm_i67, jm_i68, jm_i69, jm_i70, jm_i71, jm_i72, jm_i73, jm_i74, jm_i75, jm_i76, jm_i77, jm_i78, jm_i79, jm_i80, jm_i81, jm_i82, jm_i83, jm_i84, jm_i85, jm_i86, jm_i87, jm_i88, jm_i89, jm_i90, jm_i91, jm_i92, jm_i93, jm_i94, jm_i95, jm_i96, jm_i97, jm_i98, jm_i99, jm_i100, jm_i101, jm_i102, jm_i103, jm_i104, jm_i105, jm_i106, jm_i107, jm_i108, jm_i109, jm_i110, jm_i111, jm_i112, jm_i113, jm_i114, jm_i115, jm_i116, jm_i117, jm_i118, jm_i119, jm_i120, jm_i121, jm_i122, jm_i123, jm_i124, jm_i125, jm_i126, jm_i127, jm_i128, jm_i129, jm_i130, jm_i131, jm_i132, jm_i133, jm_i134, jm_i135, jm_i136, jm_i137, jm_i138, jm_i139, jm_i140, jm_i141, jm_i142, jm_i143, jm_i144, jm_i145, jm_i146, jm_i147, jm_i148, jm_i149, jm_i150, jm_i151, jm_i152, jm_i153, jm_i154, jm_i155, jm_i156, jm_i157, jm_i158, jm_i159, jm_i160, jm_i161, jm_i162, jm_i163, jm_i164, jm_i165, jm_i166, jm_i167, jm_i168, jm_i169, jm_i170, jm_i171, jm_i172, jm_i173, jm_i174, jm_i175, jm_i176, jm_i177, jm_i178, jm_i179, jm_i180, jm_i181, jm_i182, jm_i183, jm_i184, jm_i185, jm_i186, jm_i187, jm_i188, jm_i189, jm_i190, jm_i191, jm_i192, jm_i193, jm_i194, jm_i195, jm_i196, jm_i197, jm_i198, jm_i199, jm_i200, jm_i201, jm_i202, jm_i203, jm_i204, jm_i205, jm_i206, jm_i207, jm_i208, jm_i209, jm_i210, jm_i211, jm_i212, jm_i213, jm_i214, jm_i215, jm_i216, jm_i217, jm_i218, jm_i219, jm_i220, jm_i221, jm_i222, jm_i223, jm_i224, jm_i225, jm_i226, jm_i227, jm_i228, jm_i229, jm_i230, jm_i231, jm_i232, jm_i233, jm_i234, jm_i235, jm_i236, jm_i237, jm_i238, jm_i239, jm_i240, jm_i241, jm_i242, jm_i243, jm_i244, jm_i245, jm_i246, jm_i247, jm_i248, jm_i249, jm_i250, jm_i251, jm_i252, jm_i253, jm_i254, jm_i255, jm_i256, jm_i257, jm_i258, jm_i259, jm_i260, jm_i261, jm_i262, jm_i263, jm_i264, jm_i265, jm_i266, jm_i267, jm_i268, jm_i269, jm_i270, jm_i271, jm_i272, jm_i273, jm_i274, jm_i275, jm_i276, jm_i277, jm_i278, jm_i279, jm_i280, jm_i281, jm_i282, jm_i283, jm_i284, jm_i285, jm_i286, jm_i287, jm_i288, jm_i289, jm_i290, jm_i291, jm_i292, jm_i293, jm_i294, jm_i295, jm_i296, jm_i297, jm_i298, jm_i299, jm_i300, jm_i301, jm_i302, jm_i303, jm_i304, jm_i305, jm_i306, jm_i307, jm_i308, jm_i309]
set_option maxRecDepth 100000 in
theorem jm_MS_ok : ∀ (m : Nat) (i : jx_M), jm_MS[m]? = some i → jx_okM m i := by
  intro m i h
  match m, h with
  | 0, h => cases h; exact jm_ok0
  | 1, h => cases h; exact jm_ok1
  | 2, h => cases h; exact jm_ok2
  | 3, h => cases h; exact jm_ok3
  | 4, h => cases h; exact jm_ok4
  | 5, h => cases h; exact jm_ok5
  | 6, h => cases h; exact jm_ok6
  | 7, h => cases h; exact jm_ok7
  | 8, h => cases h; exact jm_ok8
  | 9, h => cases h; exact jm_ok9
  | 10, h => cases h; exact jm_ok10
  | 11, h => cases h; exact jm_ok11
  | 12, h => cases h; exact jm_ok12
  | 13, h => cases h; exact jm_ok13
  | 14, h => cases h; exact jm_ok14
  | 15, h => cases h; exact jm_ok15
  | 16, h => cases h; exact jm_ok16
  | 17, h => cases h; exact jm_ok17
  | 18, h => cases h; exact jm_ok18
  | 19, h => cases h; exact jm_ok19
  | 20, h => cases h; exact jm_ok20
  | 21, h => cases h; exact jm_ok21
  | 22, h => cases h; exact jm_ok22
  | 23, h => cases h; exact jm_ok23
  | 24, h => cases h; exact jm_ok24
  | 25, h => cases h; exact jm_ok25
  | 26, h => cases h; exact jm_ok26
  | 27, h => cases h; exact jm_ok27
  | 28, h => cases h; exact jm_ok28
  | 29, h => cases h; exact jm_ok29
  | 30, h => cases h; exact jm_ok30
  | 31, h => cases h; exact jm_ok31
  | 32, h => cases h; exact jm_ok32
  | 33, h => cases h; exact jm_ok33
  | 34, h => cases h; exact jm_ok34
  | 35, h => cases h; exact jm_ok35
  | 36, h => cases h; exact jm_ok36
  | 37, h => cases h; exact jm_ok37
  | 38, h => cases h; exact jm_ok38
  | 39, h => cases h; exact jm_ok39
  | 40, h => cases h; exact jm_ok40
  | 41, h => cases h; exact jm_ok41
  | 42, h => cases h; exact jm_ok42
  | 43, h => cases h; exact jm_ok43
  | 44, h => cases h; exact jm_ok44
  | 45, h => cases h; exact jm_ok45
  | 46, h => cases h; exact jm_ok46
  | 47, h => cases h; exact jm_ok47
  | 48, h => cases h; exact jm_ok48
  | 49, h => cases h; exact jm_ok49
  | 50, h => cases h; exact jm_ok50
  | 51, h => cases h; exact jm_ok51
  | 52, h => cases h; exact jm_ok52
  | 53, h => cases h; exact jm_ok53
  | 54, h => cases h; exact jm_ok54
  | 55, h => cases h; exact jm_ok55
  | 56, h => cases h; exact jm_ok56
  | 57, h => cases h; exact jm_ok57
  | 58, h => cases h; exact jm_ok58
  | 59, h => cases h; exact jm_ok59
  | 60, h => cases h; exact jm_ok60
  | 61, h => cases h; exact jm_ok61
  | 62, h => cases h; exact jm_ok62
  | 63, h => cases h; exact jm_ok63
  | 64, h => cases h; exact jm_ok64
  | 65, h => cases h; exact jm_ok65
  | 66, h => cases h; exact jm_ok66
  | 67, h => cases h; exact jm_ok67
  | 68, h => cases h; exact jm_ok68
  | 69, h => cases h; exact jm_ok69
  | 70, h => cases h; exact jm_ok70
  | 71, h => cases h; exact jm_ok71
  | 72, h => cases h; exact jm_ok72
  | 73, h => cases h; exact jm_ok73
  | 74, h => cases h; exact jm_ok74
  | 75, h => cases h; exact jm_ok75
  | 76, h => cases h; exact jm_ok76
  | 77, h => cases h; exact jm_ok77
  | 78, h => cases h; exact jm_ok78
  | 79, h => cases h; exact jm_ok79
  | 80, h => cases h; exact jm_ok80
  | 81, h => cases h; exact jm_ok81
  | 82, h => cases h; exact jm_ok82
  | 83, h => cases h; exact jm_ok83
  | 84, h => cases h; exact jm_ok84
  | 85, h => cases h; exact jm_ok85
  | 86, h => cases h; exact jm_ok86
  | 87, h => cases h; exact jm_ok87
  | 88, h => cases h; exact jm_ok88
  | 89, h => cases h; exact jm_ok89
  | 90, h => cases h; exact jm_ok90
  | 91, h => cases h; exact jm_ok91
  | 92, h => cases h; exact jm_ok92
  | 93, h => cases h; exact jm_ok93
  | 94, h => cases h; exact jm_ok94
  | 95, h => cases h; exact jm_ok95
  | 96, h => cases h; exact jm_ok96
  | 97, h => cases h; exact jm_ok97
  | 98, h => cases h; exact jm_ok98
  | 99, h => cases h; exact jm_ok99
  | 100, h => cases h; exact jm_ok100
  | 101, h => cases h; exact jm_ok101
  | 102, h => cases h; exact jm_ok102
  | 103, h => cases h; exact jm_ok103
  | 104, h => cases h; exact jm_ok104
  | 105, h => cases h; exact jm_ok105
  | 106, h => cases h; exact jm_ok106
  | 107, h => cases h; exact jm_ok107
  | 108, h => cases h; exact jm_ok108
  | 109, h => cases h; exact jm_ok109
  | 110, h => cases h; exact jm_ok110
  | 111, h => cases h; exact jm_ok111
  | 112, h => cases h; exact jm_ok112
  | 113, h => cases h; exact jm_ok113
  | 114, h => cases h; exact jm_ok114
  | 115, h => cases h; exact jm_ok115
  | 116, h => cases h; exact jm_ok116
  | 117, h => cases h; exact jm_ok117
  | 118, h => cases h; exact jm_ok118
  | 119, h => cases h; exact jm_ok119
  | 120, h => cases h; exact jm_ok120
  | 121, h => cases h; exact jm_ok121
  | 122, h => cases h; exact jm_ok122
  | 123, h => cases h; exact jm_ok123
  | 124, h => cases h; exact jm_ok124
  | 125, h => cases h; exact jm_ok125
  | 126, h => cases h; exact jm_ok126
  | 127, h => cases h; exact jm_ok127
  | 128, h => cases h; exact jm_ok128
  | 129, h => cases h; exact jm_ok129
  | 130, h => cases h; exact jm_ok130
  | 131, h => cases h; exact jm_ok131
  | 132, h => cases h; exact jm_ok132
  | 133, h => cases h; exact jm_ok133
  | 134, h => cases h; exact jm_ok134
  | 135, h => cases h; exact jm_ok135
  | 136, h => cases h; exact jm_ok136
  | 137, h => cases h; exact jm_ok137
  | 138, h => cases h; exact jm_ok138
  | 139, h => cases h; exact jm_ok139
  | 140, h => cases h; exact jm_ok140
  | 141, h => cases h; exact jm_ok141
  | 142, h => cases h; exact jm_ok142
  | 143, h => cases h; exact jm_ok143
  | 144, h => cases h; exact jm_ok144
  | 145, h => cases h; exact jm_ok145
  | 146, h => cases h; exact jm_ok146
  | 147, h => cases h; exact jm_ok147
  | 148, h => cases h; exact jm_ok148
  | 149, h => cases h; exact jm_ok149
  | 150, h => cases h; exact jm_ok150
  | 151, h => cases h; exact jm_ok151
  | 152, h => cases h; exact jm_ok152
  | 153, h => cases h; exact jm_ok153
  | 154, h => cases h; exact jm_ok154
  | 155, h => cases h; exact jm_ok155
  | 156, h => cases h; exact jm_ok156
  | 157, h => cases h; exact jm_ok157
  | 158, h => cases h; exact jm_ok158
  | 159, h => cases h; exact jm_ok159
  | 160, h => cases h; exact jm_ok160
  | 161, h => cases h; exact jm_ok161
  | 162, h => cases h; exact jm_ok162
  | 163, h => cases h; exact jm_ok163
  | 164, h => cases h; exact jm_ok164
  | 165, h => cases h; exact jm_ok165
  | 166, h => cases h; exact jm_ok166
  | 167, h => cases h; exact jm_ok167
  | 168, h => cases h; exact jm_ok168
  | 169, h => cases h; exact jm_ok169
  | 170, h => cases h; exact jm_ok170
  | 171, h => cases h; exact jm_ok171
  | 172, h => cases h; exact jm_ok172
  | 173, h => cases h; exact jm_ok173
  | 174, h => cases h; exact jm_ok174
  | 175, h => cases h; exact jm_ok175
  | 176, h => cases h; exact jm_ok176
  | 177, h => cases h; exact jm_ok177
  | 178, h => cases h; exact jm_ok178
  | 179, h => cases h; exact jm_ok179
  | 180, h => cases h; exact jm_ok180
  | 181, h => cases h; exact jm_ok181
  | 182, h => cases h; exact jm_ok182
  | 183, h => cases h; exact jm_ok183
  | 184, h => cases h; exact jm_ok184
  | 185, h => cases h; exact jm_ok185
  | 186, h => cases h; exact jm_ok186
  | 187, h => cases h; exact jm_ok187
  | 188, h => cases h; exact jm_ok188
  | 189, h => cases h; exact jm_ok189
  | 190, h => cases h; exact jm_ok190
  | 191, h => cases h; exact jm_ok191
  | 192, h => cases h; exact jm_ok192
  | 193, h => cases h; exact jm_ok193
  | 194, h => cases h; exact jm_ok194
  | 195, h => cases h; exact jm_ok195
  | 196, h => cases h; exact jm_ok196
  | 197, h => cases h; exact jm_ok197
  | 198, h => cases h; exact jm_ok198
  | 199, h => cases h; exact jm_ok199
  | 200, h => cases h; exact jm_ok200
  | 201, h => cases h; exact jm_ok201
  | 202, h => cases h; exact jm_ok202
  | 203, h => cases h; exact jm_ok203
  | 204, h => cases h; exact jm_ok204
  | 205, h => cases h; exact jm_ok205
  | 206, h => cases h; exact jm_ok206
  | 207, h => cases h; exact jm_ok207
  | 208, h => cases h; exact jm_ok208
  | 209, h => cases h; exact jm_ok209
  | 210, h => cases h; exact jm_ok210
  | 211, h => cases h; exact jm_ok211
  | 212, h => cases h; exact jm_ok212
  | 213, h => cases h; exact jm_ok213
  | 214, h => cases h; exact jm_ok214
  | 215, h => cases h; exact jm_ok215
  | 216, h => cases h; exact jm_ok216
  | 217, h => cases h; exact jm_ok217
  | 218, h => cases h; exact jm_ok218
  | 219, h => cases h; exact jm_ok219
  | 220, h => cases h; exact jm_ok220
  | 221, h => cases h; exact jm_ok221
  | 222, h => cases h; exact jm_ok222
  | 223, h => cases h; exact jm_ok223
  | 224, h => cases h; exact jm_ok224
  | 225, h => cases h; exact jm_ok225
  | 226, h => cases h; exact jm_ok226
  | 227, h => cases h; exact jm_ok227
  | 228, h => cases h; exact jm_ok228
  | 229, h => cases h; exact jm_ok229
  | 230, h => cases h; exact jm_ok230
  | 231, h => cases h; exact jm_ok231
  | 232, h => cases h; exact jm_ok232
  | 233, h => cases h; exact jm_ok233
  | 234, h => cases h; exact jm_ok234
  | 235, h => cases h; exact jm_ok235
  | 236, h => cases h; exact jm_ok236
  | 237, h => cases h; exact jm_ok237
  | 238, h => cases h; exact jm_ok238
  | 239, h => cases h; exact jm_ok239
  | 240, h => cases h; exact jm_ok240
  | 241, h => cases h; exact jm_ok241
  | 242, h => cases h; exact jm_ok242
  | 243, h => cases h; exact jm_ok243
  | 244, h => cases h; exact jm_ok244
  | 245, h => cases h; exact jm_ok245
  | 246, h => cases h; exact jm_ok246
  | 247, h => cases h; exact jm_ok247
  | 248, h => cases h; exact jm_ok248
  | 249, h => cases h; exact jm_ok249
  | 250, h => cases h; exact jm_ok250
  | 251, h => cases h; exact jm_ok251
  | 252, h => cases h; exact jm_ok252
  | 253, h => cases h; exact jm_ok253
  | 254, h => cases h; exact jm_ok254
  | 255, h => cases h; exact jm_ok255
  | 256, h => cases h; exact jm_ok256
  | 257, h => cases h; exact jm_ok257
  | 258, h => cases h; exact jm_ok258
  | 259, h => cases h; exact jm_ok259
  | 260, h => cases h; exact jm_ok260
  | 261, h => cases h; exact jm_ok261
  | 262, h => cases h; exact jm_ok262
  | 263, h => cases h; exact jm_ok263
  | 264, h => cases h; exact jm_ok264
  | 265, h => cases h; exact jm_ok265
  | 266, h => cases h; exact jm_ok266
  | 267, h => cases h; exact jm_ok267
  | 268, h => cases h; exact jm_ok268
  | 269, h => cases h; exact jm_ok269
  | 270, h => cases h; exact jm_ok270
  | 271, h => cases h; exact jm_ok271
  | 272, h => cases h; exact jm_ok272
  | 273, h => cases h; exact jm_ok273
  | 274, h => cases h; exact jm_ok274
  | 275, h => cases h; exact jm_ok275
  | 276, h => cases h; exact jm_ok276
  | 277, h => cases h; exact jm_ok277
  | 278, h => cases h; exact jm_ok278
  | 279, h => cases h; exact jm_ok279
  | 280, h => cases h; exact jm_ok280
  | 281, h => cases h; exact jm_ok281
  | 282, h => cases h; exact jm_ok282
  | 283, h => cases h; exact jm_ok283
  | 284, h => cases h; exact jm_ok284
  | 285, h => cases h; exact jm_ok285
  | 286, h => cases h; exact jm_ok286
  | 287, h => cases h; exact jm_ok287
  | 288, h => cases h; exact jm_ok288
  | 289, h => cases h; exact jm_ok289
  | 290, h => cases h; exact jm_ok290
  | 291, h => cases h; exact jm_ok291
  | 292, h => cases h; exact jm_ok292
  | 293, h => cases h; exact jm_ok293
  | 294, h => cases h; exact jm_ok294
  | 295, h => cases h; exact jm_ok295
  | 296, h => cases h; exact jm_ok296
  | 297, h => cases h; exact jm_ok297
  | 298, h => cases h; exact jm_ok298
  | 299, h => cases h; exact jm_ok299
  | 300, h => cases h; exact jm_ok300
  | 301, h => cases h; exact jm_ok301
  | 302, h => cases h; exact jm_ok302
  | 303, h => cases h; exact jm_ok303
  | 304, h => cases h; exact jm_ok304
  | 305, h => cases h; exact jm_ok305
  | 306, h => cases h; exact jm_ok306
  | 307, h => cases h; exact jm_ok307
  | 308, h => cases h; exact jm_ok308
  | 309, h => cases h; exact jm_ok309
  | k + 310, h =>
    have e : jm_MS[k + 310]? = none := List.getElem?_eq_none (Nat.le_add_left _ _)
    rw [e] at h
    cases h
set_option maxRecDepth 100000 in
theorem jm_at0 : jm_MS[0]? = some jm_i0 := rfl
set_option maxRecDepth 100000 in
theorem jm_at1 : jm_MS[1]? = some jm_i1 := rfl
set_option maxRecDepth 100000 in
theorem jm_at2 : jm_MS[2]? = some jm_i2 := rfl
set_option maxRecDepth 100000 in
theorem jm_at3 : jm_MS[3]? = some jm_i3 := rfl
set_option maxRecDepth 100000 in
theorem jm_at4 : jm_MS[4]? = some jm_i4 := rfl
set_option maxRecDepth 100000 in
theorem jm_at5 : jm_MS[5]? = some jm_i5 := rfl
set_option maxRecDepth 100000 in
theorem jm_at6 : jm_MS[6]? = some jm_i6 := rfl
set_option maxRecDepth 100000 in
theorem jm_at7 : jm_MS[7]? = some jm_i7 := rfl
set_option maxRecDepth 100000 in
theorem jm_at8 : jm_MS[8]? = some jm_i8 := rfl
set_option maxRecDepth 100000 in
theorem jm_at9 : jm_MS[9]? = some jm_i9 := rfl
set_option maxRecDepth 100000 in
theorem jm_at10 : jm_MS[10]? = some jm_i10 := rfl
set_option maxRecDepth 100000 in
theorem jm_at11 : jm_MS[11]? = some jm_i11 := rfl
set_option maxRecDepth 100000 in
theorem jm_at12 : jm_MS[12]? = some jm_i12 := rfl
set_option maxRecDepth 100000 in
theorem jm_at13 : jm_MS[13]? = some jm_i13 := rfl
set_option maxRecDepth 100000 in
theorem jm_at14 : jm_MS[14]? = some jm_i14 := rfl
set_option maxRecDepth 100000 in
theorem jm_at15 : jm_MS[15]? = some jm_i15 := rfl
set_option maxRecDepth 100000 in
theorem jm_at16 : jm_MS[16]? = some jm_i16 := rfl
set_option maxRecDepth 100000 in
theorem jm_at17 : jm_MS[17]? = some jm_i17 := rfl
set_option maxRecDepth 100000 in
theorem jm_at18 : jm_MS[18]? = some jm_i18 := rfl
set_option maxRecDepth 100000 in
theorem jm_at19 : jm_MS[19]? = some jm_i19 := rfl
set_option maxRecDepth 100000 in
theorem jm_at20 : jm_MS[20]? = some jm_i20 := rfl
set_option maxRecDepth 100000 in
theorem jm_at21 : jm_MS[21]? = some jm_i21 := rfl
set_option maxRecDepth 100000 in
theorem jm_at22 : jm_MS[22]? = some jm_i22 := rfl
set_option maxRecDepth 100000 in
theorem jm_at23 : jm_MS[23]? = some jm_i23 := rfl
set_option maxRecDepth 100000 in
theorem jm_at24 : jm_MS[24]? = some jm_i24 := rfl
set_option maxRecDepth 100000 in
theorem jm_at25 : jm_MS[25]? = some jm_i25 := rfl
set_option maxRecDepth 100000 in
theorem jm_at26 : jm_MS[26]? = some jm_i26 := rfl
set_option maxRecDepth 100000 in
theorem jm_at27 : jm_MS[27]? = some jm_i27 := rfl
set_option maxRecDepth 100000 in
theorem jm_at28 : jm_MS[28]? = some jm_i28 := rfl
set_option maxRecDepth 100000 in
theorem jm_at29 : jm_MS[29]? = some jm_i29 := rfl
set_option maxRecDepth 100000 in
theorem jm_at30 : jm_MS[30]? = some jm_i30 := rfl
set_option maxRecDepth 100000 in
theorem jm_at31 : jm_MS[31]? = some jm_i31 := rfl
set_option maxRecDepth 100000 in
theorem jm_at32 : jm_MS[32]? = some jm_i32 := rfl
set_option maxRecDepth 100000 in
theorem jm_at33 : jm_MS[33]? = some jm_i33 := rfl
set_option maxRecDepth 100000 in
theorem jm_at34 : jm_MS[34]? = some jm_i34 := rfl
set_option maxRecDepth 100000 in
theorem jm_at35 : jm_MS[35]? = some jm_i35 := rfl
set_option maxRecDepth 100000 in
theorem jm_at36 : jm_MS[36]? = some jm_i36 := rfl
set_option maxRecDepth 100000 in
theorem jm_at37 : jm_MS[37]? = some jm_i37 := rfl
set_option maxRecDepth 100000 in
theorem jm_at38 : jm_MS[38]? = some jm_i38 := rfl
set_option maxRecDepth 100000 in
theorem jm_at39 : jm_MS[39]? = some jm_i39 := rfl
set_option maxRecDepth 100000 in
theorem jm_at40 : jm_MS[40]? = some jm_i40 := rfl
set_option maxRecDepth 100000 in
theorem jm_at41 : jm_MS[41]? = some jm_i41 := rfl
set_option maxRecDepth 100000 in
theorem jm_at42 : jm_MS[42]? = some jm_i42 := rfl
set_option maxRecDepth 100000 in
theorem jm_at43 : jm_MS[43]? = some jm_i43 := rfl
set_option maxRecDepth 100000 in
theorem jm_at44 : jm_MS[44]? = some jm_i44 := rfl
set_option maxRecDepth 100000 in
theorem jm_at45 : jm_MS[45]? = some jm_i45 := rfl
set_option maxRecDepth 100000 in
theorem jm_at46 : jm_MS[46]? = some jm_i46 := rfl
set_option maxRecDepth 100000 in
theorem jm_at47 : jm_MS[47]? = some jm_i47 := rfl
set_option maxRecDepth 100000 in
theorem jm_at48 : jm_MS[48]? = some jm_i48 := rfl
set_option maxRecDepth 100000 in
theorem jm_at49 : jm_MS[49]? = some jm_i49 := rfl
set_option maxRecDepth 100000 in
theorem jm_at50 : jm_MS[50]? = some jm_i50 := rfl
set_option maxRecDepth 100000 in
theorem jm_at51 : jm_MS[51]? = some jm_i51 := rfl
set_option maxRecDepth 100000 in
theorem jm_at52 : jm_MS[52]? = some jm_i52 := rfl
set_option maxRecDepth 100000 in
theorem jm_at53 : jm_MS[53]? = some jm_i53 := rfl
set_option maxRecDepth 100000 in
theorem jm_at54 : jm_MS[54]? = some jm_i54 := rfl
set_option maxRecDepth 100000 in
theorem jm_at55 : jm_MS[55]? = some jm_i55 := rfl
set_option maxRecDepth 100000 in
theorem jm_at56 : jm_MS[56]? = some jm_i56 := rfl
set_option maxRecDepth 100000 in
theorem jm_at57 : jm_MS[57]? = some jm_i57 := rfl
set_option maxRecDepth 100000 in
theorem jm_at58 : jm_MS[58]? = some jm_i58 := rfl
set_option maxRecDepth 100000 in
theorem jm_at59 : jm_MS[59]? = some jm_i59 := rfl
set_option maxRecDepth 100000 in
theorem jm_at60 : jm_MS[60]? = some jm_i60 := rfl
set_option maxRecDepth 100000 in
theorem jm_at61 : jm_MS[61]? = some jm_i61 := rfl
set_option maxRecDepth 100000 in
theorem jm_at62 : jm_MS[62]? = some jm_i62 := rfl
set_option maxRecDepth 100000 in
theorem jm_at63 : jm_MS[63]? = some jm_i63 := rfl
set_option maxRecDepth 100000 in
theorem jm_at64 : jm_MS[64]? = some jm_i64 := rfl
set_option maxRecDepth 100000 in
theorem jm_at65 : jm_MS[65]? = some jm_i65 := rfl
set_option maxRecDepth 100000 in
theorem jm_at66 : jm_MS[66]? = some jm_i66 := rfl
set_option maxRecDepth 100000 in
theorem jm_at67 : jm_MS[67]? = some jm_i67 := rfl
set_option maxRecDepth 100000 in
theorem jm_at68 : jm_MS[68]? = some jm_i68 := rfl
set_option maxRecDepth 100000 in
theorem jm_at69 : jm_MS[69]? = some jm_i69 := rfl
set_option maxRecDepth 100000 in
theorem jm_at70 : jm_MS[70]? = some jm_i70 := rfl
set_option maxRecDepth 100000 in
theorem jm_at71 : jm_MS[71]? = some jm_i71 := rfl
set_option maxRecDepth 100000 in
theorem jm_at72 : jm_MS[72]? = some jm_i72 := rfl
set_option maxRecDepth 100000 in
theorem jm_at73 : jm_MS[73]? = some jm_i73 := rfl
set_option maxRecDepth 100000 in
theorem jm_at74 : jm_MS[74]? = some jm_i74 := rfl
set_option maxRecDepth 100000 in
theorem jm_at75 : jm_MS[75]? = some jm_i75 := rfl
set_option maxRecDepth 100000 in
theorem jm_at76 : jm_MS[76]? = some jm_i76 := rfl
set_option maxRecDepth 100000 in
theorem jm_at77 : jm_MS[77]? = some jm_i77 := rfl
set_option maxRecDepth 100000 in
theorem jm_at78 : jm_MS[78]? = some jm_i78 := rfl
set_option maxRecDepth 100000 in
theorem jm_at79 : jm_MS[79]? = some jm_i79 := rfl
set_option maxRecDepth 100000 in
theorem jm_at80 : jm_MS[80]? = some jm_i80 := rfl
set_option maxRecDepth 100000 in
theorem jm_at81 : jm_MS[81]? = some jm_i81 := rfl
set_option maxRecDepth 100000 in
theorem jm_at82 : jm_MS[82]? = some jm_i82 := rfl
set_option maxRecDepth 100000 in
theorem jm_at83 : jm_MS[83]? = some jm_i83 := rfl
set_option maxRecDepth 100000 in
theorem jm_at84 : jm_MS[84]? = some jm_i84 := rfl
set_option maxRecDepth 100000 in
theorem jm_at85 : jm_MS[85]? = some jm_i85 := rfl
set_option maxRecDepth 100000 in
theorem jm_at86 : jm_MS[86]? = some jm_i86 := rfl
set_option maxRecDepth 100000 in
theorem jm_at87 : jm_MS[87]? = some jm_i87 := rfl
set_option maxRecDepth 100000 in
theorem jm_at88 : jm_MS[88]? = some jm_i88 := rfl
set_option maxRecDepth 100000 in
theorem jm_at89 : jm_MS[89]? = some jm_i89 := rfl
set_option maxRecDepth 100000 in
theorem jm_at90 : jm_MS[90]? = some jm_i90 := rfl
set_option maxRecDepth 100000 in
theorem jm_at91 : jm_MS[91]? = some jm_i91 := rfl
set_option maxRecDepth 100000 in
theorem jm_at92 : jm_MS[92]? = some jm_i92 := rfl
set_option maxRecDepth 100000 in
theorem jm_at93 : jm_MS[93]? = some jm_i93 := rfl
set_option maxRecDepth 100000 in
theorem jm_at94 : jm_MS[94]? = some jm_i94 := rfl
set_option maxRecDepth 100000 in
theorem jm_at95 : jm_MS[95]? = some jm_i95 := rfl
set_option maxRecDepth 100000 in
theorem jm_at96 : jm_MS[96]? = some jm_i96 := rfl
set_option maxRecDepth 100000 in
theorem jm_at97 : jm_MS[97]? = some jm_i97 := rfl
set_option maxRecDepth 100000 in
theorem jm_at98 : jm_MS[98]? = some jm_i98 := rfl
set_option maxRecDepth 100000 in
theorem jm_at99 : jm_MS[99]? = some jm_i99 := rfl
set_option maxRecDepth 100000 in
theorem jm_at100 : jm_MS[100]? = some jm_i100 := rfl
set_option maxRecDepth 100000 in
theorem jm_at101 : jm_MS[101]? = some jm_i101 := rfl
set_option maxRecDepth 100000 in
theorem jm_at102 : jm_MS[102]? = some jm_i102 := rfl
set_option maxRecDepth 100000 in
theorem jm_at103 : jm_MS[103]? = some jm_i103 := rfl
set_option maxRecDepth 100000 in
theorem jm_at104 : jm_MS[104]? = some jm_i104 := rfl
set_option maxRecDepth 100000 in
theorem jm_at105 : jm_MS[105]? = some jm_i105 := rfl
set_option maxRecDepth 100000 in
theorem jm_at106 : jm_MS[106]? = some jm_i106 := rfl
set_option maxRecDepth 100000 in
theorem jm_at107 : jm_MS[107]? = some jm_i107 := rfl
set_option maxRecDepth 100000 in
theorem jm_at108 : jm_MS[108]? = some jm_i108 := rfl
set_option maxRecDepth 100000 in
theorem jm_at109 : jm_MS[109]? = some jm_i109 := rfl
set_option maxRecDepth 100000 in
theorem jm_at110 : jm_MS[110]? = some jm_i110 := rfl
set_option maxRecDepth 100000 in
theorem jm_at111 : jm_MS[111]? = some jm_i111 := rfl
set_option maxRecDepth 100000 in
theorem jm_at112 : jm_MS[112]? = some jm_i112 := rfl
set_option maxRecDepth 100000 in
theorem jm_at113 : jm_MS[113]? = some jm_i113 := rfl
set_option maxRecDepth 100000 in
theorem jm_at114 : jm_MS[114]? = some jm_i114 := rfl
set_option maxRecDepth 100000 in
theorem jm_at115 : jm_MS[115]? = some jm_i115 := rfl
set_option maxRecDepth 100000 in
theorem jm_at116 : jm_MS[116]? = some jm_i116 := rfl
set_option maxRecDepth 100000 in
theorem jm_at117 : jm_MS[117]? = some jm_i117 := rfl
set_option maxRecDepth 100000 in
theorem jm_at118 : jm_MS[118]? = some jm_i118 := rfl
set_option maxRecDepth 100000 in
theorem jm_at119 : jm_MS[119]? = some jm_i119 := rfl
set_option maxRecDepth 100000 in
theorem jm_at120 : jm_MS[120]? = some jm_i120 := rfl
set_option maxRecDepth 100000 in
theorem jm_at121 : jm_MS[121]? = some jm_i121 := rfl
set_option maxRecDepth 100000 in
theorem jm_at122 : jm_MS[122]? = some jm_i122 := rfl
set_option maxRecDepth 100000 in
theorem jm_at123 : jm_MS[123]? = some jm_i123 := rfl
set_option maxRecDepth 100000 in
theorem jm_at124 : jm_MS[124]? = some jm_i124 := rfl
set_option maxRecDepth 100000 in
theorem jm_at125 : jm_MS[125]? = some jm_i125 := rfl
set_option maxRecDepth 100000 in
theorem jm_at126 : jm_MS[126]? = some jm_i126 := rfl
set_option maxRecDepth 100000 in
theorem jm_at127 : jm_MS[127]? = some jm_i127 := rfl
set_option maxRecDepth 100000 in
theorem jm_at128 : jm_MS[128]? = some jm_i128 := rfl
set_option maxRecDepth 100000 in
theorem jm_at129 : jm_MS[129]? = some jm_i129 := rfl
set_option maxRecDepth 100000 in
theorem jm_at130 : jm_MS[130]? = some jm_i130 := rfl
set_option maxRecDepth 100000 in
theorem jm_at131 : jm_MS[131]? = some jm_i131 := rfl
set_option maxRecDepth 100000 in
theorem jm_at132 : jm_MS[132]? = some jm_i132 := rfl
set_option maxRecDepth 100000 in
theorem jm_at133 : jm_MS[133]? = some jm_i133 := rfl
set_option maxRecDepth 100000 in
theorem jm_at134 : jm_MS[134]? = some jm_i134 := rfl
set_option maxRecDepth 100000 in
theorem jm_at135 : jm_MS[135]? = some jm_i135 := rfl
set_option maxRecDepth 100000 in
theorem jm_at136 : jm_MS[136]? = some jm_i136 := rfl
set_option maxRecDepth 100000 in
theorem jm_at137 : jm_MS[137]? = some jm_i137 := rfl
set_option maxRecDepth 100000 in
theorem jm_at138 : jm_MS[138]? = some jm_i138 := rfl
set_option maxRecDepth 100000 in
theorem jm_at139 : jm_MS[139]? = some jm_i139 := rfl
set_option maxRecDepth 100000 in
theorem jm_at140 : jm_MS[140]? = some jm_i140 := rfl
set_option maxRecDepth 100000 in
theorem jm_at141 : jm_MS[141]? = some jm_i141 := rfl
set_option maxRecDepth 100000 in
theorem jm_at142 : jm_MS[142]? = some jm_i142 := rfl
set_option maxRecDepth 100000 in
theorem jm_at143 : jm_MS[143]? = some jm_i143 := rfl
set_option maxRecDepth 100000 in
theorem jm_at144 : jm_MS[144]? = some jm_i144 := rfl
set_option maxRecDepth 100000 in
theorem jm_at145 : jm_MS[145]? = some jm_i145 := rfl
set_option maxRecDepth 100000 in
theorem jm_at146 : jm_MS[146]? = some jm_i146 := rfl
set_option maxRecDepth 100000 in
theorem jm_at147 : jm_MS[147]? = some jm_i147 := rfl
set_option maxRecDepth 100000 in
theorem jm_at148 : jm_MS[148]? = some jm_i148 := rfl
set_option maxRecDepth 100000 in
theorem jm_at149 : jm_MS[149]? = some jm_i149 := rfl
set_option maxRecDepth 100000 in
theorem jm_at150 : jm_MS[150]? = some jm_i150 := rfl
set_option maxRecDepth 100000 in
theorem jm_at151 : jm_MS[151]? = some jm_i151 := rfl
set_option maxRecDepth 100000 in
theorem jm_at152 : jm_MS[152]? = some jm_i152 := rfl
set_option maxRecDepth 100000 in
theorem jm_at153 : jm_MS[153]? = some jm_i153 := rfl
set_option maxRecDepth 100000 in
theorem jm_at154 : jm_MS[154]? = some jm_i154 := rfl
set_option maxRecDepth 100000 in
theorem jm_at155 : jm_MS[155]? = some jm_i155 := rfl
set_option maxRecDepth 100000 in
theorem jm_at156 : jm_MS[156]? = some jm_i156 := rfl
set_option maxRecDepth 100000 in
theorem jm_at157 : jm_MS[157]? = some jm_i157 := rfl
set_option maxRecDepth 100000 in
theorem jm_at158 : jm_MS[158]? = some jm_i158 := rfl
set_option maxRecDepth 100000 in
theorem jm_at159 : jm_MS[159]? = some jm_i159 := rfl
set_option maxRecDepth 100000 in
theorem jm_at160 : jm_MS[160]? = some jm_i160 := rfl
set_option maxRecDepth 100000 in
theorem jm_at161 : jm_MS[161]? = some jm_i161 := rfl
set_option maxRecDepth 100000 in
theorem jm_at162 : jm_MS[162]? = some jm_i162 := rfl
set_option maxRecDepth 100000 in
theorem jm_at163 : jm_MS[163]? = some jm_i163 := rfl
set_option maxRecDepth 100000 in
theorem jm_at164 : jm_MS[164]? = some jm_i164 := rfl
set_option maxRecDepth 100000 in
theorem jm_at165 : jm_MS[165]? = some jm_i165 := rfl
set_option maxRecDepth 100000 in
theorem jm_at166 : jm_MS[166]? = some jm_i166 := rfl
set_option maxRecDepth 100000 in
theorem jm_at167 : jm_MS[167]? = some jm_i167 := rfl
set_option maxRecDepth 100000 in
theorem jm_at168 : jm_MS[168]? = some jm_i168 := rfl
set_option maxRecDepth 100000 in
theorem jm_at169 : jm_MS[169]? = some jm_i169 := rfl
set_option maxRecDepth 100000 in
theorem jm_at170 : jm_MS[170]? = some jm_i170 := rfl
set_option maxRecDepth 100000 in
theorem jm_at171 : jm_MS[171]? = some jm_i171 := rfl
set_option maxRecDepth 100000 in
theorem jm_at172 : jm_MS[172]? = some jm_i172 := rfl
set_option maxRecDepth 100000 in
theorem jm_at173 : jm_MS[173]? = some jm_i173 := rfl
set_option maxRecDepth 100000 in
theorem jm_at174 : jm_MS[174]? = some jm_i174 := rfl
set_option maxRecDepth 100000 in
theorem jm_at175 : jm_MS[175]? = some jm_i175 := rfl
set_option maxRecDepth 100000 in
theorem jm_at176 : jm_MS[176]? = some jm_i176 := rfl
set_option maxRecDepth 100000 in
theorem jm_at177 : jm_MS[177]? = some jm_i177 := rfl
set_option maxRecDepth 100000 in
theorem jm_at178 : jm_MS[178]? = some jm_i178 := rfl
set_option maxRecDepth 100000 in
theorem jm_at179 : jm_MS[179]? = some jm_i179 := rfl
set_option maxRecDepth 100000 in
theorem jm_at180 : jm_MS[180]? = some jm_i180 := rfl
set_option maxRecDepth 100000 in
theorem jm_at181 : jm_MS[181]? = some jm_i181 := rfl
set_option maxRecDepth 100000 in
theorem jm_at182 : jm_MS[182]? = some jm_i182 := rfl
set_option maxRecDepth 100000 in
theorem jm_at183 : jm_MS[183]? = some jm_i183 := rfl
set_option maxRecDepth 100000 in
theorem jm_at184 : jm_MS[184]? = some jm_i184 := rfl
set_option maxRecDepth 100000 in
theorem jm_at185 : jm_MS[185]? = some jm_i185 := rfl
set_option maxRecDepth 100000 in
theorem jm_at186 : jm_MS[186]? = some jm_i186 := rfl
set_option maxRecDepth 100000 in
theorem jm_at187 : jm_MS[187]? = some jm_i187 := rfl
set_option maxRecDepth 100000 in
theorem jm_at188 : jm_MS[188]? = some jm_i188 := rfl
set_option maxRecDepth 100000 in
theorem jm_at189 : jm_MS[189]? = some jm_i189 := rfl
set_option maxRecDepth 100000 in
theorem jm_at190 : jm_MS[190]? = some jm_i190 := rfl
set_option maxRecDepth 100000 in
theorem jm_at191 : jm_MS[191]? = some jm_i191 := rfl
set_option maxRecDepth 100000 in
theorem jm_at192 : jm_MS[192]? = some jm_i192 := rfl
set_option maxRecDepth 100000 in
theorem jm_at193 : jm_MS[193]? = some jm_i193 := rfl
set_option maxRecDepth 100000 in
theorem jm_at194 : jm_MS[194]? = some jm_i194 := rfl
set_option maxRecDepth 100000 in
theorem jm_at195 : jm_MS[195]? = some jm_i195 := rfl
set_option maxRecDepth 100000 in
theorem jm_at196 : jm_MS[196]? = some jm_i196 := rfl
set_option maxRecDepth 100000 in
theorem jm_at197 : jm_MS[197]? = some jm_i197 := rfl
set_option maxRecDepth 100000 in
theorem jm_at198 : jm_MS[198]? = some jm_i198 := rfl
set_option maxRecDepth 100000 in
theorem jm_at199 : jm_MS[199]? = some jm_i199 := rfl
set_option maxRecDepth 100000 in
theorem jm_at200 : jm_MS[200]? = some jm_i200 := rfl
set_option maxRecDepth 100000 in
theorem jm_at201 : jm_MS[201]? = some jm_i201 := rfl
set_option maxRecDepth 100000 in
theorem jm_at202 : jm_MS[202]? = some jm_i202 := rfl
set_option maxRecDepth 100000 in
theorem jm_at203 : jm_MS[203]? = some jm_i203 := rfl
set_option maxRecDepth 100000 in
theorem jm_at204 : jm_MS[204]? = some jm_i204 := rfl
set_option maxRecDepth 100000 in
theorem jm_at205 : jm_MS[205]? = some jm_i205 := rfl
set_option maxRecDepth 100000 in
theorem jm_at206 : jm_MS[206]? = some jm_i206 := rfl
set_option maxRecDepth 100000 in
theorem jm_at207 : jm_MS[207]? = some jm_i207 := rfl
set_option maxRecDepth 100000 in
theorem jm_at208 : jm_MS[208]? = some jm_i208 := rfl
set_option maxRecDepth 100000 in
theorem jm_at209 : jm_MS[209]? = some jm_i209 := rfl
set_option maxRecDepth 100000 in
theorem jm_at210 : jm_MS[210]? = some jm_i210 := rfl
set_option maxRecDepth 100000 in
theorem jm_at211 : jm_MS[211]? = some jm_i211 := rfl
set_option maxRecDepth 100000 in
theorem jm_at212 : jm_MS[212]? = some jm_i212 := rfl
set_option maxRecDepth 100000 in
theorem jm_at213 : jm_MS[213]? = some jm_i213 := rfl
set_option maxRecDepth 100000 in
theorem jm_at214 : jm_MS[214]? = some jm_i214 := rfl
set_option maxRecDepth 100000 in
theorem jm_at215 : jm_MS[215]? = some jm_i215 := rfl
set_option maxRecDepth 100000 in
theorem jm_at216 : jm_MS[216]? = some jm_i216 := rfl
set_option maxRecDepth 100000 in
theorem jm_at217 : jm_MS[217]? = some jm_i217 := rfl
set_option maxRecDepth 100000 in
theorem jm_at218 : jm_MS[218]? = some jm_i218 := rfl
set_option maxRecDepth 100000 in
theorem jm_at219 : jm_MS[219]? = some jm_i219 := rfl
set_option maxRecDepth 100000 in
theorem jm_at220 : jm_MS[220]? = some jm_i220 := rfl
set_option maxRecDepth 100000 in
theorem jm_at221 : jm_MS[221]? = some jm_i221 := rfl
set_option maxRecDepth 100000 in
theorem jm_at222 : jm_MS[222]? = some jm_i222 := rfl
set_option maxRecDepth 100000 in
theorem jm_at223 : jm_MS[223]? = some jm_i223 := rfl
set_option maxRecDepth 100000 in
theorem jm_at224 : jm_MS[224]? = some jm_i224 := rfl
set_option maxRecDepth 100000 in
theorem jm_at225 : jm_MS[225]? = some jm_i225 := rfl
set_option maxRecDepth 100000 in
theorem jm_at226 : jm_MS[226]? = some jm_i226 := rfl
set_option maxRecDepth 100000 in
theorem jm_at227 : jm_MS[227]? = some jm_i227 := rfl
set_option maxRecDepth 100000 in
theorem jm_at228 : jm_MS[228]? = some jm_i228 := rfl
set_option maxRecDepth 100000 in
theorem jm_at229 : jm_MS[229]? = some jm_i229 := rfl
set_option maxRecDepth 100000 in
theorem jm_at230 : jm_MS[230]? = some jm_i230 := rfl
set_option maxRecDepth 100000 in
theorem jm_at231 : jm_MS[231]? = some jm_i231 := rfl
set_option maxRecDepth 100000 in
theorem jm_at232 : jm_MS[232]? = some jm_i232 := rfl
set_option maxRecDepth 100000 in
theorem jm_at233 : jm_MS[233]? = some jm_i233 := rfl
set_option maxRecDepth 100000 in
theorem jm_at234 : jm_MS[234]? = some jm_i234 := rfl
set_option maxRecDepth 100000 in
theorem jm_at235 : jm_MS[235]? = some jm_i235 := rfl
set_option maxRecDepth 100000 in
theorem jm_at236 : jm_MS[236]? = some jm_i236 := rfl
set_option maxRecDepth 100000 in
theorem jm_at237 : jm_MS[237]? = some jm_i237 := rfl
set_option maxRecDepth 100000 in
theorem jm_at238 : jm_MS[238]? = some jm_i238 := rfl
set_option maxRecDepth 100000 in
theorem jm_at239 : jm_MS[239]? = some jm_i239 := rfl
set_option maxRecDepth 100000 in
theorem jm_at240 : jm_MS[240]? = some jm_i240 := rfl
set_option maxRecDepth 100000 in
theorem jm_at241 : jm_MS[241]? = some jm_i241 := rfl
set_option maxRecDepth 100000 in
theorem jm_at242 : jm_MS[242]? = some jm_i242 := rfl
set_option maxRecDepth 100000 in
theorem jm_at243 : jm_MS[243]? = some jm_i243 := rfl
set_option maxRecDepth 100000 in
theorem jm_at244 : jm_MS[244]? = some jm_i244 := rfl
set_option maxRecDepth 100000 in
theorem jm_at245 : jm_MS[245]? = some jm_i245 := rfl
set_option maxRecDepth 100000 in
theorem jm_at246 : jm_MS[246]? = some jm_i246 := rfl
set_option maxRecDepth 100000 in
theorem jm_at247 : jm_MS[247]? = some jm_i247 := rfl
set_option maxRecDepth 100000 in
theorem jm_at248 : jm_MS[248]? = some jm_i248 := rfl
set_option maxRecDepth 100000 in
theorem jm_at249 : jm_MS[249]? = some jm_i249 := rfl
set_option maxRecDepth 100000 in
theorem jm_at250 : jm_MS[250]? = some jm_i250 := rfl
set_option maxRecDepth 100000 in
theorem jm_at251 : jm_MS[251]? = some jm_i251 := rfl
set_option maxRecDepth 100000 in
theorem jm_at252 : jm_MS[252]? = some jm_i252 := rfl
set_option maxRecDepth 100000 in
theorem jm_at253 : jm_MS[253]? = some jm_i253 := rfl
set_option maxRecDepth 100000 in
theorem jm_at254 : jm_MS[254]? = some jm_i254 := rfl
set_option maxRecDepth 100000 in
theorem jm_at255 : jm_MS[255]? = some jm_i255 := rfl
set_option maxRecDepth 100000 in
theorem jm_at256 : jm_MS[256]? = some jm_i256 := rfl
set_option maxRecDepth 100000 in
theorem jm_at257 : jm_MS[257]? = some jm_i257 := rfl
set_option maxRecDepth 100000 in
theorem jm_at258 : jm_MS[258]? = some jm_i258 := rfl
set_option maxRecDepth 100000 in
theorem jm_at259 : jm_MS[259]? = some jm_i259 := rfl
set_option maxRecDepth 100000 in
theorem jm_at260 : jm_MS[260]? = some jm_i260 := rfl
set_option maxRecDepth 100000 in
theorem jm_at261 : jm_MS[261]? = some jm_i261 := rfl
set_option maxRecDepth 100000 in
theorem jm_at262 : jm_MS[262]? = some jm_i262 := rfl
set_option maxRecDepth 100000 in
theorem jm_at263 : jm_MS[263]? = some jm_i263 := rfl
set_option maxRecDepth 100000 in
theorem jm_at264 : jm_MS[264]? = some jm_i264 := rfl
set_option maxRecDepth 100000 in
theorem jm_at265 : jm_MS[265]? = some jm_i265 := rfl
set_option maxRecDepth 100000 in
theorem jm_at266 : jm_MS[266]? = some jm_i266 := rfl
set_option maxRecDepth 100000 in
theorem jm_at267 : jm_MS[267]? = some jm_i267 := rfl
set_option maxRecDepth 100000 in
theorem jm_at268 : jm_MS[268]? = some jm_i268 := rfl
set_option maxRecDepth 100000 in
theorem jm_at269 : jm_MS[269]? = some jm_i269 := rfl
set_option maxRecDepth 100000 in
theorem jm_at270 : jm_MS[270]? = some jm_i270 := rfl
set_option maxRecDepth 100000 in
theorem jm_at271 : jm_MS[271]? = some jm_i271 := rfl
set_option maxRecDepth 100000 in
theorem jm_at272 : jm_MS[272]? = some jm_i272 := rfl
set_option maxRecDepth 100000 in
theorem jm_at273 : jm_MS[273]? = some jm_i273 := rfl
set_option maxRecDepth 100000 in
theorem jm_at274 : jm_MS[274]? = some jm_i274 := rfl
set_option maxRecDepth 100000 in
theorem jm_at275 : jm_MS[275]? = some jm_i275 := rfl
set_option maxRecDepth 100000 in
theorem jm_at276 : jm_MS[276]? = some jm_i276 := rfl
set_option maxRecDepth 100000 in
theorem jm_at277 : jm_MS[277]? = some jm_i277 := rfl
set_option maxRecDepth 100000 in
theorem jm_at278 : jm_MS[278]? = some jm_i278 := rfl
set_option maxRecDepth 100000 in
theorem jm_at279 : jm_MS[279]? = some jm_i279 := rfl
set_option maxRecDepth 100000 in
theorem jm_at280 : jm_MS[280]? = some jm_i280 := rfl
set_option maxRecDepth 100000 in
theorem jm_at281 : jm_MS[281]? = some jm_i281 := rfl
set_option maxRecDepth 100000 in
theorem jm_at282 : jm_MS[282]? = some jm_i282 := rfl
set_option maxRecDepth 100000 in
theorem jm_at283 : jm_MS[283]? = some jm_i283 := rfl
set_option maxRecDepth 100000 in
theorem jm_at284 : jm_MS[284]? = some jm_i284 := rfl
set_option maxRecDepth 100000 in
theorem jm_at285 : jm_MS[285]? = some jm_i285 := rfl
set_option maxRecDepth 100000 in
theorem jm_at286 : jm_MS[286]? = some jm_i286 := rfl
set_option maxRecDepth 100000 in
theorem jm_at287 : jm_MS[287]? = some jm_i287 := rfl
set_option maxRecDepth 100000 in
theorem jm_at288 : jm_MS[288]? = some jm_i288 := rfl
set_option maxRecDepth 100000 in
theorem jm_at289 : jm_MS[289]? = some jm_i289 := rfl
set_option maxRecDepth 100000 in
theorem jm_at290 : jm_MS[290]? = some jm_i290 := rfl
set_option maxRecDepth 100000 in
theorem jm_at291 : jm_MS[291]? = some jm_i291 := rfl
set_option maxRecDepth 100000 in
theorem jm_at292 : jm_MS[292]? = some jm_i292 := rfl
set_option maxRecDepth 100000 in
theorem jm_at293 : jm_MS[293]? = some jm_i293 := rfl
set_option maxRecDepth 100000 in
theorem jm_at294 : jm_MS[294]? = some jm_i294 := rfl
set_option maxRecDepth 100000 in
theorem jm_at295 : jm_MS[295]? = some jm_i295 := rfl
set_option maxRecDepth 100000 in
theorem jm_at296 : jm_MS[296]? = some jm_i296 := rfl
set_option maxRecDepth 100000 in
theorem jm_at297 : jm_MS[297]? = some jm_i297 := rfl
set_option maxRecDepth 100000 in
theorem jm_at298 : jm_MS[298]? = some jm_i298 := rfl
set_option maxRecDepth 100000 in
theorem jm_at299 : jm_MS[299]? = some jm_i299 := rfl
set_option maxRecDepth 100000 in
theorem jm_at300 : jm_MS[300]? = some jm_i300 := rfl
set_option maxRecDepth 100000 in
theorem jm_at301 : jm_MS[301]? = some jm_i301 := rfl
set_option maxRecDepth 100000 in
theorem jm_at302 : jm_MS[302]? = some jm_i302 := rfl
set_option maxRecDepth 100000 in
theorem jm_at303 : jm_MS[303]? = some jm_i303 := rfl
set_option maxRecDepth 100000 in
theorem jm_at304 : jm_MS[304]? = some jm_i304 := rfl
set_option maxRecDepth 100000 in
theorem jm_at305 : jm_MS[305]? = some jm_i305 := rfl
set_option maxRecDepth 100000 in
theorem jm_at306 : jm_MS[306]? = some jm_i306 := rfl
set_option maxRecDepth 100000 in
theorem jm_at307 : jm_MS[307]? = some jm_i307 := rfl
set_option maxRecDepth 100000 in
theorem jm_at308 : jm_MS[308]? = some jm_i308 := rfl
set_option maxRecDepth 100000 in
theorem jm_at309 : jm_MS[309]? = some jm_i309 := rfl
