/-! ===== all tables ===== -/
def zP_L : List (List (Option zk_T)) := [[some zt_0, some zt_1, some zt_2, some zt_3, some zt_4, some zt_5, some zt_6, some zt_7, some zt_8, some zt_9, some zt_10, some zt_11, some zt_12, some zt_13, none, none],
  [some zt_16, some zt_17, some zt_18, some zt_19, some zt_20, some zt_21, some zt_22, some zt_23, some zt_24, none, none, some zt_27, some zt_28, none, none, none],
  [none, none, some zt_34, some zt_35, none, none, none, none, some zt_40, some zt_41, none, none, none, none, none, some zt_47],
  [some zt_48, some zt_49, some zt_50, none, some zt_52, some zt_53, some zt_54, some zt_55, some zt_56, some zt_57, some zt_58, some zt_59, none, some zt_61, none, none],
  [none, none, none, none, none, some zt_69, none, some zt_71, some zt_72, none, none, none, some zt_76, some zt_77, some zt_78, some zt_79],
  [some zt_80, some zt_81, some zt_82, some zt_83, none, none, some zt_86, some zt_87, none, some zt_89, some zt_90, none, none, none, none, none],
  [some zt_96, some zt_97, some zt_98, some zt_99, some zt_100, some zt_101, none, some zt_103, none, none, none, none, none, none, none, some zt_111],
  [some zt_112, some zt_113, some zt_114, none, none, none, none, none, none, none, none, some zt_123, some zt_124, some zt_125, none, none],
  [none, none, none, none, none, none, none, none, none, none, none, none, none, none, none, none],
  [none, none, none, none, none, none, none, none, none, none, none, none, none, none, none, none],
  [none, none, none, none, none, none, none, none, none, none, none, some zt_171, some zt_172, some zt_173, some zt_174, some zt_175],
  [some zt_176, some zt_177, some zt_178, none, none, none, none, none, none, none, some zt_186, some zt_187, some zt_188, some zt_189, some zt_190, some zt_191],
  [some zt_192, none, none, none, some zt_196, some zt_197, none, some zt_199, some zt_200, some zt_201, none, none, none, none, none, none],
  [none, none, none, none, none, none, none, some zt_215, some zt_216, none, none, some zt_219, some zt_220, some zt_221, some zt_222, none],
  [some zt_224, some zt_225, some zt_226, some zt_227, some zt_228, some zt_229, none, some zt_231, some zt_232, none, none, none, none, none, none, none],
  [some zt_240, some zt_241, some zt_242, some zt_243, some zt_244, some zt_245, none, some zt_247, some zt_248, none, some zt_250, some zt_251, some zt_252, none, some zt_254, some zt_255],
  [none, none, none, none, none, some zt_261, some zt_262, none, none, none, none, none, none, some zt_269, some zt_270, some zt_271],
  [some zt_272, some zt_273, none, none, none, none, none, none, some zt_280, some zt_281, none, none, none, none, none, none],
  [none, none, none, none, none, none, none, none, none, none, some zt_298, some zt_299, some zt_300, some zt_301, none, some zt_303],
  [some zt_304, some zt_305, some zt_306, some zt_307, some zt_308, some zt_309, some zt_310, some zt_311, some zt_312, some zt_313, some zt_314, some zt_315, some zt_316, some zt_317, some zt_318, some zt_319],
  [some zt_320, some zt_321, some zt_322, some zt_323, some zt_324, some zt_325, some zt_326, some zt_327, some zt_328, some zt_329, none, some zt_331, some zt_332, some zt_333, some zt_334, none],
  [none, none, some zt_338, some zt_339, some zt_340, some zt_341, some zt_342, some zt_343, some zt_344, some zt_345, some zt_346, some zt_347, some zt_348, some zt_349, none, none],
  [none, none, none, none, some zt_356, none, some zt_358, none, none, none, some zt_362, none, none, none, none, none],
  [none, none, none, none, none, none, some zt_374, some zt_375, some zt_376, some zt_377, some zt_378, some zt_379, some zt_380, some zt_381, some zt_382, some zt_383],
  [some zt_384, some zt_385, some zt_386, some zt_387, some zt_388, none, none, none, none, none, none, none, none, none, none, none],
  [none, none, none, some zt_403, none, none, none, none, none, none, some zt_410, some zt_411, some zt_412, some zt_413, some zt_414, some zt_415],
  [some zt_416, none, none, none, none, none, none, none, none, none, none, none, none, none, none, none],
  [none, some zt_433, none, some zt_435, some zt_436, some zt_437, some zt_438, some zt_439, some zt_440, none, some zt_442, none, none, none, none, none],
  [none, none, none, some zt_451, some zt_452, some zt_453, some zt_454, some zt_455, some zt_456, some zt_457, some zt_458, some zt_459, some zt_460, some zt_461, some zt_462, some zt_463],
  [some zt_464, some zt_465, some zt_466, none, none, none, none, none, none, none, none, none, none, none, none, none],
  [none, none, none, none, none, none, some zt_486, some zt_487, none, none, some zt_490, some zt_491, some zt_492, some zt_493, none, none]]
def zP (k : Nat) : Option zk_T := match zP_L[k / 16]? with | some t => (match t[k % 16]? with | some y => y | none => none) | none => none
theorem zP_0 : ∀ i, i < 16 → ∀ tb, (match (zP_L.getD 0 [])[i]? with | some y => y | none => none) = some tb → zk_V (16 * 0 + i) tb := fun i hi => match i, hi with
  | 0, _ => fun tb h => by cases h; exact zc_0
  | 1, _ => fun tb h => by cases h; exact zc_1
  | 2, _ => fun tb h => by cases h; exact zc_2
  | 3, _ => fun tb h => by cases h; exact zc_3
  | 4, _ => fun tb h => by cases h; exact zc_4
  | 5, _ => fun tb h => by cases h; exact zc_5
  | 6, _ => fun tb h => by cases h; exact zc_6
  | 7, _ => fun tb h => by cases h; exact zc_7
  | 8, _ => fun tb h => by cases h; exact zc_8
  | 9, _ => fun tb h => by cases h; exact zc_9
  | 10, _ => fun tb h => by cases h; exact zc_10
  | 11, _ => fun tb h => by cases h; exact zc_11
  | 12, _ => fun tb h => by cases h; exact zc_12
  | 13, _ => fun tb h => by cases h; exact zc_13
  | 14, _ => fun tb h => by cases h
  | 15, _ => fun tb h => by cases h
  | n + 16, h => absurd h (by omega)
theorem zP_1 : ∀ i, i < 16 → ∀ tb, (match (zP_L.getD 1 [])[i]? with | some y => y | none => none) = some tb → zk_V (16 * 1 + i) tb := fun i hi => match i, hi with
  | 0, _ => fun tb h => by cases h; exact zc_16
  | 1, _ => fun tb h => by cases h; exact zc_17
  | 2, _ => fun tb h => by cases h; exact zc_18
  | 3, _ => fun tb h => by cases h; exact zc_19
  | 4, _ => fun tb h => by cases h; exact zc_20
  | 5, _ => fun tb h => by cases h; exact zc_21
  | 6, _ => fun tb h => by cases h; exact zc_22
  | 7, _ => fun tb h => by cases h; exact zc_23
  | 8, _ => fun tb h => by cases h; exact zc_24
  | 9, _ => fun tb h => by cases h
  | 10, _ => fun tb h => by cases h
  | 11, _ => fun tb h => by cases h; exact zc_27
  | 12, _ => fun tb h => by cases h; exact zc_28
  | 13, _ => fun tb h => by cases h
  | 14, _ => fun tb h => by cases h
  | 15, _ => fun tb h => by cases h
  | n + 16, h => absurd h (by omega)
theorem zP_2 : ∀ i, i < 16 → ∀ tb, (match (zP_L.getD 2 [])[i]? with | some y => y | none => none) = some tb → zk_V (16 * 2 + i) tb := fun i hi => match i, hi with
  | 0, _ => fun tb h => by cases h
  | 1, _ => fun tb h => by cases h
  | 2, _ => fun tb h => by cases h; exact zc_34
  | 3, _ => fun tb h => by cases h; exact zc_35
  | 4, _ => fun tb h => by cases h
  | 5, _ => fun tb h => by cases h
  | 6, _ => fun tb h => by cases h
  | 7, _ => fun tb h => by cases h
  | 8, _ => fun tb h => by cases h; exact zc_40
  | 9, _ => fun tb h => by cases h; exact zc_41
  | 10, _ => fun tb h => by cases h
  | 11, _ => fun tb h => by cases h
  | 12, _ => fun tb h => by cases h
  | 13, _ => fun tb h => by cases h
  | 14, _ => fun tb h => by cases h
  | 15, _ => fun tb h => by cases h; exact zc_47
  | n + 16, h => absurd h (by omega)
theorem zP_3 : ∀ i, i < 16 → ∀ tb, (match (zP_L.getD 3 [])[i]? with | some y => y | none => none) = some tb → zk_V (16 * 3 + i) tb := fun i hi => match i, hi with
  | 0, _ => fun tb h => by cases h; exact zc_48
  | 1, _ => fun tb h => by cases h; exact zc_49
  | 2, _ => fun tb h => by cases h; exact zc_50
  | 3, _ => fun tb h => by cases h
  | 4, _ => fun tb h => by cases h; exact zc_52
  | 5, _ => fun tb h => by cases h; exact zc_53
  | 6, _ => fun tb h => by cases h; exact zc_54
  | 7, _ => fun tb h => by cases h; exact zc_55
  | 8, _ => fun tb h => by cases h; exact zc_56
  | 9, _ => fun tb h => by cases h; exact zc_57
  | 10, _ => fun tb h => by cases h; exact zc_58
  | 11, _ => fun tb h => by cases h; exact zc_59
  | 12, _ => fun tb h => by cases h
  | 13, _ => fun tb h => by cases h; exact zc_61
  | 14, _ => fun tb h => by cases h
  | 15, _ => fun tb h => by cases h
  | n + 16, h => absurd h (by omega)
theorem zP_4 : ∀ i, i < 16 → ∀ tb, (match (zP_L.getD 4 [])[i]? with | some y => y | none => none) = some tb → zk_V (16 * 4 + i) tb := fun i hi => match i, hi with
  | 0, _ => fun tb h => by cases h
  | 1, _ => fun tb h => by cases h
  | 2, _ => fun tb h => by cases h
  | 3, _ => fun tb h => by cases h
  | 4, _ => fun tb h => by cases h
  | 5, _ => fun tb h => by cases h; exact zc_69
  | 6, _ => fun tb h => by cases h
  | 7, _ => fun tb h => by cases h; exact zc_71
  | 8, _ => fun tb h => by cases h; exact zc_72
  | 9, _ => fun tb h => by cases h
  | 10, _ => fun tb h => by cases h
  | 11, _ => fun tb h => by cases h
  | 12, _ => fun tb h => by cases h; exact zc_76
  | 13, _ => fun tb h => by cases h; exact zc_77
  | 14, _ => fun tb h => by cases h; exact zc_78
  | 15, _ => fun tb h => by cases h; exact zc_79
  | n + 16, h => absurd h (by omega)
theorem zP_5 : ∀ i, i < 16 → ∀ tb, (match (zP_L.getD 5 [])[i]? with | some y => y | none => none) = some tb → zk_V (16 * 5 + i) tb := fun i hi => match i, hi with
  | 0, _ => fun tb h => by cases h; exact zc_80
  | 1, _ => fun tb h => by cases h; exact zc_81
  | 2, _ => fun tb h => by cases h; exact zc_82
  | 3, _ => fun tb h => by cases h; exact zc_83
  | 4, _ => fun tb h => by cases h
  | 5, _ => fun tb h => by cases h
  | 6, _ => fun tb h => by cases h; exact zc_86
  | 7, _ => fun tb h => by cases h; exact zc_87
  | 8, _ => fun tb h => by cases h
  | 9, _ => fun tb h => by cases h; exact zc_89
  | 10, _ => fun tb h => by cases h; exact zc_90
  | 11, _ => fun tb h => by cases h
  | 12, _ => fun tb h => by cases h
  | 13, _ => fun tb h => by cases h
  | 14, _ => fun tb h => by cases h
  | 15, _ => fun tb h => by cases h
  | n + 16, h => absurd h (by omega)
theorem zP_6 : ∀ i, i < 16 → ∀ tb, (match (zP_L.getD 6 [])[i]? with | some y => y | none => none) = some tb → zk_V (16 * 6 + i) tb := fun i hi => match i, hi with
  | 0, _ => fun tb h => by cases h; exact zc_96
  | 1, _ => fun tb h => by cases h; exact zc_97
  | 2, _ => fun tb h => by cases h; exact zc_98
  | 3, _ => fun tb h => by cases h; exact zc_99
  | 4, _ => fun tb h => by cases h; exact zc_100
  | 5, _ => fun tb h => by cases h; exact zc_101
  | 6, _ => fun tb h => by cases h
  | 7, _ => fun tb h => by cases h; exact zc_103
  | 8, _ => fun tb h => by cases h
  | 9, _ => fun tb h => by cases h
  | 10, _ => fun tb h => by cases h
  | 11, _ => fun tb h => by cases h
  | 12, _ => fun tb h => by cases h
  | 13, _ => fun tb h => by cases h
  | 14, _ => fun tb h => by cases h
  | 15, _ => fun tb h => by cases h; exact zc_111
  | n + 16, h => absurd h (by omega)
theorem zP_7 : ∀ i, i < 16 → ∀ tb, (match (zP_L.getD 7 [])[i]? with | some y => y | none => none) = some tb → zk_V (16 * 7 + i) tb := fun i hi => match i, hi with
  | 0, _ => fun tb h => by cases h; exact zc_112
  | 1, _ => fun tb h => by cases h; exact zc_113
  | 2, _ => fun tb h => by cases h; exact zc_114
  | 3, _ => fun tb h => by cases h
  | 4, _ => fun tb h => by cases h
  | 5, _ => fun tb h => by cases h
  | 6, _ => fun tb h => by cases h
  | 7, _ => fun tb h => by cases h
  | 8, _ => fun tb h => by cases h
  | 9, _ => fun tb h => by cases h
  | 10, _ => fun tb h => by cases h
  | 11, _ => fun tb h => by cases h; exact zc_123
  | 12, _ => fun tb h => by cases h; exact zc_124
  | 13, _ => fun tb h => by cases h; exact zc_125
  | 14, _ => fun tb h => by cases h
  | 15, _ => fun tb h => by cases h
  | n + 16, h => absurd h (by omega)
theorem zP_8 : ∀ i, i < 16 → ∀ tb, (match (zP_L.getD 8 [])[i]? with | some y => y | none => none) = some tb → zk_V (16 * 8 + i) tb := fun i hi => match i, hi with
  | 0, _ => fun tb h => by cases h
  | 1, _ => fun tb h => by cases h
  | 2, _ => fun tb h => by cases h
  | 3, _ => fun tb h => by cases h
  | 4, _ => fun tb h => by cases h
  | 5, _ => fun tb h => by cases h
  | 6, _ => fun tb h => by cases h
  | 7, _ => fun tb h => by cases h
  | 8, _ => fun tb h => by cases h
  | 9, _ => fun tb h => by cases h
  | 10, _ => fun tb h => by cases h
  | 11, _ => fun tb h => by cases h
  | 12, _ => fun tb h => by cases h
  | 13, _ => fun tb h => by cases h
  | 14, _ => fun tb h => by cases h
  | 15, _ => fun tb h => by cases h
  | n + 16, h => absurd h (by omega)
theorem zP_9 : ∀ i, i < 16 → ∀ tb, (match (zP_L.getD 9 [])[i]? with | some y => y | none => none) = some tb → zk_V (16 * 9 + i) tb := fun i hi => match i, hi with
  | 0, _ => fun tb h => by cases h
  | 1, _ => fun tb h => by cases h
  | 2, _ => fun tb h => by cases h
  | 3, _ => fun tb h => by cases h
  | 4, _ => fun tb h => by cases h
  | 5, _ => fun tb h => by cases h
  | 6, _ => fun tb h => by cases h
  | 7, _ => fun tb h => by cases h
  | 8, _ => fun tb h => by cases h
  | 9, _ => fun tb h => by cases h
  | 10, _ => fun tb h => by cases h
  | 11, _ => fun tb h => by cases h
  | 12, _ => fun tb h => by cases h
  | 13, _ => fun tb h => by cases h
  | 14, _ => fun tb h => by cases h
  | 15, _ => fun tb h => by cases h
  | n + 16, h => absurd h (by omega)
theorem zP_10 : ∀ i, i < 16 → ∀ tb, (match (zP_L.getD 10 [])[i]? with | some y => y | none => none) = some tb → zk_V (16 * 10 + i) tb := fun i hi => match i, hi with
  | 0, _ => fun tb h => by cases h
  | 1, _ => fun tb h => by cases h
  | 2, _ => fun tb h => by cases h
  | 3, _ => fun tb h => by cases h
  | 4, _ => fun tb h => by cases h
  | 5, _ => fun tb h => by cases h
  | 6, _ => fun tb h => by cases h
  | 7, _ => fun tb h => by cases h
  | 8, _ => fun tb h => by cases h
  | 9, _ => fun tb h => by cases h
  | 10, _ => fun tb h => by cases h
  | 11, _ => fun tb h => by cases h; exact zc_171
  | 12, _ => fun tb h => by cases h; exact zc_172
  | 13, _ => fun tb h => by cases h; exact zc_173
  | 14, _ => fun tb h => by cases h; exact zc_174
  | 15, _ => fun tb h => by cases h; exact zc_175
  | n + 16, h => absurd h (by omega)
theorem zP_11 : ∀ i, i < 16 → ∀ tb, (match (zP_L.getD 11 [])[i]? with | some y => y | none => none) = some tb → zk_V (16 * 11 + i) tb := fun i hi => match i, hi with
  | 0, _ => fun tb h => by cases h; exact zc_176
  | 1, _ => fun tb h => by cases h; exact zc_177
  | 2, _ => fun tb h => by cases h; exact zc_178
  | 3, _ => fun tb h => by cases h
  | 4, _ => fun tb h => by cases h
  | 5, _ => fun tb h => by cases h
  | 6, _ => fun tb h => by cases h
  | 7, _ => fun tb h => by cases h
  | 8, _ => fun tb h => by cases h
  | 9, _ => fun tb h => by cases h
  | 10, _ => fun tb h => by cases h; exact zc_186
  | 11, _ => fun tb h => by cases h; exact zc_187
  | 12, _ => fun tb h => by cases h; exact zc_188
  | 13, _ => fun tb h => by cases h; exact zc_189
  | 14, _ => fun tb h => by cases h; exact zc_190
  | 15, _ => fun tb h => by cases h; exact zc_191
  | n + 16, h => absurd h (by omega)
theorem zP_12 : ∀ i, i < 16 → ∀ tb, (match (zP_L.getD 12 [])[i]? with | some y => y | none => none) = some tb → zk_V (16 * 12 + i) tb := fun i hi => match i, hi with
  | 0, _ => fun tb h => by cases h; exact zc_192
  | 1, _ => fun tb h => by cases h
  | 2, _ => fun tb h => by cases h
  | 3, _ => fun tb h => by cases h
  | 4, _ => fun tb h => by cases h; exact zc_196
  | 5, _ => fun tb h => by cases h; exact zc_197
  | 6, _ => fun tb h => by cases h
  | 7, _ => fun tb h => by cases h; exact zc_199
  | 8, _ => fun tb h => by cases h; exact zc_200
  | 9, _ => fun tb h => by cases h; exact zc_201
  | 10, _ => fun tb h => by cases h
  | 11, _ => fun tb h => by cases h
  | 12, _ => fun tb h => by cases h
  | 13, _ => fun tb h => by cases h
  | 14, _ => fun tb h => by cases h
  | 15, _ => fun tb h => by cases h
  | n + 16, h => absurd h (by omega)
theorem zP_13 : ∀ i, i < 16 → ∀ tb, (match (zP_L.getD 13 [])[i]? with | some y => y | none => none) = some tb → zk_V (16 * 13 + i) tb := fun i hi => match i, hi with
  | 0, _ => fun tb h => by cases h
  | 1, _ => fun tb h => by cases h
  | 2, _ => fun tb h => by cases h
  | 3, _ => fun tb h => by cases h
  | 4, _ => fun tb h => by cases h
  | 5, _ => fun tb h => by cases h
  | 6, _ => fun tb h => by cases h
  | 7, _ => fun tb h => by cases h; exact zc_215
  | 8, _ => fun tb h => by cases h; exact zc_216
  | 9, _ => fun tb h => by cases h
  | 10, _ => fun tb h => by cases h
  | 11, _ => fun tb h => by cases h; exact zc_219
  | 12, _ => fun tb h => by cases h; exact zc_220
  | 13, _ => fun tb h => by cases h; exact zc_221
  | 14, _ => fun tb h => by cases h; exact zc_222
  | 15, _ => fun tb h => by cases h
  | n + 16, h => absurd h (by omega)
theorem zP_14 : ∀ i, i < 16 → ∀ tb, (match (zP_L.getD 14 [])[i]? with | some y => y | none => none) = some tb → zk_V (16 * 14 + i) tb := fun i hi => match i, hi with
  | 0, _ => fun tb h => by cases h; exact zc_224
  | 1, _ => fun tb h => by cases h; exact zc_225
  | 2, _ => fun tb h => by cases h; exact zc_226
  | 3, _ => fun tb h => by cases h; exact zc_227
  | 4, _ => fun tb h => by cases h; exact zc_228
  | 5, _ => fun tb h => by cases h; exact zc_229
  | 6, _ => fun tb h => by cases h
  | 7, _ => fun tb h => by cases h; exact zc_231
  | 8, _ => fun tb h => by cases h; exact zc_232
  | 9, _ => fun tb h => by cases h
  | 10, _ => fun tb h => by cases h
  | 11, _ => fun tb h => by cases h
  | 12, _ => fun tb h => by cases h
  | 13, _ => fun tb h => by cases h
  | 14, _ => fun tb h => by cases h
  | 15, _ => fun tb h => by cases h
  | n + 16, h => absurd h (by omega)
theorem zP_15 : ∀ i, i < 16 → ∀ tb, (match (zP_L.getD 15 [])[i]? with | some y => y | none => none) = some tb → zk_V (16 * 15 + i) tb := fun i hi => match i, hi with
  | 0, _ => fun tb h => by cases h; exact zc_240
  | 1, _ => fun tb h => by cases h; exact zc_241
  | 2, _ => fun tb h => by cases h; exact zc_242
  | 3, _ => fun tb h => by cases h; exact zc_243
  | 4, _ => fun tb h => by cases h; exact zc_244
  | 5, _ => fun tb h => by cases h; exact zc_245
  | 6, _ => fun tb h => by cases h
  | 7, _ => fun tb h => by cases h; exact zc_247
  | 8, _ => fun tb h => by cases h; exact zc_248
  | 9, _ => fun tb h => by cases h
  | 10, _ => fun tb h => by cases h; exact zc_250
  | 11, _ => fun tb h => by cases h; exact zc_251
  | 12, _ => fun tb h => by cases h; exact zc_252
  | 13, _ => fun tb h => by cases h
  | 14, _ => fun tb h => by cases h; exact zc_254
  | 15, _ => fun tb h => by cases h; exact zc_255
  | n + 16, h => absurd h (by omega)
theorem zP_16 : ∀ i, i < 16 → ∀ tb, (match (zP_L.getD 16 [])[i]? with | some y => y | none => none) = some tb → zk_V (16 * 16 + i) tb := fun i hi => match i, hi with
  | 0, _ => fun tb h => by cases h
  | 1, _ => fun tb h => by cases h
  | 2, _ => fun tb h => by cases h
  | 3, _ => fun tb h => by cases h
  | 4, _ => fun tb h => by cases h
  | 5, _ => fun tb h => by cases h; exact zc_261
  | 6, _ => fun tb h => by cases h; exact zc_262
  | 7, _ => fun tb h => by cases h
  | 8, _ => fun tb h => by cases h
  | 9, _ => fun tb h => by cases h
  | 10, _ => fun tb h => by cases h
  | 11, _ => fun tb h => by cases h
  | 12, _ => fun tb h => by cases h
  | 13, _ => fun tb h => by cases h; exact zc_269
  | 14, _ => fun tb h => by cases h; exact zc_270
  | 15, _ => fun tb h => by cases h; exact zc_271
  | n + 16, h => absurd h (by omega)
theorem zP_17 : ∀ i, i < 16 → ∀ tb, (match (zP_L.getD 17 [])[i]? with | some y => y | none => none) = some tb → zk_V (16 * 17 + i) tb := fun i hi => match i, hi with
  | 0, _ => fun tb h => by cases h; exact zc_272
  | 1, _ => fun tb h => by cases h; exact zc_273
  | 2, _ => fun tb h => by cases h
  | 3, _ => fun tb h => by cases h
  | 4, _ => fun tb h => by cases h
  | 5, _ => fun tb h => by cases h
  | 6, _ => fun tb h => by cases h
  | 7, _ => fun tb h => by cases h
  | 8, _ => fun tb h => by cases h; exact zc_280
  | 9, _ => fun tb h => by cases h; exact zc_281
  | 10, _ => fun tb h => by cases h
  | 11, _ => fun tb h => by cases h
  | 12, _ => fun tb h => by cases h
  | 13, _ => fun tb h => by cases h
  | 14, _ => fun tb h => by cases h
  | 15, _ => fun tb h => by cases h
  | n + 16, h => absurd h (by omega)
theorem zP_18 : ∀ i, i < 16 → ∀ tb, (match (zP_L.getD 18 [])[i]? with | some y => y | none => none) = some tb → zk_V (16 * 18 + i) tb := fun i hi => match i, hi with
  | 0, _ => fun tb h => by cases h
  | 1, _ => fun tb h => by cases h
  | 2, _ => fun tb h => by cases h
  | 3, _ => fun tb h => by cases h
  | 4, _ => fun tb h => by cases h
  | 5, _ => fun tb h => by cases h
  | 6, _ => fun tb h => by cases h
  | 7, _ => fun tb h => by cases h
  | 8, _ => fun tb h => by cases h
  | 9, _ => fun tb h => by cases h
  | 10, _ => fun tb h => by cases h; exact zc_298
  | 11, _ => fun tb h => by cases h; exact zc_299
  | 12, _ => fun tb h => by cases h; exact zc_300
  | 13, _ => fun tb h => by cases h; exact zc_301
  | 14, _ => fun tb h => by cases h
  | 15, _ => fun tb h => by cases h; exact zc_303
  | n + 16, h => absurd h (by omega)
theorem zP_19 : ∀ i, i < 16 → ∀ tb, (match (zP_L.getD 19 [])[i]? with | some y => y | none => none) = some tb → zk_V (16 * 19 + i) tb := fun i hi => match i, hi with
  | 0, _ => fun tb h => by cases h; exact zc_304
  | 1, _ => fun tb h => by cases h; exact zc_305
  | 2, _ => fun tb h => by cases h; exact zc_306
  | 3, _ => fun tb h => by cases h; exact zc_307
  | 4, _ => fun tb h => by cases h; exact zc_308
  | 5, _ => fun tb h => by cases h; exact zc_309
  | 6, _ => fun tb h => by cases h; exact zc_310
  | 7, _ => fun tb h => by cases h; exact zc_311
  | 8, _ => fun tb h => by cases h; exact zc_312
  | 9, _ => fun tb h => by cases h; exact zc_313
  | 10, _ => fun tb h => by cases h; exact zc_314
  | 11, _ => fun tb h => by cases h; exact zc_315
  | 12, _ => fun tb h => by cases h; exact zc_316
  | 13, _ => fun tb h => by cases h; exact zc_317
  | 14, _ => fun tb h => by cases h; exact zc_318
  | 15, _ => fun tb h => by cases h; exact zc_319
  | n + 16, h => absurd h (by omega)
theorem zP_20 : ∀ i, i < 16 → ∀ tb, (match (zP_L.getD 20 [])[i]? with | some y => y | none => none) = some tb → zk_V (16 * 20 + i) tb := fun i hi => match i, hi with
  | 0, _ => fun tb h => by cases h; exact zc_320
  | 1, _ => fun tb h => by cases h; exact zc_321
  | 2, _ => fun tb h => by cases h; exact zc_322
  | 3, _ => fun tb h => by cases h; exact zc_323
  | 4, _ => fun tb h => by cases h; exact zc_324
  | 5, _ => fun tb h => by cases h; exact zc_325
  | 6, _ => fun tb h => by cases h; exact zc_326
  | 7, _ => fun tb h => by cases h; exact zc_327
  | 8, _ => fun tb h => by cases h; exact zc_328
  | 9, _ => fun tb h => by cases h; exact zc_329
  | 10, _ => fun tb h => by cases h
  | 11, _ => fun tb h => by cases h; exact zc_331
  | 12, _ => fun tb h => by cases h; exact zc_332
  | 13, _ => fun tb h => by cases h; exact zc_333
  | 14, _ => fun tb h => by cases h; exact zc_334
  | 15, _ => fun tb h => by cases h
  | n + 16, h => absurd h (by omega)
theorem zP_21 : ∀ i, i < 16 → ∀ tb, (match (zP_L.getD 21 [])[i]? with | some y => y | none => none) = some tb → zk_V (16 * 21 + i) tb := fun i hi => match i, hi with
  | 0, _ => fun tb h => by cases h
  | 1, _ => fun tb h => by cases h
  | 2, _ => fun tb h => by cases h; exact zc_338
  | 3, _ => fun tb h => by cases h; exact zc_339
  | 4, _ => fun tb h => by cases h; exact zc_340
  | 5, _ => fun tb h => by cases h; exact zc_341
  | 6, _ => fun tb h => by cases h; exact zc_342
  | 7, _ => fun tb h => by cases h; exact zc_343
  | 8, _ => fun tb h => by cases h; exact zc_344
  | 9, _ => fun tb h => by cases h; exact zc_345
  | 10, _ => fun tb h => by cases h; exact zc_346
  | 11, _ => fun tb h => by cases h; exact zc_347
  | 12, _ => fun tb h => by cases h; exact zc_348
  | 13, _ => fun tb h => by cases h; exact zc_349
  | 14, _ => fun tb h => by cases h
  | 15, _ => fun tb h => by cases h
  | n + 16, h => absurd h (by omega)
theorem zP_22 : ∀ i, i < 16 → ∀ tb, (match (zP_L.getD 22 [])[i]? with | some y => y | none => none) = some tb → zk_V (16 * 22 + i) tb := fun i hi => match i, hi with
  | 0, _ => fun tb h => by cases h
  | 1, _ => fun tb h => by cases h
  | 2, _ => fun tb h => by cases h
  | 3, _ => fun tb h => by cases h
  | 4, _ => fun tb h => by cases h; exact zc_356
  | 5, _ => fun tb h => by cases h
  | 6, _ => fun tb h => by cases h; exact zc_358
  | 7, _ => fun tb h => by cases h
  | 8, _ => fun tb h => by cases h
  | 9, _ => fun tb h => by cases h
  | 10, _ => fun tb h => by cases h; exact zc_362
  | 11, _ => fun tb h => by cases h
  | 12, _ => fun tb h => by cases h
  | 13, _ => fun tb h => by cases h
  | 14, _ => fun tb h => by cases h
  | 15, _ => fun tb h => by cases h
  | n + 16, h => absurd h (by omega)
theorem zP_23 : ∀ i, i < 16 → ∀ tb, (match (zP_L.getD 23 [])[i]? with | some y => y | none => none) = some tb → zk_V (16 * 23 + i) tb := fun i hi => match i, hi with
  | 0, _ => fun tb h => by cases h
  | 1, _ => fun tb h => by cases h
  | 2, _ => fun tb h => by cases h
  | 3, _ => fun tb h => by cases h
  | 4, _ => fun tb h => by cases h
  | 5, _ => fun tb h => by cases h
  | 6, _ => fun tb h => by cases h; exact zc_374
  | 7, _ => fun tb h => by cases h; exact zc_375
  | 8, _ => fun tb h => by cases h; exact zc_376
  | 9, _ => fun tb h => by cases h; exact zc_377
  | 10, _ => fun tb h => by cases h; exact zc_378
  | 11, _ => fun tb h => by cases h; exact zc_379
  | 12, _ => fun tb h => by cases h; exact zc_380
  | 13, _ => fun tb h => by cases h; exact zc_381
  | 14, _ => fun tb h => by cases h; exact zc_382
  | 15, _ => fun tb h => by cases h; exact zc_383
  | n + 16, h => absurd h (by omega)
theorem zP_24 : ∀ i, i < 16 → ∀ tb, (match (zP_L.getD 24 [])[i]? with | some y => y | none => none) = some tb → zk_V (16 * 24 + i) tb := fun i hi => match i, hi with
  | 0, _ => fun tb h => by cases h; exact zc_384
  | 1, _ => fun tb h => by cases h; exact zc_385
  | 2, _ => fun tb h => by cases h; exact zc_386
  | 3, _ => fun tb h => by cases h; exact zc_387
  | 4, _ => fun tb h => by cases h; exact zc_388
  | 5, _ => fun tb h => by cases h
  | 6, _ => fun tb h => by cases h
  | 7, _ => fun tb h => by cases h
  | 8, _ => fun tb h => by cases h
  | 9, _ => fun tb h => by cases h
  | 10, _ => fun tb h => by cases h
  | 11, _ => fun tb h => by cases h
  | 12, _ => fun tb h => by cases h
  | 13, _ => fun tb h => by cases h
  | 14, _ => fun tb h => by cases h
  | 15, _ => fun tb h => by cases h
  | n + 16, h => absurd h (by omega)
theorem zP_25 : ∀ i, i < 16 → ∀ tb, (match (zP_L.getD 25 [])[i]? with | some y => y | none => none) = some tb → zk_V (16 * 25 + i) tb := fun i hi => match i, hi with
  | 0, _ => fun tb h => by cases h
  | 1, _ => fun tb h => by cases h
  | 2, _ => fun tb h => by cases h
  | 3, _ => fun tb h => by cases h; exact zc_403
  | 4, _ => fun tb h => by cases h
  | 5, _ => fun tb h => by cases h
  | 6, _ => fun tb h => by cases h
  | 7, _ => fun tb h => by cases h
  | 8, _ => fun tb h => by cases h
  | 9, _ => fun tb h => by cases h
  | 10, _ => fun tb h => by cases h; exact zc_410
  | 11, _ => fun tb h => by cases h; exact zc_411
  | 12, _ => fun tb h => by cases h; exact zc_412
  | 13, _ => fun tb h => by cases h; exact zc_413
  | 14, _ => fun tb h => by cases h; exact zc_414
  | 15, _ => fun tb h => by cases h; exact zc_415
  | n + 16, h => absurd h (by omega)
theorem zP_26 : ∀ i, i < 16 → ∀ tb, (match (zP_L.getD 26 [])[i]? with | some y => y | none => none) = some tb → zk_V (16 * 26 + i) tb := fun i hi => match i, hi with
  | 0, _ => fun tb h => by cases h; exact zc_416
  | 1, _ => fun tb h => by cases h
  | 2, _ => fun tb h => by cases h
  | 3, _ => fun tb h => by cases h
  | 4, _ => fun tb h => by cases h
  | 5, _ => fun tb h => by cases h
  | 6, _ => fun tb h => by cases h
  | 7, _ => fun tb h => by cases h
  | 8, _ => fun tb h => by cases h
  | 9, _ => fun tb h => by cases h
  | 10, _ => fun tb h => by cases h
  | 11, _ => fun tb h => by cases h
  | 12, _ => fun tb h => by cases h
  | 13, _ => fun tb h => by cases h
  | 14, _ => fun tb h => by cases h
  | 15, _ => fun tb h => by cases h
  | n + 16, h => absurd h (by omega)
theorem zP_27 : ∀ i, i < 16 → ∀ tb, (match (zP_L.getD 27 [])[i]? with | some y => y | none => none) = some tb → zk_V (16 * 27 + i) tb := fun i hi => match i, hi with
  | 0, _ => fun tb h => by cases h
  | 1, _ => fun tb h => by cases h; exact zc_433
  | 2, _ => fun tb h => by cases h
  | 3, _ => fun tb h => by cases h; exact zc_435
  | 4, _ => fun tb h => by cases h; exact zc_436
  | 5, _ => fun tb h => by cases h; exact zc_437
  | 6, _ => fun tb h => by cases h; exact zc_438
  | 7, _ => fun tb h => by cases h; exact zc_439
  | 8, _ => fun tb h => by cases h; exact zc_440
  | 9, _ => fun tb h => by cases h
  | 10, _ => fun tb h => by cases h; exact zc_442
  | 11, _ => fun tb h => by cases h
  | 12, _ => fun tb h => by cases h
  | 13, _ => fun tb h => by cases h
  | 14, _ => fun tb h => by cases h
  | 15, _ => fun tb h => by cases h
  | n + 16, h => absurd h (by omega)
theorem zP_28 : ∀ i, i < 16 → ∀ tb, (match (zP_L.getD 28 [])[i]? with | some y => y | none => none) = some tb → zk_V (16 * 28 + i) tb := fun i hi => match i, hi with
  | 0, _ => fun tb h => by cases h
  | 1, _ => fun tb h => by cases h
  | 2, _ => fun tb h => by cases h
  | 3, _ => fun tb h => by cases h; exact zc_451
  | 4, _ => fun tb h => by cases h; exact zc_452
  | 5, _ => fun tb h => by cases h; exact zc_453
  | 6, _ => fun tb h => by cases h; exact zc_454
  | 7, _ => fun tb h => by cases h; exact zc_455
  | 8, _ => fun tb h => by cases h; exact zc_456
  | 9, _ => fun tb h => by cases h; exact zc_457
  | 10, _ => fun tb h => by cases h; exact zc_458
  | 11, _ => fun tb h => by cases h; exact zc_459
  | 12, _ => fun tb h => by cases h; exact zc_460
  | 13, _ => fun tb h => by cases h; exact zc_461
  | 14, _ => fun tb h => by cases h; exact zc_462
  | 15, _ => fun tb h => by cases h; exact zc_463
  | n + 16, h => absurd h (by omega)
theorem zP_29 : ∀ i, i < 16 → ∀ tb, (match (zP_L.getD 29 [])[i]? with | some y => y | none => none) = some tb → zk_V (16 * 29 + i) tb := fun i hi => match i, hi with
  | 0, _ => fun tb h => by cases h; exact zc_464
  | 1, _ => fun tb h => by cases h; exact zc_465
  | 2, _ => fun tb h => by cases h; exact zc_466
  | 3, _ => fun tb h => by cases h
  | 4, _ => fun tb h => by cases h
  | 5, _ => fun tb h => by cases h
  | 6, _ => fun tb h => by cases h
  | 7, _ => fun tb h => by cases h
  | 8, _ => fun tb h => by cases h
  | 9, _ => fun tb h => by cases h
  | 10, _ => fun tb h => by cases h
  | 11, _ => fun tb h => by cases h
  | 12, _ => fun tb h => by cases h
  | 13, _ => fun tb h => by cases h
  | 14, _ => fun tb h => by cases h
  | 15, _ => fun tb h => by cases h
  | n + 16, h => absurd h (by omega)
theorem zP_30 : ∀ i, i < 16 → ∀ tb, (match (zP_L.getD 30 [])[i]? with | some y => y | none => none) = some tb → zk_V (16 * 30 + i) tb := fun i hi => match i, hi with
  | 0, _ => fun tb h => by cases h
  | 1, _ => fun tb h => by cases h
  | 2, _ => fun tb h => by cases h
  | 3, _ => fun tb h => by cases h
  | 4, _ => fun tb h => by cases h
  | 5, _ => fun tb h => by cases h
  | 6, _ => fun tb h => by cases h; exact zc_486
  | 7, _ => fun tb h => by cases h; exact zc_487
  | 8, _ => fun tb h => by cases h
  | 9, _ => fun tb h => by cases h
  | 10, _ => fun tb h => by cases h; exact zc_490
  | 11, _ => fun tb h => by cases h; exact zc_491
  | 12, _ => fun tb h => by cases h; exact zc_492
  | 13, _ => fun tb h => by cases h; exact zc_493
  | 14, _ => fun tb h => by cases h
  | 15, _ => fun tb h => by cases h
  | n + 16, h => absurd h (by omega)
theorem zP_len : zP_L.length = 31 := by decide +kernel
theorem zP_a : ∀ a, a < 31 → ∀ i, i < 16 → ∀ tb, (match (zP_L.getD a [])[i]? with | some y => y | none => none) = some tb → zk_V (16 * a + i) tb := fun a ha => match a, ha with
  | 0, _ => zP_0
  | 1, _ => zP_1
  | 2, _ => zP_2
  | 3, _ => zP_3
  | 4, _ => zP_4
  | 5, _ => zP_5
  | 6, _ => zP_6
  | 7, _ => zP_7
  | 8, _ => zP_8
  | 9, _ => zP_9
  | 10, _ => zP_10
  | 11, _ => zP_11
  | 12, _ => zP_12
  | 13, _ => zP_13
  | 14, _ => zP_14
  | 15, _ => zP_15
  | 16, _ => zP_16
  | 17, _ => zP_17
  | 18, _ => zP_18
  | 19, _ => zP_19
  | 20, _ => zP_20
  | 21, _ => zP_21
  | 22, _ => zP_22
  | 23, _ => zP_23
  | 24, _ => zP_24
  | 25, _ => zP_25
  | 26, _ => zP_26
  | 27, _ => zP_27
  | 28, _ => zP_28
  | 29, _ => zP_29
  | 30, _ => zP_30
  | n + 31, h => absurd h (by omega)
theorem zP_ok : ∀ k tb, zP k = some tb → zk_V k tb := by
  intro k tb h
  unfold zP at h
  split at h
  · rename_i t ht
    have hlt := (List.getElem?_eq_some_iff.mp ht).1
    rw [zP_len] at hlt
    have h1 := zP_a (k / 16) hlt (k % 16) (Nat.mod_lt _ (by decide)) tb (by rw [List.getD_eq_getElem?_getD, ht]; exact h)
    rw [Nat.div_add_mod] at h1
    exact h1
  · cases h
