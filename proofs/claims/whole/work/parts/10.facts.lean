theorem inq_0 : ∀ w ∈ u_ws RX0 TX0 7, w ∈ LW := by
  intro w h
  obtain ⟨k, hk, rfl⟩ := List.mem_map.mp h
  have hk := List.mem_range.mp hk
  match k, hk with
  | 0, _ => exact w_140
  | 1, _ => exact w_142
  | 2, _ => exact w_144
  | 3, _ => exact w_146
  | 4, _ => exact w_148
  | 5, _ => exact w_150
  | 6, _ => exact w_152
  | k + 7, hk => exact absurd hk (by omega)
theorem inq_1 : ∀ w ∈ u_ws RX1 TX1 5, w ∈ LW := by
  intro w h
  obtain ⟨k, hk, rfl⟩ := List.mem_map.mp h
  have hk := List.mem_range.mp hk
  match k, hk with
  | 0, _ => exact w_174
  | 1, _ => exact w_176
  | 2, _ => exact w_178
  | 3, _ => exact w_180
  | 4, _ => exact w_182
  | k + 5, hk => exact absurd hk (by omega)
theorem inq_2 : ∀ w ∈ u_ws RX2 TX2 3, w ∈ LW := by
  intro w h
  obtain ⟨k, hk, rfl⟩ := List.mem_map.mp h
  have hk := List.mem_range.mp hk
  match k, hk with
  | 0, _ => exact w_111
  | 1, _ => exact w_113
  | 2, _ => exact w_115
  | k + 3, hk => exact absurd hk (by omega)
theorem inq_3 : ∀ w ∈ u_ws RX3 TX3 9, w ∈ LW := by
  intro w h
  obtain ⟨k, hk, rfl⟩ := List.mem_map.mp h
  have hk := List.mem_range.mp hk
  match k, hk with
  | 0, _ => exact w_349
  | 1, _ => exact w_351
  | 2, _ => exact w_353
  | 3, _ => exact w_355
  | 4, _ => exact w_357
  | 5, _ => exact w_359
  | 6, _ => exact w_361
  | 7, _ => exact w_363
  | 8, _ => exact w_365
  | k + 9, hk => exact absurd hk (by omega)
theorem inq_4 : ∀ w ∈ u_ws RX4 TX4 3, w ∈ LW := by
  intro w h
  obtain ⟨k, hk, rfl⟩ := List.mem_map.mp h
  have hk := List.mem_range.mp hk
  match k, hk with
  | 0, _ => exact w_273
  | 1, _ => exact w_275
  | 2, _ => exact w_277
  | k + 3, hk => exact absurd hk (by omega)
theorem inq_5 : ∀ w ∈ u_ws RX5 TX5 4, w ∈ LW := by
  intro w h
  obtain ⟨k, hk, rfl⟩ := List.mem_map.mp h
  have hk := List.mem_range.mp hk
  match k, hk with
  | 0, _ => exact w_382
  | 1, _ => exact w_384
  | 2, _ => exact w_386
  | 3, _ => exact w_388
  | k + 4, hk => exact absurd hk (by omega)
theorem inq_6 : ∀ w ∈ u_ws RX6 TX6 7, w ∈ LW := by
  intro w h
  obtain ⟨k, hk, rfl⟩ := List.mem_map.mp h
  have hk := List.mem_range.mp hk
  match k, hk with
  | 0, _ => exact w_406
  | 1, _ => exact w_408
  | 2, _ => exact w_410
  | 3, _ => exact w_412
  | 4, _ => exact w_414
  | 5, _ => exact w_416
  | 6, _ => exact w_418
  | k + 7, hk => exact absurd hk (by omega)
theorem inq_7 : ∀ w ∈ u_ws RX7 TX7 3, w ∈ LW := by
  intro w h
  obtain ⟨k, hk, rfl⟩ := List.mem_map.mp h
  have hk := List.mem_range.mp hk
  match k, hk with
  | 0, _ => exact w_329
  | 1, _ => exact w_331
  | 2, _ => exact w_333
  | k + 3, hk => exact absurd hk (by omega)
theorem inq_8 : ∀ w ∈ u_ws RX8 TX8 11, w ∈ LW := by
  intro w h
  obtain ⟨k, hk, rfl⟩ := List.mem_map.mp h
  have hk := List.mem_range.mp hk
  match k, hk with
  | 0, _ => exact w_231
  | 1, _ => exact w_233
  | 2, _ => exact w_235
  | 3, _ => exact w_237
  | 4, _ => exact w_239
  | 5, _ => exact w_241
  | 6, _ => exact w_243
  | 7, _ => exact w_245
  | 8, _ => exact w_247
  | 9, _ => exact w_249
  | 10, _ => exact w_251
  | k + 11, hk => exact absurd hk (by omega)
theorem inq_9 : ∀ w ∈ u_ws RX9 TX9 3, w ∈ LW := by
  intro w h
  obtain ⟨k, hk, rfl⟩ := List.mem_map.mp h
  have hk := List.mem_range.mp hk
  match k, hk with
  | 0, _ => exact w_438
  | 1, _ => exact w_440
  | 2, _ => exact w_442
  | k + 3, hk => exact absurd hk (by omega)
theorem inq_10 : ∀ w ∈ u_ws RX10 TX10 7, w ∈ LW := by
  intro w h
  obtain ⟨k, hk, rfl⟩ := List.mem_map.mp h
  have hk := List.mem_range.mp hk
  match k, hk with
  | 0, _ => exact w_291
  | 1, _ => exact w_293
  | 2, _ => exact w_295
  | 3, _ => exact w_297
  | 4, _ => exact w_299
  | 5, _ => exact w_301
  | 6, _ => exact w_303
  | k + 7, hk => exact absurd hk (by omega)
theorem inq_11 : ∀ w ∈ u_ws RX11 TX11 18, w ∈ LW := by
  intro w h
  obtain ⟨k, hk, rfl⟩ := List.mem_map.mp h
  have hk := List.mem_range.mp hk
  match k, hk with
  | 0, _ => exact w_463
  | 1, _ => exact w_465
  | 2, _ => exact w_467
  | 3, _ => exact w_469
  | 4, _ => exact w_471
  | 5, _ => exact w_473
  | 6, _ => exact w_475
  | 7, _ => exact w_477
  | 8, _ => exact w_479
  | 9, _ => exact w_481
  | 10, _ => exact w_483
  | 11, _ => exact w_485
  | 12, _ => exact w_487
  | 13, _ => exact w_489
  | 14, _ => exact w_491
  | 15, _ => exact w_493
  | 16, _ => exact w_495
  | 17, _ => exact w_497
  | k + 18, hk => exact absurd hk (by omega)
theorem inq_12 : ∀ w ∈ u_ws RX12 TX12 34, w ∈ LW := by
  intro w h
  obtain ⟨k, hk, rfl⟩ := List.mem_map.mp h
  have hk := List.mem_range.mp hk
  match k, hk with
  | 0, _ => exact w_1026
  | 1, _ => exact w_1028
  | 2, _ => exact w_1030
  | 3, _ => exact w_1032
  | 4, _ => exact w_1034
  | 5, _ => exact w_1036
  | 6, _ => exact w_1038
  | 7, _ => exact w_1040
  | 8, _ => exact w_1042
  | 9, _ => exact w_1044
  | 10, _ => exact w_1046
  | 11, _ => exact w_1048
  | 12, _ => exact w_1050
  | 13, _ => exact w_1052
  | 14, _ => exact w_1054
  | 15, _ => exact w_1056
  | 16, _ => exact w_1058
  | 17, _ => exact w_1060
  | 18, _ => exact w_1062
  | 19, _ => exact w_1064
  | 20, _ => exact w_1066
  | 21, _ => exact w_1068
  | 22, _ => exact w_1070
  | 23, _ => exact w_1072
  | 24, _ => exact w_1074
  | 25, _ => exact w_1076
  | 26, _ => exact w_1078
  | 27, _ => exact w_1080
  | 28, _ => exact w_1082
  | 29, _ => exact w_1084
  | 30, _ => exact w_1086
  | 31, _ => exact w_1088
  | 32, _ => exact w_1090
  | 33, _ => exact w_1092
  | k + 34, hk => exact absurd hk (by omega)
theorem fl_445 : FL 11 0 RX11 14 2 := ⟨by decide, RX11, TX11, 18, rfl, inq_11, by decide, w_445, rfl⟩
theorem fl_446 : FL 11 1 RX11 18 2 := ⟨by decide, RX11, TX11, 18, rfl, inq_11, by decide, w_446, rfl⟩
theorem fl_448 : FL 11 3 RX11 24 2 := ⟨by decide, RX11, TX11, 18, rfl, inq_11, by decide, w_448, rfl⟩
theorem fl_449 : FL 11 4 RX11 28 2 := ⟨by decide, RX11, TX11, 18, rfl, inq_11, by decide, w_449, rfl⟩
theorem fl_450 : FL 11 5 RX11 31 3 := ⟨by decide, RX11, TX11, 18, rfl, inq_11, by decide, w_450, rfl⟩
theorem fp_450 : FP 11 5 RX11 31 3 .boolean := ⟨by decide, RX11, TX11, 18, tyX11, rfl, inq_11, by decide, w_450, rfl, tyX11_ok, nmX11, rfl, tyX11_ok 5 (by decide), rfl⟩
theorem fl_451 : FL 11 6 RX11 35 2 := ⟨by decide, RX11, TX11, 18, rfl, inq_11, by decide, w_451, rfl⟩
theorem fl_452 : FL 11 7 RX11 39 2 := ⟨by decide, RX11, TX11, 18, rfl, inq_11, by decide, w_452, rfl⟩
theorem fl_453 : FL 11 8 RX11 42 2 := ⟨by decide, RX11, TX11, 18, rfl, inq_11, by decide, w_453, rfl⟩
theorem fl_454 : FL 11 9 RX11 45 2 := ⟨by decide, RX11, TX11, 18, rfl, inq_11, by decide, w_454, rfl⟩
theorem fl_455 : FL 11 10 RX11 51 2 := ⟨by decide, RX11, TX11, 18, rfl, inq_11, by decide, w_455, rfl⟩
theorem fl_456 : FL 11 11 RX11 58 2 := ⟨by decide, RX11, TX11, 18, rfl, inq_11, by decide, w_456, rfl⟩
theorem fl_457 : FL 11 12 RX11 65 2 := ⟨by decide, RX11, TX11, 18, rfl, inq_11, by decide, w_457, rfl⟩
theorem fl_460 : FL 11 15 RX11 72 2 := ⟨by decide, RX11, TX11, 18, rfl, inq_11, by decide, w_460, rfl⟩
theorem fl_461 : FL 11 16 RX11 79 2 := ⟨by decide, RX11, TX11, 18, rfl, inq_11, by decide, w_461, rfl⟩
theorem fl_462 : FL 11 17 RX11 85 2 := ⟨by decide, RX11, TX11, 18, rfl, inq_11, by decide, w_462, rfl⟩
theorem fl_156 : FL 1 0 RX11 104 2 := ⟨by decide, RX1, TX1, 5, rfl, inq_1, by decide, w_156, rfl⟩
theorem fl_160 : FL 1 1 RX11 114 2 := ⟨by decide, RX1, TX1, 5, rfl, inq_1, by decide, w_160, rfl⟩
theorem fl_162 : FL 1 2 RX11 117 2 := ⟨by decide, RX1, TX1, 5, rfl, inq_1, by decide, w_162, rfl⟩
theorem fl_200 : FL 8 1 RX11 126 2 := ⟨by decide, RX8, TX8, 11, rfl, inq_8, by decide, w_200, rfl⟩
theorem fl_204 : FL 8 2 RX11 129 2 := ⟨by decide, RX8, TX8, 11, rfl, inq_8, by decide, w_204, rfl⟩
theorem fl_209 : FL 8 3 RX11 132 2 := ⟨by decide, RX8, TX8, 11, rfl, inq_8, by decide, w_209, rfl⟩
theorem fl_214 : FL 8 4 RX11 135 2 := ⟨by decide, RX8, TX8, 11, rfl, inq_8, by decide, w_214, rfl⟩
theorem fl_218 : FL 8 6 RX11 138 2 := ⟨by decide, RX8, TX8, 11, rfl, inq_8, by decide, w_218, rfl⟩
theorem fl_216 : FL 8 5 RX11 141 2 := ⟨by decide, RX8, TX8, 11, rfl, inq_8, by decide, w_216, rfl⟩
theorem fl_173 : FL 1 4 RX11 147 0 := ⟨by decide, RX1, TX1, 5, rfl, inq_1, by decide, w_173, rfl⟩
theorem fp_173 : FP 1 4 RX11 147 0 .int := ⟨by decide, RX1, TX1, 5, tyX1, rfl, inq_1, by decide, w_173, rfl, tyX1_ok, nmX1, rfl, tyX1_ok 4 (by decide), rfl⟩
theorem fl_168 : FL 1 3 RX11 151 2 := ⟨by decide, RX1, TX1, 5, rfl, inq_1, by decide, w_168, rfl⟩
theorem fl_139 : FL 0 6 RX11 164 0 := ⟨by decide, RX0, TX0, 7, rfl, inq_0, by decide, w_139, rfl⟩
theorem fp_139 : FP 0 6 RX11 164 0 .int := ⟨by decide, RX0, TX0, 7, tyX0, rfl, inq_0, by decide, w_139, rfl, tyX0_ok, nmX0, rfl, tyX0_ok 6 (by decide), rfl⟩
theorem fl_230 : FL 8 10 RX11 166 2 := ⟨by decide, RX8, TX8, 11, rfl, inq_8, by decide, w_230, rfl⟩
theorem fl_227 : FL 8 9 RX11 169 2 := ⟨by decide, RX8, TX8, 11, rfl, inq_8, by decide, w_227, rfl⟩
theorem fl_220 : FL 8 7 RX11 176 2 := ⟨by decide, RX8, TX8, 11, rfl, inq_8, by decide, w_220, rfl⟩
theorem fl_224 : FL 8 8 RX11 180 2 := ⟨by decide, RX8, TX8, 11, rfl, inq_8, by decide, w_224, rfl⟩
theorem fl_130 : FL 0 1 RX11 186 0 := ⟨by decide, RX0, TX0, 7, rfl, inq_0, by decide, w_130, rfl⟩
theorem fp_130 : FP 0 1 RX11 186 0 .int := ⟨by decide, RX0, TX0, 7, tyX0, rfl, inq_0, by decide, w_130, rfl, tyX0_ok, nmX0, rfl, tyX0_ok 1 (by decide), rfl⟩
theorem fl_375 : FL 5 0 RX11 196 2 := ⟨by decide, RX5, TX5, 4, rfl, inq_5, by decide, w_375, rfl⟩
theorem fl_282 : FL 10 0 RX11 211 2 := ⟨by decide, RX10, TX10, 7, rfl, inq_10, by decide, w_282, rfl⟩
theorem fl_268 : FL 4 0 RX11 218 1 := ⟨by decide, RX4, TX4, 3, rfl, inq_4, by decide, w_268, rfl⟩
theorem fp_268 : FP 4 0 RX11 218 1 .long := ⟨by decide, RX4, TX4, 3, tyX4, rfl, inq_4, by decide, w_268, rfl, tyX4_ok, nmX4, rfl, tyX4_ok 0 (by decide), rfl⟩
theorem fl_198 : FL 8 0 RX11 222 0 := ⟨by decide, RX8, TX8, 11, rfl, inq_8, by decide, w_198, rfl⟩
theorem fp_198 : FP 8 0 RX11 222 0 .int := ⟨by decide, RX8, TX8, 11, tyX8, rfl, inq_8, by decide, w_198, rfl, tyX8_ok, nmX8, rfl, tyX8_ok 0 (by decide), rfl⟩
theorem fl_284 : FL 10 1 RX11 228 2 := ⟨by decide, RX10, TX10, 7, rfl, inq_10, by decide, w_284, rfl⟩
theorem fl_286 : FL 10 2 RX11 234 2 := ⟨by decide, RX10, TX10, 7, rfl, inq_10, by decide, w_286, rfl⟩
theorem fl_459 : FL 11 14 RX11 250 0 := ⟨by decide, RX11, TX11, 18, rfl, inq_11, by decide, w_459, rfl⟩
theorem fp_459 : FP 11 14 RX11 250 0 .int := ⟨by decide, RX11, TX11, 18, tyX11, rfl, inq_11, by decide, w_459, rfl, tyX11_ok, nmX11, rfl, tyX11_ok 14 (by decide), rfl⟩
theorem fl_340 : FL 3 0 RX11 253 2 := ⟨by decide, RX3, TX3, 9, rfl, inq_3, by decide, w_340, rfl⟩
theorem fl_326 : FL 7 1 RX11 257 2 := ⟨by decide, RX7, TX7, 3, rfl, inq_7, by decide, w_326, rfl⟩
theorem fl_379 : FL 5 2 RX11 277 0 := ⟨by decide, RX5, TX5, 4, rfl, inq_5, by decide, w_379, rfl⟩
theorem fp_379 : FP 5 2 RX11 277 0 .int := ⟨by decide, RX5, TX5, 4, tyX5, rfl, inq_5, by decide, w_379, rfl, tyX5_ok, nmX5, rfl, tyX5_ok 2 (by decide), rfl⟩
theorem fl_381 : FL 5 3 RX11 279 0 := ⟨by decide, RX5, TX5, 4, rfl, inq_5, by decide, w_381, rfl⟩
theorem fp_381 : FP 5 3 RX11 279 0 .int := ⟨by decide, RX5, TX5, 4, tyX5, rfl, inq_5, by decide, w_381, rfl, tyX5_ok, nmX5, rfl, tyX5_ok 3 (by decide), rfl⟩
theorem fl_377 : FL 5 1 RX11 282 2 := ⟨by decide, RX5, TX5, 4, rfl, inq_5, by decide, w_377, rfl⟩
theorem fl_400 : FL 6 1 RX11 305 1 := ⟨by decide, RX6, TX6, 7, rfl, inq_6, by decide, w_400, rfl⟩
theorem fp_400 : FP 6 1 RX11 305 1 .long := ⟨by decide, RX6, TX6, 7, tyX6, rfl, inq_6, by decide, w_400, rfl, tyX6_ok, nmX6, rfl, tyX6_ok 1 (by decide), rfl⟩
theorem fl_437 : FL 9 2 RX11 314 0 := ⟨by decide, RX9, TX9, 3, rfl, inq_9, by decide, w_437, rfl⟩
theorem fp_437 : FP 9 2 RX11 314 0 .int := ⟨by decide, RX9, TX9, 3, tyX9, rfl, inq_9, by decide, w_437, rfl, tyX9_ok, nmX9, rfl, tyX9_ok 2 (by decide), rfl⟩
theorem fl_432 : FL 9 0 RX11 331 2 := ⟨by decide, RX9, TX9, 3, rfl, inq_9, by decide, w_432, rfl⟩
theorem fl_398 : FL 6 0 RX11 334 2 := ⟨by decide, RX6, TX6, 7, rfl, inq_6, by decide, w_398, rfl⟩
theorem fl_447 : FL 11 2 RX11 341 3 := ⟨by decide, RX11, TX11, 18, rfl, inq_11, by decide, w_447, rfl⟩
theorem fp_447 : FP 11 2 RX11 341 3 .boolean := ⟨by decide, RX11, TX11, 18, tyX11, rfl, inq_11, by decide, w_447, rfl, tyX11_ok, nmX11, rfl, tyX11_ok 2 (by decide), rfl⟩
theorem fl_434 : FL 9 1 RX11 360 0 := ⟨by decide, RX9, TX9, 3, rfl, inq_9, by decide, w_434, rfl⟩
theorem fp_434 : FP 9 1 RX11 360 0 .int := ⟨by decide, RX9, TX9, 3, tyX9, rfl, inq_9, by decide, w_434, rfl, tyX9_ok, nmX9, rfl, tyX9_ok 1 (by decide), rfl⟩
theorem fl_458 : FL 11 13 RX11 380 3 := ⟨by decide, RX11, TX11, 18, rfl, inq_11, by decide, w_458, rfl⟩
theorem fp_458 : FP 11 13 RX11 380 3 .boolean := ⟨by decide, RX11, TX11, 18, tyX11, rfl, inq_11, by decide, w_458, rfl, tyX11_ok, nmX11, rfl, tyX11_ok 13 (by decide), rfl⟩
theorem fl_126 : FL 0 0 RX0 9 0 := ⟨by decide, RX0, TX0, 7, rfl, inq_0, by decide, w_126, rfl⟩
theorem fp_126 : FP 0 0 RX0 9 0 .int := ⟨by decide, RX0, TX0, 7, tyX0, rfl, inq_0, by decide, w_126, rfl, tyX0_ok, nmX0, rfl, tyX0_ok 0 (by decide), rfl⟩
theorem fl_127 : FL 0 1 RX0 15 0 := ⟨by decide, RX0, TX0, 7, rfl, inq_0, by decide, w_127, rfl⟩
theorem fp_127 : FP 0 1 RX0 15 0 .int := ⟨by decide, RX0, TX0, 7, tyX0, rfl, inq_0, by decide, w_127, rfl, tyX0_ok, nmX0, rfl, tyX0_ok 1 (by decide), rfl⟩
theorem fl_131 : FL 0 2 RX0 18 0 := ⟨by decide, RX0, TX0, 7, rfl, inq_0, by decide, w_131, rfl⟩
theorem fp_131 : FP 0 2 RX0 18 0 .int := ⟨by decide, RX0, TX0, 7, tyX0, rfl, inq_0, by decide, w_131, rfl, tyX0_ok, nmX0, rfl, tyX0_ok 2 (by decide), rfl⟩
theorem fl_133 : FL 0 3 RX0 21 0 := ⟨by decide, RX0, TX0, 7, rfl, inq_0, by decide, w_133, rfl⟩
theorem fp_133 : FP 0 3 RX0 21 0 .int := ⟨by decide, RX0, TX0, 7, tyX0, rfl, inq_0, by decide, w_133, rfl, tyX0_ok, nmX0, rfl, tyX0_ok 3 (by decide), rfl⟩
theorem fl_134 : FL 0 4 RX0 24 0 := ⟨by decide, RX0, TX0, 7, rfl, inq_0, by decide, w_134, rfl⟩
theorem fp_134 : FP 0 4 RX0 24 0 .int := ⟨by decide, RX0, TX0, 7, tyX0, rfl, inq_0, by decide, w_134, rfl, tyX0_ok, nmX0, rfl, tyX0_ok 4 (by decide), rfl⟩
theorem fl_136 : FL 0 5 RX0 27 0 := ⟨by decide, RX0, TX0, 7, rfl, inq_0, by decide, w_136, rfl⟩
theorem fp_136 : FP 0 5 RX0 27 0 .int := ⟨by decide, RX0, TX0, 7, tyX0, rfl, inq_0, by decide, w_136, rfl, tyX0_ok, nmX0, rfl, tyX0_ok 5 (by decide), rfl⟩
theorem fl_137 : FL 0 6 RX0 30 0 := ⟨by decide, RX0, TX0, 7, rfl, inq_0, by decide, w_137, rfl⟩
theorem fp_137 : FP 0 6 RX0 30 0 .int := ⟨by decide, RX0, TX0, 7, tyX0, rfl, inq_0, by decide, w_137, rfl, tyX0_ok, nmX0, rfl, tyX0_ok 6 (by decide), rfl⟩
theorem fl_155 : FL 1 0 RX1 14 2 := ⟨by decide, RX1, TX1, 5, rfl, inq_1, by decide, w_155, rfl⟩
theorem fl_158 : FL 1 1 RX1 20 2 := ⟨by decide, RX1, TX1, 5, rfl, inq_1, by decide, w_158, rfl⟩
theorem fl_161 : FL 1 2 RX1 23 2 := ⟨by decide, RX1, TX1, 5, rfl, inq_1, by decide, w_161, rfl⟩
theorem fl_164 : FL 1 3 RX1 28 2 := ⟨by decide, RX1, TX1, 5, rfl, inq_1, by decide, w_164, rfl⟩
theorem fl_170 : FL 1 4 RX1 33 0 := ⟨by decide, RX1, TX1, 5, rfl, inq_1, by decide, w_170, rfl⟩
theorem fp_170 : FP 1 4 RX1 33 0 .int := ⟨by decide, RX1, TX1, 5, tyX1, rfl, inq_1, by decide, w_170, rfl, tyX1_ok, nmX1, rfl, tyX1_ok 4 (by decide), rfl⟩
theorem fl_138 : FL 0 6 RX1 37 0 := ⟨by decide, RX0, TX0, 7, rfl, inq_0, by decide, w_138, rfl⟩
theorem fp_138 : FP 0 6 RX1 37 0 .int := ⟨by decide, RX0, TX0, 7, tyX0, rfl, inq_0, by decide, w_138, rfl, tyX0_ok, nmX0, rfl, tyX0_ok 6 (by decide), rfl⟩
theorem fl_107 : FL 2 0 RX2 9 2 := ⟨by decide, RX2, TX2, 3, rfl, inq_2, by decide, w_107, rfl⟩
theorem fl_109 : FL 2 1 RX2 15 0 := ⟨by decide, RX2, TX2, 3, rfl, inq_2, by decide, w_109, rfl⟩
theorem fl_110 : FL 2 2 RX2 19 0 := ⟨by decide, RX2, TX2, 3, rfl, inq_2, by decide, w_110, rfl⟩
theorem fl_339 : FL 3 0 RX3 12 2 := ⟨by decide, RX3, TX3, 9, rfl, inq_3, by decide, w_339, rfl⟩
theorem fl_341 : FL 3 1 RX3 18 2 := ⟨by decide, RX3, TX3, 9, rfl, inq_3, by decide, w_341, rfl⟩
theorem fl_343 : FL 3 3 RX3 22 2 := ⟨by decide, RX3, TX3, 9, rfl, inq_3, by decide, w_343, rfl⟩
theorem fl_345 : FL 3 5 RX3 29 2 := ⟨by decide, RX3, TX3, 9, rfl, inq_3, by decide, w_345, rfl⟩
theorem fl_346 : FL 3 6 RX3 33 2 := ⟨by decide, RX3, TX3, 9, rfl, inq_3, by decide, w_346, rfl⟩
theorem fl_347 : FL 3 7 RX3 36 2 := ⟨by decide, RX3, TX3, 9, rfl, inq_3, by decide, w_347, rfl⟩
theorem fl_348 : FL 3 8 RX3 39 2 := ⟨by decide, RX3, TX3, 9, rfl, inq_3, by decide, w_348, rfl⟩
theorem fl_169 : FL 1 4 RX3 42 0 := ⟨by decide, RX1, TX1, 5, rfl, inq_1, by decide, w_169, rfl⟩
theorem fp_169 : FP 1 4 RX3 42 0 .int := ⟨by decide, RX1, TX1, 5, tyX1, rfl, inq_1, by decide, w_169, rfl, tyX1_ok, nmX1, rfl, tyX1_ok 4 (by decide), rfl⟩
theorem fl_344 : FL 3 4 RX3 48 0 := ⟨by decide, RX3, TX3, 9, rfl, inq_3, by decide, w_344, rfl⟩
theorem fp_344 : FP 3 4 RX3 48 0 .int := ⟨by decide, RX3, TX3, 9, tyX3, rfl, inq_3, by decide, w_344, rfl, tyX3_ok, nmX3, rfl, tyX3_ok 4 (by decide), rfl⟩
theorem fl_328 : FL 7 2 RX3 55 2 := ⟨by decide, RX7, TX7, 3, rfl, inq_7, by decide, w_328, rfl⟩
theorem fl_166 : FL 1 3 RX3 59 2 := ⟨by decide, RX1, TX1, 5, rfl, inq_1, by decide, w_166, rfl⟩
theorem fl_128 : FL 0 1 RX3 63 0 := ⟨by decide, RX0, TX0, 7, rfl, inq_0, by decide, w_128, rfl⟩
theorem fp_128 : FP 0 1 RX3 63 0 .int := ⟨by decide, RX0, TX0, 7, tyX0, rfl, inq_0, by decide, w_128, rfl, tyX0_ok, nmX0, rfl, tyX0_ok 1 (by decide), rfl⟩
theorem fl_195 : FL 8 0 RX3 72 0 := ⟨by decide, RX8, TX8, 11, rfl, inq_8, by decide, w_195, rfl⟩
theorem fp_195 : FP 8 0 RX3 72 0 .int := ⟨by decide, RX8, TX8, 11, tyX8, rfl, inq_8, by decide, w_195, rfl, tyX8_ok, nmX8, rfl, tyX8_ok 0 (by decide), rfl⟩
theorem fl_342 : FL 3 2 RX3 77 0 := ⟨by decide, RX3, TX3, 9, rfl, inq_3, by decide, w_342, rfl⟩
theorem fp_342 : FP 3 2 RX3 77 0 .int := ⟨by decide, RX3, TX3, 9, tyX3, rfl, inq_3, by decide, w_342, rfl, tyX3_ok, nmX3, rfl, tyX3_ok 2 (by decide), rfl⟩
theorem fl_212 : FL 8 4 RX3 94 2 := ⟨by decide, RX8, TX8, 11, rfl, inq_8, by decide, w_212, rfl⟩
theorem fl_325 : FL 7 1 RX3 97 2 := ⟨by decide, RX7, TX7, 3, rfl, inq_7, by decide, w_325, rfl⟩
theorem fl_323 : FL 7 0 RX3 121 0 := ⟨by decide, RX7, TX7, 3, rfl, inq_7, by decide, w_323, rfl⟩
theorem fp_323 : FP 7 0 RX3 121 0 .int := ⟨by decide, RX7, TX7, 3, tyX7, rfl, inq_7, by decide, w_323, rfl, tyX7_ok, nmX7, rfl, tyX7_ok 0 (by decide), rfl⟩
theorem fl_210 : FL 8 3 RX3 126 2 := ⟨by decide, RX8, TX8, 11, rfl, inq_8, by decide, w_210, rfl⟩
theorem fl_223 : FL 8 8 RX3 141 2 := ⟨by decide, RX8, TX8, 11, rfl, inq_8, by decide, w_223, rfl⟩
theorem fl_205 : FL 8 2 RX3 145 2 := ⟨by decide, RX8, TX8, 11, rfl, inq_8, by decide, w_205, rfl⟩
theorem fl_267 : FL 4 0 RX3 148 1 := ⟨by decide, RX4, TX4, 3, rfl, inq_4, by decide, w_267, rfl⟩
theorem fp_267 : FP 4 0 RX3 148 1 .long := ⟨by decide, RX4, TX4, 3, tyX4, rfl, inq_4, by decide, w_267, rfl, tyX4_ok, nmX4, rfl, tyX4_ok 0 (by decide), rfl⟩
theorem fl_272 : FL 4 2 RX3 155 3 := ⟨by decide, RX4, TX4, 3, rfl, inq_4, by decide, w_272, rfl⟩
theorem fp_272 : FP 4 2 RX3 155 3 .boolean := ⟨by decide, RX4, TX4, 3, tyX4, rfl, inq_4, by decide, w_272, rfl, tyX4_ok, nmX4, rfl, tyX4_ok 2 (by decide), rfl⟩
theorem fl_269 : FL 4 1 RX4 9 1 := ⟨by decide, RX4, TX4, 3, rfl, inq_4, by decide, w_269, rfl⟩
theorem fp_269 : FP 4 1 RX4 9 1 .long := ⟨by decide, RX4, TX4, 3, tyX4, rfl, inq_4, by decide, w_269, rfl, tyX4_ok, nmX4, rfl, tyX4_ok 1 (by decide), rfl⟩
theorem fl_270 : FL 4 2 RX4 15 3 := ⟨by decide, RX4, TX4, 3, rfl, inq_4, by decide, w_270, rfl⟩
theorem fp_270 : FP 4 2 RX4 15 3 .boolean := ⟨by decide, RX4, TX4, 3, tyX4, rfl, inq_4, by decide, w_270, rfl, tyX4_ok, nmX4, rfl, tyX4_ok 2 (by decide), rfl⟩
theorem fl_266 : FL 4 0 RX4 23 1 := ⟨by decide, RX4, TX4, 3, rfl, inq_4, by decide, w_266, rfl⟩
theorem fp_266 : FP 4 0 RX4 23 1 .long := ⟨by decide, RX4, TX4, 3, tyX4, rfl, inq_4, by decide, w_266, rfl, tyX4_ok, nmX4, rfl, tyX4_ok 0 (by decide), rfl⟩
theorem fl_374 : FL 5 0 RX5 9 2 := ⟨by decide, RX5, TX5, 4, rfl, inq_5, by decide, w_374, rfl⟩
theorem fl_376 : FL 5 1 RX5 15 2 := ⟨by decide, RX5, TX5, 4, rfl, inq_5, by decide, w_376, rfl⟩
theorem fl_171 : FL 1 4 RX5 18 0 := ⟨by decide, RX1, TX1, 5, rfl, inq_1, by decide, w_171, rfl⟩
theorem fp_171 : FP 1 4 RX5 18 0 .int := ⟨by decide, RX1, TX1, 5, tyX1, rfl, inq_1, by decide, w_171, rfl, tyX1_ok, nmX1, rfl, tyX1_ok 4 (by decide), rfl⟩
theorem fl_378 : FL 5 2 RX5 34 0 := ⟨by decide, RX5, TX5, 4, rfl, inq_5, by decide, w_378, rfl⟩
theorem fp_378 : FP 5 2 RX5 34 0 .int := ⟨by decide, RX5, TX5, 4, tyX5, rfl, inq_5, by decide, w_378, rfl, tyX5_ok, nmX5, rfl, tyX5_ok 2 (by decide), rfl⟩
theorem fl_380 : FL 5 3 RX5 37 0 := ⟨by decide, RX5, TX5, 4, rfl, inq_5, by decide, w_380, rfl⟩
theorem fp_380 : FP 5 3 RX5 37 0 .int := ⟨by decide, RX5, TX5, 4, tyX5, rfl, inq_5, by decide, w_380, rfl, tyX5_ok, nmX5, rfl, tyX5_ok 3 (by decide), rfl⟩
theorem fl_197 : FL 8 0 RX5 40 0 := ⟨by decide, RX8, TX8, 11, rfl, inq_8, by decide, w_197, rfl⟩
theorem fp_197 : FP 8 0 RX5 40 0 .int := ⟨by decide, RX8, TX8, 11, tyX8, rfl, inq_8, by decide, w_197, rfl, tyX8_ok, nmX8, rfl, tyX8_ok 0 (by decide), rfl⟩
theorem fl_203 : FL 8 2 RX5 45 2 := ⟨by decide, RX8, TX8, 11, rfl, inq_8, by decide, w_203, rfl⟩
theorem fl_222 : FL 8 8 RX5 56 2 := ⟨by decide, RX8, TX8, 11, rfl, inq_8, by decide, w_222, rfl⟩
theorem fl_229 : FL 8 10 RX5 60 2 := ⟨by decide, RX8, TX8, 11, rfl, inq_8, by decide, w_229, rfl⟩
theorem fl_167 : FL 1 3 RX5 63 2 := ⟨by decide, RX1, TX1, 5, rfl, inq_1, by decide, w_167, rfl⟩
theorem fl_129 : FL 0 1 RX5 67 0 := ⟨by decide, RX0, TX0, 7, rfl, inq_0, by decide, w_129, rfl⟩
theorem fp_129 : FP 0 1 RX5 67 0 .int := ⟨by decide, RX0, TX0, 7, tyX0, rfl, inq_0, by decide, w_129, rfl, tyX0_ok, nmX0, rfl, tyX0_ok 1 (by decide), rfl⟩
theorem fl_226 : FL 8 9 RX5 77 2 := ⟨by decide, RX8, TX8, 11, rfl, inq_8, by decide, w_226, rfl⟩
theorem fl_135 : FL 0 4 RX5 84 0 := ⟨by decide, RX0, TX0, 7, rfl, inq_0, by decide, w_135, rfl⟩
theorem fp_135 : FP 0 4 RX5 84 0 .int := ⟨by decide, RX0, TX0, 7, tyX0, rfl, inq_0, by decide, w_135, rfl, tyX0_ok, nmX0, rfl, tyX0_ok 4 (by decide), rfl⟩
theorem fl_132 : FL 0 2 RX5 87 0 := ⟨by decide, RX0, TX0, 7, rfl, inq_0, by decide, w_132, rfl⟩
theorem fp_132 : FP 0 2 RX5 87 0 .int := ⟨by decide, RX0, TX0, 7, tyX0, rfl, inq_0, by decide, w_132, rfl, tyX0_ok, nmX0, rfl, tyX0_ok 2 (by decide), rfl⟩
theorem fl_397 : FL 6 0 RX6 9 2 := ⟨by decide, RX6, TX6, 7, rfl, inq_6, by decide, w_397, rfl⟩
theorem fl_401 : FL 6 2 RX6 15 2 := ⟨by decide, RX6, TX6, 7, rfl, inq_6, by decide, w_401, rfl⟩
theorem fl_193 : FL 8 0 RX6 18 0 := ⟨by decide, RX8, TX8, 11, rfl, inq_8, by decide, w_193, rfl⟩
theorem fp_193 : FP 8 0 RX6 18 0 .int := ⟨by decide, RX8, TX8, 11, tyX8, rfl, inq_8, by decide, w_193, rfl, tyX8_ok, nmX8, rfl, tyX8_ok 0 (by decide), rfl⟩
theorem fl_405 : FL 6 6 RX6 24 0 := ⟨by decide, RX6, TX6, 7, rfl, inq_6, by decide, w_405, rfl⟩
theorem fp_405 : FP 6 6 RX6 24 0 .int := ⟨by decide, RX6, TX6, 7, tyX6, rfl, inq_6, by decide, w_405, rfl, tyX6_ok, nmX6, rfl, tyX6_ok 6 (by decide), rfl⟩
theorem fl_399 : FL 6 1 RX6 25 1 := ⟨by decide, RX6, TX6, 7, rfl, inq_6, by decide, w_399, rfl⟩
theorem fp_399 : FP 6 1 RX6 25 1 .long := ⟨by decide, RX6, TX6, 7, tyX6, rfl, inq_6, by decide, w_399, rfl, tyX6_ok, nmX6, rfl, tyX6_ok 1 (by decide), rfl⟩
theorem fl_402 : FL 6 3 RX6 29 1 := ⟨by decide, RX6, TX6, 7, rfl, inq_6, by decide, w_402, rfl⟩
theorem fp_402 : FP 6 3 RX6 29 1 .long := ⟨by decide, RX6, TX6, 7, tyX6, rfl, inq_6, by decide, w_402, rfl, tyX6_ok, nmX6, rfl, tyX6_ok 3 (by decide), rfl⟩
theorem fl_403 : FL 6 4 RX6 32 1 := ⟨by decide, RX6, TX6, 7, rfl, inq_6, by decide, w_403, rfl⟩
theorem fp_403 : FP 6 4 RX6 32 1 .long := ⟨by decide, RX6, TX6, 7, tyX6, rfl, inq_6, by decide, w_403, rfl, tyX6_ok, nmX6, rfl, tyX6_ok 4 (by decide), rfl⟩
theorem fl_404 : FL 6 5 RX6 35 1 := ⟨by decide, RX6, TX6, 7, rfl, inq_6, by decide, w_404, rfl⟩
theorem fp_404 : FP 6 5 RX6 35 1 .long := ⟨by decide, RX6, TX6, 7, tyX6, rfl, inq_6, by decide, w_404, rfl, tyX6_ok, nmX6, rfl, tyX6_ok 5 (by decide), rfl⟩
theorem fl_207 : FL 8 3 RX6 38 2 := ⟨by decide, RX8, TX8, 11, rfl, inq_8, by decide, w_207, rfl⟩
theorem fl_202 : FL 8 2 RX6 48 2 := ⟨by decide, RX8, TX8, 11, rfl, inq_8, by decide, w_202, rfl⟩
theorem fl_213 : FL 8 4 RX6 55 2 := ⟨by decide, RX8, TX8, 11, rfl, inq_8, by decide, w_213, rfl⟩
theorem fl_436 : FL 9 2 RX6 58 0 := ⟨by decide, RX9, TX9, 3, rfl, inq_9, by decide, w_436, rfl⟩
theorem fp_436 : FP 9 2 RX6 58 0 .int := ⟨by decide, RX9, TX9, 3, tyX9, rfl, inq_9, by decide, w_436, rfl, tyX9_ok, nmX9, rfl, tyX9_ok 2 (by decide), rfl⟩
theorem fl_431 : FL 9 0 RX6 63 2 := ⟨by decide, RX9, TX9, 3, rfl, inq_9, by decide, w_431, rfl⟩
theorem fl_324 : FL 7 1 RX7 12 2 := ⟨by decide, RX7, TX7, 3, rfl, inq_7, by decide, w_324, rfl⟩
theorem fl_327 : FL 7 2 RX7 18 2 := ⟨by decide, RX7, TX7, 3, rfl, inq_7, by decide, w_327, rfl⟩
theorem fl_322 : FL 7 0 RX7 22 0 := ⟨by decide, RX7, TX7, 3, rfl, inq_7, by decide, w_322, rfl⟩
theorem fp_322 : FP 7 0 RX7 22 0 .int := ⟨by decide, RX7, TX7, 3, tyX7, rfl, inq_7, by decide, w_322, rfl, tyX7_ok, nmX7, rfl, tyX7_ok 0 (by decide), rfl⟩
theorem fl_271 : FL 4 2 RX7 39 3 := ⟨by decide, RX4, TX4, 3, rfl, inq_4, by decide, w_271, rfl⟩
theorem fp_271 : FP 4 2 RX7 39 3 .boolean := ⟨by decide, RX4, TX4, 3, tyX4, rfl, inq_4, by decide, w_271, rfl, tyX4_ok, nmX4, rfl, tyX4_ok 2 (by decide), rfl⟩
theorem fl_199 : FL 8 1 RX8 9 2 := ⟨by decide, RX8, TX8, 11, rfl, inq_8, by decide, w_199, rfl⟩
theorem fl_201 : FL 8 2 RX8 15 2 := ⟨by decide, RX8, TX8, 11, rfl, inq_8, by decide, w_201, rfl⟩
theorem fl_206 : FL 8 3 RX8 18 2 := ⟨by decide, RX8, TX8, 11, rfl, inq_8, by decide, w_206, rfl⟩
theorem fl_211 : FL 8 4 RX8 21 2 := ⟨by decide, RX8, TX8, 11, rfl, inq_8, by decide, w_211, rfl⟩
theorem fl_215 : FL 8 5 RX8 24 2 := ⟨by decide, RX8, TX8, 11, rfl, inq_8, by decide, w_215, rfl⟩
theorem fl_217 : FL 8 6 RX8 27 2 := ⟨by decide, RX8, TX8, 11, rfl, inq_8, by decide, w_217, rfl⟩
theorem fl_219 : FL 8 7 RX8 32 2 := ⟨by decide, RX8, TX8, 11, rfl, inq_8, by decide, w_219, rfl⟩
theorem fl_221 : FL 8 8 RX8 35 2 := ⟨by decide, RX8, TX8, 11, rfl, inq_8, by decide, w_221, rfl⟩
theorem fl_225 : FL 8 9 RX8 38 2 := ⟨by decide, RX8, TX8, 11, rfl, inq_8, by decide, w_225, rfl⟩
theorem fl_228 : FL 8 10 RX8 41 2 := ⟨by decide, RX8, TX8, 11, rfl, inq_8, by decide, w_228, rfl⟩
theorem fl_159 : FL 1 1 RX8 48 2 := ⟨by decide, RX1, TX1, 5, rfl, inq_1, by decide, w_159, rfl⟩
theorem fl_108 : FL 2 0 RX8 54 2 := ⟨by decide, RX2, TX2, 3, rfl, inq_2, by decide, w_108, rfl⟩
theorem fl_172 : FL 1 4 RX8 63 0 := ⟨by decide, RX1, TX1, 5, rfl, inq_1, by decide, w_172, rfl⟩
theorem fp_172 : FP 1 4 RX8 63 0 .int := ⟨by decide, RX1, TX1, 5, tyX1, rfl, inq_1, by decide, w_172, rfl, tyX1_ok, nmX1, rfl, tyX1_ok 4 (by decide), rfl⟩
theorem fl_165 : FL 1 3 RX8 67 2 := ⟨by decide, RX1, TX1, 5, rfl, inq_1, by decide, w_165, rfl⟩
theorem fl_196 : FL 8 0 RX8 80 0 := ⟨by decide, RX8, TX8, 11, rfl, inq_8, by decide, w_196, rfl⟩
theorem fp_196 : FP 8 0 RX8 80 0 .int := ⟨by decide, RX8, TX8, 11, tyX8, rfl, inq_8, by decide, w_196, rfl, tyX8_ok, nmX8, rfl, tyX8_ok 0 (by decide), rfl⟩
theorem fl_157 : FL 1 0 RX8 83 2 := ⟨by decide, RX1, TX1, 5, rfl, inq_1, by decide, w_157, rfl⟩
theorem fl_163 : FL 1 2 RX8 86 2 := ⟨by decide, RX1, TX1, 5, rfl, inq_1, by decide, w_163, rfl⟩
theorem fl_430 : FL 9 0 RX9 9 2 := ⟨by decide, RX9, TX9, 3, rfl, inq_9, by decide, w_430, rfl⟩
theorem fl_433 : FL 9 1 RX9 15 0 := ⟨by decide, RX9, TX9, 3, rfl, inq_9, by decide, w_433, rfl⟩
theorem fp_433 : FP 9 1 RX9 15 0 .int := ⟨by decide, RX9, TX9, 3, tyX9, rfl, inq_9, by decide, w_433, rfl, tyX9_ok, nmX9, rfl, tyX9_ok 1 (by decide), rfl⟩
theorem fl_435 : FL 9 2 RX9 19 0 := ⟨by decide, RX9, TX9, 3, rfl, inq_9, by decide, w_435, rfl⟩
theorem fp_435 : FP 9 2 RX9 19 0 .int := ⟨by decide, RX9, TX9, 3, tyX9, rfl, inq_9, by decide, w_435, rfl, tyX9_ok, nmX9, rfl, tyX9_ok 2 (by decide), rfl⟩
theorem fl_281 : FL 10 0 RX10 12 2 := ⟨by decide, RX10, TX10, 7, rfl, inq_10, by decide, w_281, rfl⟩
theorem fl_283 : FL 10 1 RX10 18 2 := ⟨by decide, RX10, TX10, 7, rfl, inq_10, by decide, w_283, rfl⟩
theorem fl_285 : FL 10 2 RX10 21 2 := ⟨by decide, RX10, TX10, 7, rfl, inq_10, by decide, w_285, rfl⟩
theorem fl_287 : FL 10 3 RX10 24 2 := ⟨by decide, RX10, TX10, 7, rfl, inq_10, by decide, w_287, rfl⟩
theorem fl_288 : FL 10 4 RX10 28 2 := ⟨by decide, RX10, TX10, 7, rfl, inq_10, by decide, w_288, rfl⟩
theorem fl_289 : FL 10 5 RX10 31 2 := ⟨by decide, RX10, TX10, 7, rfl, inq_10, by decide, w_289, rfl⟩
theorem fl_290 : FL 10 6 RX10 34 2 := ⟨by decide, RX10, TX10, 7, rfl, inq_10, by decide, w_290, rfl⟩
theorem fl_194 : FL 8 0 RX10 41 0 := ⟨by decide, RX8, TX8, 11, rfl, inq_8, by decide, w_194, rfl⟩
theorem fp_194 : FP 8 0 RX10 41 0 .int := ⟨by decide, RX8, TX8, 11, tyX8, rfl, inq_8, by decide, w_194, rfl, tyX8_ok, nmX8, rfl, tyX8_ok 0 (by decide), rfl⟩
theorem fl_208 : FL 8 3 RX10 47 2 := ⟨by decide, RX8, TX8, 11, rfl, inq_8, by decide, w_208, rfl⟩
theorem fl_992 : FL 12 0 RX12 9 2 := ⟨by decide, RX12, TX12, 34, rfl, inq_12, by decide, w_992, rfl⟩
theorem fl_993 : FL 12 1 RX12 15 2 := ⟨by decide, RX12, TX12, 34, rfl, inq_12, by decide, w_993, rfl⟩
theorem fl_994 : FL 12 2 RX12 18 2 := ⟨by decide, RX12, TX12, 34, rfl, inq_12, by decide, w_994, rfl⟩
theorem fl_996 : FL 12 4 RX12 21 2 := ⟨by decide, RX12, TX12, 34, rfl, inq_12, by decide, w_996, rfl⟩
theorem fl_998 : FL 12 6 RX12 24 2 := ⟨by decide, RX12, TX12, 34, rfl, inq_12, by decide, w_998, rfl⟩
theorem fl_999 : FL 12 7 RX12 27 2 := ⟨by decide, RX12, TX12, 34, rfl, inq_12, by decide, w_999, rfl⟩
theorem fl_1004 : FL 12 12 RX12 30 2 := ⟨by decide, RX12, TX12, 34, rfl, inq_12, by decide, w_1004, rfl⟩
theorem fl_1005 : FL 12 13 RX12 33 2 := ⟨by decide, RX12, TX12, 34, rfl, inq_12, by decide, w_1005, rfl⟩
theorem fl_1006 : FL 12 14 RX12 36 2 := ⟨by decide, RX12, TX12, 34, rfl, inq_12, by decide, w_1006, rfl⟩
theorem fl_1007 : FL 12 15 RX12 40 2 := ⟨by decide, RX12, TX12, 34, rfl, inq_12, by decide, w_1007, rfl⟩
theorem fl_1008 : FL 12 16 RX12 43 2 := ⟨by decide, RX12, TX12, 34, rfl, inq_12, by decide, w_1008, rfl⟩
theorem fl_1009 : FL 12 17 RX12 46 2 := ⟨by decide, RX12, TX12, 34, rfl, inq_12, by decide, w_1009, rfl⟩
theorem fl_1010 : FL 12 18 RX12 49 2 := ⟨by decide, RX12, TX12, 34, rfl, inq_12, by decide, w_1010, rfl⟩
theorem fl_1011 : FL 12 19 RX12 52 2 := ⟨by decide, RX12, TX12, 34, rfl, inq_12, by decide, w_1011, rfl⟩
theorem fl_1012 : FL 12 20 RX12 55 2 := ⟨by decide, RX12, TX12, 34, rfl, inq_12, by decide, w_1012, rfl⟩
theorem fl_1014 : FL 12 22 RX12 58 2 := ⟨by decide, RX12, TX12, 34, rfl, inq_12, by decide, w_1014, rfl⟩
theorem fl_1015 : FL 12 23 RX12 61 2 := ⟨by decide, RX12, TX12, 34, rfl, inq_12, by decide, w_1015, rfl⟩
theorem fl_1016 : FL 12 24 RX12 64 2 := ⟨by decide, RX12, TX12, 34, rfl, inq_12, by decide, w_1016, rfl⟩
theorem fl_1022 : FL 12 30 RX12 67 2 := ⟨by decide, RX12, TX12, 34, rfl, inq_12, by decide, w_1022, rfl⟩
theorem fl_1023 : FL 12 31 RX12 70 2 := ⟨by decide, RX12, TX12, 34, rfl, inq_12, by decide, w_1023, rfl⟩
theorem fl_1024 : FL 12 32 RX12 73 2 := ⟨by decide, RX12, TX12, 34, rfl, inq_12, by decide, w_1024, rfl⟩
theorem fl_1025 : FL 12 33 RX12 76 2 := ⟨by decide, RX12, TX12, 34, rfl, inq_12, by decide, w_1025, rfl⟩
theorem fl_997 : FL 12 5 RX12 83 0 := ⟨by decide, RX12, TX12, 34, rfl, inq_12, by decide, w_997, rfl⟩
theorem fp_997 : FP 12 5 RX12 83 0 .int := ⟨by decide, RX12, TX12, 34, tyX12, rfl, inq_12, by decide, w_997, rfl, tyX12_ok, nmX12, rfl, tyX12_ok 5 (by decide), rfl⟩
theorem fl_995 : FL 12 3 RX12 87 0 := ⟨by decide, RX12, TX12, 34, rfl, inq_12, by decide, w_995, rfl⟩
theorem fp_995 : FP 12 3 RX12 87 0 .int := ⟨by decide, RX12, TX12, 34, tyX12, rfl, inq_12, by decide, w_995, rfl, tyX12_ok, nmX12, rfl, tyX12_ok 3 (by decide), rfl⟩
theorem fl_1000 : FL 12 8 RX12 152 3 := ⟨by decide, RX12, TX12, 34, rfl, inq_12, by decide, w_1000, rfl⟩
theorem fp_1000 : FP 12 8 RX12 152 3 .boolean := ⟨by decide, RX12, TX12, 34, tyX12, rfl, inq_12, by decide, w_1000, rfl, tyX12_ok, nmX12, rfl, tyX12_ok 8 (by decide), rfl⟩
theorem fl_1001 : FL 12 9 RX12 162 1 := ⟨by decide, RX12, TX12, 34, rfl, inq_12, by decide, w_1001, rfl⟩
theorem fp_1001 : FP 12 9 RX12 162 1 .long := ⟨by decide, RX12, TX12, 34, tyX12, rfl, inq_12, by decide, w_1001, rfl, tyX12_ok, nmX12, rfl, tyX12_ok 9 (by decide), rfl⟩
theorem fl_1002 : FL 12 10 RX12 166 1 := ⟨by decide, RX12, TX12, 34, rfl, inq_12, by decide, w_1002, rfl⟩
theorem fp_1002 : FP 12 10 RX12 166 1 .long := ⟨by decide, RX12, TX12, 34, tyX12, rfl, inq_12, by decide, w_1002, rfl, tyX12_ok, nmX12, rfl, tyX12_ok 10 (by decide), rfl⟩
theorem fl_1003 : FL 12 11 RX12 228 0 := ⟨by decide, RX12, TX12, 34, rfl, inq_12, by decide, w_1003, rfl⟩
theorem fp_1003 : FP 12 11 RX12 228 0 .int := ⟨by decide, RX12, TX12, 34, tyX12, rfl, inq_12, by decide, w_1003, rfl, tyX12_ok, nmX12, rfl, tyX12_ok 11 (by decide), rfl⟩
theorem fl_1013 : FL 12 21 RX12 271 0 := ⟨by decide, RX12, TX12, 34, rfl, inq_12, by decide, w_1013, rfl⟩
theorem fp_1013 : FP 12 21 RX12 271 0 .int := ⟨by decide, RX12, TX12, 34, tyX12, rfl, inq_12, by decide, w_1013, rfl, tyX12_ok, nmX12, rfl, tyX12_ok 21 (by decide), rfl⟩
theorem fl_1017 : FL 12 25 RX12 277 1 := ⟨by decide, RX12, TX12, 34, rfl, inq_12, by decide, w_1017, rfl⟩
theorem fp_1017 : FP 12 25 RX12 277 1 .long := ⟨by decide, RX12, TX12, 34, tyX12, rfl, inq_12, by decide, w_1017, rfl, tyX12_ok, nmX12, rfl, tyX12_ok 25 (by decide), rfl⟩
theorem fl_1018 : FL 12 26 RX12 280 1 := ⟨by decide, RX12, TX12, 34, rfl, inq_12, by decide, w_1018, rfl⟩
theorem fp_1018 : FP 12 26 RX12 280 1 .long := ⟨by decide, RX12, TX12, 34, tyX12, rfl, inq_12, by decide, w_1018, rfl, tyX12_ok, nmX12, rfl, tyX12_ok 26 (by decide), rfl⟩
theorem fl_1019 : FL 12 27 RX12 283 1 := ⟨by decide, RX12, TX12, 34, rfl, inq_12, by decide, w_1019, rfl⟩
theorem fp_1019 : FP 12 27 RX12 283 1 .long := ⟨by decide, RX12, TX12, 34, tyX12, rfl, inq_12, by decide, w_1019, rfl, tyX12_ok, nmX12, rfl, tyX12_ok 27 (by decide), rfl⟩
theorem fl_1020 : FL 12 28 RX12 306 3 := ⟨by decide, RX12, TX12, 34, rfl, inq_12, by decide, w_1020, rfl⟩
theorem fp_1020 : FP 12 28 RX12 306 3 .boolean := ⟨by decide, RX12, TX12, 34, tyX12, rfl, inq_12, by decide, w_1020, rfl, tyX12_ok, nmX12, rfl, tyX12_ok 28 (by decide), rfl⟩
theorem fl_1021 : FL 12 29 RX12 309 0 := ⟨by decide, RX12, TX12, 34, rfl, inq_12, by decide, w_1021, rfl⟩
theorem fp_1021 : FP 12 29 RX12 309 0 .int := ⟨by decide, RX12, TX12, 34, tyX12, rfl, inq_12, by decide, w_1021, rfl, tyX12_ok, nmX12, rfl, tyX12_ok 29 (by decide), rfl⟩
def SLK : List (List Nat) := [[100, 100, 100, 100, 100, 100, 100], [2, 2, 2, 15, 100], [13, 100, 100], [7, 17, 100, 13, 100, 4, 4, 4, 4], [100, 100, 100], [13, 13, 100, 100], [14, 100, 14, 100, 100, 100, 100], [100, 4, 16], [100, 13, 13, 13, 13, 13, 13, 19, 19, 13, 13], [13, 100, 100], [4, 4, 4, 16, 4, 4, 4], [1, 1, 100, 8, 8, 100, 13, 13, 13, 13, 10, 4, 3, 100, 100, 5, 6, 18], [13, 13, 13, 100, 13, 100, 13, 13, 100, 100, 100, 100, 13, 13, 14, 14, 14, 14, 14, 14, 13, 100, 13, 14, 14, 100, 100, 100, 100, 100, 13, 13, 13, 13]]
def okRefs (h : Nat) : Bool := ((SLK.getD (kd h) []).zipIdx).all (fun q => q.1 == 100 || kd (rt h q.2) == q.1)
theorem okRefs_all : ∀ h, h < NN → okRefs h = true := by decide +kernel
theorem tk_of {h c j k : Nat} (kh : kd h = c) (hc : c < 13) (hk : (SLK.getD c [])[j]? = some k) (h1 : k ≠ 100) : kd (rt h j) = k := by
  have h0 := okRefs_all h (kd_lt kh (by omega))
  unfold okRefs at h0
  rw [kh] at h0
  have h2 := List.all_eq_true.mp h0 (k, j) (List.mem_iff_getElem?.mpr ⟨j, by rw [List.getElem?_zipIdx, hk]; simp⟩)
  simpa [h1] using h2
def okArr (h : Nat) : Bool := !(decide (15 ≤ kd h) && decide (kd h < 20)) || (List.range (ln h)).all (fun j => kd (rt h j) == ([0, 4, 7, 9, 13] : List Nat).getD (kd h - 15) 99)
theorem okArr_all : ∀ h, h < NN → okArr h = true := by decide +kernel
theorem tka_of {a : Nat} {i : Int} {k c : Nat} (ka : kd a = k) (h1 : 15 ≤ k) (h2 : k < 20) (hc : ([0, 4, 7, 9, 13] : List Nat).getD (k - 15) 99 = c) (hi : inb a i) : kd (rt a (ix i)) = c := by
  have h0 := okArr_all a (kd_lt ka (by omega))
  have hj : ix i < ln a := by
    obtain ⟨h1, h2⟩ := hi
    unfold ix
    omega
  unfold okArr at h0
  rw [ka] at h0
  simp only [h1, h2, decide_true, Bool.and_self, Bool.not_true, Bool.false_or] at h0
  have h3 := List.all_eq_true.mp h0 (ix i) (List.mem_range.mpr hj)
  rw [← hc]
  simpa using h3
theorem tk_1_0 {h : Nat} (kh : kd h = 1) : kd (rt h 0) = 2 := tk_of kh (by decide) rfl (by decide)
theorem tk_1_1 {h : Nat} (kh : kd h = 1) : kd (rt h 1) = 2 := tk_of kh (by decide) rfl (by decide)
theorem tk_1_2 {h : Nat} (kh : kd h = 1) : kd (rt h 2) = 2 := tk_of kh (by decide) rfl (by decide)
theorem tk_1_3 {h : Nat} (kh : kd h = 1) : kd (rt h 3) = 15 := tk_of kh (by decide) rfl (by decide)
theorem tk_2_0 {h : Nat} (kh : kd h = 2) : kd (rt h 0) = 13 := tk_of kh (by decide) rfl (by decide)
theorem tk_3_0 {h : Nat} (kh : kd h = 3) : kd (rt h 0) = 7 := tk_of kh (by decide) rfl (by decide)
theorem tk_3_1 {h : Nat} (kh : kd h = 3) : kd (rt h 1) = 17 := tk_of kh (by decide) rfl (by decide)
theorem tk_3_3 {h : Nat} (kh : kd h = 3) : kd (rt h 3) = 13 := tk_of kh (by decide) rfl (by decide)
theorem tk_3_5 {h : Nat} (kh : kd h = 3) : kd (rt h 5) = 4 := tk_of kh (by decide) rfl (by decide)
theorem tk_3_6 {h : Nat} (kh : kd h = 3) : kd (rt h 6) = 4 := tk_of kh (by decide) rfl (by decide)
theorem tk_3_7 {h : Nat} (kh : kd h = 3) : kd (rt h 7) = 4 := tk_of kh (by decide) rfl (by decide)
theorem tk_3_8 {h : Nat} (kh : kd h = 3) : kd (rt h 8) = 4 := tk_of kh (by decide) rfl (by decide)
theorem tk_5_0 {h : Nat} (kh : kd h = 5) : kd (rt h 0) = 13 := tk_of kh (by decide) rfl (by decide)
theorem tk_5_1 {h : Nat} (kh : kd h = 5) : kd (rt h 1) = 13 := tk_of kh (by decide) rfl (by decide)
theorem tk_6_0 {h : Nat} (kh : kd h = 6) : kd (rt h 0) = 14 := tk_of kh (by decide) rfl (by decide)
theorem tk_6_2 {h : Nat} (kh : kd h = 6) : kd (rt h 2) = 14 := tk_of kh (by decide) rfl (by decide)
theorem tk_7_1 {h : Nat} (kh : kd h = 7) : kd (rt h 1) = 4 := tk_of kh (by decide) rfl (by decide)
theorem tk_7_2 {h : Nat} (kh : kd h = 7) : kd (rt h 2) = 16 := tk_of kh (by decide) rfl (by decide)
theorem tk_8_1 {h : Nat} (kh : kd h = 8) : kd (rt h 1) = 13 := tk_of kh (by decide) rfl (by decide)
theorem tk_8_2 {h : Nat} (kh : kd h = 8) : kd (rt h 2) = 13 := tk_of kh (by decide) rfl (by decide)
theorem tk_8_3 {h : Nat} (kh : kd h = 8) : kd (rt h 3) = 13 := tk_of kh (by decide) rfl (by decide)
theorem tk_8_4 {h : Nat} (kh : kd h = 8) : kd (rt h 4) = 13 := tk_of kh (by decide) rfl (by decide)
theorem tk_8_5 {h : Nat} (kh : kd h = 8) : kd (rt h 5) = 13 := tk_of kh (by decide) rfl (by decide)
theorem tk_8_6 {h : Nat} (kh : kd h = 8) : kd (rt h 6) = 13 := tk_of kh (by decide) rfl (by decide)
theorem tk_8_7 {h : Nat} (kh : kd h = 8) : kd (rt h 7) = 19 := tk_of kh (by decide) rfl (by decide)
theorem tk_8_8 {h : Nat} (kh : kd h = 8) : kd (rt h 8) = 19 := tk_of kh (by decide) rfl (by decide)
theorem tk_8_9 {h : Nat} (kh : kd h = 8) : kd (rt h 9) = 13 := tk_of kh (by decide) rfl (by decide)
theorem tk_8_10 {h : Nat} (kh : kd h = 8) : kd (rt h 10) = 13 := tk_of kh (by decide) rfl (by decide)
theorem tk_9_0 {h : Nat} (kh : kd h = 9) : kd (rt h 0) = 13 := tk_of kh (by decide) rfl (by decide)
theorem tk_10_0 {h : Nat} (kh : kd h = 10) : kd (rt h 0) = 4 := tk_of kh (by decide) rfl (by decide)
theorem tk_10_1 {h : Nat} (kh : kd h = 10) : kd (rt h 1) = 4 := tk_of kh (by decide) rfl (by decide)
theorem tk_10_2 {h : Nat} (kh : kd h = 10) : kd (rt h 2) = 4 := tk_of kh (by decide) rfl (by decide)
theorem tk_10_3 {h : Nat} (kh : kd h = 10) : kd (rt h 3) = 16 := tk_of kh (by decide) rfl (by decide)
theorem tk_10_4 {h : Nat} (kh : kd h = 10) : kd (rt h 4) = 4 := tk_of kh (by decide) rfl (by decide)
theorem tk_10_5 {h : Nat} (kh : kd h = 10) : kd (rt h 5) = 4 := tk_of kh (by decide) rfl (by decide)
theorem tk_10_6 {h : Nat} (kh : kd h = 10) : kd (rt h 6) = 4 := tk_of kh (by decide) rfl (by decide)
theorem tk_11_0 {h : Nat} (kh : kd h = 11) : kd (rt h 0) = 1 := tk_of kh (by decide) rfl (by decide)
theorem tk_11_1 {h : Nat} (kh : kd h = 11) : kd (rt h 1) = 1 := tk_of kh (by decide) rfl (by decide)
theorem tk_11_3 {h : Nat} (kh : kd h = 11) : kd (rt h 3) = 8 := tk_of kh (by decide) rfl (by decide)
theorem tk_11_4 {h : Nat} (kh : kd h = 11) : kd (rt h 4) = 8 := tk_of kh (by decide) rfl (by decide)
theorem tk_11_6 {h : Nat} (kh : kd h = 11) : kd (rt h 6) = 13 := tk_of kh (by decide) rfl (by decide)
theorem tk_11_7 {h : Nat} (kh : kd h = 11) : kd (rt h 7) = 13 := tk_of kh (by decide) rfl (by decide)
theorem tk_11_8 {h : Nat} (kh : kd h = 11) : kd (rt h 8) = 13 := tk_of kh (by decide) rfl (by decide)
theorem tk_11_9 {h : Nat} (kh : kd h = 11) : kd (rt h 9) = 13 := tk_of kh (by decide) rfl (by decide)
theorem tk_11_10 {h : Nat} (kh : kd h = 11) : kd (rt h 10) = 10 := tk_of kh (by decide) rfl (by decide)
theorem tk_11_11 {h : Nat} (kh : kd h = 11) : kd (rt h 11) = 4 := tk_of kh (by decide) rfl (by decide)
theorem tk_11_12 {h : Nat} (kh : kd h = 11) : kd (rt h 12) = 3 := tk_of kh (by decide) rfl (by decide)
theorem tk_11_15 {h : Nat} (kh : kd h = 11) : kd (rt h 15) = 5 := tk_of kh (by decide) rfl (by decide)
theorem tk_11_16 {h : Nat} (kh : kd h = 11) : kd (rt h 16) = 6 := tk_of kh (by decide) rfl (by decide)
theorem tk_11_17 {h : Nat} (kh : kd h = 11) : kd (rt h 17) = 18 := tk_of kh (by decide) rfl (by decide)
theorem tk_12_0 {h : Nat} (kh : kd h = 12) : kd (rt h 0) = 13 := tk_of kh (by decide) rfl (by decide)
theorem tk_12_1 {h : Nat} (kh : kd h = 12) : kd (rt h 1) = 13 := tk_of kh (by decide) rfl (by decide)
theorem tk_12_2 {h : Nat} (kh : kd h = 12) : kd (rt h 2) = 13 := tk_of kh (by decide) rfl (by decide)
theorem tk_12_4 {h : Nat} (kh : kd h = 12) : kd (rt h 4) = 13 := tk_of kh (by decide) rfl (by decide)
theorem tk_12_6 {h : Nat} (kh : kd h = 12) : kd (rt h 6) = 13 := tk_of kh (by decide) rfl (by decide)
theorem tk_12_7 {h : Nat} (kh : kd h = 12) : kd (rt h 7) = 13 := tk_of kh (by decide) rfl (by decide)
theorem tk_12_12 {h : Nat} (kh : kd h = 12) : kd (rt h 12) = 13 := tk_of kh (by decide) rfl (by decide)
theorem tk_12_13 {h : Nat} (kh : kd h = 12) : kd (rt h 13) = 13 := tk_of kh (by decide) rfl (by decide)
theorem tk_12_14 {h : Nat} (kh : kd h = 12) : kd (rt h 14) = 14 := tk_of kh (by decide) rfl (by decide)
theorem tk_12_15 {h : Nat} (kh : kd h = 12) : kd (rt h 15) = 14 := tk_of kh (by decide) rfl (by decide)
theorem tk_12_16 {h : Nat} (kh : kd h = 12) : kd (rt h 16) = 14 := tk_of kh (by decide) rfl (by decide)
theorem tk_12_17 {h : Nat} (kh : kd h = 12) : kd (rt h 17) = 14 := tk_of kh (by decide) rfl (by decide)
theorem tk_12_18 {h : Nat} (kh : kd h = 12) : kd (rt h 18) = 14 := tk_of kh (by decide) rfl (by decide)
theorem tk_12_19 {h : Nat} (kh : kd h = 12) : kd (rt h 19) = 14 := tk_of kh (by decide) rfl (by decide)
theorem tk_12_20 {h : Nat} (kh : kd h = 12) : kd (rt h 20) = 13 := tk_of kh (by decide) rfl (by decide)
theorem tk_12_22 {h : Nat} (kh : kd h = 12) : kd (rt h 22) = 13 := tk_of kh (by decide) rfl (by decide)
theorem tk_12_23 {h : Nat} (kh : kd h = 12) : kd (rt h 23) = 14 := tk_of kh (by decide) rfl (by decide)
theorem tk_12_24 {h : Nat} (kh : kd h = 12) : kd (rt h 24) = 14 := tk_of kh (by decide) rfl (by decide)
theorem tk_12_30 {h : Nat} (kh : kd h = 12) : kd (rt h 30) = 13 := tk_of kh (by decide) rfl (by decide)
theorem tk_12_31 {h : Nat} (kh : kd h = 12) : kd (rt h 31) = 13 := tk_of kh (by decide) rfl (by decide)
theorem tk_12_32 {h : Nat} (kh : kd h = 12) : kd (rt h 32) = 13 := tk_of kh (by decide) rfl (by decide)
theorem tk_12_33 {h : Nat} (kh : kd h = 12) : kd (rt h 33) = 13 := tk_of kh (by decide) rfl (by decide)
theorem tka_15 {a : Nat} {i : Int} (ka : kd a = 15) (hi : inb a i) : kd (rt a (ix i)) = 0 := tka_of ka (by decide) (by decide) rfl hi
theorem tka_16 {a : Nat} {i : Int} (ka : kd a = 16) (hi : inb a i) : kd (rt a (ix i)) = 4 := tka_of ka (by decide) (by decide) rfl hi
theorem tka_17 {a : Nat} {i : Int} (ka : kd a = 17) (hi : inb a i) : kd (rt a (ix i)) = 7 := tka_of ka (by decide) (by decide) rfl hi
theorem tka_18 {a : Nat} {i : Int} (ka : kd a = 18) (hi : inb a i) : kd (rt a (ix i)) = 9 := tka_of ka (by decide) (by decide) rfl hi
theorem tka_19 {a : Nat} {i : Int} (ka : kd a = 19) (hi : inb a i) : kd (rt a (ix i)) = 13 := tka_of ka (by decide) (by decide) rfl hi
