set_option maxHeartbeats 4000000 in
set_option maxRecDepth 100000 in
theorem lc_type {p : Program} {l : Launch} {e : Env} {s : State} {m : MethodId} {below : List Frame} {meth : Method} {c : Code} {b : Nat} {xs : Nat → Int32} {g : zG} (C0 : lC g p s m meth c b xs) {ax am : Nat → Nat} {H : Heap} {locs : List Loc} (hP : va_P g.1 vwCl (lW g ax am) H) (hD : va_D (fun q : Nat => s.heap.size ≤ q) (lW g ax am)) (hS : va_S (fun q : Nat => s.heap.size ≤ q) s.heap H locs) {ls : Array Slot} (hl : lv_has ls 4 [(0, .ref b), (1, .ref (ax 0)), (2, .ref (am 0)), (3, .int 0)]) : W p l e room_1 s m #[Value.ref b] below meth c H locs 600000 7302250 (lw_Z below #[Value.ref b] s) (F0 m 368 ls []) := by
  obtain ⟨hx, hb, hml, hr, hlocks, hown, hts, hK, hN, hZ, hX, hbl⟩ := C0
  have hA : ∀ q : Nat, s.heap.size ≤ q → (fun q : Nat => s.heap.size ≤ q) q := fun _ h => h
  have hbA : ¬ (fun q : Nat => s.heap.size ≤ q) b := Nat.not_le.mpr hbl
  have hP := hP.sub (ws' := [((ax 0), .inr (4, [.ref (ax 1), .ref (ax 10), .int 0, .ref (ax 19), .ref (ax 30), .ref (ax 32), .ref (ax 36), .int (-1), .ref (ax 37), .ref (ax 38), .ref (ax 39), .ref (ax 40)])), ((ax 30), .inr (3, [.ref (ax 31), .int 0])), ((ax 31), .inl (zB g, 60, .inl (fun _ => 0))), ((am 0), .inr (5, [.ref (am 1), .int 0, .ref (am 2), .int 0, .int 0, .ref (am 3), .ref (am 4), .ref (am 5), .ref (am 6), .int 0, .ref (am 7), .ref (am 8), .ref (am 9), .int 0, .ref (am 10), .ref (am 11), .ref (am 12), .ref (am 13), .ref (am 14), .ref (am 15), .ref (am 16), .ref (am 17), .ref (am 18), .ref (am 19), .ref (am 20), .ref (am 21), .ref (am 22)])), ((am 2), .inl (zI g, 60, .inl (fun _ => 0)))]) [0, 30, 31, 41, 43] rfl
  have hD := hD.sub (ws' := [((ax 0), .inr (4, [.ref (ax 1), .ref (ax 10), .int 0, .ref (ax 19), .ref (ax 30), .ref (ax 32), .ref (ax 36), .int (-1), .ref (ax 37), .ref (ax 38), .ref (ax 39), .ref (ax 40)])), ((ax 30), .inr (3, [.ref (ax 31), .int 0])), ((ax 31), .inl (zB g, 60, .inl (fun _ => 0))), ((am 0), .inr (5, [.ref (am 1), .int 0, .ref (am 2), .int 0, .int 0, .ref (am 3), .ref (am 4), .ref (am 5), .ref (am 6), .int 0, .ref (am 7), .ref (am 8), .ref (am 9), .int 0, .ref (am 10), .ref (am 11), .ref (am 12), .ref (am 13), .ref (am 14), .ref (am 15), .ref (am 16), .ref (am 17), .ref (am 18), .ref (am 19), .ref (am 20), .ref (am 21), .ref (am 22)])), ((am 2), .inl (zI g, 60, .inl (fun _ => 0)))]) [0, 30, 31, 41, 43] (by decide) rfl
  refine lv_aload_n hx hb dL_law_368 rfl (lv_at hl 1 rfl) ?_
  refine lv_aload_n hx hb dL_law_369 rfl (lv_at hl 0 rfl) ?_
  refine lv_iload_n hx hb dL_law_370 rfl (lv_at hl 3 rfl) ?_
  refine lv_iconst (v := 1) hx hb dL_law_371 (by decide) ?_
  refine lv_iadd hx hb dL_law_372 ?_
  refine lv_topi (nm_r (e' := 1) (by decide +kernel) ?_)
  refine va_sld hx hb hX hbl hbA hS (vp_in_iff.mpr (by decide +kernel)) dL_law_373 ?_
  refine lv_topi (nm_r (e' := (xs 1)) (by rfl) ?_)
  refine lv_i2l (v := (xs 1).toInt64) hx hb dL_law_374 rfl ?_
  refine lv_bipush (v := 32) hx hb dL_law_375 (by decide) ?_
  refine lv_lshl (v := (((xs 1).toInt64) <<< ((32 : Int32).toInt64 &&& 63))) hx hb dL_law_377 rfl ?_
  refine lv_aload_n hx hb dL_law_378 rfl (lv_at hl 0 rfl) ?_
  refine lv_iload_n hx hb dL_law_379 rfl (lv_at hl 3 rfl) ?_
  refine lv_iconst (v := 2) hx hb dL_law_380 (by decide) ?_
  refine lv_iadd hx hb dL_law_381 ?_
  refine lv_topi (nm_r (e' := 2) (by decide +kernel) ?_)
  refine va_sld hx hb hX hbl hbA hS (vp_in_iff.mpr (by decide +kernel)) dL_law_382 ?_
  refine lv_topi (nm_r (e' := (xs 2)) (by rfl) ?_)
  refine lv_i2l (v := (xs 2).toInt64) hx hb dL_law_383 rfl ?_
  refine lv_ldc2 (v := 4294967295) hx hb hown (hts _ m_k_RL_39) dL_law_384 ?_
  refine lv_land hx hb dL_law_387 ?_
  refine lv_lor hx hb dL_law_388 ?_
  refine lv_aload_n hx hb dL_law_389 rfl (lv_at hl 0 rfl) ?_
  refine lv_iload_n hx hb dL_law_390 rfl (lv_at hl 3 rfl) ?_
  refine lv_iconst (v := 3) hx hb dL_law_391 (by decide) ?_
  refine lv_iadd hx hb dL_law_392 ?_
  refine lv_topi (nm_r (e' := 3) (by decide +kernel) ?_)
  refine va_sld hx hb hX hbl hbA hS (vp_in_iff.mpr (by decide +kernel)) dL_law_393 ?_
  refine lv_topi (nm_r (e' := (xs 3)) (by rfl) ?_)
  refine z_calli (wr := [((am 0), .inr (5, [.ref (am 1), .int 0, .ref (am 2), .int 0, .int 0, .ref (am 3), .ref (am 4), .ref (am 5), .ref (am 6), .int 0, .ref (am 7), .ref (am 8), .ref (am 9), .int 0, .ref (am 10), .ref (am 11), .ref (am 12), .ref (am 13), .ref (am 14), .ref (am 15), .ref (am 16), .ref (am 17), .ref (am 18), .ref (am 19), .ref (am 20), .ref (am 21), .ref (am 22)])), ((am 2), .inl (zI g, 60, .inl (fun _ => 0)))]) hP hD hS hA [0, 1, 2] [3, 4] (by decide) rfl rfl (by decide) (va_runV (As := [.long ((((xs 1).toInt64) <<< ((32 : Int32).toInt64 &&& 63)) ||| (((xs 2).toInt64) &&& 4294967295)), .int (xs 3)]) (rest := []) ⟨hx, hb, hml, hown, hts⟩ (kX4_type l g (ax 0) (ax 1) (ax 10) (ax 19) (ax 30) (ax 32) (ax 36) (ax 37) (ax 38) (ax 39) (ax 40) (ax 31) H.size ((((xs 1).toInt64) <<< ((32 : Int32).toInt64 &&& 63)) ||| (((xs 2).toInt64) &&& 4294967295)) (xs 3)) ⟨callB_of 2 hts (zGood m_o_yX4_type) rfl rfl rfl (hts _ m_z_RX4) (hts _ m_m_RL_41) ⟨by decide +kernel, by decide +kernel, by decide +kernel⟩ ⟨Nat.le_of_ble_eq_true rfl, Nat.le_of_ble_eq_true rfl⟩, hts _ m_i_yX4_type, hts _ m_e_yX4_type⟩ (zPreV hK hN hZ hP hD hS hA [0, 1, 2] (by decide) rfl rfl 4 0 rfl rfl) rfl rfl hl.1 rfl (lv_room (Nat.le_of_ble_eq_true rfl)) dL_law_394 ⟨Nat.le_of_ble_eq_true rfl, Nat.le_of_ble_eq_true rfl⟩) (fun r u H locs hw hP hD hS => ?_)
  rcases hw with ⟨i_0, rfl⟩ | ⟨i_1, i_2, i_3, rfl⟩ | ⟨i_4, i_5, i_6, i_7, i_8, rfl⟩ | ⟨i_9, i_10, i_11, i_12, i_13, i_14, rfl⟩ | ⟨i_15, i_16, i_17, i_18, i_19, i_20, i_21, i_22, rfl⟩ | ⟨i_23, i_24, i_25, i_26, i_27, i_28, i_29, i_30, i_31, rfl⟩ | ⟨i_32, i_33, i_34, i_35, i_36, i_37, i_38, i_39, i_40, i_41, i_42, rfl⟩ | ⟨i_43, i_44, i_45, i_46, i_47, i_48, i_49, i_50, i_51, i_52, i_53, i_54, rfl⟩ | ⟨i_55, i_56, i_57, i_58, i_59, i_60, i_61, i_62, i_63, i_64, i_65, i_66, i_67, i_68, rfl⟩ | ⟨i_69, i_70, i_71, i_72, i_73, i_74, i_75, i_76, i_77, i_78, i_79, i_80, i_81, i_82, i_83, rfl⟩ | ⟨i_84, i_85, i_86, i_87, i_88, i_89, i_90, i_91, i_92, i_93, i_94, i_95, i_96, i_97, i_98, i_99, i_100, rfl⟩ | ⟨i_101, i_102, i_103, i_104, i_105, i_106, i_107, i_108, i_109, i_110, i_111, i_112, i_113, i_114, i_115, i_116, i_117, i_118, rfl⟩ | ⟨i_119, i_120, i_121, i_122, i_123, i_124, i_125, i_126, i_127, i_128, i_129, i_130, i_131, i_132, i_133, i_134, i_135, i_136, i_137, i_138, rfl⟩ | ⟨i_139, i_140, i_141, i_142, i_143, i_144, i_145, i_146, i_147, i_148, i_149, i_150, i_151, i_152, i_153, i_154, i_155, i_156, i_157, i_158, i_159, rfl⟩ | ⟨i_160, i_161, i_162, i_163, i_164, i_165, i_166, i_167, i_168, i_169, i_170, i_171, i_172, i_173, i_174, i_175, i_176, i_177, i_178, i_179, i_180, i_181, i_182, rfl⟩ | ⟨i_183, i_184, i_185, i_186, i_187, i_188, i_189, i_190, i_191, i_192, i_193, i_194, i_195, i_196, i_197, i_198, i_199, i_200, i_201, i_202, i_203, i_204, i_205, i_206, rfl⟩ | ⟨i_207, i_208, i_209, i_210, i_211, i_212, i_213, i_214, i_215, i_216, i_217, i_218, i_219, i_220, i_221, i_222, i_223, i_224, i_225, i_226, i_227, i_228, i_229, i_230, i_231, rfl⟩ | ⟨i_232, i_233, i_234, i_235, i_236, i_237, i_238, i_239, i_240, i_241, i_242, i_243, i_244, i_245, i_246, i_247, i_248, i_249, i_250, i_251, i_252, i_253, i_254, i_255, i_256, rfl⟩ | ⟨i_257, i_258, i_259, i_260, i_261, i_262, i_263, i_264, i_265, i_266, i_267, i_268, i_269, i_270, i_271, i_272, i_273, i_274, i_275, i_276, i_277, i_278, rfl⟩ | ⟨i_279, i_280, i_281, i_282, i_283, i_284, i_285, i_286, i_287, i_288, i_289, i_290, i_291, i_292, i_293, i_294, i_295, i_296, i_297, rfl⟩ | ⟨i_298, i_299, i_300, i_301, i_302, i_303, i_304, i_305, i_306, i_307, i_308, i_309, i_310, i_311, i_312, i_313, rfl⟩ | ⟨i_314, i_315, i_316, i_317, i_318, i_319, i_320, i_321, i_322, i_323, i_324, i_325, i_326, rfl⟩ | ⟨i_327, i_328, i_329, i_330, i_331, i_332, i_333, i_334, i_335, i_336, rfl⟩ | ⟨i_337, i_338, i_339, i_340, i_341, i_342, i_343, rfl⟩ | ⟨i_344, i_345, i_346, i_347, rfl⟩ | ⟨i_348, i_349, rfl⟩
  · skip
    have hP : va_P g.1 vwCl [((am 0), .inr (5, [.ref (am 1), .int 0, .ref (am 2), .int 0, .int 0, .ref (am 3), .ref (am 4), .ref (am 5), .ref (am 6), .int 0, .ref (am 7), .ref (am 8), .ref (am 9), .int 0, .ref (am 10), .ref (am 11), .ref (am 12), .ref (am 13), .ref (am 14), .ref (am 15), .ref (am 16), .ref (am 17), .ref (am 18), .ref (am 19), .ref (am 20), .ref (am 21), .ref (am 22)])), ((am 2), .inl (zI g, 60, .inl (fun _ => 0)))] H := hP
    have hD : va_D (fun q : Nat => s.heap.size ≤ q) [((am 0), .inr (5, [.ref (am 1), .int 0, .ref (am 2), .int 0, .int 0, .ref (am 3), .ref (am 4), .ref (am 5), .ref (am 6), .int 0, .ref (am 7), .ref (am 8), .ref (am 9), .int 0, .ref (am 10), .ref (am 11), .ref (am 12), .ref (am 13), .ref (am 14), .ref (am 15), .ref (am 16), .ref (am 17), .ref (am 18), .ref (am 19), .ref (am 20), .ref (am 21), .ref (am 22)])), ((am 2), .inl (zI g, 60, .inl (fun _ => 0)))] := hD
    refine lv_aload_n hx hb dL_law_397 rfl (lv_at hl 2 rfl) ?_
    refine lv_aload_n hx hb dL_law_398 rfl (lv_at hl 0 rfl) ?_
    refine lv_iload_n hx hb dL_law_399 rfl (lv_at hl 3 rfl) ?_
    refine lv_iconst (v := 1) hx hb dL_law_400 (by decide) ?_
    refine lv_iadd hx hb dL_law_401 ?_
    refine lv_topi (nm_r (e' := 1) (by decide +kernel) ?_)
    refine va_sld hx hb hX hbl hbA hS (vp_in_iff.mpr (by decide +kernel)) dL_law_402 ?_
    refine lv_topi (nm_r (e' := (xs 1)) (by rfl) ?_)
    refine lv_i2l (v := (xs 1).toInt64) hx hb dL_law_403 rfl ?_
    refine lv_bipush (v := 32) hx hb dL_law_404 (by decide) ?_
    refine lv_lshl (v := (((xs 1).toInt64) <<< ((32 : Int32).toInt64 &&& 63))) hx hb dL_law_406 rfl ?_
    refine lv_aload_n hx hb dL_law_407 rfl (lv_at hl 0 rfl) ?_
    refine lv_iload_n hx hb dL_law_408 rfl (lv_at hl 3 rfl) ?_
    refine lv_iconst (v := 2) hx hb dL_law_409 (by decide) ?_
    refine lv_iadd hx hb dL_law_410 ?_
    refine lv_topi (nm_r (e' := 2) (by decide +kernel) ?_)
    refine va_sld hx hb hX hbl hbA hS (vp_in_iff.mpr (by decide +kernel)) dL_law_411 ?_
    refine lv_topi (nm_r (e' := (xs 2)) (by rfl) ?_)
    refine lv_i2l (v := (xs 2).toInt64) hx hb dL_law_412 rfl ?_
    refine lv_ldc2 (v := 4294967295) hx hb hown (hts _ m_k_RL_39) dL_law_413 ?_
    refine lv_land hx hb dL_law_416 ?_
    refine lv_lor hx hb dL_law_417 ?_
    refine lv_aload_n hx hb dL_law_418 rfl (lv_at hl 0 rfl) ?_
    refine lv_iload_n hx hb dL_law_419 rfl (lv_at hl 3 rfl) ?_
    refine lv_iconst (v := 3) hx hb dL_law_420 (by decide) ?_
    refine lv_iadd hx hb dL_law_421 ?_
    refine lv_topi (nm_r (e' := 3) (by decide +kernel) ?_)
    refine va_sld hx hb hX hbl hbA hS (vp_in_iff.mpr (by decide +kernel)) dL_law_422 ?_
    refine lv_topi (nm_r (e' := (xs 3)) (by rfl) ?_)
    refine z_calli (wr := []) hP hD hS hA [0, 1] [] (by decide) rfl rfl (by decide) (va_runV (As := [.long ((((xs 1).toInt64) <<< ((32 : Int32).toInt64 &&& 63)) ||| (((xs 2).toInt64) &&& 4294967295)), .int (xs 3)]) (rest := [.int (-1)]) ⟨hx, hb, hml, hown, hts⟩ (kX5_type l g (am 0) (am 1) (am 2) (am 3) (am 4) (am 5) (am 6) (am 7) (am 8) (am 9) (am 10) (am 11) (am 12) (am 13) (am 14) (am 15) (am 16) (am 17) (am 18) (am 19) (am 20) (am 21) (am 22) H.size ((((xs 1).toInt64) <<< ((32 : Int32).toInt64 &&& 63)) ||| (((xs 2).toInt64) &&& 4294967295)) (xs 3)) ⟨callB_of 2 hts (zGood m_o_yX5_type) rfl rfl rfl (hts _ m_z_RX5) (hts _ m_m_RL_45) ⟨by decide +kernel, by decide +kernel, by decide +kernel⟩ ⟨Nat.le_of_ble_eq_true rfl, Nat.le_of_ble_eq_true rfl⟩, hts _ m_i_yX5_type, hts _ m_e_yX5_type⟩ (zPreV hK hN hZ hP hD hS hA [0, 1] (by decide) rfl rfl 5 0 rfl rfl) rfl rfl hl.1 rfl (lv_room (Nat.le_of_ble_eq_true rfl)) dL_law_423 ⟨Nat.le_of_ble_eq_true rfl, Nat.le_of_ble_eq_true rfl⟩) (fun r u H locs hw hP hD hS => ?_)
    rcases hw with ⟨i_350, rfl⟩ | ⟨i_351, i_352, rfl⟩ | ⟨i_353, i_354, i_355, rfl⟩ | ⟨i_356, i_357, i_358, i_359, rfl⟩ | ⟨i_360, i_361, i_362, i_363, i_364, rfl⟩ | ⟨i_365, i_366, i_367, i_368, i_369, i_370, rfl⟩ | ⟨i_371, i_372, i_373, i_374, i_375, i_376, i_377, rfl⟩ | ⟨i_378, i_379, i_380, i_381, i_382, i_383, i_384, i_385, rfl⟩ | ⟨i_386, i_387, i_388, i_389, i_390, i_391, i_392, i_393, i_394, rfl⟩ | ⟨i_395, i_396, i_397, i_398, i_399, i_400, i_401, i_402, i_403, i_404, rfl⟩ | ⟨i_405, i_406, i_407, i_408, i_409, i_410, i_411, i_412, i_413, i_414, i_415, rfl⟩ | ⟨i_416, i_417, i_418, i_419, i_420, i_421, i_422, i_423, i_424, i_425, i_426, i_427, rfl⟩ | ⟨i_428, i_429, i_430, i_431, i_432, i_433, i_434, i_435, i_436, i_437, i_438, i_439, i_440, rfl⟩ | ⟨i_441, i_442, i_443, i_444, i_445, i_446, i_447, i_448, i_449, i_450, i_451, i_452, i_453, i_454, rfl⟩ | ⟨i_455, i_456, i_457, i_458, i_459, i_460, i_461, i_462, i_463, i_464, i_465, i_466, i_467, i_468, i_469, rfl⟩ | ⟨i_470, i_471, i_472, i_473, i_474, i_475, i_476, i_477, i_478, i_479, i_480, i_481, i_482, i_483, i_484, i_485, rfl⟩ | ⟨i_486, i_487, i_488, i_489, i_490, i_491, i_492, i_493, i_494, i_495, i_496, i_497, i_498, i_499, i_500, i_501, i_502, rfl⟩ | ⟨i_503, i_504, i_505, i_506, i_507, i_508, i_509, i_510, i_511, i_512, i_513, i_514, i_515, i_516, i_517, i_518, i_519, i_520, rfl⟩ | ⟨i_521, i_522, i_523, i_524, i_525, i_526, i_527, i_528, i_529, i_530, i_531, i_532, i_533, i_534, i_535, i_536, i_537, i_538, i_539, rfl⟩ | ⟨i_540, i_541, i_542, i_543, i_544, i_545, i_546, i_547, i_548, i_549, i_550, i_551, i_552, i_553, i_554, i_555, i_556, i_557, i_558, i_559, rfl⟩ | ⟨i_560, i_561, i_562, i_563, i_564, i_565, i_566, i_567, i_568, i_569, i_570, i_571, i_572, i_573, i_574, i_575, i_576, i_577, i_578, i_579, i_580, rfl⟩ | ⟨i_581, i_582, i_583, i_584, i_585, i_586, i_587, i_588, i_589, i_590, i_591, i_592, i_593, i_594, i_595, i_596, i_597, i_598, i_599, i_600, i_601, i_602, rfl⟩ | ⟨i_603, i_604, i_605, i_606, i_607, i_608, i_609, i_610, i_611, i_612, i_613, i_614, i_615, i_616, i_617, i_618, i_619, i_620, i_621, i_622, i_623, i_624, i_625, rfl⟩ | ⟨i_626, i_627, i_628, i_629, i_630, i_631, i_632, i_633, i_634, i_635, i_636, i_637, i_638, i_639, i_640, i_641, i_642, i_643, i_644, i_645, i_646, i_647, i_648, i_649, rfl⟩ | ⟨i_650, i_651, i_652, i_653, i_654, i_655, i_656, i_657, i_658, i_659, i_660, i_661, i_662, i_663, i_664, i_665, i_666, i_667, i_668, i_669, i_670, i_671, i_672, i_673, i_674, rfl⟩ | ⟨i_675, i_676, i_677, i_678, i_679, i_680, i_681, i_682, i_683, i_684, i_685, i_686, i_687, i_688, i_689, i_690, i_691, i_692, i_693, i_694, i_695, i_696, i_697, i_698, i_699, rfl⟩
    · skip
      have hP : va_P g.1 vwCl [] H := hP
      have hD : va_D (fun q : Nat => s.heap.size ≤ q) [] := hD
      refine lv_icmp_eq (tgt := 1054) hx hb dL_law_426 (by decide) (fun _ => ?_) (fun h => absurd h (by decide +kernel))
      exact lc_tail ⟨hx, hb, hml, hr, hlocks, hown, hts, hK, hN, hZ, hX, hbl⟩ hS (lv_sub hl [0, 1, 2, 3] rfl)
    · exfalso; omega
    · exfalso; omega
    · exfalso; omega
    · exfalso; omega
    · exfalso; omega
    · exfalso; omega
    · exfalso; omega
    · exfalso; omega
    · exfalso; omega
    · exfalso; omega
    · exfalso; omega
    · exfalso; omega
    · exfalso; omega
    · exfalso; omega
    · exfalso; omega
    · exfalso; omega
    · exfalso; omega
    · exfalso; omega
    · exfalso; omega
    · exfalso; omega
    · exfalso; omega
    · exfalso; omega
    · exfalso; omega
    · exfalso; omega
    · exfalso; omega
  · skip
    have hP : va_P g.1 vwCl [((am 0), .inr (5, [.ref (am 1), .int 0, .ref (am 2), .int 0, .int 0, .ref (am 3), .ref (am 4), .ref (am 5), .ref (am 6), .int 0, .ref (am 7), .ref (am 8), .ref (am 9), .int 0, .ref (am 10), .ref (am 11), .ref (am 12), .ref (am 13), .ref (am 14), .ref (am 15), .ref (am 16), .ref (am 17), .ref (am 18), .ref (am 19), .ref (am 20), .ref (am 21), .ref (am 22)])), ((am 2), .inl (zI g, 60, .inl (fun _ => 0)))] H := hP
    have hD : va_D (fun q : Nat => s.heap.size ≤ q) [((am 0), .inr (5, [.ref (am 1), .int 0, .ref (am 2), .int 0, .int 0, .ref (am 3), .ref (am 4), .ref (am 5), .ref (am 6), .int 0, .ref (am 7), .ref (am 8), .ref (am 9), .int 0, .ref (am 10), .ref (am 11), .ref (am 12), .ref (am 13), .ref (am 14), .ref (am 15), .ref (am 16), .ref (am 17), .ref (am 18), .ref (am 19), .ref (am 20), .ref (am 21), .ref (am 22)])), ((am 2), .inl (zI g, 60, .inl (fun _ => 0)))] := hD
    refine lv_aload_n hx hb dL_law_397 rfl (lv_at hl 2 rfl) ?_
    refine lv_aload_n hx hb dL_law_398 rfl (lv_at hl 0 rfl) ?_
    refine lv_iload_n hx hb dL_law_399 rfl (lv_at hl 3 rfl) ?_
    refine lv_iconst (v := 1) hx hb dL_law_400 (by decide) ?_
    refine lv_iadd hx hb dL_law_401 ?_
    refine lv_topi (nm_r (e' := 1) (by decide +kernel) ?_)
    refine va_sld hx hb hX hbl hbA hS (vp_in_iff.mpr (by decide +kernel)) dL_law_402 ?_
    refine lv_topi (nm_r (e' := (xs 1)) (by rfl) ?_)
    refine lv_i2l (v := (xs 1).toInt64) hx hb dL_law_403 rfl ?_
    refine lv_bipush (v := 32) hx hb dL_law_404 (by decide) ?_
    refine lv_lshl (v := (((xs 1).toInt64) <<< ((32 : Int32).toInt64 &&& 63))) hx hb dL_law_406 rfl ?_
    refine lv_aload_n hx hb dL_law_407 rfl (lv_at hl 0 rfl) ?_
    refine lv_iload_n hx hb dL_law_408 rfl (lv_at hl 3 rfl) ?_
    refine lv_iconst (v := 2) hx hb dL_law_409 (by decide) ?_
    refine lv_iadd hx hb dL_law_410 ?_
    refine lv_topi (nm_r (e' := 2) (by decide +kernel) ?_)
    refine va_sld hx hb hX hbl hbA hS (vp_in_iff.mpr (by decide +kernel)) dL_law_411 ?_
    refine lv_topi (nm_r (e' := (xs 2)) (by rfl) ?_)
    refine lv_i2l (v := (xs 2).toInt64) hx hb dL_law_412 rfl ?_
    refine lv_ldc2 (v := 4294967295) hx hb hown (hts _ m_k_RL_39) dL_law_413 ?_
    refine lv_land hx hb dL_law_416 ?_
    refine lv_lor hx hb dL_law_417 ?_
    refine lv_aload_n hx hb dL_law_418 rfl (lv_at hl 0 rfl) ?_
    refine lv_iload_n hx hb dL_law_419 rfl (lv_at hl 3 rfl) ?_
    refine lv_iconst (v := 3) hx hb dL_law_420 (by decide) ?_
    refine lv_iadd hx hb dL_law_421 ?_
    refine lv_topi (nm_r (e' := 3) (by decide +kernel) ?_)
    refine va_sld hx hb hX hbl hbA hS (vp_in_iff.mpr (by decide +kernel)) dL_law_422 ?_
    refine lv_topi (nm_r (e' := (xs 3)) (by rfl) ?_)
    refine z_calli (wr := []) hP hD hS hA [0, 1] [] (by decide) rfl rfl (by decide) (va_runV (As := [.long ((((xs 1).toInt64) <<< ((32 : Int32).toInt64 &&& 63)) ||| (((xs 2).toInt64) &&& 4294967295)), .int (xs 3)]) (rest := [.int (-1)]) ⟨hx, hb, hml, hown, hts⟩ (kX5_type l g (am 0) (am 1) (am 2) (am 3) (am 4) (am 5) (am 6) (am 7) (am 8) (am 9) (am 10) (am 11) (am 12) (am 13) (am 14) (am 15) (am 16) (am 17) (am 18) (am 19) (am 20) (am 21) (am 22) H.size ((((xs 1).toInt64) <<< ((32 : Int32).toInt64 &&& 63)) ||| (((xs 2).toInt64) &&& 4294967295)) (xs 3)) ⟨callB_of 2 hts (zGood m_o_yX5_type) rfl rfl rfl (hts _ m_z_RX5) (hts _ m_m_RL_45) ⟨by decide +kernel, by decide +kernel, by decide +kernel⟩ ⟨Nat.le_of_ble_eq_true rfl, Nat.le_of_ble_eq_true rfl⟩, hts _ m_i_yX5_type, hts _ m_e_yX5_type⟩ (zPreV hK hN hZ hP hD hS hA [0, 1] (by decide) rfl rfl 5 0 rfl rfl) rfl rfl hl.1 rfl (lv_room (Nat.le_of_ble_eq_true rfl)) dL_law_423 ⟨Nat.le_of_ble_eq_true rfl, Nat.le_of_ble_eq_true rfl⟩) (fun r u H locs hw hP hD hS => ?_)
    rcases hw with ⟨i_700, rfl⟩ | ⟨i_701, i_702, rfl⟩ | ⟨i_703, i_704, i_705, rfl⟩ | ⟨i_706, i_707, i_708, i_709, rfl⟩ | ⟨i_710, i_711, i_712, i_713, i_714, rfl⟩ | ⟨i_715, i_716, i_717, i_718, i_719, i_720, rfl⟩ | ⟨i_721, i_722, i_723, i_724, i_725, i_726, i_727, rfl⟩ | ⟨i_728, i_729, i_730, i_731, i_732, i_733, i_734, i_735, rfl⟩ | ⟨i_736, i_737, i_738, i_739, i_740, i_741, i_742, i_743, i_744, rfl⟩ | ⟨i_745, i_746, i_747, i_748, i_749, i_750, i_751, i_752, i_753, i_754, rfl⟩ | ⟨i_755, i_756, i_757, i_758, i_759, i_760, i_761, i_762, i_763, i_764, i_765, rfl⟩ | ⟨i_766, i_767, i_768, i_769, i_770, i_771, i_772, i_773, i_774, i_775, i_776, i_777, rfl⟩ | ⟨i_778, i_779, i_780, i_781, i_782, i_783, i_784, i_785, i_786, i_787, i_788, i_789, i_790, rfl⟩ | ⟨i_791, i_792, i_793, i_794, i_795, i_796, i_797, i_798, i_799, i_800, i_801, i_802, i_803, i_804, rfl⟩ | ⟨i_805, i_806, i_807, i_808, i_809, i_810, i_811, i_812, i_813, i_814, i_815, i_816, i_817, i_818, i_819, rfl⟩ | ⟨i_820, i_821, i_822, i_823, i_824, i_825, i_826, i_827, i_828, i_829, i_830, i_831, i_832, i_833, i_834, i_835, rfl⟩ | ⟨i_836, i_837, i_838, i_839, i_840, i_841, i_842, i_843, i_844, i_845, i_846, i_847, i_848, i_849, i_850, i_851, i_852, rfl⟩ | ⟨i_853, i_854, i_855, i_856, i_857, i_858, i_859, i_860, i_861, i_862, i_863, i_864, i_865, i_866, i_867, i_868, i_869, i_870, rfl⟩ | ⟨i_871, i_872, i_873, i_874, i_875, i_876, i_877, i_878, i_879, i_880, i_881, i_882, i_883, i_884, i_885, i_886, i_887, i_888, i_889, rfl⟩ | ⟨i_890, i_891, i_892, i_893, i_894, i_895, i_896, i_897, i_898, i_899, i_900, i_901, i_902, i_903, i_904, i_905, i_906, i_907, i_908, i_909, rfl⟩ | ⟨i_910, i_911, i_912, i_913, i_914, i_915, i_916, i_917, i_918, i_919, i_920, i_921, i_922, i_923, i_924, i_925, i_926, i_927, i_928, i_929, i_930, rfl⟩ | ⟨i_931, i_932, i_933, i_934, i_935, i_936, i_937, i_938, i_939, i_940, i_941, i_942, i_943, i_944, i_945, i_946, i_947, i_948, i_949, i_950, i_951, i_952, rfl⟩ | ⟨i_953, i_954, i_955, i_956, i_957, i_958, i_959, i_960, i_961, i_962, i_963, i_964, i_965, i_966, i_967, i_968, i_969, i_970, i_971, i_972, i_973, i_974, i_975, rfl⟩ | ⟨i_976, i_977, i_978, i_979, i_980, i_981, i_982, i_983, i_984, i_985, i_986, i_987, i_988, i_989, i_990, i_991, i_992, i_993, i_994, i_995, i_996, i_997, i_998, i_999, rfl⟩ | ⟨i_1000, i_1001, i_1002, i_1003, i_1004, i_1005, i_1006, i_1007, i_1008, i_1009, i_1010, i_1011, i_1012, i_1013, i_1014, i_1015, i_1016, i_1017, i_1018, i_1019, i_1020, i_1021, i_1022, i_1023, i_1024, rfl⟩ | ⟨i_1025, i_1026, i_1027, i_1028, i_1029, i_1030, i_1031, i_1032, i_1033, i_1034, i_1035, i_1036, i_1037, i_1038, i_1039, i_1040, i_1041, i_1042, i_1043, i_1044, i_1045, i_1046, i_1047, i_1048, i_1049, rfl⟩
    · exfalso; omega
    · exfalso; omega
    · skip
      have hP : va_P g.1 vwCl [] H := hP
      have hD : va_D (fun q : Nat => s.heap.size ≤ q) [] := hD
      refine lv_icmp_eq (tgt := 1054) hx hb dL_law_426 (by decide) (fun _ => ?_) (fun h => absurd h (by decide +kernel))
      exact lc_tail ⟨hx, hb, hml, hr, hlocks, hown, hts, hK, hN, hZ, hX, hbl⟩ hS (lv_sub hl [0, 1, 2, 3] rfl)
    · exfalso; omega
    · exfalso; omega
    · exfalso; omega
    · exfalso; omega
    · exfalso; omega
    · exfalso; omega
    · exfalso; omega
    · exfalso; omega
    · exfalso; omega
    · exfalso; omega
    · exfalso; omega
    · exfalso; omega
    · exfalso; omega
    · exfalso; omega
    · exfalso; omega
    · exfalso; omega
    · exfalso; omega
    · exfalso; omega
    · exfalso; omega
    · exfalso; omega
    · exfalso; omega
    · exfalso; omega
    · exfalso; omega
  · skip
    have hP : va_P g.1 vwCl [((am 0), .inr (5, [.ref (am 1), .int 0, .ref (am 2), .int 0, .int 0, .ref (am 3), .ref (am 4), .ref (am 5), .ref (am 6), .int 0, .ref (am 7), .ref (am 8), .ref (am 9), .int 0, .ref (am 10), .ref (am 11), .ref (am 12), .ref (am 13), .ref (am 14), .ref (am 15), .ref (am 16), .ref (am 17), .ref (am 18), .ref (am 19), .ref (am 20), .ref (am 21), .ref (am 22)])), ((am 2), .inl (zI g, 60, .inl (fun _ => 0)))] H := hP
    have hD : va_D (fun q : Nat => s.heap.size ≤ q) [((am 0), .inr (5, [.ref (am 1), .int 0, .ref (am 2), .int 0, .int 0, .ref (am 3), .ref (am 4), .ref (am 5), .ref (am 6), .int 0, .ref (am 7), .ref (am 8), .ref (am 9), .int 0, .ref (am 10), .ref (am 11), .ref (am 12), .ref (am 13), .ref (am 14), .ref (am 15), .ref (am 16), .ref (am 17), .ref (am 18), .ref (am 19), .ref (am 20), .ref (am 21), .ref (am 22)])), ((am 2), .inl (zI g, 60, .inl (fun _ => 0)))] := hD
    refine lv_aload_n hx hb dL_law_397 rfl (lv_at hl 2 rfl) ?_
    refine lv_aload_n hx hb dL_law_398 rfl (lv_at hl 0 rfl) ?_
    refine lv_iload_n hx hb dL_law_399 rfl (lv_at hl 3 rfl) ?_
    refine lv_iconst (v := 1) hx hb dL_law_400 (by decide) ?_
    refine lv_iadd hx hb dL_law_401 ?_
    refine lv_topi (nm_r (e' := 1) (by decide +kernel) ?_)
    refine va_sld hx hb hX hbl hbA hS (vp_in_iff.mpr (by decide +kernel)) dL_law_402 ?_
    refine lv_topi (nm_r (e' := (xs 1)) (by rfl) ?_)
    refine lv_i2l (v := (xs 1).toInt64) hx hb dL_law_403 rfl ?_
    refine lv_bipush (v := 32) hx hb dL_law_404 (by decide) ?_
    refine lv_lshl (v := (((xs 1).toInt64) <<< ((32 : Int32).toInt64 &&& 63))) hx hb dL_law_406 rfl ?_
    refine lv_aload_n hx hb dL_law_407 rfl (lv_at hl 0 rfl) ?_
    refine lv_iload_n hx hb dL_law_408 rfl (lv_at hl 3 rfl) ?_
    refine lv_iconst (v := 2) hx hb dL_law_409 (by decide) ?_
    refine lv_iadd hx hb dL_law_410 ?_
    refine lv_topi (nm_r (e' := 2) (by decide +kernel) ?_)
    refine va_sld hx hb hX hbl hbA hS (vp_in_iff.mpr (by decide +kernel)) dL_law_411 ?_
    refine lv_topi (nm_r (e' := (xs 2)) (by rfl) ?_)
    refine lv_i2l (v := (xs 2).toInt64) hx hb dL_law_412 rfl ?_
    refine lv_ldc2 (v := 4294967295) hx hb hown (hts _ m_k_RL_39) dL_law_413 ?_
    refine lv_land hx hb dL_law_416 ?_
    refine lv_lor hx hb dL_law_417 ?_
    refine lv_aload_n hx hb dL_law_418 rfl (lv_at hl 0 rfl) ?_
    refine lv_iload_n hx hb dL_law_419 rfl (lv_at hl 3 rfl) ?_
    refine lv_iconst (v := 3) hx hb dL_law_420 (by decide) ?_
    refine lv_iadd hx hb dL_law_421 ?_
    refine lv_topi (nm_r (e' := 3) (by decide +kernel) ?_)
    refine va_sld hx hb hX hbl hbA hS (vp_in_iff.mpr (by decide +kernel)) dL_law_422 ?_
    refine lv_topi (nm_r (e' := (xs 3)) (by rfl) ?_)
    refine z_calli (wr := []) hP hD hS hA [0, 1] [] (by decide) rfl rfl (by decide) (va_runV (As := [.long ((((xs 1).toInt64) <<< ((32 : Int32).toInt64 &&& 63)) ||| (((xs 2).toInt64) &&& 4294967295)), .int (xs 3)]) (rest := [.int 1]) ⟨hx, hb, hml, hown, hts⟩ (kX5_type l g (am 0) (am 1) (am 2) (am 3) (am 4) (am 5) (am 6) (am 7) (am 8) (am 9) (am 10) (am 11) (am 12) (am 13) (am 14) (am 15) (am 16) (am 17) (am 18) (am 19) (am 20) (am 21) (am 22) H.size ((((xs 1).toInt64) <<< ((32 : Int32).toInt64 &&& 63)) ||| (((xs 2).toInt64) &&& 4294967295)) (xs 3)) ⟨callB_of 2 hts (zGood m_o_yX5_type) rfl rfl rfl (hts _ m_z_RX5) (hts _ m_m_RL_45) ⟨by decide +kernel, by decide +kernel, by decide +kernel⟩ ⟨Nat.le_of_ble_eq_true rfl, Nat.le_of_ble_eq_true rfl⟩, hts _ m_i_yX5_type, hts _ m_e_yX5_type⟩ (zPreV hK hN hZ hP hD hS hA [0, 1] (by decide) rfl rfl 5 0 rfl rfl) rfl rfl hl.1 rfl (lv_room (Nat.le_of_ble_eq_true rfl)) dL_law_423 ⟨Nat.le_of_ble_eq_true rfl, Nat.le_of_ble_eq_true rfl⟩) (fun r u H locs hw hP hD hS => ?_)
    rcases hw with ⟨i_1050, rfl⟩ | ⟨i_1051, i_1052, rfl⟩ | ⟨i_1053, i_1054, i_1055, rfl⟩ | ⟨i_1056, i_1057, i_1058, i_1059, rfl⟩ | ⟨i_1060, i_1061, i_1062, i_1063, i_1064, rfl⟩ | ⟨i_1065, i_1066, i_1067, i_1068, i_1069, i_1070, rfl⟩ | ⟨i_1071, i_1072, i_1073, i_1074, i_1075, i_1076, i_1077, rfl⟩ | ⟨i_1078, i_1079, i_1080, i_1081, i_1082, i_1083, i_1084, i_1085, rfl⟩ | ⟨i_1086, i_1087, i_1088, i_1089, i_1090, i_1091, i_1092, i_1093, i_1094, rfl⟩ | ⟨i_1095, i_1096, i_1097, i_1098, i_1099, i_1100, i_1101, i_1102, i_1103, i_1104, rfl⟩ | ⟨i_1105, i_1106, i_1107, i_1108, i_1109, i_1110, i_1111, i_1112, i_1113, i_1114, i_1115, rfl⟩ | ⟨i_1116, i_1117, i_1118, i_1119, i_1120, i_1121, i_1122, i_1123, i_1124, i_1125, i_1126, i_1127, rfl⟩ | ⟨i_1128, i_1129, i_1130, i_1131, i_1132, i_1133, i_1134, i_1135, i_1136, i_1137, i_1138, i_1139, i_1140, rfl⟩ | ⟨i_1141, i_1142, i_1143, i_1144, i_1145, i_1146, i_1147, i_1148, i_1149, i_1150, i_1151, i_1152, i_1153, i_1154, rfl⟩ | ⟨i_1155, i_1156, i_1157, i_1158, i_1159, i_1160, i_1161, i_1162, i_1163, i_1164, i_1165, i_1166, i_1167, i_1168, i_1169, rfl⟩ | ⟨i_1170, i_1171, i_1172, i_1173, i_1174, i_1175, i_1176, i_1177, i_1178, i_1179, i_1180, i_1181, i_1182, i_1183, i_1184, i_1185, rfl⟩ | ⟨i_1186, i_1187, i_1188, i_1189, i_1190, i_1191, i_1192, i_1193, i_1194, i_1195, i_1196, i_1197, i_1198, i_1199, i_1200, i_1201, i_1202, rfl⟩ | ⟨i_1203, i_1204, i_1205, i_1206, i_1207, i_1208, i_1209, i_1210, i_1211, i_1212, i_1213, i_1214, i_1215, i_1216, i_1217, i_1218, i_1219, i_1220, rfl⟩ | ⟨i_1221, i_1222, i_1223, i_1224, i_1225, i_1226, i_1227, i_1228, i_1229, i_1230, i_1231, i_1232, i_1233, i_1234, i_1235, i_1236, i_1237, i_1238, i_1239, rfl⟩ | ⟨i_1240, i_1241, i_1242, i_1243, i_1244, i_1245, i_1246, i_1247, i_1248, i_1249, i_1250, i_1251, i_1252, i_1253, i_1254, i_1255, i_1256, i_1257, i_1258, i_1259, rfl⟩ | ⟨i_1260, i_1261, i_1262, i_1263, i_1264, i_1265, i_1266, i_1267, i_1268, i_1269, i_1270, i_1271, i_1272, i_1273, i_1274, i_1275, i_1276, i_1277, i_1278, i_1279, i_1280, rfl⟩ | ⟨i_1281, i_1282, i_1283, i_1284, i_1285, i_1286, i_1287, i_1288, i_1289, i_1290, i_1291, i_1292, i_1293, i_1294, i_1295, i_1296, i_1297, i_1298, i_1299, i_1300, i_1301, i_1302, rfl⟩ | ⟨i_1303, i_1304, i_1305, i_1306, i_1307, i_1308, i_1309, i_1310, i_1311, i_1312, i_1313, i_1314, i_1315, i_1316, i_1317, i_1318, i_1319, i_1320, i_1321, i_1322, i_1323, i_1324, i_1325, rfl⟩ | ⟨i_1326, i_1327, i_1328, i_1329, i_1330, i_1331, i_1332, i_1333, i_1334, i_1335, i_1336, i_1337, i_1338, i_1339, i_1340, i_1341, i_1342, i_1343, i_1344, i_1345, i_1346, i_1347, i_1348, i_1349, rfl⟩ | ⟨i_1350, i_1351, i_1352, i_1353, i_1354, i_1355, i_1356, i_1357, i_1358, i_1359, i_1360, i_1361, i_1362, i_1363, i_1364, i_1365, i_1366, i_1367, i_1368, i_1369, i_1370, i_1371, i_1372, i_1373, i_1374, rfl⟩ | ⟨i_1375, i_1376, i_1377, i_1378, i_1379, i_1380, i_1381, i_1382, i_1383, i_1384, i_1385, i_1386, i_1387, i_1388, i_1389, i_1390, i_1391, i_1392, i_1393, i_1394, i_1395, i_1396, i_1397, i_1398, i_1399, rfl⟩
    · exfalso; omega
    · exfalso; omega
    · exfalso; omega
    · exfalso; omega
    · skip
      have hP : va_P g.1 vwCl [] H := hP
      have hD : va_D (fun q : Nat => s.heap.size ≤ q) [] := hD
      refine lv_icmp_eq (tgt := 1054) hx hb dL_law_426 (by decide) (fun _ => ?_) (fun h => absurd h (by decide +kernel))
      exact lc_tail ⟨hx, hb, hml, hr, hlocks, hown, hts, hK, hN, hZ, hX, hbl⟩ hS (lv_sub hl [0, 1, 2, 3] rfl)
    · exfalso; omega
    · exfalso; omega
    · exfalso; omega
    · exfalso; omega
    · exfalso; omega
    · exfalso; omega
    · exfalso; omega
    · exfalso; omega
    · exfalso; omega
    · exfalso; omega
    · exfalso; omega
    · exfalso; omega
    · exfalso; omega
    · exfalso; omega
    · exfalso; omega
    · exfalso; omega
    · exfalso; omega
    · exfalso; omega
    · exfalso; omega
    · exfalso; omega
    · exfalso; omega
  · skip
    have hP : va_P g.1 vwCl [((am 0), .inr (5, [.ref (am 1), .int 0, .ref (am 2), .int 0, .int 0, .ref (am 3), .ref (am 4), .ref (am 5), .ref (am 6), .int 0, .ref (am 7), .ref (am 8), .ref (am 9), .int 0, .ref (am 10), .ref (am 11), .ref (am 12), .ref (am 13), .ref (am 14), .ref (am 15), .ref (am 16), .ref (am 17), .ref (am 18), .ref (am 19), .ref (am 20), .ref (am 21), .ref (am 22)])), ((am 2), .inl (zI g, 60, .inl (fun _ => 0)))] H := hP
    have hD : va_D (fun q : Nat => s.heap.size ≤ q) [((am 0), .inr (5, [.ref (am 1), .int 0, .ref (am 2), .int 0, .int 0, .ref (am 3), .ref (am 4), .ref (am 5), .ref (am 6), .int 0, .ref (am 7), .ref (am 8), .ref (am 9), .int 0, .ref (am 10), .ref (am 11), .ref (am 12), .ref (am 13), .ref (am 14), .ref (am 15), .ref (am 16), .ref (am 17), .ref (am 18), .ref (am 19), .ref (am 20), .ref (am 21), .ref (am 22)])), ((am 2), .inl (zI g, 60, .inl (fun _ => 0)))] := hD
    refine lv_aload_n hx hb dL_law_397 rfl (lv_at hl 2 rfl) ?_
    refine lv_aload_n hx hb dL_law_398 rfl (lv_at hl 0 rfl) ?_
    refine lv_iload_n hx hb dL_law_399 rfl (lv_at hl 3 rfl) ?_
    refine lv_iconst (v := 1) hx hb dL_law_400 (by decide) ?_
    refine lv_iadd hx hb dL_law_401 ?_
    refine lv_topi (nm_r (e' := 1) (by decide +kernel) ?_)
    refine va_sld hx hb hX hbl hbA hS (vp_in_iff.mpr (by decide +kernel)) dL_law_402 ?_
    refine lv_topi (nm_r (e' := (xs 1)) (by rfl) ?_)
    refine lv_i2l (v := (xs 1).toInt64) hx hb dL_law_403 rfl ?_
    refine lv_bipush (v := 32) hx hb dL_law_404 (by decide) ?_
    refine lv_lshl (v := (((xs 1).toInt64) <<< ((32 : Int32).toInt64 &&& 63))) hx hb dL_law_406 rfl ?_
    refine lv_aload_n hx hb dL_law_407 rfl (lv_at hl 0 rfl) ?_
    refine lv_iload_n hx hb dL_law_408 rfl (lv_at hl 3 rfl) ?_
    refine lv_iconst (v := 2) hx hb dL_law_409 (by decide) ?_
    refine lv_iadd hx hb dL_law_410 ?_
    refine lv_topi (nm_r (e' := 2) (by decide +kernel) ?_)
    refine va_sld hx hb hX hbl hbA hS (vp_in_iff.mpr (by decide +kernel)) dL_law_411 ?_
    refine lv_topi (nm_r (e' := (xs 2)) (by rfl) ?_)
    refine lv_i2l (v := (xs 2).toInt64) hx hb dL_law_412 rfl ?_
    refine lv_ldc2 (v := 4294967295) hx hb hown (hts _ m_k_RL_39) dL_law_413 ?_
    refine lv_land hx hb dL_law_416 ?_
    refine lv_lor hx hb dL_law_417 ?_
    refine lv_aload_n hx hb dL_law_418 rfl (lv_at hl 0 rfl) ?_
    refine lv_iload_n hx hb dL_law_419 rfl (lv_at hl 3 rfl) ?_
    refine lv_iconst (v := 3) hx hb dL_law_420 (by decide) ?_
    refine lv_iadd hx hb dL_law_421 ?_
    refine lv_topi (nm_r (e' := 3) (by decide +kernel) ?_)
    refine va_sld hx hb hX hbl hbA hS (vp_in_iff.mpr (by decide +kernel)) dL_law_422 ?_
    refine lv_topi (nm_r (e' := (xs 3)) (by rfl) ?_)
    refine z_calli (wr := []) hP hD hS hA [0, 1] [] (by decide) rfl rfl (by decide) (va_runV (As := [.long ((((xs 1).toInt64) <<< ((32 : Int32).toInt64 &&& 63)) ||| (((xs 2).toInt64) &&& 4294967295)), .int (xs 3)]) (rest := [.int (-1)]) ⟨hx, hb, hml, hown, hts⟩ (kX5_type l g (am 0) (am 1) (am 2) (am 3) (am 4) (am 5) (am 6) (am 7) (am 8) (am 9) (am 10) (am 11) (am 12) (am 13) (am 14) (am 15) (am 16) (am 17) (am 18) (am 19) (am 20) (am 21) (am 22) H.size ((((xs 1).toInt64) <<< ((32 : Int32).toInt64 &&& 63)) ||| (((xs 2).toInt64) &&& 4294967295)) (xs 3)) ⟨callB_of 2 hts (zGood m_o_yX5_type) rfl rfl rfl (hts _ m_z_RX5) (hts _ m_m_RL_45) ⟨by decide +kernel, by decide +kernel, by decide +kernel⟩ ⟨Nat.le_of_ble_eq_true rfl, Nat.le_of_ble_eq_true rfl⟩, hts _ m_i_yX5_type, hts _ m_e_yX5_type⟩ (zPreV hK hN hZ hP hD hS hA [0, 1] (by decide) rfl rfl 5 0 rfl rfl) rfl rfl hl.1 rfl (lv_room (Nat.le_of_ble_eq_true rfl)) dL_law_423 ⟨Nat.le_of_ble_eq_true rfl, Nat.le_of_ble_eq_true rfl⟩) (fun r u H locs hw hP hD hS => ?_)
    rcases hw with ⟨i_1400, rfl⟩ | ⟨i_1401, i_1402, rfl⟩ | ⟨i_1403, i_1404, i_1405, rfl⟩ | ⟨i_1406, i_1407, i_1408, i_1409, rfl⟩ | ⟨i_1410, i_1411, i_1412, i_1413, i_1414, rfl⟩ | ⟨i_1415, i_1416, i_1417, i_1418, i_1419, i_1420, rfl⟩ | ⟨i_1421, i_1422, i_1423, i_1424, i_1425, i_1426, i_1427, rfl⟩ | ⟨i_1428, i_1429, i_1430, i_1431, i_1432, i_1433, i_1434, i_1435, rfl⟩ | ⟨i_1436, i_1437, i_1438, i_1439, i_1440, i_1441, i_1442, i_1443, i_1444, rfl⟩ | ⟨i_1445, i_1446, i_1447, i_1448, i_1449, i_1450, i_1451, i_1452, i_1453, i_1454, rfl⟩ | ⟨i_1455, i_1456, i_1457, i_1458, i_1459, i_1460, i_1461, i_1462, i_1463, i_1464, i_1465, rfl⟩ | ⟨i_1466, i_1467, i_1468, i_1469, i_1470, i_1471, i_1472, i_1473, i_1474, i_1475, i_1476, i_1477, rfl⟩ | ⟨i_1478, i_1479, i_1480, i_1481, i_1482, i_1483, i_1484, i_1485, i_1486, i_1487, i_1488, i_1489, i_1490, rfl⟩ | ⟨i_1491, i_1492, i_1493, i_1494, i_1495, i_1496, i_1497, i_1498, i_1499, i_1500, i_1501, i_1502, i_1503, i_1504, rfl⟩ | ⟨i_1505, i_1506, i_1507, i_1508, i_1509, i_1510, i_1511, i_1512, i_1513, i_1514, i_1515, i_1516, i_1517, i_1518, i_1519, rfl⟩ | ⟨i_1520, i_1521, i_1522, i_1523, i_1524, i_1525, i_1526, i_1527, i_1528, i_1529, i_1530, i_1531, i_1532, i_1533, i_1534, i_1535, rfl⟩ | ⟨i_1536, i_1537, i_1538, i_1539, i_1540, i_1541, i_1542, i_1543, i_1544, i_1545, i_1546, i_1547, i_1548, i_1549, i_1550, i_1551, i_1552, rfl⟩ | ⟨i_1553, i_1554, i_1555, i_1556, i_1557, i_1558, i_1559, i_1560, i_1561, i_1562, i_1563, i_1564, i_1565, i_1566, i_1567, i_1568, i_1569, i_1570, rfl⟩ | ⟨i_1571, i_1572, i_1573, i_1574, i_1575, i_1576, i_1577, i_1578, i_1579, i_1580, i_1581, i_1582, i_1583, i_1584, i_1585, i_1586, i_1587, i_1588, i_1589, rfl⟩ | ⟨i_1590, i_1591, i_1592, i_1593, i_1594, i_1595, i_1596, i_1597, i_1598, i_1599, i_1600, i_1601, i_1602, i_1603, i_1604, i_1605, i_1606, i_1607, i_1608, i_1609, rfl⟩ | ⟨i_1610, i_1611, i_1612, i_1613, i_1614, i_1615, i_1616, i_1617, i_1618, i_1619, i_1620, i_1621, i_1622, i_1623, i_1624, i_1625, i_1626, i_1627, i_1628, i_1629, i_1630, rfl⟩ | ⟨i_1631, i_1632, i_1633, i_1634, i_1635, i_1636, i_1637, i_1638, i_1639, i_1640, i_1641, i_1642, i_1643, i_1644, i_1645, i_1646, i_1647, i_1648, i_1649, i_1650, i_1651, i_1652, rfl⟩ | ⟨i_1653, i_1654, i_1655, i_1656, i_1657, i_1658, i_1659, i_1660, i_1661, i_1662, i_1663, i_1664, i_1665, i_1666, i_1667, i_1668, i_1669, i_1670, i_1671, i_1672, i_1673, i_1674, i_1675, rfl⟩ | ⟨i_1676, i_1677, i_1678, i_1679, i_1680, i_1681, i_1682, i_1683, i_1684, i_1685, i_1686, i_1687, i_1688, i_1689, i_1690, i_1691, i_1692, i_1693, i_1694, i_1695, i_1696, i_1697, i_1698, i_1699, rfl⟩ | ⟨i_1700, i_1701, i_1702, i_1703, i_1704, i_1705, i_1706, i_1707, i_1708, i_1709, i_1710, i_1711, i_1712, i_1713, i_1714, i_1715, i_1716, i_1717, i_1718, i_1719, i_1720, i_1721, i_1722, i_1723, i_1724, rfl⟩ | ⟨i_1725, i_1726, i_1727, i_1728, i_1729, i_1730, i_1731, i_1732, i_1733, i_1734, i_1735, i_1736, i_1737, i_1738, i_1739, i_1740, i_1741, i_1742, i_1743, i_1744, i_1745, i_1746, i_1747, i_1748, i_1749, rfl⟩
    · exfalso; omega
    · exfalso; omega
    · exfalso; omega
    · exfalso; omega
    · exfalso; omega
    · skip
      have hP : va_P g.1 vwCl [] H := hP
      have hD : va_D (fun q : Nat => s.heap.size ≤ q) [] := hD
      refine lv_icmp_eq (tgt := 1054) hx hb dL_law_426 (by decide) (fun _ => ?_) (fun h => absurd h (by decide +kernel))
      exact lc_tail ⟨hx, hb, hml, hr, hlocks, hown, hts, hK, hN, hZ, hX, hbl⟩ hS (lv_sub hl [0, 1, 2, 3] rfl)
    · exfalso; omega
    · exfalso; omega
    · exfalso; omega
    · exfalso; omega
    · exfalso; omega
    · exfalso; omega
    · exfalso; omega
    · exfalso; omega
    · exfalso; omega
    · exfalso; omega
    · exfalso; omega
    · exfalso; omega
    · exfalso; omega
    · exfalso; omega
    · exfalso; omega
    · exfalso; omega
    · exfalso; omega
    · exfalso; omega
    · exfalso; omega
    · exfalso; omega
  · skip
    have hP : va_P g.1 vwCl [((am 0), .inr (5, [.ref (am 1), .int 0, .ref (am 2), .int 0, .int 0, .ref (am 3), .ref (am 4), .ref (am 5), .ref (am 6), .int 0, .ref (am 7), .ref (am 8), .ref (am 9), .int 0, .ref (am 10), .ref (am 11), .ref (am 12), .ref (am 13), .ref (am 14), .ref (am 15), .ref (am 16), .ref (am 17), .ref (am 18), .ref (am 19), .ref (am 20), .ref (am 21), .ref (am 22)])), ((am 2), .inl (zI g, 60, .inl (fun _ => 0)))] H := hP
    have hD : va_D (fun q : Nat => s.heap.size ≤ q) [((am 0), .inr (5, [.ref (am 1), .int 0, .ref (am 2), .int 0, .int 0, .ref (am 3), .ref (am 4), .ref (am 5), .ref (am 6), .int 0, .ref (am 7), .ref (am 8), .ref (am 9), .int 0, .ref (am 10), .ref (am 11), .ref (am 12), .ref (am 13), .ref (am 14), .ref (am 15), .ref (am 16), .ref (am 17), .ref (am 18), .ref (am 19), .ref (am 20), .ref (am 21), .ref (am 22)])), ((am 2), .inl (zI g, 60, .inl (fun _ => 0)))] := hD
    refine lv_aload_n hx hb dL_law_397 rfl (lv_at hl 2 rfl) ?_
    refine lv_aload_n hx hb dL_law_398 rfl (lv_at hl 0 rfl) ?_
    refine lv_iload_n hx hb dL_law_399 rfl (lv_at hl 3 rfl) ?_
    refine lv_iconst (v := 1) hx hb dL_law_400 (by decide) ?_
    refine lv_iadd hx hb dL_law_401 ?_
    refine lv_topi (nm_r (e' := 1) (by decide +kernel) ?_)
    refine va_sld hx hb hX hbl hbA hS (vp_in_iff.mpr (by decide +kernel)) dL_law_402 ?_
    refine lv_topi (nm_r (e' := (xs 1)) (by rfl) ?_)
    refine lv_i2l (v := (xs 1).toInt64) hx hb dL_law_403 rfl ?_
    refine lv_bipush (v := 32) hx hb dL_law_404 (by decide) ?_
    refine lv_lshl (v := (((xs 1).toInt64) <<< ((32 : Int32).toInt64 &&& 63))) hx hb dL_law_406 rfl ?_
    refine lv_aload_n hx hb dL_law_407 rfl (lv_at hl 0 rfl) ?_
    refine lv_iload_n hx hb dL_law_408 rfl (lv_at hl 3 rfl) ?_
    refine lv_iconst (v := 2) hx hb dL_law_409 (by decide) ?_
    refine lv_iadd hx hb dL_law_410 ?_
    refine lv_topi (nm_r (e' := 2) (by decide +kernel) ?_)
    refine va_sld hx hb hX hbl hbA hS (vp_in_iff.mpr (by decide +kernel)) dL_law_411 ?_
    refine lv_topi (nm_r (e' := (xs 2)) (by rfl) ?_)
    refine lv_i2l (v := (xs 2).toInt64) hx hb dL_law_412 rfl ?_
    refine lv_ldc2 (v := 4294967295) hx hb hown (hts _ m_k_RL_39) dL_law_413 ?_
    refine lv_land hx hb dL_law_416 ?_
    refine lv_lor hx hb dL_law_417 ?_
    refine lv_aload_n hx hb dL_law_418 rfl (lv_at hl 0 rfl) ?_
    refine lv_iload_n hx hb dL_law_419 rfl (lv_at hl 3 rfl) ?_
    refine lv_iconst (v := 3) hx hb dL_law_420 (by decide) ?_
    refine lv_iadd hx hb dL_law_421 ?_
    refine lv_topi (nm_r (e' := 3) (by decide +kernel) ?_)
    refine va_sld hx hb hX hbl hbA hS (vp_in_iff.mpr (by decide +kernel)) dL_law_422 ?_
    refine lv_topi (nm_r (e' := (xs 3)) (by rfl) ?_)
    refine z_calli (wr := []) hP hD hS hA [0, 1] [] (by decide) rfl rfl (by decide) (va_runV (As := [.long ((((xs 1).toInt64) <<< ((32 : Int32).toInt64 &&& 63)) ||| (((xs 2).toInt64) &&& 4294967295)), .int (xs 3)]) (rest := [.int 2]) ⟨hx, hb, hml, hown, hts⟩ (kX5_type l g (am 0) (am 1) (am 2) (am 3) (am 4) (am 5) (am 6) (am 7) (am 8) (am 9) (am 10) (am 11) (am 12) (am 13) (am 14) (am 15) (am 16) (am 17) (am 18) (am 19) (am 20) (am 21) (am 22) H.size ((((xs 1).toInt64) <<< ((32 : Int32).toInt64 &&& 63)) ||| (((xs 2).toInt64) &&& 4294967295)) (xs 3)) ⟨callB_of 2 hts (zGood m_o_yX5_type) rfl rfl rfl (hts _ m_z_RX5) (hts _ m_m_RL_45) ⟨by decide +kernel, by decide +kernel, by decide +kernel⟩ ⟨Nat.le_of_ble_eq_true rfl, Nat.le_of_ble_eq_true rfl⟩, hts _ m_i_yX5_type, hts _ m_e_yX5_type⟩ (zPreV hK hN hZ hP hD hS hA [0, 1] (by decide) rfl rfl 5 0 rfl rfl) rfl rfl hl.1 rfl (lv_room (Nat.le_of_ble_eq_true rfl)) dL_law_423 ⟨Nat.le_of_ble_eq_true rfl, Nat.le_of_ble_eq_true rfl⟩) (fun r u H locs hw hP hD hS => ?_)
    rcases hw with ⟨i_1750, rfl⟩ | ⟨i_1751, i_1752, rfl⟩ | ⟨i_1753, i_1754, i_1755, rfl⟩ | ⟨i_1756, i_1757, i_1758, i_1759, rfl⟩ | ⟨i_1760, i_1761, i_1762, i_1763, i_1764, rfl⟩ | ⟨i_1765, i_1766, i_1767, i_1768, i_1769, i_1770, rfl⟩ | ⟨i_1771, i_1772, i_1773, i_1774, i_1775, i_1776, i_1777, rfl⟩ | ⟨i_1778, i_1779, i_1780, i_1781, i_1782, i_1783, i_1784, i_1785, rfl⟩ | ⟨i_1786, i_1787, i_1788, i_1789, i_1790, i_1791, i_1792, i_1793, i_1794, rfl⟩ | ⟨i_1795, i_1796, i_1797, i_1798, i_1799, i_1800, i_1801, i_1802, i_1803, i_1804, rfl⟩ | ⟨i_1805, i_1806, i_1807, i_1808, i_1809, i_1810, i_1811, i_1812, i_1813, i_1814, i_1815, rfl⟩ | ⟨i_1816, i_1817, i_1818, i_1819, i_1820, i_1821, i_1822, i_1823, i_1824, i_1825, i_1826, i_1827, rfl⟩ | ⟨i_1828, i_1829, i_1830, i_1831, i_1832, i_1833, i_1834, i_1835, i_1836, i_1837, i_1838, i_1839, i_1840, rfl⟩ | ⟨i_1841, i_1842, i_1843, i_1844, i_1845, i_1846, i_1847, i_1848, i_1849, i_1850, i_1851, i_1852, i_1853, i_1854, rfl⟩ | ⟨i_1855, i_1856, i_1857, i_1858, i_1859, i_1860, i_1861, i_1862, i_1863, i_1864, i_1865, i_1866, i_1867, i_1868, i_1869, rfl⟩ | ⟨i_1870, i_1871, i_1872, i_1873, i_1874, i_1875, i_1876, i_1877, i_1878, i_1879, i_1880, i_1881, i_1882, i_1883, i_1884, i_1885, rfl⟩ | ⟨i_1886, i_1887, i_1888, i_1889, i_1890, i_1891, i_1892, i_1893, i_1894, i_1895, i_1896, i_1897, i_1898, i_1899, i_1900, i_1901, i_1902, rfl⟩ | ⟨i_1903, i_1904, i_1905, i_1906, i_1907, i_1908, i_1909, i_1910, i_1911, i_1912, i_1913, i_1914, i_1915, i_1916, i_1917, i_1918, i_1919, i_1920, rfl⟩ | ⟨i_1921, i_1922, i_1923, i_1924, i_1925, i_1926, i_1927, i_1928, i_1929, i_1930, i_1931, i_1932, i_1933, i_1934, i_1935, i_1936, i_1937, i_1938, i_1939, rfl⟩ | ⟨i_1940, i_1941, i_1942, i_1943, i_1944, i_1945, i_1946, i_1947, i_1948, i_1949, i_1950, i_1951, i_1952, i_1953, i_1954, i_1955, i_1956, i_1957, i_1958, i_1959, rfl⟩ | ⟨i_1960, i_1961, i_1962, i_1963, i_1964, i_1965, i_1966, i_1967, i_1968, i_1969, i_1970, i_1971, i_1972, i_1973, i_1974, i_1975, i_1976, i_1977, i_1978, i_1979, i_1980, rfl⟩ | ⟨i_1981, i_1982, i_1983, i_1984, i_1985, i_1986, i_1987, i_1988, i_1989, i_1990, i_1991, i_1992, i_1993, i_1994, i_1995, i_1996, i_1997, i_1998, i_1999, i_2000, i_2001, i_2002, rfl⟩ | ⟨i_2003, i_2004, i_2005, i_2006, i_2007, i_2008, i_2009, i_2010, i_2011, i_2012, i_2013, i_2014, i_2015, i_2016, i_2017, i_2018, i_2019, i_2020, i_2021, i_2022, i_2023, i_2024, i_2025, rfl⟩ | ⟨i_2026, i_2027, i_2028, i_2029, i_2030, i_2031, i_2032, i_2033, i_2034, i_2035, i_2036, i_2037, i_2038, i_2039, i_2040, i_2041, i_2042, i_2043, i_2044, i_2045, i_2046, i_2047, i_2048, i_2049, rfl⟩ | ⟨i_2050, i_2051, i_2052, i_2053, i_2054, i_2055, i_2056, i_2057, i_2058, i_2059, i_2060, i_2061, i_2062, i_2063, i_2064, i_2065, i_2066, i_2067, i_2068, i_2069, i_2070, i_2071, i_2072, i_2073, i_2074, rfl⟩ | ⟨i_2075, i_2076, i_2077, i_2078, i_2079, i_2080, i_2081, i_2082, i_2083, i_2084, i_2085, i_2086, i_2087, i_2088, i_2089, i_2090, i_2091, i_2092, i_2093, i_2094, i_2095, i_2096, i_2097, i_2098, i_2099, rfl⟩
    · exfalso; omega
    · exfalso; omega
    · exfalso; omega
    · exfalso; omega
    · exfalso; omega
    · exfalso; omega
    · exfalso; omega
    · skip
      have hP : va_P g.1 vwCl [] H := hP
      have hD : va_D (fun q : Nat => s.heap.size ≤ q) [] := hD
      refine lv_icmp_eq (tgt := 1054) hx hb dL_law_426 (by decide) (fun _ => ?_) (fun h => absurd h (by decide +kernel))
      exact lc_tail ⟨hx, hb, hml, hr, hlocks, hown, hts, hK, hN, hZ, hX, hbl⟩ hS (lv_sub hl [0, 1, 2, 3] rfl)
    · exfalso; omega
    · exfalso; omega
    · exfalso; omega
    · exfalso; omega
    · exfalso; omega
    · exfalso; omega
    · exfalso; omega
    · exfalso; omega
    · exfalso; omega
    · exfalso; omega
    · exfalso; omega
    · exfalso; omega
    · exfalso; omega
    · exfalso; omega
    · exfalso; omega
    · exfalso; omega
    · exfalso; omega
    · exfalso; omega
  · skip
    have hP : va_P g.1 vwCl [((am 0), .inr (5, [.ref (am 1), .int 0, .ref (am 2), .int 0, .int 0, .ref (am 3), .ref (am 4), .ref (am 5), .ref (am 6), .int 0, .ref (am 7), .ref (am 8), .ref (am 9), .int 0, .ref (am 10), .ref (am 11), .ref (am 12), .ref (am 13), .ref (am 14), .ref (am 15), .ref (am 16), .ref (am 17), .ref (am 18), .ref (am 19), .ref (am 20), .ref (am 21), .ref (am 22)])), ((am 2), .inl (zI g, 60, .inl (fun _ => 0)))] H := hP
    have hD : va_D (fun q : Nat => s.heap.size ≤ q) [((am 0), .inr (5, [.ref (am 1), .int 0, .ref (am 2), .int 0, .int 0, .ref (am 3), .ref (am 4), .ref (am 5), .ref (am 6), .int 0, .ref (am 7), .ref (am 8), .ref (am 9), .int 0, .ref (am 10), .ref (am 11), .ref (am 12), .ref (am 13), .ref (am 14), .ref (am 15), .ref (am 16), .ref (am 17), .ref (am 18), .ref (am 19), .ref (am 20), .ref (am 21), .ref (am 22)])), ((am 2), .inl (zI g, 60, .inl (fun _ => 0)))] := hD
    refine lv_aload_n hx hb dL_law_397 rfl (lv_at hl 2 rfl) ?_
    refine lv_aload_n hx hb dL_law_398 rfl (lv_at hl 0 rfl) ?_
    refine lv_iload_n hx hb dL_law_399 rfl (lv_at hl 3 rfl) ?_
    refine lv_iconst (v := 1) hx hb dL_law_400 (by decide) ?_
    refine lv_iadd hx hb dL_law_401 ?_
    refine lv_topi (nm_r (e' := 1) (by decide +kernel) ?_)
    refine va_sld hx hb hX hbl hbA hS (vp_in_iff.mpr (by decide +kernel)) dL_law_402 ?_
    refine lv_topi (nm_r (e' := (xs 1)) (by rfl) ?_)
    refine lv_i2l (v := (xs 1).toInt64) hx hb dL_law_403 rfl ?_
    refine lv_bipush (v := 32) hx hb dL_law_404 (by decide) ?_
    refine lv_lshl (v := (((xs 1).toInt64) <<< ((32 : Int32).toInt64 &&& 63))) hx hb dL_law_406 rfl ?_
    refine lv_aload_n hx hb dL_law_407 rfl (lv_at hl 0 rfl) ?_
    refine lv_iload_n hx hb dL_law_408 rfl (lv_at hl 3 rfl) ?_
    refine lv_iconst (v := 2) hx hb dL_law_409 (by decide) ?_
    refine lv_iadd hx hb dL_law_410 ?_
    refine lv_topi (nm_r (e' := 2) (by decide +kernel) ?_)
    refine va_sld hx hb hX hbl hbA hS (vp_in_iff.mpr (by decide +kernel)) dL_law_411 ?_
    refine lv_topi (nm_r (e' := (xs 2)) (by rfl) ?_)
    refine lv_i2l (v := (xs 2).toInt64) hx hb dL_law_412 rfl ?_
    refine lv_ldc2 (v := 4294967295) hx hb hown (hts _ m_k_RL_39) dL_law_413 ?_
    refine lv_land hx hb dL_law_416 ?_
    refine lv_lor hx hb dL_law_417 ?_
    refine lv_aload_n hx hb dL_law_418 rfl (lv_at hl 0 rfl) ?_
    refine lv_iload_n hx hb dL_law_419 rfl (lv_at hl 3 rfl) ?_
    refine lv_iconst (v := 3) hx hb dL_law_420 (by decide) ?_
    refine lv_iadd hx hb dL_law_421 ?_
    refine lv_topi (nm_r (e' := 3) (by decide +kernel) ?_)
    refine va_sld hx hb hX hbl hbA hS (vp_in_iff.mpr (by decide +kernel)) dL_law_422 ?_
    refine lv_topi (nm_r (e' := (xs 3)) (by rfl) ?_)
    refine z_calli (wr := []) hP hD hS hA [0, 1] [] (by decide) rfl rfl (by decide) (va_runV (As := [.long ((((xs 1).toInt64) <<< ((32 : Int32).toInt64 &&& 63)) ||| (((xs 2).toInt64) &&& 4294967295)), .int (xs 3)]) (rest := [.int (-1)]) ⟨hx, hb, hml, hown, hts⟩ (kX5_type l g (am 0) (am 1) (am 2) (am 3) (am 4) (am 5) (am 6) (am 7) (am 8) (am 9) (am 10) (am 11) (am 12) (am 13) (am 14) (am 15) (am 16) (am 17) (am 18) (am 19) (am 20) (am 21) (am 22) H.size ((((xs 1).toInt64) <<< ((32 : Int32).toInt64 &&& 63)) ||| (((xs 2).toInt64) &&& 4294967295)) (xs 3)) ⟨callB_of 2 hts (zGood m_o_yX5_type) rfl rfl rfl (hts _ m_z_RX5) (hts _ m_m_RL_45) ⟨by decide +kernel, by decide +kernel, by decide +kernel⟩ ⟨Nat.le_of_ble_eq_true rfl, Nat.le_of_ble_eq_true rfl⟩, hts _ m_i_yX5_type, hts _ m_e_yX5_type⟩ (zPreV hK hN hZ hP hD hS hA [0, 1] (by decide) rfl rfl 5 0 rfl rfl) rfl rfl hl.1 rfl (lv_room (Nat.le_of_ble_eq_true rfl)) dL_law_423 ⟨Nat.le_of_ble_eq_true rfl, Nat.le_of_ble_eq_true rfl⟩) (fun r u H locs hw hP hD hS => ?_)
    rcases hw with ⟨i_2100, rfl⟩ | ⟨i_2101, i_2102, rfl⟩ | ⟨i_2103, i_2104, i_2105, rfl⟩ | ⟨i_2106, i_2107, i_2108, i_2109, rfl⟩ | ⟨i_2110, i_2111, i_2112, i_2113, i_2114, rfl⟩ | ⟨i_2115, i_2116, i_2117, i_2118, i_2119, i_2120, rfl⟩ | ⟨i_2121, i_2122, i_2123, i_2124, i_2125, i_2126, i_2127, rfl⟩ | ⟨i_2128, i_2129, i_2130, i_2131, i_2132, i_2133, i_2134, i_2135, rfl⟩ | ⟨i_2136, i_2137, i_2138, i_2139, i_2140, i_2141, i_2142, i_2143, i_2144, rfl⟩ | ⟨i_2145, i_2146, i_2147, i_2148, i_2149, i_2150, i_2151, i_2152, i_2153, i_2154, rfl⟩ | ⟨i_2155, i_2156, i_2157, i_2158, i_2159, i_2160, i_2161, i_2162, i_2163, i_2164, i_2165, rfl⟩ | ⟨i_2166, i_2167, i_2168, i_2169, i_2170, i_2171, i_2172, i_2173, i_2174, i_2175, i_2176, i_2177, rfl⟩ | ⟨i_2178, i_2179, i_2180, i_2181, i_2182, i_2183, i_2184, i_2185, i_2186, i_2187, i_2188, i_2189, i_2190, rfl⟩ | ⟨i_2191, i_2192, i_2193, i_2194, i_2195, i_2196, i_2197, i_2198, i_2199, i_2200, i_2201, i_2202, i_2203, i_2204, rfl⟩ | ⟨i_2205, i_2206, i_2207, i_2208, i_2209, i_2210, i_2211, i_2212, i_2213, i_2214, i_2215, i_2216, i_2217, i_2218, i_2219, rfl⟩ | ⟨i_2220, i_2221, i_2222, i_2223, i_2224, i_2225, i_2226, i_2227, i_2228, i_2229, i_2230, i_2231, i_2232, i_2233, i_2234, i_2235, rfl⟩ | ⟨i_2236, i_2237, i_2238, i_2239, i_2240, i_2241, i_2242, i_2243, i_2244, i_2245, i_2246, i_2247, i_2248, i_2249, i_2250, i_2251, i_2252, rfl⟩ | ⟨i_2253, i_2254, i_2255, i_2256, i_2257, i_2258, i_2259, i_2260, i_2261, i_2262, i_2263, i_2264, i_2265, i_2266, i_2267, i_2268, i_2269, i_2270, rfl⟩ | ⟨i_2271, i_2272, i_2273, i_2274, i_2275, i_2276, i_2277, i_2278, i_2279, i_2280, i_2281, i_2282, i_2283, i_2284, i_2285, i_2286, i_2287, i_2288, i_2289, rfl⟩ | ⟨i_2290, i_2291, i_2292, i_2293, i_2294, i_2295, i_2296, i_2297, i_2298, i_2299, i_2300, i_2301, i_2302, i_2303, i_2304, i_2305, i_2306, i_2307, i_2308, i_2309, rfl⟩ | ⟨i_2310, i_2311, i_2312, i_2313, i_2314, i_2315, i_2316, i_2317, i_2318, i_2319, i_2320, i_2321, i_2322, i_2323, i_2324, i_2325, i_2326, i_2327, i_2328, i_2329, i_2330, rfl⟩ | ⟨i_2331, i_2332, i_2333, i_2334, i_2335, i_2336, i_2337, i_2338, i_2339, i_2340, i_2341, i_2342, i_2343, i_2344, i_2345, i_2346, i_2347, i_2348, i_2349, i_2350, i_2351, i_2352, rfl⟩ | ⟨i_2353, i_2354, i_2355, i_2356, i_2357, i_2358, i_2359, i_2360, i_2361, i_2362, i_2363, i_2364, i_2365, i_2366, i_2367, i_2368, i_2369, i_2370, i_2371, i_2372, i_2373, i_2374, i_2375, rfl⟩ | ⟨i_2376, i_2377, i_2378, i_2379, i_2380, i_2381, i_2382, i_2383, i_2384, i_2385, i_2386, i_2387, i_2388, i_2389, i_2390, i_2391, i_2392, i_2393, i_2394, i_2395, i_2396, i_2397, i_2398, i_2399, rfl⟩ | ⟨i_2400, i_2401, i_2402, i_2403, i_2404, i_2405, i_2406, i_2407, i_2408, i_2409, i_2410, i_2411, i_2412, i_2413, i_2414, i_2415, i_2416, i_2417, i_2418, i_2419, i_2420, i_2421, i_2422, i_2423, i_2424, rfl⟩ | ⟨i_2425, i_2426, i_2427, i_2428, i_2429, i_2430, i_2431, i_2432, i_2433, i_2434, i_2435, i_2436, i_2437, i_2438, i_2439, i_2440, i_2441, i_2442, i_2443, i_2444, i_2445, i_2446, i_2447, i_2448, i_2449, rfl⟩
    · exfalso; omega
    · exfalso; omega
    · exfalso; omega
    · exfalso; omega
    · exfalso; omega
    · exfalso; omega
    · exfalso; omega
    · exfalso; omega
    · skip
      have hP : va_P g.1 vwCl [] H := hP
      have hD : va_D (fun q : Nat => s.heap.size ≤ q) [] := hD
      refine lv_icmp_eq (tgt := 1054) hx hb dL_law_426 (by decide) (fun _ => ?_) (fun h => absurd h (by decide +kernel))
      exact lc_tail ⟨hx, hb, hml, hr, hlocks, hown, hts, hK, hN, hZ, hX, hbl⟩ hS (lv_sub hl [0, 1, 2, 3] rfl)
    · exfalso; omega
    · exfalso; omega
    · exfalso; omega
    · exfalso; omega
    · exfalso; omega
    · exfalso; omega
    · exfalso; omega
    · exfalso; omega
    · exfalso; omega
    · exfalso; omega
    · exfalso; omega
    · exfalso; omega
    · exfalso; omega
    · exfalso; omega
    · exfalso; omega
    · exfalso; omega
    · exfalso; omega
  · skip
    have hP : va_P g.1 vwCl [((am 0), .inr (5, [.ref (am 1), .int 0, .ref (am 2), .int 0, .int 0, .ref (am 3), .ref (am 4), .ref (am 5), .ref (am 6), .int 0, .ref (am 7), .ref (am 8), .ref (am 9), .int 0, .ref (am 10), .ref (am 11), .ref (am 12), .ref (am 13), .ref (am 14), .ref (am 15), .ref (am 16), .ref (am 17), .ref (am 18), .ref (am 19), .ref (am 20), .ref (am 21), .ref (am 22)])), ((am 2), .inl (zI g, 60, .inl (fun _ => 0)))] H := hP
    have hD : va_D (fun q : Nat => s.heap.size ≤ q) [((am 0), .inr (5, [.ref (am 1), .int 0, .ref (am 2), .int 0, .int 0, .ref (am 3), .ref (am 4), .ref (am 5), .ref (am 6), .int 0, .ref (am 7), .ref (am 8), .ref (am 9), .int 0, .ref (am 10), .ref (am 11), .ref (am 12), .ref (am 13), .ref (am 14), .ref (am 15), .ref (am 16), .ref (am 17), .ref (am 18), .ref (am 19), .ref (am 20), .ref (am 21), .ref (am 22)])), ((am 2), .inl (zI g, 60, .inl (fun _ => 0)))] := hD
    refine lv_aload_n hx hb dL_law_397 rfl (lv_at hl 2 rfl) ?_
    refine lv_aload_n hx hb dL_law_398 rfl (lv_at hl 0 rfl) ?_
    refine lv_iload_n hx hb dL_law_399 rfl (lv_at hl 3 rfl) ?_
    refine lv_iconst (v := 1) hx hb dL_law_400 (by decide) ?_
    refine lv_iadd hx hb dL_law_401 ?_
    refine lv_topi (nm_r (e' := 1) (by decide +kernel) ?_)
    refine va_sld hx hb hX hbl hbA hS (vp_in_iff.mpr (by decide +kernel)) dL_law_402 ?_
    refine lv_topi (nm_r (e' := (xs 1)) (by rfl) ?_)
    refine lv_i2l (v := (xs 1).toInt64) hx hb dL_law_403 rfl ?_
    refine lv_bipush (v := 32) hx hb dL_law_404 (by decide) ?_
    refine lv_lshl (v := (((xs 1).toInt64) <<< ((32 : Int32).toInt64 &&& 63))) hx hb dL_law_406 rfl ?_
    refine lv_aload_n hx hb dL_law_407 rfl (lv_at hl 0 rfl) ?_
    refine lv_iload_n hx hb dL_law_408 rfl (lv_at hl 3 rfl) ?_
    refine lv_iconst (v := 2) hx hb dL_law_409 (by decide) ?_
    refine lv_iadd hx hb dL_law_410 ?_
    refine lv_topi (nm_r (e' := 2) (by decide +kernel) ?_)
    refine va_sld hx hb hX hbl hbA hS (vp_in_iff.mpr (by decide +kernel)) dL_law_411 ?_
    refine lv_topi (nm_r (e' := (xs 2)) (by rfl) ?_)
    refine lv_i2l (v := (xs 2).toInt64) hx hb dL_law_412 rfl ?_
    refine lv_ldc2 (v := 4294967295) hx hb hown (hts _ m_k_RL_39) dL_law_413 ?_
    refine lv_land hx hb dL_law_416 ?_
    refine lv_lor hx hb dL_law_417 ?_
    refine lv_aload_n hx hb dL_law_418 rfl (lv_at hl 0 rfl) ?_
    refine lv_iload_n hx hb dL_law_419 rfl (lv_at hl 3 rfl) ?_
    refine lv_iconst (v := 3) hx hb dL_law_420 (by decide) ?_
    refine lv_iadd hx hb dL_law_421 ?_
    refine lv_topi (nm_r (e' := 3) (by decide +kernel) ?_)
    refine va_sld hx hb hX hbl hbA hS (vp_in_iff.mpr (by decide +kernel)) dL_law_422 ?_
    refine lv_topi (nm_r (e' := (xs 3)) (by rfl) ?_)
    refine z_calli (wr := []) hP hD hS hA [0, 1] [] (by decide) rfl rfl (by decide) (va_runV (As := [.long ((((xs 1).toInt64) <<< ((32 : Int32).toInt64 &&& 63)) ||| (((xs 2).toInt64) &&& 4294967295)), .int (xs 3)]) (rest := [.int 3]) ⟨hx, hb, hml, hown, hts⟩ (kX5_type l g (am 0) (am 1) (am 2) (am 3) (am 4) (am 5) (am 6) (am 7) (am 8) (am 9) (am 10) (am 11) (am 12) (am 13) (am 14) (am 15) (am 16) (am 17) (am 18) (am 19) (am 20) (am 21) (am 22) H.size ((((xs 1).toInt64) <<< ((32 : Int32).toInt64 &&& 63)) ||| (((xs 2).toInt64) &&& 4294967295)) (xs 3)) ⟨callB_of 2 hts (zGood m_o_yX5_type) rfl rfl rfl (hts _ m_z_RX5) (hts _ m_m_RL_45) ⟨by decide +kernel, by decide +kernel, by decide +kernel⟩ ⟨Nat.le_of_ble_eq_true rfl, Nat.le_of_ble_eq_true rfl⟩, hts _ m_i_yX5_type, hts _ m_e_yX5_type⟩ (zPreV hK hN hZ hP hD hS hA [0, 1] (by decide) rfl rfl 5 0 rfl rfl) rfl rfl hl.1 rfl (lv_room (Nat.le_of_ble_eq_true rfl)) dL_law_423 ⟨Nat.le_of_ble_eq_true rfl, Nat.le_of_ble_eq_true rfl⟩) (fun r u H locs hw hP hD hS => ?_)
    rcases hw with ⟨i_2450, rfl⟩ | ⟨i_2451, i_2452, rfl⟩ | ⟨i_2453, i_2454, i_2455, rfl⟩ | ⟨i_2456, i_2457, i_2458, i_2459, rfl⟩ | ⟨i_2460, i_2461, i_2462, i_2463, i_2464, rfl⟩ | ⟨i_2465, i_2466, i_2467, i_2468, i_2469, i_2470, rfl⟩ | ⟨i_2471, i_2472, i_2473, i_2474, i_2475, i_2476, i_2477, rfl⟩ | ⟨i_2478, i_2479, i_2480, i_2481, i_2482, i_2483, i_2484, i_2485, rfl⟩ | ⟨i_2486, i_2487, i_2488, i_2489, i_2490, i_2491, i_2492, i_2493, i_2494, rfl⟩ | ⟨i_2495, i_2496, i_2497, i_2498, i_2499, i_2500, i_2501, i_2502, i_2503, i_2504, rfl⟩ | ⟨i_2505, i_2506, i_2507, i_2508, i_2509, i_2510, i_2511, i_2512, i_2513, i_2514, i_2515, rfl⟩ | ⟨i_2516, i_2517, i_2518, i_2519, i_2520, i_2521, i_2522, i_2523, i_2524, i_2525, i_2526, i_2527, rfl⟩ | ⟨i_2528, i_2529, i_2530, i_2531, i_2532, i_2533, i_2534, i_2535, i_2536, i_2537, i_2538, i_2539, i_2540, rfl⟩ | ⟨i_2541, i_2542, i_2543, i_2544, i_2545, i_2546, i_2547, i_2548, i_2549, i_2550, i_2551, i_2552, i_2553, i_2554, rfl⟩ | ⟨i_2555, i_2556, i_2557, i_2558, i_2559, i_2560, i_2561, i_2562, i_2563, i_2564, i_2565, i_2566, i_2567, i_2568, i_2569, rfl⟩ | ⟨i_2570, i_2571, i_2572, i_2573, i_2574, i_2575, i_2576, i_2577, i_2578, i_2579, i_2580, i_2581, i_2582, i_2583, i_2584, i_2585, rfl⟩ | ⟨i_2586, i_2587, i_2588, i_2589, i_2590, i_2591, i_2592, i_2593, i_2594, i_2595, i_2596, i_2597, i_2598, i_2599, i_2600, i_2601, i_2602, rfl⟩ | ⟨i_2603, i_2604, i_2605, i_2606, i_2607, i_2608, i_2609, i_2610, i_2611, i_2612, i_2613, i_2614, i_2615, i_2616, i_2617, i_2618, i_2619, i_2620, rfl⟩ | ⟨i_2621, i_2622, i_2623, i_2624, i_2625, i_2626, i_2627, i_2628, i_2629, i_2630, i_2631, i_2632, i_2633, i_2634, i_2635, i_2636, i_2637, i_2638, i_2639, rfl⟩ | ⟨i_2640, i_2641, i_2642, i_2643, i_2644, i_2645, i_2646, i_2647, i_2648, i_2649, i_2650, i_2651, i_2652, i_2653, i_2654, i_2655, i_2656, i_2657, i_2658, i_2659, rfl⟩ | ⟨i_2660, i_2661, i_2662, i_2663, i_2664, i_2665, i_2666, i_2667, i_2668, i_2669, i_2670, i_2671, i_2672, i_2673, i_2674, i_2675, i_2676, i_2677, i_2678, i_2679, i_2680, rfl⟩ | ⟨i_2681, i_2682, i_2683, i_2684, i_2685, i_2686, i_2687, i_2688, i_2689, i_2690, i_2691, i_2692, i_2693, i_2694, i_2695, i_2696, i_2697, i_2698, i_2699, i_2700, i_2701, i_2702, rfl⟩ | ⟨i_2703, i_2704, i_2705, i_2706, i_2707, i_2708, i_2709, i_2710, i_2711, i_2712, i_2713, i_2714, i_2715, i_2716, i_2717, i_2718, i_2719, i_2720, i_2721, i_2722, i_2723, i_2724, i_2725, rfl⟩ | ⟨i_2726, i_2727, i_2728, i_2729, i_2730, i_2731, i_2732, i_2733, i_2734, i_2735, i_2736, i_2737, i_2738, i_2739, i_2740, i_2741, i_2742, i_2743, i_2744, i_2745, i_2746, i_2747, i_2748, i_2749, rfl⟩ | ⟨i_2750, i_2751, i_2752, i_2753, i_2754, i_2755, i_2756, i_2757, i_2758, i_2759, i_2760, i_2761, i_2762, i_2763, i_2764, i_2765, i_2766, i_2767, i_2768, i_2769, i_2770, i_2771, i_2772, i_2773, i_2774, rfl⟩ | ⟨i_2775, i_2776, i_2777, i_2778, i_2779, i_2780, i_2781, i_2782, i_2783, i_2784, i_2785, i_2786, i_2787, i_2788, i_2789, i_2790, i_2791, i_2792, i_2793, i_2794, i_2795, i_2796, i_2797, i_2798, i_2799, rfl⟩
    · exfalso; omega
    · exfalso; omega
    · exfalso; omega
    · exfalso; omega
    · exfalso; omega
    · exfalso; omega
    · exfalso; omega
    · exfalso; omega
    · exfalso; omega
    · exfalso; omega
    · skip
      have hP : va_P g.1 vwCl [] H := hP
      have hD : va_D (fun q : Nat => s.heap.size ≤ q) [] := hD
      refine lv_icmp_eq (tgt := 1054) hx hb dL_law_426 (by decide) (fun _ => ?_) (fun h => absurd h (by decide +kernel))
      exact lc_tail ⟨hx, hb, hml, hr, hlocks, hown, hts, hK, hN, hZ, hX, hbl⟩ hS (lv_sub hl [0, 1, 2, 3] rfl)
    · exfalso; omega
    · exfalso; omega
    · exfalso; omega
    · exfalso; omega
    · exfalso; omega
    · exfalso; omega
    · exfalso; omega
    · exfalso; omega
    · exfalso; omega
    · exfalso; omega
    · exfalso; omega
    · exfalso; omega
    · exfalso; omega
    · exfalso; omega
    · exfalso; omega
  · skip
    have hP : va_P g.1 vwCl [((am 0), .inr (5, [.ref (am 1), .int 0, .ref (am 2), .int 0, .int 0, .ref (am 3), .ref (am 4), .ref (am 5), .ref (am 6), .int 0, .ref (am 7), .ref (am 8), .ref (am 9), .int 0, .ref (am 10), .ref (am 11), .ref (am 12), .ref (am 13), .ref (am 14), .ref (am 15), .ref (am 16), .ref (am 17), .ref (am 18), .ref (am 19), .ref (am 20), .ref (am 21), .ref (am 22)])), ((am 2), .inl (zI g, 60, .inl (fun _ => 0)))] H := hP
    have hD : va_D (fun q : Nat => s.heap.size ≤ q) [((am 0), .inr (5, [.ref (am 1), .int 0, .ref (am 2), .int 0, .int 0, .ref (am 3), .ref (am 4), .ref (am 5), .ref (am 6), .int 0, .ref (am 7), .ref (am 8), .ref (am 9), .int 0, .ref (am 10), .ref (am 11), .ref (am 12), .ref (am 13), .ref (am 14), .ref (am 15), .ref (am 16), .ref (am 17), .ref (am 18), .ref (am 19), .ref (am 20), .ref (am 21), .ref (am 22)])), ((am 2), .inl (zI g, 60, .inl (fun _ => 0)))] := hD
    refine lv_aload_n hx hb dL_law_397 rfl (lv_at hl 2 rfl) ?_
    refine lv_aload_n hx hb dL_law_398 rfl (lv_at hl 0 rfl) ?_
    refine lv_iload_n hx hb dL_law_399 rfl (lv_at hl 3 rfl) ?_
    refine lv_iconst (v := 1) hx hb dL_law_400 (by decide) ?_
    refine lv_iadd hx hb dL_law_401 ?_
    refine lv_topi (nm_r (e' := 1) (by decide +kernel) ?_)
    refine va_sld hx hb hX hbl hbA hS (vp_in_iff.mpr (by decide +kernel)) dL_law_402 ?_
    refine lv_topi (nm_r (e' := (xs 1)) (by rfl) ?_)
    refine lv_i2l (v := (xs 1).toInt64) hx hb dL_law_403 rfl ?_
    refine lv_bipush (v := 32) hx hb dL_law_404 (by decide) ?_
    refine lv_lshl (v := (((xs 1).toInt64) <<< ((32 : Int32).toInt64 &&& 63))) hx hb dL_law_406 rfl ?_
    refine lv_aload_n hx hb dL_law_407 rfl (lv_at hl 0 rfl) ?_
    refine lv_iload_n hx hb dL_law_408 rfl (lv_at hl 3 rfl) ?_
    refine lv_iconst (v := 2) hx hb dL_law_409 (by decide) ?_
    refine lv_iadd hx hb dL_law_410 ?_
    refine lv_topi (nm_r (e' := 2) (by decide +kernel) ?_)
    refine va_sld hx hb hX hbl hbA hS (vp_in_iff.mpr (by decide +kernel)) dL_law_411 ?_
    refine lv_topi (nm_r (e' := (xs 2)) (by rfl) ?_)
    refine lv_i2l (v := (xs 2).toInt64) hx hb dL_law_412 rfl ?_
    refine lv_ldc2 (v := 4294967295) hx hb hown (hts _ m_k_RL_39) dL_law_413 ?_
    refine lv_land hx hb dL_law_416 ?_
    refine lv_lor hx hb dL_law_417 ?_
    refine lv_aload_n hx hb dL_law_418 rfl (lv_at hl 0 rfl) ?_
    refine lv_iload_n hx hb dL_law_419 rfl (lv_at hl 3 rfl) ?_
    refine lv_iconst (v := 3) hx hb dL_law_420 (by decide) ?_
    refine lv_iadd hx hb dL_law_421 ?_
    refine lv_topi (nm_r (e' := 3) (by decide +kernel) ?_)
    refine va_sld hx hb hX hbl hbA hS (vp_in_iff.mpr (by decide +kernel)) dL_law_422 ?_
    refine lv_topi (nm_r (e' := (xs 3)) (by rfl) ?_)
    refine z_calli (wr := []) hP hD hS hA [0, 1] [] (by decide) rfl rfl (by decide) (va_runV (As := [.long ((((xs 1).toInt64) <<< ((32 : Int32).toInt64 &&& 63)) ||| (((xs 2).toInt64) &&& 4294967295)), .int (xs 3)]) (rest := [.int (-1)]) ⟨hx, hb, hml, hown, hts⟩ (kX5_type l g (am 0) (am 1) (am 2) (am 3) (am 4) (am 5) (am 6) (am 7) (am 8) (am 9) (am 10) (am 11) (am 12) (am 13) (am 14) (am 15) (am 16) (am 17) (am 18) (am 19) (am 20) (am 21) (am 22) H.size ((((xs 1).toInt64) <<< ((32 : Int32).toInt64 &&& 63)) ||| (((xs 2).toInt64) &&& 4294967295)) (xs 3)) ⟨callB_of 2 hts (zGood m_o_yX5_type) rfl rfl rfl (hts _ m_z_RX5) (hts _ m_m_RL_45) ⟨by decide +kernel, by decide +kernel, by decide +kernel⟩ ⟨Nat.le_of_ble_eq_true rfl, Nat.le_of_ble_eq_true rfl⟩, hts _ m_i_yX5_type, hts _ m_e_yX5_type⟩ (zPreV hK hN hZ hP hD hS hA [0, 1] (by decide) rfl rfl 5 0 rfl rfl) rfl rfl hl.1 rfl (lv_room (Nat.le_of_ble_eq_true rfl)) dL_law_423 ⟨Nat.le_of_ble_eq_true rfl, Nat.le_of_ble_eq_true rfl⟩) (fun r u H locs hw hP hD hS => ?_)
    rcases hw with ⟨i_2800, rfl⟩ | ⟨i_2801, i_2802, rfl⟩ | ⟨i_2803, i_2804, i_2805, rfl⟩ | ⟨i_2806, i_2807, i_2808, i_2809, rfl⟩ | ⟨i_2810, i_2811, i_2812, i_2813, i_2814, rfl⟩ | ⟨i_2815, i_2816, i_2817, i_2818, i_2819, i_2820, rfl⟩ | ⟨i_2821, i_2822, i_2823, i_2824, i_2825, i_2826, i_2827, rfl⟩ | ⟨i_2828, i_2829, i_2830, i_2831, i_2832, i_2833, i_2834, i_2835, rfl⟩ | ⟨i_2836, i_2837, i_2838, i_2839, i_2840, i_2841, i_2842, i_2843, i_2844, rfl⟩ | ⟨i_2845, i_2846, i_2847, i_2848, i_2849, i_2850, i_2851, i_2852, i_2853, i_2854, rfl⟩ | ⟨i_2855, i_2856, i_2857, i_2858, i_2859, i_2860, i_2861, i_2862, i_2863, i_2864, i_2865, rfl⟩ | ⟨i_2866, i_2867, i_2868, i_2869, i_2870, i_2871, i_2872, i_2873, i_2874, i_2875, i_2876, i_2877, rfl⟩ | ⟨i_2878, i_2879, i_2880, i_2881, i_2882, i_2883, i_2884, i_2885, i_2886, i_2887, i_2888, i_2889, i_2890, rfl⟩ | ⟨i_2891, i_2892, i_2893, i_2894, i_2895, i_2896, i_2897, i_2898, i_2899, i_2900, i_2901, i_2902, i_2903, i_2904, rfl⟩ | ⟨i_2905, i_2906, i_2907, i_2908, i_2909, i_2910, i_2911, i_2912, i_2913, i_2914, i_2915, i_2916, i_2917, i_2918, i_2919, rfl⟩ | ⟨i_2920, i_2921, i_2922, i_2923, i_2924, i_2925, i_2926, i_2927, i_2928, i_2929, i_2930, i_2931, i_2932, i_2933, i_2934, i_2935, rfl⟩ | ⟨i_2936, i_2937, i_2938, i_2939, i_2940, i_2941, i_2942, i_2943, i_2944, i_2945, i_2946, i_2947, i_2948, i_2949, i_2950, i_2951, i_2952, rfl⟩ | ⟨i_2953, i_2954, i_2955, i_2956, i_2957, i_2958, i_2959, i_2960, i_2961, i_2962, i_2963, i_2964, i_2965, i_2966, i_2967, i_2968, i_2969, i_2970, rfl⟩ | ⟨i_2971, i_2972, i_2973, i_2974, i_2975, i_2976, i_2977, i_2978, i_2979, i_2980, i_2981, i_2982, i_2983, i_2984, i_2985, i_2986, i_2987, i_2988, i_2989, rfl⟩ | ⟨i_2990, i_2991, i_2992, i_2993, i_2994, i_2995, i_2996, i_2997, i_2998, i_2999, i_3000, i_3001, i_3002, i_3003, i_3004, i_3005, i_3006, i_3007, i_3008, i_3009, rfl⟩ | ⟨i_3010, i_3011, i_3012, i_3013, i_3014, i_3015, i_3016, i_3017, i_3018, i_3019, i_3020, i_3021, i_3022, i_3023, i_3024, i_3025, i_3026, i_3027, i_3028, i_3029, i_3030, rfl⟩ | ⟨i_3031, i_3032, i_3033, i_3034, i_3035, i_3036, i_3037, i_3038, i_3039, i_3040, i_3041, i_3042, i_3043, i_3044, i_3045, i_3046, i_3047, i_3048, i_3049, i_3050, i_3051, i_3052, rfl⟩ | ⟨i_3053, i_3054, i_3055, i_3056, i_3057, i_3058, i_3059, i_3060, i_3061, i_3062, i_3063, i_3064, i_3065, i_3066, i_3067, i_3068, i_3069, i_3070, i_3071, i_3072, i_3073, i_3074, i_3075, rfl⟩ | ⟨i_3076, i_3077, i_3078, i_3079, i_3080, i_3081, i_3082, i_3083, i_3084, i_3085, i_3086, i_3087, i_3088, i_3089, i_3090, i_3091, i_3092, i_3093, i_3094, i_3095, i_3096, i_3097, i_3098, i_3099, rfl⟩ | ⟨i_3100, i_3101, i_3102, i_3103, i_3104, i_3105, i_3106, i_3107, i_3108, i_3109, i_3110, i_3111, i_3112, i_3113, i_3114, i_3115, i_3116, i_3117, i_3118, i_3119, i_3120, i_3121, i_3122, i_3123, i_3124, rfl⟩ | ⟨i_3125, i_3126, i_3127, i_3128, i_3129, i_3130, i_3131, i_3132, i_3133, i_3134, i_3135, i_3136, i_3137, i_3138, i_3139, i_3140, i_3141, i_3142, i_3143, i_3144, i_3145, i_3146, i_3147, i_3148, i_3149, rfl⟩
    · exfalso; omega
    · exfalso; omega
    · exfalso; omega
    · exfalso; omega
    · exfalso; omega
    · exfalso; omega
    · exfalso; omega
    · exfalso; omega
    · exfalso; omega
    · exfalso; omega
    · exfalso; omega
    · skip
      have hP : va_P g.1 vwCl [] H := hP
      have hD : va_D (fun q : Nat => s.heap.size ≤ q) [] := hD
      refine lv_icmp_eq (tgt := 1054) hx hb dL_law_426 (by decide) (fun _ => ?_) (fun h => absurd h (by decide +kernel))
      exact lc_tail ⟨hx, hb, hml, hr, hlocks, hown, hts, hK, hN, hZ, hX, hbl⟩ hS (lv_sub hl [0, 1, 2, 3] rfl)
    · exfalso; omega
    · exfalso; omega
    · exfalso; omega
    · exfalso; omega
    · exfalso; omega
    · exfalso; omega
    · exfalso; omega
    · exfalso; omega
    · exfalso; omega
    · exfalso; omega
    · exfalso; omega
    · exfalso; omega
    · exfalso; omega
    · exfalso; omega
  · skip
    have hP : va_P g.1 vwCl [((am 0), .inr (5, [.ref (am 1), .int 0, .ref (am 2), .int 0, .int 0, .ref (am 3), .ref (am 4), .ref (am 5), .ref (am 6), .int 0, .ref (am 7), .ref (am 8), .ref (am 9), .int 0, .ref (am 10), .ref (am 11), .ref (am 12), .ref (am 13), .ref (am 14), .ref (am 15), .ref (am 16), .ref (am 17), .ref (am 18), .ref (am 19), .ref (am 20), .ref (am 21), .ref (am 22)])), ((am 2), .inl (zI g, 60, .inl (fun _ => 0)))] H := hP
    have hD : va_D (fun q : Nat => s.heap.size ≤ q) [((am 0), .inr (5, [.ref (am 1), .int 0, .ref (am 2), .int 0, .int 0, .ref (am 3), .ref (am 4), .ref (am 5), .ref (am 6), .int 0, .ref (am 7), .ref (am 8), .ref (am 9), .int 0, .ref (am 10), .ref (am 11), .ref (am 12), .ref (am 13), .ref (am 14), .ref (am 15), .ref (am 16), .ref (am 17), .ref (am 18), .ref (am 19), .ref (am 20), .ref (am 21), .ref (am 22)])), ((am 2), .inl (zI g, 60, .inl (fun _ => 0)))] := hD
    refine lv_aload_n hx hb dL_law_397 rfl (lv_at hl 2 rfl) ?_
    refine lv_aload_n hx hb dL_law_398 rfl (lv_at hl 0 rfl) ?_
    refine lv_iload_n hx hb dL_law_399 rfl (lv_at hl 3 rfl) ?_
    refine lv_iconst (v := 1) hx hb dL_law_400 (by decide) ?_
    refine lv_iadd hx hb dL_law_401 ?_
    refine lv_topi (nm_r (e' := 1) (by decide +kernel) ?_)
    refine va_sld hx hb hX hbl hbA hS (vp_in_iff.mpr (by decide +kernel)) dL_law_402 ?_
    refine lv_topi (nm_r (e' := (xs 1)) (by rfl) ?_)
    refine lv_i2l (v := (xs 1).toInt64) hx hb dL_law_403 rfl ?_
    refine lv_bipush (v := 32) hx hb dL_law_404 (by decide) ?_
    refine lv_lshl (v := (((xs 1).toInt64) <<< ((32 : Int32).toInt64 &&& 63))) hx hb dL_law_406 rfl ?_
    refine lv_aload_n hx hb dL_law_407 rfl (lv_at hl 0 rfl) ?_
    refine lv_iload_n hx hb dL_law_408 rfl (lv_at hl 3 rfl) ?_
    refine lv_iconst (v := 2) hx hb dL_law_409 (by decide) ?_
    refine lv_iadd hx hb dL_law_410 ?_
    refine lv_topi (nm_r (e' := 2) (by decide +kernel) ?_)
    refine va_sld hx hb hX hbl hbA hS (vp_in_iff.mpr (by decide +kernel)) dL_law_411 ?_
    refine lv_topi (nm_r (e' := (xs 2)) (by rfl) ?_)
    refine lv_i2l (v := (xs 2).toInt64) hx hb dL_law_412 rfl ?_
    refine lv_ldc2 (v := 4294967295) hx hb hown (hts _ m_k_RL_39) dL_law_413 ?_
    refine lv_land hx hb dL_law_416 ?_
    refine lv_lor hx hb dL_law_417 ?_
    refine lv_aload_n hx hb dL_law_418 rfl (lv_at hl 0 rfl) ?_
    refine lv_iload_n hx hb dL_law_419 rfl (lv_at hl 3 rfl) ?_
    refine lv_iconst (v := 3) hx hb dL_law_420 (by decide) ?_
    refine lv_iadd hx hb dL_law_421 ?_
    refine lv_topi (nm_r (e' := 3) (by decide +kernel) ?_)
    refine va_sld hx hb hX hbl hbA hS (vp_in_iff.mpr (by decide +kernel)) dL_law_422 ?_
    refine lv_topi (nm_r (e' := (xs 3)) (by rfl) ?_)
    refine z_calli (wr := []) hP hD hS hA [0, 1] [] (by decide) rfl rfl (by decide) (va_runV (As := [.long ((((xs 1).toInt64) <<< ((32 : Int32).toInt64 &&& 63)) ||| (((xs 2).toInt64) &&& 4294967295)), .int (xs 3)]) (rest := [.int 4]) ⟨hx, hb, hml, hown, hts⟩ (kX5_type l g (am 0) (am 1) (am 2) (am 3) (am 4) (am 5) (am 6) (am 7) (am 8) (am 9) (am 10) (am 11) (am 12) (am 13) (am 14) (am 15) (am 16) (am 17) (am 18) (am 19) (am 20) (am 21) (am 22) H.size ((((xs 1).toInt64) <<< ((32 : Int32).toInt64 &&& 63)) ||| (((xs 2).toInt64) &&& 4294967295)) (xs 3)) ⟨callB_of 2 hts (zGood m_o_yX5_type) rfl rfl rfl (hts _ m_z_RX5) (hts _ m_m_RL_45) ⟨by decide +kernel, by decide +kernel, by decide +kernel⟩ ⟨Nat.le_of_ble_eq_true rfl, Nat.le_of_ble_eq_true rfl⟩, hts _ m_i_yX5_type, hts _ m_e_yX5_type⟩ (zPreV hK hN hZ hP hD hS hA [0, 1] (by decide) rfl rfl 5 0 rfl rfl) rfl rfl hl.1 rfl (lv_room (Nat.le_of_ble_eq_true rfl)) dL_law_423 ⟨Nat.le_of_ble_eq_true rfl, Nat.le_of_ble_eq_true rfl⟩) (fun r u H locs hw hP hD hS => ?_)
    rcases hw with ⟨i_3150, rfl⟩ | ⟨i_3151, i_3152, rfl⟩ | ⟨i_3153, i_3154, i_3155, rfl⟩ | ⟨i_3156, i_3157, i_3158, i_3159, rfl⟩ | ⟨i_3160, i_3161, i_3162, i_3163, i_3164, rfl⟩ | ⟨i_3165, i_3166, i_3167, i_3168, i_3169, i_3170, rfl⟩ | ⟨i_3171, i_3172, i_3173, i_3174, i_3175, i_3176, i_3177, rfl⟩ | ⟨i_3178, i_3179, i_3180, i_3181, i_3182, i_3183, i_3184, i_3185, rfl⟩ | ⟨i_3186, i_3187, i_3188, i_3189, i_3190, i_3191, i_3192, i_3193, i_3194, rfl⟩ | ⟨i_3195, i_3196, i_3197, i_3198, i_3199, i_3200, i_3201, i_3202, i_3203, i_3204, rfl⟩ | ⟨i_3205, i_3206, i_3207, i_3208, i_3209, i_3210, i_3211, i_3212, i_3213, i_3214, i_3215, rfl⟩ | ⟨i_3216, i_3217, i_3218, i_3219, i_3220, i_3221, i_3222, i_3223, i_3224, i_3225, i_3226, i_3227, rfl⟩ | ⟨i_3228, i_3229, i_3230, i_3231, i_3232, i_3233, i_3234, i_3235, i_3236, i_3237, i_3238, i_3239, i_3240, rfl⟩ | ⟨i_3241, i_3242, i_3243, i_3244, i_3245, i_3246, i_3247, i_3248, i_3249, i_3250, i_3251, i_3252, i_3253, i_3254, rfl⟩ | ⟨i_3255, i_3256, i_3257, i_3258, i_3259, i_3260, i_3261, i_3262, i_3263, i_3264, i_3265, i_3266, i_3267, i_3268, i_3269, rfl⟩ | ⟨i_3270, i_3271, i_3272, i_3273, i_3274, i_3275, i_3276, i_3277, i_3278, i_3279, i_3280, i_3281, i_3282, i_3283, i_3284, i_3285, rfl⟩ | ⟨i_3286, i_3287, i_3288, i_3289, i_3290, i_3291, i_3292, i_3293, i_3294, i_3295, i_3296, i_3297, i_3298, i_3299, i_3300, i_3301, i_3302, rfl⟩ | ⟨i_3303, i_3304, i_3305, i_3306, i_3307, i_3308, i_3309, i_3310, i_3311, i_3312, i_3313, i_3314, i_3315, i_3316, i_3317, i_3318, i_3319, i_3320, rfl⟩ | ⟨i_3321, i_3322, i_3323, i_3324, i_3325, i_3326, i_3327, i_3328, i_3329, i_3330, i_3331, i_3332, i_3333, i_3334, i_3335, i_3336, i_3337, i_3338, i_3339, rfl⟩ | ⟨i_3340, i_3341, i_3342, i_3343, i_3344, i_3345, i_3346, i_3347, i_3348, i_3349, i_3350, i_3351, i_3352, i_3353, i_3354, i_3355, i_3356, i_3357, i_3358, i_3359, rfl⟩ | ⟨i_3360, i_3361, i_3362, i_3363, i_3364, i_3365, i_3366, i_3367, i_3368, i_3369, i_3370, i_3371, i_3372, i_3373, i_3374, i_3375, i_3376, i_3377, i_3378, i_3379, i_3380, rfl⟩ | ⟨i_3381, i_3382, i_3383, i_3384, i_3385, i_3386, i_3387, i_3388, i_3389, i_3390, i_3391, i_3392, i_3393, i_3394, i_3395, i_3396, i_3397, i_3398, i_3399, i_3400, i_3401, i_3402, rfl⟩ | ⟨i_3403, i_3404, i_3405, i_3406, i_3407, i_3408, i_3409, i_3410, i_3411, i_3412, i_3413, i_3414, i_3415, i_3416, i_3417, i_3418, i_3419, i_3420, i_3421, i_3422, i_3423, i_3424, i_3425, rfl⟩ | ⟨i_3426, i_3427, i_3428, i_3429, i_3430, i_3431, i_3432, i_3433, i_3434, i_3435, i_3436, i_3437, i_3438, i_3439, i_3440, i_3441, i_3442, i_3443, i_3444, i_3445, i_3446, i_3447, i_3448, i_3449, rfl⟩ | ⟨i_3450, i_3451, i_3452, i_3453, i_3454, i_3455, i_3456, i_3457, i_3458, i_3459, i_3460, i_3461, i_3462, i_3463, i_3464, i_3465, i_3466, i_3467, i_3468, i_3469, i_3470, i_3471, i_3472, i_3473, i_3474, rfl⟩ | ⟨i_3475, i_3476, i_3477, i_3478, i_3479, i_3480, i_3481, i_3482, i_3483, i_3484, i_3485, i_3486, i_3487, i_3488, i_3489, i_3490, i_3491, i_3492, i_3493, i_3494, i_3495, i_3496, i_3497, i_3498, i_3499, rfl⟩
    · exfalso; omega
    · exfalso; omega
    · exfalso; omega
    · exfalso; omega
    · exfalso; omega
    · exfalso; omega
    · exfalso; omega
    · exfalso; omega
    · exfalso; omega
    · exfalso; omega
    · exfalso; omega
    · exfalso; omega
    · exfalso; omega
    · skip
      have hP : va_P g.1 vwCl [] H := hP
      have hD : va_D (fun q : Nat => s.heap.size ≤ q) [] := hD
      refine lv_icmp_eq (tgt := 1054) hx hb dL_law_426 (by decide) (fun _ => ?_) (fun h => absurd h (by decide +kernel))
      exact lc_tail ⟨hx, hb, hml, hr, hlocks, hown, hts, hK, hN, hZ, hX, hbl⟩ hS (lv_sub hl [0, 1, 2, 3] rfl)
    · exfalso; omega
    · exfalso; omega
    · exfalso; omega
    · exfalso; omega
    · exfalso; omega
    · exfalso; omega
    · exfalso; omega
    · exfalso; omega
    · exfalso; omega
    · exfalso; omega
    · exfalso; omega
    · exfalso; omega
  · skip
    have hP : va_P g.1 vwCl [((am 0), .inr (5, [.ref (am 1), .int 0, .ref (am 2), .int 0, .int 0, .ref (am 3), .ref (am 4), .ref (am 5), .ref (am 6), .int 0, .ref (am 7), .ref (am 8), .ref (am 9), .int 0, .ref (am 10), .ref (am 11), .ref (am 12), .ref (am 13), .ref (am 14), .ref (am 15), .ref (am 16), .ref (am 17), .ref (am 18), .ref (am 19), .ref (am 20), .ref (am 21), .ref (am 22)])), ((am 2), .inl (zI g, 60, .inl (fun _ => 0)))] H := hP
    have hD : va_D (fun q : Nat => s.heap.size ≤ q) [((am 0), .inr (5, [.ref (am 1), .int 0, .ref (am 2), .int 0, .int 0, .ref (am 3), .ref (am 4), .ref (am 5), .ref (am 6), .int 0, .ref (am 7), .ref (am 8), .ref (am 9), .int 0, .ref (am 10), .ref (am 11), .ref (am 12), .ref (am 13), .ref (am 14), .ref (am 15), .ref (am 16), .ref (am 17), .ref (am 18), .ref (am 19), .ref (am 20), .ref (am 21), .ref (am 22)])), ((am 2), .inl (zI g, 60, .inl (fun _ => 0)))] := hD
    refine lv_aload_n hx hb dL_law_397 rfl (lv_at hl 2 rfl) ?_
    refine lv_aload_n hx hb dL_law_398 rfl (lv_at hl 0 rfl) ?_
    refine lv_iload_n hx hb dL_law_399 rfl (lv_at hl 3 rfl) ?_
    refine lv_iconst (v := 1) hx hb dL_law_400 (by decide) ?_
    refine lv_iadd hx hb dL_law_401 ?_
    refine lv_topi (nm_r (e' := 1) (by decide +kernel) ?_)
    refine va_sld hx hb hX hbl hbA hS (vp_in_iff.mpr (by decide +kernel)) dL_law_402 ?_
    refine lv_topi (nm_r (e' := (xs 1)) (by rfl) ?_)
    refine lv_i2l (v := (xs 1).toInt64) hx hb dL_law_403 rfl ?_
    refine lv_bipush (v := 32) hx hb dL_law_404 (by decide) ?_
    refine lv_lshl (v := (((xs 1).toInt64) <<< ((32 : Int32).toInt64 &&& 63))) hx hb dL_law_406 rfl ?_
    refine lv_aload_n hx hb dL_law_407 rfl (lv_at hl 0 rfl) ?_
    refine lv_iload_n hx hb dL_law_408 rfl (lv_at hl 3 rfl) ?_
    refine lv_iconst (v := 2) hx hb dL_law_409 (by decide) ?_
    refine lv_iadd hx hb dL_law_410 ?_
    refine lv_topi (nm_r (e' := 2) (by decide +kernel) ?_)
    refine va_sld hx hb hX hbl hbA hS (vp_in_iff.mpr (by decide +kernel)) dL_law_411 ?_
    refine lv_topi (nm_r (e' := (xs 2)) (by rfl) ?_)
    refine lv_i2l (v := (xs 2).toInt64) hx hb dL_law_412 rfl ?_
    refine lv_ldc2 (v := 4294967295) hx hb hown (hts _ m_k_RL_39) dL_law_413 ?_
    refine lv_land hx hb dL_law_416 ?_
    refine lv_lor hx hb dL_law_417 ?_
    refine lv_aload_n hx hb dL_law_418 rfl (lv_at hl 0 rfl) ?_
    refine lv_iload_n hx hb dL_law_419 rfl (lv_at hl 3 rfl) ?_
    refine lv_iconst (v := 3) hx hb dL_law_420 (by decide) ?_
    refine lv_iadd hx hb dL_law_421 ?_
    refine lv_topi (nm_r (e' := 3) (by decide +kernel) ?_)
    refine va_sld hx hb hX hbl hbA hS (vp_in_iff.mpr (by decide +kernel)) dL_law_422 ?_
    refine lv_topi (nm_r (e' := (xs 3)) (by rfl) ?_)
    refine z_calli (wr := []) hP hD hS hA [0, 1] [] (by decide) rfl rfl (by decide) (va_runV (As := [.long ((((xs 1).toInt64) <<< ((32 : Int32).toInt64 &&& 63)) ||| (((xs 2).toInt64) &&& 4294967295)), .int (xs 3)]) (rest := [.int (-1)]) ⟨hx, hb, hml, hown, hts⟩ (kX5_type l g (am 0) (am 1) (am 2) (am 3) (am 4) (am 5) (am 6) (am 7) (am 8) (am 9) (am 10) (am 11) (am 12) (am 13) (am 14) (am 15) (am 16) (am 17) (am 18) (am 19) (am 20) (am 21) (am 22) H.size ((((xs 1).toInt64) <<< ((32 : Int32).toInt64 &&& 63)) ||| (((xs 2).toInt64) &&& 4294967295)) (xs 3)) ⟨callB_of 2 hts (zGood m_o_yX5_type) rfl rfl rfl (hts _ m_z_RX5) (hts _ m_m_RL_45) ⟨by decide +kernel, by decide +kernel, by decide +kernel⟩ ⟨Nat.le_of_ble_eq_true rfl, Nat.le_of_ble_eq_true rfl⟩, hts _ m_i_yX5_type, hts _ m_e_yX5_type⟩ (zPreV hK hN hZ hP hD hS hA [0, 1] (by decide) rfl rfl 5 0 rfl rfl) rfl rfl hl.1 rfl (lv_room (Nat.le_of_ble_eq_true rfl)) dL_law_423 ⟨Nat.le_of_ble_eq_true rfl, Nat.le_of_ble_eq_true rfl⟩) (fun r u H locs hw hP hD hS => ?_)
    rcases hw with ⟨i_3500, rfl⟩ | ⟨i_3501, i_3502, rfl⟩ | ⟨i_3503, i_3504, i_3505, rfl⟩ | ⟨i_3506, i_3507, i_3508, i_3509, rfl⟩ | ⟨i_3510, i_3511, i_3512, i_3513, i_3514, rfl⟩ | ⟨i_3515, i_3516, i_3517, i_3518, i_3519, i_3520, rfl⟩ | ⟨i_3521, i_3522, i_3523, i_3524, i_3525, i_3526, i_3527, rfl⟩ | ⟨i_3528, i_3529, i_3530, i_3531, i_3532, i_3533, i_3534, i_3535, rfl⟩ | ⟨i_3536, i_3537, i_3538, i_3539, i_3540, i_3541, i_3542, i_3543, i_3544, rfl⟩ | ⟨i_3545, i_3546, i_3547, i_3548, i_3549, i_3550, i_3551, i_3552, i_3553, i_3554, rfl⟩ | ⟨i_3555, i_3556, i_3557, i_3558, i_3559, i_3560, i_3561, i_3562, i_3563, i_3564, i_3565, rfl⟩ | ⟨i_3566, i_3567, i_3568, i_3569, i_3570, i_3571, i_3572, i_3573, i_3574, i_3575, i_3576, i_3577, rfl⟩ | ⟨i_3578, i_3579, i_3580, i_3581, i_3582, i_3583, i_3584, i_3585, i_3586, i_3587, i_3588, i_3589, i_3590, rfl⟩ | ⟨i_3591, i_3592, i_3593, i_3594, i_3595, i_3596, i_3597, i_3598, i_3599, i_3600, i_3601, i_3602, i_3603, i_3604, rfl⟩ | ⟨i_3605, i_3606, i_3607, i_3608, i_3609, i_3610, i_3611, i_3612, i_3613, i_3614, i_3615, i_3616, i_3617, i_3618, i_3619, rfl⟩ | ⟨i_3620, i_3621, i_3622, i_3623, i_3624, i_3625, i_3626, i_3627, i_3628, i_3629, i_3630, i_3631, i_3632, i_3633, i_3634, i_3635, rfl⟩ | ⟨i_3636, i_3637, i_3638, i_3639, i_3640, i_3641, i_3642, i_3643, i_3644, i_3645, i_3646, i_3647, i_3648, i_3649, i_3650, i_3651, i_3652, rfl⟩ | ⟨i_3653, i_3654, i_3655, i_3656, i_3657, i_3658, i_3659, i_3660, i_3661, i_3662, i_3663, i_3664, i_3665, i_3666, i_3667, i_3668, i_3669, i_3670, rfl⟩ | ⟨i_3671, i_3672, i_3673, i_3674, i_3675, i_3676, i_3677, i_3678, i_3679, i_3680, i_3681, i_3682, i_3683, i_3684, i_3685, i_3686, i_3687, i_3688, i_3689, rfl⟩ | ⟨i_3690, i_3691, i_3692, i_3693, i_3694, i_3695, i_3696, i_3697, i_3698, i_3699, i_3700, i_3701, i_3702, i_3703, i_3704, i_3705, i_3706, i_3707, i_3708, i_3709, rfl⟩ | ⟨i_3710, i_3711, i_3712, i_3713, i_3714, i_3715, i_3716, i_3717, i_3718, i_3719, i_3720, i_3721, i_3722, i_3723, i_3724, i_3725, i_3726, i_3727, i_3728, i_3729, i_3730, rfl⟩ | ⟨i_3731, i_3732, i_3733, i_3734, i_3735, i_3736, i_3737, i_3738, i_3739, i_3740, i_3741, i_3742, i_3743, i_3744, i_3745, i_3746, i_3747, i_3748, i_3749, i_3750, i_3751, i_3752, rfl⟩ | ⟨i_3753, i_3754, i_3755, i_3756, i_3757, i_3758, i_3759, i_3760, i_3761, i_3762, i_3763, i_3764, i_3765, i_3766, i_3767, i_3768, i_3769, i_3770, i_3771, i_3772, i_3773, i_3774, i_3775, rfl⟩ | ⟨i_3776, i_3777, i_3778, i_3779, i_3780, i_3781, i_3782, i_3783, i_3784, i_3785, i_3786, i_3787, i_3788, i_3789, i_3790, i_3791, i_3792, i_3793, i_3794, i_3795, i_3796, i_3797, i_3798, i_3799, rfl⟩ | ⟨i_3800, i_3801, i_3802, i_3803, i_3804, i_3805, i_3806, i_3807, i_3808, i_3809, i_3810, i_3811, i_3812, i_3813, i_3814, i_3815, i_3816, i_3817, i_3818, i_3819, i_3820, i_3821, i_3822, i_3823, i_3824, rfl⟩ | ⟨i_3825, i_3826, i_3827, i_3828, i_3829, i_3830, i_3831, i_3832, i_3833, i_3834, i_3835, i_3836, i_3837, i_3838, i_3839, i_3840, i_3841, i_3842, i_3843, i_3844, i_3845, i_3846, i_3847, i_3848, i_3849, rfl⟩
    · exfalso; omega
    · exfalso; omega
    · exfalso; omega
    · exfalso; omega
    · exfalso; omega
    · exfalso; omega
    · exfalso; omega
    · exfalso; omega
    · exfalso; omega
    · exfalso; omega
    · exfalso; omega
    · exfalso; omega
    · exfalso; omega
    · exfalso; omega
    · skip
      have hP : va_P g.1 vwCl [] H := hP
      have hD : va_D (fun q : Nat => s.heap.size ≤ q) [] := hD
      refine lv_icmp_eq (tgt := 1054) hx hb dL_law_426 (by decide) (fun _ => ?_) (fun h => absurd h (by decide +kernel))
      exact lc_tail ⟨hx, hb, hml, hr, hlocks, hown, hts, hK, hN, hZ, hX, hbl⟩ hS (lv_sub hl [0, 1, 2, 3] rfl)
    · exfalso; omega
    · exfalso; omega
    · exfalso; omega
    · exfalso; omega
    · exfalso; omega
    · exfalso; omega
    · exfalso; omega
    · exfalso; omega
    · exfalso; omega
    · exfalso; omega
    · exfalso; omega
  · skip
    have hP : va_P g.1 vwCl [((am 0), .inr (5, [.ref (am 1), .int 0, .ref (am 2), .int 0, .int 0, .ref (am 3), .ref (am 4), .ref (am 5), .ref (am 6), .int 0, .ref (am 7), .ref (am 8), .ref (am 9), .int 0, .ref (am 10), .ref (am 11), .ref (am 12), .ref (am 13), .ref (am 14), .ref (am 15), .ref (am 16), .ref (am 17), .ref (am 18), .ref (am 19), .ref (am 20), .ref (am 21), .ref (am 22)])), ((am 2), .inl (zI g, 60, .inl (fun _ => 0)))] H := hP
    have hD : va_D (fun q : Nat => s.heap.size ≤ q) [((am 0), .inr (5, [.ref (am 1), .int 0, .ref (am 2), .int 0, .int 0, .ref (am 3), .ref (am 4), .ref (am 5), .ref (am 6), .int 0, .ref (am 7), .ref (am 8), .ref (am 9), .int 0, .ref (am 10), .ref (am 11), .ref (am 12), .ref (am 13), .ref (am 14), .ref (am 15), .ref (am 16), .ref (am 17), .ref (am 18), .ref (am 19), .ref (am 20), .ref (am 21), .ref (am 22)])), ((am 2), .inl (zI g, 60, .inl (fun _ => 0)))] := hD
    refine lv_aload_n hx hb dL_law_397 rfl (lv_at hl 2 rfl) ?_
    refine lv_aload_n hx hb dL_law_398 rfl (lv_at hl 0 rfl) ?_
    refine lv_iload_n hx hb dL_law_399 rfl (lv_at hl 3 rfl) ?_
    refine lv_iconst (v := 1) hx hb dL_law_400 (by decide) ?_
    refine lv_iadd hx hb dL_law_401 ?_
    refine lv_topi (nm_r (e' := 1) (by decide +kernel) ?_)
    refine va_sld hx hb hX hbl hbA hS (vp_in_iff.mpr (by decide +kernel)) dL_law_402 ?_
    refine lv_topi (nm_r (e' := (xs 1)) (by rfl) ?_)
    refine lv_i2l (v := (xs 1).toInt64) hx hb dL_law_403 rfl ?_
    refine lv_bipush (v := 32) hx hb dL_law_404 (by decide) ?_
    refine lv_lshl (v := (((xs 1).toInt64) <<< ((32 : Int32).toInt64 &&& 63))) hx hb dL_law_406 rfl ?_
    refine lv_aload_n hx hb dL_law_407 rfl (lv_at hl 0 rfl) ?_
    refine lv_iload_n hx hb dL_law_408 rfl (lv_at hl 3 rfl) ?_
    refine lv_iconst (v := 2) hx hb dL_law_409 (by decide) ?_
    refine lv_iadd hx hb dL_law_410 ?_
    refine lv_topi (nm_r (e' := 2) (by decide +kernel) ?_)
    refine va_sld hx hb hX hbl hbA hS (vp_in_iff.mpr (by decide +kernel)) dL_law_411 ?_
    refine lv_topi (nm_r (e' := (xs 2)) (by rfl) ?_)
    refine lv_i2l (v := (xs 2).toInt64) hx hb dL_law_412 rfl ?_
    refine lv_ldc2 (v := 4294967295) hx hb hown (hts _ m_k_RL_39) dL_law_413 ?_
    refine lv_land hx hb dL_law_416 ?_
    refine lv_lor hx hb dL_law_417 ?_
    refine lv_aload_n hx hb dL_law_418 rfl (lv_at hl 0 rfl) ?_
    refine lv_iload_n hx hb dL_law_419 rfl (lv_at hl 3 rfl) ?_
    refine lv_iconst (v := 3) hx hb dL_law_420 (by decide) ?_
    refine lv_iadd hx hb dL_law_421 ?_
    refine lv_topi (nm_r (e' := 3) (by decide +kernel) ?_)
    refine va_sld hx hb hX hbl hbA hS (vp_in_iff.mpr (by decide +kernel)) dL_law_422 ?_
    refine lv_topi (nm_r (e' := (xs 3)) (by rfl) ?_)
    refine z_calli (wr := []) hP hD hS hA [0, 1] [] (by decide) rfl rfl (by decide) (va_runV (As := [.long ((((xs 1).toInt64) <<< ((32 : Int32).toInt64 &&& 63)) ||| (((xs 2).toInt64) &&& 4294967295)), .int (xs 3)]) (rest := [.int 5]) ⟨hx, hb, hml, hown, hts⟩ (kX5_type l g (am 0) (am 1) (am 2) (am 3) (am 4) (am 5) (am 6) (am 7) (am 8) (am 9) (am 10) (am 11) (am 12) (am 13) (am 14) (am 15) (am 16) (am 17) (am 18) (am 19) (am 20) (am 21) (am 22) H.size ((((xs 1).toInt64) <<< ((32 : Int32).toInt64 &&& 63)) ||| (((xs 2).toInt64) &&& 4294967295)) (xs 3)) ⟨callB_of 2 hts (zGood m_o_yX5_type) rfl rfl rfl (hts _ m_z_RX5) (hts _ m_m_RL_45) ⟨by decide +kernel, by decide +kernel, by decide +kernel⟩ ⟨Nat.le_of_ble_eq_true rfl, Nat.le_of_ble_eq_true rfl⟩, hts _ m_i_yX5_type, hts _ m_e_yX5_type⟩ (zPreV hK hN hZ hP hD hS hA [0, 1] (by decide) rfl rfl 5 0 rfl rfl) rfl rfl hl.1 rfl (lv_room (Nat.le_of_ble_eq_true rfl)) dL_law_423 ⟨Nat.le_of_ble_eq_true rfl, Nat.le_of_ble_eq_true rfl⟩) (fun r u H locs hw hP hD hS => ?_)
    rcases hw with ⟨i_3850, rfl⟩ | ⟨i_3851, i_3852, rfl⟩ | ⟨i_3853, i_3854, i_3855, rfl⟩ | ⟨i_3856, i_3857, i_3858, i_3859, rfl⟩ | ⟨i_3860, i_3861, i_3862, i_3863, i_3864, rfl⟩ | ⟨i_3865, i_3866, i_3867, i_3868, i_3869, i_3870, rfl⟩ | ⟨i_3871, i_3872, i_3873, i_3874, i_3875, i_3876, i_3877, rfl⟩ | ⟨i_3878, i_3879, i_3880, i_3881, i_3882, i_3883, i_3884, i_3885, rfl⟩ | ⟨i_3886, i_3887, i_3888, i_3889, i_3890, i_3891, i_3892, i_3893, i_3894, rfl⟩ | ⟨i_3895, i_3896, i_3897, i_3898, i_3899, i_3900, i_3901, i_3902, i_3903, i_3904, rfl⟩ | ⟨i_3905, i_3906, i_3907, i_3908, i_3909, i_3910, i_3911, i_3912, i_3913, i_3914, i_3915, rfl⟩ | ⟨i_3916, i_3917, i_3918, i_3919, i_3920, i_3921, i_3922, i_3923, i_3924, i_3925, i_3926, i_3927, rfl⟩ | ⟨i_3928, i_3929, i_3930, i_3931, i_3932, i_3933, i_3934, i_3935, i_3936, i_3937, i_3938, i_3939, i_3940, rfl⟩ | ⟨i_3941, i_3942, i_3943, i_3944, i_3945, i_3946, i_3947, i_3948, i_3949, i_3950, i_3951, i_3952, i_3953, i_3954, rfl⟩ | ⟨i_3955, i_3956, i_3957, i_3958, i_3959, i_3960, i_3961, i_3962, i_3963, i_3964, i_3965, i_3966, i_3967, i_3968, i_3969, rfl⟩ | ⟨i_3970, i_3971, i_3972, i_3973, i_3974, i_3975, i_3976, i_3977, i_3978, i_3979, i_3980, i_3981, i_3982, i_3983, i_3984, i_3985, rfl⟩ | ⟨i_3986, i_3987, i_3988, i_3989, i_3990, i_3991, i_3992, i_3993, i_3994, i_3995, i_3996, i_3997, i_3998, i_3999, i_4000, i_4001, i_4002, rfl⟩ | ⟨i_4003, i_4004, i_4005, i_4006, i_4007, i_4008, i_4009, i_4010, i_4011, i_4012, i_4013, i_4014, i_4015, i_4016, i_4017, i_4018, i_4019, i_4020, rfl⟩ | ⟨i_4021, i_4022, i_4023, i_4024, i_4025, i_4026, i_4027, i_4028, i_4029, i_4030, i_4031, i_4032, i_4033, i_4034, i_4035, i_4036, i_4037, i_4038, i_4039, rfl⟩ | ⟨i_4040, i_4041, i_4042, i_4043, i_4044, i_4045, i_4046, i_4047, i_4048, i_4049, i_4050, i_4051, i_4052, i_4053, i_4054, i_4055, i_4056, i_4057, i_4058, i_4059, rfl⟩ | ⟨i_4060, i_4061, i_4062, i_4063, i_4064, i_4065, i_4066, i_4067, i_4068, i_4069, i_4070, i_4071, i_4072, i_4073, i_4074, i_4075, i_4076, i_4077, i_4078, i_4079, i_4080, rfl⟩ | ⟨i_4081, i_4082, i_4083, i_4084, i_4085, i_4086, i_4087, i_4088, i_4089, i_4090, i_4091, i_4092, i_4093, i_4094, i_4095, i_4096, i_4097, i_4098, i_4099, i_4100, i_4101, i_4102, rfl⟩ | ⟨i_4103, i_4104, i_4105, i_4106, i_4107, i_4108, i_4109, i_4110, i_4111, i_4112, i_4113, i_4114, i_4115, i_4116, i_4117, i_4118, i_4119, i_4120, i_4121, i_4122, i_4123, i_4124, i_4125, rfl⟩ | ⟨i_4126, i_4127, i_4128, i_4129, i_4130, i_4131, i_4132, i_4133, i_4134, i_4135, i_4136, i_4137, i_4138, i_4139, i_4140, i_4141, i_4142, i_4143, i_4144, i_4145, i_4146, i_4147, i_4148, i_4149, rfl⟩ | ⟨i_4150, i_4151, i_4152, i_4153, i_4154, i_4155, i_4156, i_4157, i_4158, i_4159, i_4160, i_4161, i_4162, i_4163, i_4164, i_4165, i_4166, i_4167, i_4168, i_4169, i_4170, i_4171, i_4172, i_4173, i_4174, rfl⟩ | ⟨i_4175, i_4176, i_4177, i_4178, i_4179, i_4180, i_4181, i_4182, i_4183, i_4184, i_4185, i_4186, i_4187, i_4188, i_4189, i_4190, i_4191, i_4192, i_4193, i_4194, i_4195, i_4196, i_4197, i_4198, i_4199, rfl⟩
    · exfalso; omega
    · exfalso; omega
    · exfalso; omega
    · exfalso; omega
    · exfalso; omega
    · exfalso; omega
    · exfalso; omega
    · exfalso; omega
    · exfalso; omega
    · exfalso; omega
    · exfalso; omega
    · exfalso; omega
    · exfalso; omega
    · exfalso; omega
    · exfalso; omega
    · exfalso; omega
    · skip
      have hP : va_P g.1 vwCl [] H := hP
      have hD : va_D (fun q : Nat => s.heap.size ≤ q) [] := hD
      refine lv_icmp_eq (tgt := 1054) hx hb dL_law_426 (by decide) (fun _ => ?_) (fun h => absurd h (by decide +kernel))
      exact lc_tail ⟨hx, hb, hml, hr, hlocks, hown, hts, hK, hN, hZ, hX, hbl⟩ hS (lv_sub hl [0, 1, 2, 3] rfl)
    · exfalso; omega
    · exfalso; omega
    · exfalso; omega
    · exfalso; omega
    · exfalso; omega
    · exfalso; omega
    · exfalso; omega
    · exfalso; omega
    · exfalso; omega
  · skip
    have hP : va_P g.1 vwCl [((am 0), .inr (5, [.ref (am 1), .int 0, .ref (am 2), .int 0, .int 0, .ref (am 3), .ref (am 4), .ref (am 5), .ref (am 6), .int 0, .ref (am 7), .ref (am 8), .ref (am 9), .int 0, .ref (am 10), .ref (am 11), .ref (am 12), .ref (am 13), .ref (am 14), .ref (am 15), .ref (am 16), .ref (am 17), .ref (am 18), .ref (am 19), .ref (am 20), .ref (am 21), .ref (am 22)])), ((am 2), .inl (zI g, 60, .inl (fun _ => 0)))] H := hP
    have hD : va_D (fun q : Nat => s.heap.size ≤ q) [((am 0), .inr (5, [.ref (am 1), .int 0, .ref (am 2), .int 0, .int 0, .ref (am 3), .ref (am 4), .ref (am 5), .ref (am 6), .int 0, .ref (am 7), .ref (am 8), .ref (am 9), .int 0, .ref (am 10), .ref (am 11), .ref (am 12), .ref (am 13), .ref (am 14), .ref (am 15), .ref (am 16), .ref (am 17), .ref (am 18), .ref (am 19), .ref (am 20), .ref (am 21), .ref (am 22)])), ((am 2), .inl (zI g, 60, .inl (fun _ => 0)))] := hD
    refine lv_aload_n hx hb dL_law_397 rfl (lv_at hl 2 rfl) ?_
    refine lv_aload_n hx hb dL_law_398 rfl (lv_at hl 0 rfl) ?_
    refine lv_iload_n hx hb dL_law_399 rfl (lv_at hl 3 rfl) ?_
    refine lv_iconst (v := 1) hx hb dL_law_400 (by decide) ?_
    refine lv_iadd hx hb dL_law_401 ?_
    refine lv_topi (nm_r (e' := 1) (by decide +kernel) ?_)
    refine va_sld hx hb hX hbl hbA hS (vp_in_iff.mpr (by decide +kernel)) dL_law_402 ?_
    refine lv_topi (nm_r (e' := (xs 1)) (by rfl) ?_)
    refine lv_i2l (v := (xs 1).toInt64) hx hb dL_law_403 rfl ?_
    refine lv_bipush (v := 32) hx hb dL_law_404 (by decide) ?_
    refine lv_lshl (v := (((xs 1).toInt64) <<< ((32 : Int32).toInt64 &&& 63))) hx hb dL_law_406 rfl ?_
    refine lv_aload_n hx hb dL_law_407 rfl (lv_at hl 0 rfl) ?_
    refine lv_iload_n hx hb dL_law_408 rfl (lv_at hl 3 rfl) ?_
    refine lv_iconst (v := 2) hx hb dL_law_409 (by decide) ?_
    refine lv_iadd hx hb dL_law_410 ?_
    refine lv_topi (nm_r (e' := 2) (by decide +kernel) ?_)
    refine va_sld hx hb hX hbl hbA hS (vp_in_iff.mpr (by decide +kernel)) dL_law_411 ?_
    refine lv_topi (nm_r (e' := (xs 2)) (by rfl) ?_)
    refine lv_i2l (v := (xs 2).toInt64) hx hb dL_law_412 rfl ?_
    refine lv_ldc2 (v := 4294967295) hx hb hown (hts _ m_k_RL_39) dL_law_413 ?_
    refine lv_land hx hb dL_law_416 ?_
    refine lv_lor hx hb dL_law_417 ?_
    refine lv_aload_n hx hb dL_law_418 rfl (lv_at hl 0 rfl) ?_
    refine lv_iload_n hx hb dL_law_419 rfl (lv_at hl 3 rfl) ?_
    refine lv_iconst (v := 3) hx hb dL_law_420 (by decide) ?_
    refine lv_iadd hx hb dL_law_421 ?_
    refine lv_topi (nm_r (e' := 3) (by decide +kernel) ?_)
    refine va_sld hx hb hX hbl hbA hS (vp_in_iff.mpr (by decide +kernel)) dL_law_422 ?_
    refine lv_topi (nm_r (e' := (xs 3)) (by rfl) ?_)
    refine z_calli (wr := []) hP hD hS hA [0, 1] [] (by decide) rfl rfl (by decide) (va_runV (As := [.long ((((xs 1).toInt64) <<< ((32 : Int32).toInt64 &&& 63)) ||| (((xs 2).toInt64) &&& 4294967295)), .int (xs 3)]) (rest := [.int (-1)]) ⟨hx, hb, hml, hown, hts⟩ (kX5_type l g (am 0) (am 1) (am 2) (am 3) (am 4) (am 5) (am 6) (am 7) (am 8) (am 9) (am 10) (am 11) (am 12) (am 13) (am 14) (am 15) (am 16) (am 17) (am 18) (am 19) (am 20) (am 21) (am 22) H.size ((((xs 1).toInt64) <<< ((32 : Int32).toInt64 &&& 63)) ||| (((xs 2).toInt64) &&& 4294967295)) (xs 3)) ⟨callB_of 2 hts (zGood m_o_yX5_type) rfl rfl rfl (hts _ m_z_RX5) (hts _ m_m_RL_45) ⟨by decide +kernel, by decide +kernel, by decide +kernel⟩ ⟨Nat.le_of_ble_eq_true rfl, Nat.le_of_ble_eq_true rfl⟩, hts _ m_i_yX5_type, hts _ m_e_yX5_type⟩ (zPreV hK hN hZ hP hD hS hA [0, 1] (by decide) rfl rfl 5 0 rfl rfl) rfl rfl hl.1 rfl (lv_room (Nat.le_of_ble_eq_true rfl)) dL_law_423 ⟨Nat.le_of_ble_eq_true rfl, Nat.le_of_ble_eq_true rfl⟩) (fun r u H locs hw hP hD hS => ?_)
    rcases hw with ⟨i_4200, rfl⟩ | ⟨i_4201, i_4202, rfl⟩ | ⟨i_4203, i_4204, i_4205, rfl⟩ | ⟨i_4206, i_4207, i_4208, i_4209, rfl⟩ | ⟨i_4210, i_4211, i_4212, i_4213, i_4214, rfl⟩ | ⟨i_4215, i_4216, i_4217, i_4218, i_4219, i_4220, rfl⟩ | ⟨i_4221, i_4222, i_4223, i_4224, i_4225, i_4226, i_4227, rfl⟩ | ⟨i_4228, i_4229, i_4230, i_4231, i_4232, i_4233, i_4234, i_4235, rfl⟩ | ⟨i_4236, i_4237, i_4238, i_4239, i_4240, i_4241, i_4242, i_4243, i_4244, rfl⟩ | ⟨i_4245, i_4246, i_4247, i_4248, i_4249, i_4250, i_4251, i_4252, i_4253, i_4254, rfl⟩ | ⟨i_4255, i_4256, i_4257, i_4258, i_4259, i_4260, i_4261, i_4262, i_4263, i_4264, i_4265, rfl⟩ | ⟨i_4266, i_4267, i_4268, i_4269, i_4270, i_4271, i_4272, i_4273, i_4274, i_4275, i_4276, i_4277, rfl⟩ | ⟨i_4278, i_4279, i_4280, i_4281, i_4282, i_4283, i_4284, i_4285, i_4286, i_4287, i_4288, i_4289, i_4290, rfl⟩ | ⟨i_4291, i_4292, i_4293, i_4294, i_4295, i_4296, i_4297, i_4298, i_4299, i_4300, i_4301, i_4302, i_4303, i_4304, rfl⟩ | ⟨i_4305, i_4306, i_4307, i_4308, i_4309, i_4310, i_4311, i_4312, i_4313, i_4314, i_4315, i_4316, i_4317, i_4318, i_4319, rfl⟩ | ⟨i_4320, i_4321, i_4322, i_4323, i_4324, i_4325, i_4326, i_4327, i_4328, i_4329, i_4330, i_4331, i_4332, i_4333, i_4334, i_4335, rfl⟩ | ⟨i_4336, i_4337, i_4338, i_4339, i_4340, i_4341, i_4342, i_4343, i_4344, i_4345, i_4346, i_4347, i_4348, i_4349, i_4350, i_4351, i_4352, rfl⟩ | ⟨i_4353, i_4354, i_4355, i_4356, i_4357, i_4358, i_4359, i_4360, i_4361, i_4362, i_4363, i_4364, i_4365, i_4366, i_4367, i_4368, i_4369, i_4370, rfl⟩ | ⟨i_4371, i_4372, i_4373, i_4374, i_4375, i_4376, i_4377, i_4378, i_4379, i_4380, i_4381, i_4382, i_4383, i_4384, i_4385, i_4386, i_4387, i_4388, i_4389, rfl⟩ | ⟨i_4390, i_4391, i_4392, i_4393, i_4394, i_4395, i_4396, i_4397, i_4398, i_4399, i_4400, i_4401, i_4402, i_4403, i_4404, i_4405, i_4406, i_4407, i_4408, i_4409, rfl⟩ | ⟨i_4410, i_4411, i_4412, i_4413, i_4414, i_4415, i_4416, i_4417, i_4418, i_4419, i_4420, i_4421, i_4422, i_4423, i_4424, i_4425, i_4426, i_4427, i_4428, i_4429, i_4430, rfl⟩ | ⟨i_4431, i_4432, i_4433, i_4434, i_4435, i_4436, i_4437, i_4438, i_4439, i_4440, i_4441, i_4442, i_4443, i_4444, i_4445, i_4446, i_4447, i_4448, i_4449, i_4450, i_4451, i_4452, rfl⟩ | ⟨i_4453, i_4454, i_4455, i_4456, i_4457, i_4458, i_4459, i_4460, i_4461, i_4462, i_4463, i_4464, i_4465, i_4466, i_4467, i_4468, i_4469, i_4470, i_4471, i_4472, i_4473, i_4474, i_4475, rfl⟩ | ⟨i_4476, i_4477, i_4478, i_4479, i_4480, i_4481, i_4482, i_4483, i_4484, i_4485, i_4486, i_4487, i_4488, i_4489, i_4490, i_4491, i_4492, i_4493, i_4494, i_4495, i_4496, i_4497, i_4498, i_4499, rfl⟩ | ⟨i_4500, i_4501, i_4502, i_4503, i_4504, i_4505, i_4506, i_4507, i_4508, i_4509, i_4510, i_4511, i_4512, i_4513, i_4514, i_4515, i_4516, i_4517, i_4518, i_4519, i_4520, i_4521, i_4522, i_4523, i_4524, rfl⟩ | ⟨i_4525, i_4526, i_4527, i_4528, i_4529, i_4530, i_4531, i_4532, i_4533, i_4534, i_4535, i_4536, i_4537, i_4538, i_4539, i_4540, i_4541, i_4542, i_4543, i_4544, i_4545, i_4546, i_4547, i_4548, i_4549, rfl⟩
    · exfalso; omega
    · exfalso; omega
    · exfalso; omega
    · exfalso; omega
    · exfalso; omega
    · exfalso; omega
    · exfalso; omega
    · exfalso; omega
    · exfalso; omega
    · exfalso; omega
    · exfalso; omega
    · exfalso; omega
    · exfalso; omega
    · exfalso; omega
    · exfalso; omega
    · exfalso; omega
    · exfalso; omega
    · skip
      have hP : va_P g.1 vwCl [] H := hP
      have hD : va_D (fun q : Nat => s.heap.size ≤ q) [] := hD
      refine lv_icmp_eq (tgt := 1054) hx hb dL_law_426 (by decide) (fun _ => ?_) (fun h => absurd h (by decide +kernel))
      exact lc_tail ⟨hx, hb, hml, hr, hlocks, hown, hts, hK, hN, hZ, hX, hbl⟩ hS (lv_sub hl [0, 1, 2, 3] rfl)
    · exfalso; omega
    · exfalso; omega
    · exfalso; omega
    · exfalso; omega
    · exfalso; omega
    · exfalso; omega
    · exfalso; omega
    · exfalso; omega
  · skip
    have hP : va_P g.1 vwCl [((am 0), .inr (5, [.ref (am 1), .int 0, .ref (am 2), .int 0, .int 0, .ref (am 3), .ref (am 4), .ref (am 5), .ref (am 6), .int 0, .ref (am 7), .ref (am 8), .ref (am 9), .int 0, .ref (am 10), .ref (am 11), .ref (am 12), .ref (am 13), .ref (am 14), .ref (am 15), .ref (am 16), .ref (am 17), .ref (am 18), .ref (am 19), .ref (am 20), .ref (am 21), .ref (am 22)])), ((am 2), .inl (zI g, 60, .inl (fun _ => 0)))] H := hP
    have hD : va_D (fun q : Nat => s.heap.size ≤ q) [((am 0), .inr (5, [.ref (am 1), .int 0, .ref (am 2), .int 0, .int 0, .ref (am 3), .ref (am 4), .ref (am 5), .ref (am 6), .int 0, .ref (am 7), .ref (am 8), .ref (am 9), .int 0, .ref (am 10), .ref (am 11), .ref (am 12), .ref (am 13), .ref (am 14), .ref (am 15), .ref (am 16), .ref (am 17), .ref (am 18), .ref (am 19), .ref (am 20), .ref (am 21), .ref (am 22)])), ((am 2), .inl (zI g, 60, .inl (fun _ => 0)))] := hD
    refine lv_aload_n hx hb dL_law_397 rfl (lv_at hl 2 rfl) ?_
    refine lv_aload_n hx hb dL_law_398 rfl (lv_at hl 0 rfl) ?_
    refine lv_iload_n hx hb dL_law_399 rfl (lv_at hl 3 rfl) ?_
    refine lv_iconst (v := 1) hx hb dL_law_400 (by decide) ?_
    refine lv_iadd hx hb dL_law_401 ?_
    refine lv_topi (nm_r (e' := 1) (by decide +kernel) ?_)
    refine va_sld hx hb hX hbl hbA hS (vp_in_iff.mpr (by decide +kernel)) dL_law_402 ?_
    refine lv_topi (nm_r (e' := (xs 1)) (by rfl) ?_)
    refine lv_i2l (v := (xs 1).toInt64) hx hb dL_law_403 rfl ?_
    refine lv_bipush (v := 32) hx hb dL_law_404 (by decide) ?_
    refine lv_lshl (v := (((xs 1).toInt64) <<< ((32 : Int32).toInt64 &&& 63))) hx hb dL_law_406 rfl ?_
    refine lv_aload_n hx hb dL_law_407 rfl (lv_at hl 0 rfl) ?_
    refine lv_iload_n hx hb dL_law_408 rfl (lv_at hl 3 rfl) ?_
    refine lv_iconst (v := 2) hx hb dL_law_409 (by decide) ?_
    refine lv_iadd hx hb dL_law_410 ?_
    refine lv_topi (nm_r (e' := 2) (by decide +kernel) ?_)
    refine va_sld hx hb hX hbl hbA hS (vp_in_iff.mpr (by decide +kernel)) dL_law_411 ?_
    refine lv_topi (nm_r (e' := (xs 2)) (by rfl) ?_)
    refine lv_i2l (v := (xs 2).toInt64) hx hb dL_law_412 rfl ?_
    refine lv_ldc2 (v := 4294967295) hx hb hown (hts _ m_k_RL_39) dL_law_413 ?_
    refine lv_land hx hb dL_law_416 ?_
    refine lv_lor hx hb dL_law_417 ?_
    refine lv_aload_n hx hb dL_law_418 rfl (lv_at hl 0 rfl) ?_
    refine lv_iload_n hx hb dL_law_419 rfl (lv_at hl 3 rfl) ?_
    refine lv_iconst (v := 3) hx hb dL_law_420 (by decide) ?_
    refine lv_iadd hx hb dL_law_421 ?_
    refine lv_topi (nm_r (e' := 3) (by decide +kernel) ?_)
    refine va_sld hx hb hX hbl hbA hS (vp_in_iff.mpr (by decide +kernel)) dL_law_422 ?_
    refine lv_topi (nm_r (e' := (xs 3)) (by rfl) ?_)
    refine z_calli (wr := []) hP hD hS hA [0, 1] [] (by decide) rfl rfl (by decide) (va_runV (As := [.long ((((xs 1).toInt64) <<< ((32 : Int32).toInt64 &&& 63)) ||| (((xs 2).toInt64) &&& 4294967295)), .int (xs 3)]) (rest := [.int 6]) ⟨hx, hb, hml, hown, hts⟩ (kX5_type l g (am 0) (am 1) (am 2) (am 3) (am 4) (am 5) (am 6) (am 7) (am 8) (am 9) (am 10) (am 11) (am 12) (am 13) (am 14) (am 15) (am 16) (am 17) (am 18) (am 19) (am 20) (am 21) (am 22) H.size ((((xs 1).toInt64) <<< ((32 : Int32).toInt64 &&& 63)) ||| (((xs 2).toInt64) &&& 4294967295)) (xs 3)) ⟨callB_of 2 hts (zGood m_o_yX5_type) rfl rfl rfl (hts _ m_z_RX5) (hts _ m_m_RL_45) ⟨by decide +kernel, by decide +kernel, by decide +kernel⟩ ⟨Nat.le_of_ble_eq_true rfl, Nat.le_of_ble_eq_true rfl⟩, hts _ m_i_yX5_type, hts _ m_e_yX5_type⟩ (zPreV hK hN hZ hP hD hS hA [0, 1] (by decide) rfl rfl 5 0 rfl rfl) rfl rfl hl.1 rfl (lv_room (Nat.le_of_ble_eq_true rfl)) dL_law_423 ⟨Nat.le_of_ble_eq_true rfl, Nat.le_of_ble_eq_true rfl⟩) (fun r u H locs hw hP hD hS => ?_)
    rcases hw with ⟨i_4550, rfl⟩ | ⟨i_4551, i_4552, rfl⟩ | ⟨i_4553, i_4554, i_4555, rfl⟩ | ⟨i_4556, i_4557, i_4558, i_4559, rfl⟩ | ⟨i_4560, i_4561, i_4562, i_4563, i_4564, rfl⟩ | ⟨i_4565, i_4566, i_4567, i_4568, i_4569, i_4570, rfl⟩ | ⟨i_4571, i_4572, i_4573, i_4574, i_4575, i_4576, i_4577, rfl⟩ | ⟨i_4578, i_4579, i_4580, i_4581, i_4582, i_4583, i_4584, i_4585, rfl⟩ | ⟨i_4586, i_4587, i_4588, i_4589, i_4590, i_4591, i_4592, i_4593, i_4594, rfl⟩ | ⟨i_4595, i_4596, i_4597, i_4598, i_4599, i_4600, i_4601, i_4602, i_4603, i_4604, rfl⟩ | ⟨i_4605, i_4606, i_4607, i_4608, i_4609, i_4610, i_4611, i_4612, i_4613, i_4614, i_4615, rfl⟩ | ⟨i_4616, i_4617, i_4618, i_4619, i_4620, i_4621, i_4622, i_4623, i_4624, i_4625, i_4626, i_4627, rfl⟩ | ⟨i_4628, i_4629, i_4630, i_4631, i_4632, i_4633, i_4634, i_4635, i_4636, i_4637, i_4638, i_4639, i_4640, rfl⟩ | ⟨i_4641, i_4642, i_4643, i_4644, i_4645, i_4646, i_4647, i_4648, i_4649, i_4650, i_4651, i_4652, i_4653, i_4654, rfl⟩ | ⟨i_4655, i_4656, i_4657, i_4658, i_4659, i_4660, i_4661, i_4662, i_4663, i_4664, i_4665, i_4666, i_4667, i_4668, i_4669, rfl⟩ | ⟨i_4670, i_4671, i_4672, i_4673, i_4674, i_4675, i_4676, i_4677, i_4678, i_4679, i_4680, i_4681, i_4682, i_4683, i_4684, i_4685, rfl⟩ | ⟨i_4686, i_4687, i_4688, i_4689, i_4690, i_4691, i_4692, i_4693, i_4694, i_4695, i_4696, i_4697, i_4698, i_4699, i_4700, i_4701, i_4702, rfl⟩ | ⟨i_4703, i_4704, i_4705, i_4706, i_4707, i_4708, i_4709, i_4710, i_4711, i_4712, i_4713, i_4714, i_4715, i_4716, i_4717, i_4718, i_4719, i_4720, rfl⟩ | ⟨i_4721, i_4722, i_4723, i_4724, i_4725, i_4726, i_4727, i_4728, i_4729, i_4730, i_4731, i_4732, i_4733, i_4734, i_4735, i_4736, i_4737, i_4738, i_4739, rfl⟩ | ⟨i_4740, i_4741, i_4742, i_4743, i_4744, i_4745, i_4746, i_4747, i_4748, i_4749, i_4750, i_4751, i_4752, i_4753, i_4754, i_4755, i_4756, i_4757, i_4758, i_4759, rfl⟩ | ⟨i_4760, i_4761, i_4762, i_4763, i_4764, i_4765, i_4766, i_4767, i_4768, i_4769, i_4770, i_4771, i_4772, i_4773, i_4774, i_4775, i_4776, i_4777, i_4778, i_4779, i_4780, rfl⟩ | ⟨i_4781, i_4782, i_4783, i_4784, i_4785, i_4786, i_4787, i_4788, i_4789, i_4790, i_4791, i_4792, i_4793, i_4794, i_4795, i_4796, i_4797, i_4798, i_4799, i_4800, i_4801, i_4802, rfl⟩ | ⟨i_4803, i_4804, i_4805, i_4806, i_4807, i_4808, i_4809, i_4810, i_4811, i_4812, i_4813, i_4814, i_4815, i_4816, i_4817, i_4818, i_4819, i_4820, i_4821, i_4822, i_4823, i_4824, i_4825, rfl⟩ | ⟨i_4826, i_4827, i_4828, i_4829, i_4830, i_4831, i_4832, i_4833, i_4834, i_4835, i_4836, i_4837, i_4838, i_4839, i_4840, i_4841, i_4842, i_4843, i_4844, i_4845, i_4846, i_4847, i_4848, i_4849, rfl⟩ | ⟨i_4850, i_4851, i_4852, i_4853, i_4854, i_4855, i_4856, i_4857, i_4858, i_4859, i_4860, i_4861, i_4862, i_4863, i_4864, i_4865, i_4866, i_4867, i_4868, i_4869, i_4870, i_4871, i_4872, i_4873, i_4874, rfl⟩ | ⟨i_4875, i_4876, i_4877, i_4878, i_4879, i_4880, i_4881, i_4882, i_4883, i_4884, i_4885, i_4886, i_4887, i_4888, i_4889, i_4890, i_4891, i_4892, i_4893, i_4894, i_4895, i_4896, i_4897, i_4898, i_4899, rfl⟩
    · exfalso; omega
    · exfalso; omega
    · exfalso; omega
    · exfalso; omega
    · exfalso; omega
    · exfalso; omega
    · exfalso; omega
    · exfalso; omega
    · exfalso; omega
    · exfalso; omega
    · exfalso; omega
    · exfalso; omega
    · exfalso; omega
    · exfalso; omega
    · exfalso; omega
    · exfalso; omega
    · exfalso; omega
    · exfalso; omega
    · exfalso; omega
    · skip
      have hP : va_P g.1 vwCl [] H := hP
      have hD : va_D (fun q : Nat => s.heap.size ≤ q) [] := hD
      refine lv_icmp_eq (tgt := 1054) hx hb dL_law_426 (by decide) (fun _ => ?_) (fun h => absurd h (by decide +kernel))
      exact lc_tail ⟨hx, hb, hml, hr, hlocks, hown, hts, hK, hN, hZ, hX, hbl⟩ hS (lv_sub hl [0, 1, 2, 3] rfl)
    · exfalso; omega
    · exfalso; omega
    · exfalso; omega
    · exfalso; omega
    · exfalso; omega
    · exfalso; omega
  · skip
    have hP : va_P g.1 vwCl [((am 0), .inr (5, [.ref (am 1), .int 0, .ref (am 2), .int 0, .int 0, .ref (am 3), .ref (am 4), .ref (am 5), .ref (am 6), .int 0, .ref (am 7), .ref (am 8), .ref (am 9), .int 0, .ref (am 10), .ref (am 11), .ref (am 12), .ref (am 13), .ref (am 14), .ref (am 15), .ref (am 16), .ref (am 17), .ref (am 18), .ref (am 19), .ref (am 20), .ref (am 21), .ref (am 22)])), ((am 2), .inl (zI g, 60, .inl (fun _ => 0)))] H := hP
    have hD : va_D (fun q : Nat => s.heap.size ≤ q) [((am 0), .inr (5, [.ref (am 1), .int 0, .ref (am 2), .int 0, .int 0, .ref (am 3), .ref (am 4), .ref (am 5), .ref (am 6), .int 0, .ref (am 7), .ref (am 8), .ref (am 9), .int 0, .ref (am 10), .ref (am 11), .ref (am 12), .ref (am 13), .ref (am 14), .ref (am 15), .ref (am 16), .ref (am 17), .ref (am 18), .ref (am 19), .ref (am 20), .ref (am 21), .ref (am 22)])), ((am 2), .inl (zI g, 60, .inl (fun _ => 0)))] := hD
    refine lv_aload_n hx hb dL_law_397 rfl (lv_at hl 2 rfl) ?_
    refine lv_aload_n hx hb dL_law_398 rfl (lv_at hl 0 rfl) ?_
    refine lv_iload_n hx hb dL_law_399 rfl (lv_at hl 3 rfl) ?_
    refine lv_iconst (v := 1) hx hb dL_law_400 (by decide) ?_
    refine lv_iadd hx hb dL_law_401 ?_
    refine lv_topi (nm_r (e' := 1) (by decide +kernel) ?_)
    refine va_sld hx hb hX hbl hbA hS (vp_in_iff.mpr (by decide +kernel)) dL_law_402 ?_
    refine lv_topi (nm_r (e' := (xs 1)) (by rfl) ?_)
    refine lv_i2l (v := (xs 1).toInt64) hx hb dL_law_403 rfl ?_
    refine lv_bipush (v := 32) hx hb dL_law_404 (by decide) ?_
    refine lv_lshl (v := (((xs 1).toInt64) <<< ((32 : Int32).toInt64 &&& 63))) hx hb dL_law_406 rfl ?_
    refine lv_aload_n hx hb dL_law_407 rfl (lv_at hl 0 rfl) ?_
    refine lv_iload_n hx hb dL_law_408 rfl (lv_at hl 3 rfl) ?_
    refine lv_iconst (v := 2) hx hb dL_law_409 (by decide) ?_
    refine lv_iadd hx hb dL_law_410 ?_
    refine lv_topi (nm_r (e' := 2) (by decide +kernel) ?_)
    refine va_sld hx hb hX hbl hbA hS (vp_in_iff.mpr (by decide +kernel)) dL_law_411 ?_
    refine lv_topi (nm_r (e' := (xs 2)) (by rfl) ?_)
    refine lv_i2l (v := (xs 2).toInt64) hx hb dL_law_412 rfl ?_
    refine lv_ldc2 (v := 4294967295) hx hb hown (hts _ m_k_RL_39) dL_law_413 ?_
    refine lv_land hx hb dL_law_416 ?_
    refine lv_lor hx hb dL_law_417 ?_
    refine lv_aload_n hx hb dL_law_418 rfl (lv_at hl 0 rfl) ?_
    refine lv_iload_n hx hb dL_law_419 rfl (lv_at hl 3 rfl) ?_
    refine lv_iconst (v := 3) hx hb dL_law_420 (by decide) ?_
    refine lv_iadd hx hb dL_law_421 ?_
    refine lv_topi (nm_r (e' := 3) (by decide +kernel) ?_)
    refine va_sld hx hb hX hbl hbA hS (vp_in_iff.mpr (by decide +kernel)) dL_law_422 ?_
    refine lv_topi (nm_r (e' := (xs 3)) (by rfl) ?_)
    refine z_calli (wr := []) hP hD hS hA [0, 1] [] (by decide) rfl rfl (by decide) (va_runV (As := [.long ((((xs 1).toInt64) <<< ((32 : Int32).toInt64 &&& 63)) ||| (((xs 2).toInt64) &&& 4294967295)), .int (xs 3)]) (rest := [.int (-1)]) ⟨hx, hb, hml, hown, hts⟩ (kX5_type l g (am 0) (am 1) (am 2) (am 3) (am 4) (am 5) (am 6) (am 7) (am 8) (am 9) (am 10) (am 11) (am 12) (am 13) (am 14) (am 15) (am 16) (am 17) (am 18) (am 19) (am 20) (am 21) (am 22) H.size ((((xs 1).toInt64) <<< ((32 : Int32).toInt64 &&& 63)) ||| (((xs 2).toInt64) &&& 4294967295)) (xs 3)) ⟨callB_of 2 hts (zGood m_o_yX5_type) rfl rfl rfl (hts _ m_z_RX5) (hts _ m_m_RL_45) ⟨by decide +kernel, by decide +kernel, by decide +kernel⟩ ⟨Nat.le_of_ble_eq_true rfl, Nat.le_of_ble_eq_true rfl⟩, hts _ m_i_yX5_type, hts _ m_e_yX5_type⟩ (zPreV hK hN hZ hP hD hS hA [0, 1] (by decide) rfl rfl 5 0 rfl rfl) rfl rfl hl.1 rfl (lv_room (Nat.le_of_ble_eq_true rfl)) dL_law_423 ⟨Nat.le_of_ble_eq_true rfl, Nat.le_of_ble_eq_true rfl⟩) (fun r u H locs hw hP hD hS => ?_)
    rcases hw with ⟨i_4900, rfl⟩ | ⟨i_4901, i_4902, rfl⟩ | ⟨i_4903, i_4904, i_4905, rfl⟩ | ⟨i_4906, i_4907, i_4908, i_4909, rfl⟩ | ⟨i_4910, i_4911, i_4912, i_4913, i_4914, rfl⟩ | ⟨i_4915, i_4916, i_4917, i_4918, i_4919, i_4920, rfl⟩ | ⟨i_4921, i_4922, i_4923, i_4924, i_4925, i_4926, i_4927, rfl⟩ | ⟨i_4928, i_4929, i_4930, i_4931, i_4932, i_4933, i_4934, i_4935, rfl⟩ | ⟨i_4936, i_4937, i_4938, i_4939, i_4940, i_4941, i_4942, i_4943, i_4944, rfl⟩ | ⟨i_4945, i_4946, i_4947, i_4948, i_4949, i_4950, i_4951, i_4952, i_4953, i_4954, rfl⟩ | ⟨i_4955, i_4956, i_4957, i_4958, i_4959, i_4960, i_4961, i_4962, i_4963, i_4964, i_4965, rfl⟩ | ⟨i_4966, i_4967, i_4968, i_4969, i_4970, i_4971, i_4972, i_4973, i_4974, i_4975, i_4976, i_4977, rfl⟩ | ⟨i_4978, i_4979, i_4980, i_4981, i_4982, i_4983, i_4984, i_4985, i_4986, i_4987, i_4988, i_4989, i_4990, rfl⟩ | ⟨i_4991, i_4992, i_4993, i_4994, i_4995, i_4996, i_4997, i_4998, i_4999, i_5000, i_5001, i_5002, i_5003, i_5004, rfl⟩ | ⟨i_5005, i_5006, i_5007, i_5008, i_5009, i_5010, i_5011, i_5012, i_5013, i_5014, i_5015, i_5016, i_5017, i_5018, i_5019, rfl⟩ | ⟨i_5020, i_5021, i_5022, i_5023, i_5024, i_5025, i_5026, i_5027, i_5028, i_5029, i_5030, i_5031, i_5032, i_5033, i_5034, i_5035, rfl⟩ | ⟨i_5036, i_5037, i_5038, i_5039, i_5040, i_5041, i_5042, i_5043, i_5044, i_5045, i_5046, i_5047, i_5048, i_5049, i_5050, i_5051, i_5052, rfl⟩ | ⟨i_5053, i_5054, i_5055, i_5056, i_5057, i_5058, i_5059, i_5060, i_5061, i_5062, i_5063, i_5064, i_5065, i_5066, i_5067, i_5068, i_5069, i_5070, rfl⟩ | ⟨i_5071, i_5072, i_5073, i_5074, i_5075, i_5076, i_5077, i_5078, i_5079, i_5080, i_5081, i_5082, i_5083, i_5084, i_5085, i_5086, i_5087, i_5088, i_5089, rfl⟩ | ⟨i_5090, i_5091, i_5092, i_5093, i_5094, i_5095, i_5096, i_5097, i_5098, i_5099, i_5100, i_5101, i_5102, i_5103, i_5104, i_5105, i_5106, i_5107, i_5108, i_5109, rfl⟩ | ⟨i_5110, i_5111, i_5112, i_5113, i_5114, i_5115, i_5116, i_5117, i_5118, i_5119, i_5120, i_5121, i_5122, i_5123, i_5124, i_5125, i_5126, i_5127, i_5128, i_5129, i_5130, rfl⟩ | ⟨i_5131, i_5132, i_5133, i_5134, i_5135, i_5136, i_5137, i_5138, i_5139, i_5140, i_5141, i_5142, i_5143, i_5144, i_5145, i_5146, i_5147, i_5148, i_5149, i_5150, i_5151, i_5152, rfl⟩ | ⟨i_5153, i_5154, i_5155, i_5156, i_5157, i_5158, i_5159, i_5160, i_5161, i_5162, i_5163, i_5164, i_5165, i_5166, i_5167, i_5168, i_5169, i_5170, i_5171, i_5172, i_5173, i_5174, i_5175, rfl⟩ | ⟨i_5176, i_5177, i_5178, i_5179, i_5180, i_5181, i_5182, i_5183, i_5184, i_5185, i_5186, i_5187, i_5188, i_5189, i_5190, i_5191, i_5192, i_5193, i_5194, i_5195, i_5196, i_5197, i_5198, i_5199, rfl⟩ | ⟨i_5200, i_5201, i_5202, i_5203, i_5204, i_5205, i_5206, i_5207, i_5208, i_5209, i_5210, i_5211, i_5212, i_5213, i_5214, i_5215, i_5216, i_5217, i_5218, i_5219, i_5220, i_5221, i_5222, i_5223, i_5224, rfl⟩ | ⟨i_5225, i_5226, i_5227, i_5228, i_5229, i_5230, i_5231, i_5232, i_5233, i_5234, i_5235, i_5236, i_5237, i_5238, i_5239, i_5240, i_5241, i_5242, i_5243, i_5244, i_5245, i_5246, i_5247, i_5248, i_5249, rfl⟩
    · exfalso; omega
    · exfalso; omega
    · exfalso; omega
    · exfalso; omega
    · exfalso; omega
    · exfalso; omega
    · exfalso; omega
    · exfalso; omega
    · exfalso; omega
    · exfalso; omega
    · exfalso; omega
    · exfalso; omega
    · exfalso; omega
    · exfalso; omega
    · exfalso; omega
    · exfalso; omega
    · exfalso; omega
    · exfalso; omega
    · exfalso; omega
    · exfalso; omega
    · skip
      have hP : va_P g.1 vwCl [] H := hP
      have hD : va_D (fun q : Nat => s.heap.size ≤ q) [] := hD
      refine lv_icmp_eq (tgt := 1054) hx hb dL_law_426 (by decide) (fun _ => ?_) (fun h => absurd h (by decide +kernel))
      exact lc_tail ⟨hx, hb, hml, hr, hlocks, hown, hts, hK, hN, hZ, hX, hbl⟩ hS (lv_sub hl [0, 1, 2, 3] rfl)
    · exfalso; omega
    · exfalso; omega
    · exfalso; omega
    · exfalso; omega
    · exfalso; omega
  · skip
    have hP : va_P g.1 vwCl [((am 0), .inr (5, [.ref (am 1), .int 0, .ref (am 2), .int 0, .int 0, .ref (am 3), .ref (am 4), .ref (am 5), .ref (am 6), .int 0, .ref (am 7), .ref (am 8), .ref (am 9), .int 0, .ref (am 10), .ref (am 11), .ref (am 12), .ref (am 13), .ref (am 14), .ref (am 15), .ref (am 16), .ref (am 17), .ref (am 18), .ref (am 19), .ref (am 20), .ref (am 21), .ref (am 22)])), ((am 2), .inl (zI g, 60, .inl (fun _ => 0)))] H := hP
    have hD : va_D (fun q : Nat => s.heap.size ≤ q) [((am 0), .inr (5, [.ref (am 1), .int 0, .ref (am 2), .int 0, .int 0, .ref (am 3), .ref (am 4), .ref (am 5), .ref (am 6), .int 0, .ref (am 7), .ref (am 8), .ref (am 9), .int 0, .ref (am 10), .ref (am 11), .ref (am 12), .ref (am 13), .ref (am 14), .ref (am 15), .ref (am 16), .ref (am 17), .ref (am 18), .ref (am 19), .ref (am 20), .ref (am 21), .ref (am 22)])), ((am 2), .inl (zI g, 60, .inl (fun _ => 0)))] := hD
    refine lv_aload_n hx hb dL_law_397 rfl (lv_at hl 2 rfl) ?_
    refine lv_aload_n hx hb dL_law_398 rfl (lv_at hl 0 rfl) ?_
    refine lv_iload_n hx hb dL_law_399 rfl (lv_at hl 3 rfl) ?_
    refine lv_iconst (v := 1) hx hb dL_law_400 (by decide) ?_
    refine lv_iadd hx hb dL_law_401 ?_
    refine lv_topi (nm_r (e' := 1) (by decide +kernel) ?_)
    refine va_sld hx hb hX hbl hbA hS (vp_in_iff.mpr (by decide +kernel)) dL_law_402 ?_
    refine lv_topi (nm_r (e' := (xs 1)) (by rfl) ?_)
    refine lv_i2l (v := (xs 1).toInt64) hx hb dL_law_403 rfl ?_
    refine lv_bipush (v := 32) hx hb dL_law_404 (by decide) ?_
    refine lv_lshl (v := (((xs 1).toInt64) <<< ((32 : Int32).toInt64 &&& 63))) hx hb dL_law_406 rfl ?_
    refine lv_aload_n hx hb dL_law_407 rfl (lv_at hl 0 rfl) ?_
    refine lv_iload_n hx hb dL_law_408 rfl (lv_at hl 3 rfl) ?_
    refine lv_iconst (v := 2) hx hb dL_law_409 (by decide) ?_
    refine lv_iadd hx hb dL_law_410 ?_
    refine lv_topi (nm_r (e' := 2) (by decide +kernel) ?_)
    refine va_sld hx hb hX hbl hbA hS (vp_in_iff.mpr (by decide +kernel)) dL_law_411 ?_
    refine lv_topi (nm_r (e' := (xs 2)) (by rfl) ?_)
    refine lv_i2l (v := (xs 2).toInt64) hx hb dL_law_412 rfl ?_
    refine lv_ldc2 (v := 4294967295) hx hb hown (hts _ m_k_RL_39) dL_law_413 ?_
    refine lv_land hx hb dL_law_416 ?_
    refine lv_lor hx hb dL_law_417 ?_
    refine lv_aload_n hx hb dL_law_418 rfl (lv_at hl 0 rfl) ?_
    refine lv_iload_n hx hb dL_law_419 rfl (lv_at hl 3 rfl) ?_
    refine lv_iconst (v := 3) hx hb dL_law_420 (by decide) ?_
    refine lv_iadd hx hb dL_law_421 ?_
    refine lv_topi (nm_r (e' := 3) (by decide +kernel) ?_)
    refine va_sld hx hb hX hbl hbA hS (vp_in_iff.mpr (by decide +kernel)) dL_law_422 ?_
    refine lv_topi (nm_r (e' := (xs 3)) (by rfl) ?_)
    refine z_calli (wr := []) hP hD hS hA [0, 1] [] (by decide) rfl rfl (by decide) (va_runV (As := [.long ((((xs 1).toInt64) <<< ((32 : Int32).toInt64 &&& 63)) ||| (((xs 2).toInt64) &&& 4294967295)), .int (xs 3)]) (rest := [.int 7]) ⟨hx, hb, hml, hown, hts⟩ (kX5_type l g (am 0) (am 1) (am 2) (am 3) (am 4) (am 5) (am 6) (am 7) (am 8) (am 9) (am 10) (am 11) (am 12) (am 13) (am 14) (am 15) (am 16) (am 17) (am 18) (am 19) (am 20) (am 21) (am 22) H.size ((((xs 1).toInt64) <<< ((32 : Int32).toInt64 &&& 63)) ||| (((xs 2).toInt64) &&& 4294967295)) (xs 3)) ⟨callB_of 2 hts (zGood m_o_yX5_type) rfl rfl rfl (hts _ m_z_RX5) (hts _ m_m_RL_45) ⟨by decide +kernel, by decide +kernel, by decide +kernel⟩ ⟨Nat.le_of_ble_eq_true rfl, Nat.le_of_ble_eq_true rfl⟩, hts _ m_i_yX5_type, hts _ m_e_yX5_type⟩ (zPreV hK hN hZ hP hD hS hA [0, 1] (by decide) rfl rfl 5 0 rfl rfl) rfl rfl hl.1 rfl (lv_room (Nat.le_of_ble_eq_true rfl)) dL_law_423 ⟨Nat.le_of_ble_eq_true rfl, Nat.le_of_ble_eq_true rfl⟩) (fun r u H locs hw hP hD hS => ?_)
    rcases hw with ⟨i_5250, rfl⟩ | ⟨i_5251, i_5252, rfl⟩ | ⟨i_5253, i_5254, i_5255, rfl⟩ | ⟨i_5256, i_5257, i_5258, i_5259, rfl⟩ | ⟨i_5260, i_5261, i_5262, i_5263, i_5264, rfl⟩ | ⟨i_5265, i_5266, i_5267, i_5268, i_5269, i_5270, rfl⟩ | ⟨i_5271, i_5272, i_5273, i_5274, i_5275, i_5276, i_5277, rfl⟩ | ⟨i_5278, i_5279, i_5280, i_5281, i_5282, i_5283, i_5284, i_5285, rfl⟩ | ⟨i_5286, i_5287, i_5288, i_5289, i_5290, i_5291, i_5292, i_5293, i_5294, rfl⟩ | ⟨i_5295, i_5296, i_5297, i_5298, i_5299, i_5300, i_5301, i_5302, i_5303, i_5304, rfl⟩ | ⟨i_5305, i_5306, i_5307, i_5308, i_5309, i_5310, i_5311, i_5312, i_5313, i_5314, i_5315, rfl⟩ | ⟨i_5316, i_5317, i_5318, i_5319, i_5320, i_5321, i_5322, i_5323, i_5324, i_5325, i_5326, i_5327, rfl⟩ | ⟨i_5328, i_5329, i_5330, i_5331, i_5332, i_5333, i_5334, i_5335, i_5336, i_5337, i_5338, i_5339, i_5340, rfl⟩ | ⟨i_5341, i_5342, i_5343, i_5344, i_5345, i_5346, i_5347, i_5348, i_5349, i_5350, i_5351, i_5352, i_5353, i_5354, rfl⟩ | ⟨i_5355, i_5356, i_5357, i_5358, i_5359, i_5360, i_5361, i_5362, i_5363, i_5364, i_5365, i_5366, i_5367, i_5368, i_5369, rfl⟩ | ⟨i_5370, i_5371, i_5372, i_5373, i_5374, i_5375, i_5376, i_5377, i_5378, i_5379, i_5380, i_5381, i_5382, i_5383, i_5384, i_5385, rfl⟩ | ⟨i_5386, i_5387, i_5388, i_5389, i_5390, i_5391, i_5392, i_5393, i_5394, i_5395, i_5396, i_5397, i_5398, i_5399, i_5400, i_5401, i_5402, rfl⟩ | ⟨i_5403, i_5404, i_5405, i_5406, i_5407, i_5408, i_5409, i_5410, i_5411, i_5412, i_5413, i_5414, i_5415, i_5416, i_5417, i_5418, i_5419, i_5420, rfl⟩ | ⟨i_5421, i_5422, i_5423, i_5424, i_5425, i_5426, i_5427, i_5428, i_5429, i_5430, i_5431, i_5432, i_5433, i_5434, i_5435, i_5436, i_5437, i_5438, i_5439, rfl⟩ | ⟨i_5440, i_5441, i_5442, i_5443, i_5444, i_5445, i_5446, i_5447, i_5448, i_5449, i_5450, i_5451, i_5452, i_5453, i_5454, i_5455, i_5456, i_5457, i_5458, i_5459, rfl⟩ | ⟨i_5460, i_5461, i_5462, i_5463, i_5464, i_5465, i_5466, i_5467, i_5468, i_5469, i_5470, i_5471, i_5472, i_5473, i_5474, i_5475, i_5476, i_5477, i_5478, i_5479, i_5480, rfl⟩ | ⟨i_5481, i_5482, i_5483, i_5484, i_5485, i_5486, i_5487, i_5488, i_5489, i_5490, i_5491, i_5492, i_5493, i_5494, i_5495, i_5496, i_5497, i_5498, i_5499, i_5500, i_5501, i_5502, rfl⟩ | ⟨i_5503, i_5504, i_5505, i_5506, i_5507, i_5508, i_5509, i_5510, i_5511, i_5512, i_5513, i_5514, i_5515, i_5516, i_5517, i_5518, i_5519, i_5520, i_5521, i_5522, i_5523, i_5524, i_5525, rfl⟩ | ⟨i_5526, i_5527, i_5528, i_5529, i_5530, i_5531, i_5532, i_5533, i_5534, i_5535, i_5536, i_5537, i_5538, i_5539, i_5540, i_5541, i_5542, i_5543, i_5544, i_5545, i_5546, i_5547, i_5548, i_5549, rfl⟩ | ⟨i_5550, i_5551, i_5552, i_5553, i_5554, i_5555, i_5556, i_5557, i_5558, i_5559, i_5560, i_5561, i_5562, i_5563, i_5564, i_5565, i_5566, i_5567, i_5568, i_5569, i_5570, i_5571, i_5572, i_5573, i_5574, rfl⟩ | ⟨i_5575, i_5576, i_5577, i_5578, i_5579, i_5580, i_5581, i_5582, i_5583, i_5584, i_5585, i_5586, i_5587, i_5588, i_5589, i_5590, i_5591, i_5592, i_5593, i_5594, i_5595, i_5596, i_5597, i_5598, i_5599, rfl⟩
    · exfalso; omega
    · exfalso; omega
    · exfalso; omega
    · exfalso; omega
    · exfalso; omega
    · exfalso; omega
    · exfalso; omega
    · exfalso; omega
    · exfalso; omega
    · exfalso; omega
    · exfalso; omega
    · exfalso; omega
    · exfalso; omega
    · exfalso; omega
    · exfalso; omega
    · exfalso; omega
    · exfalso; omega
    · exfalso; omega
    · exfalso; omega
    · exfalso; omega
    · exfalso; omega
    · exfalso; omega
    · skip
      have hP : va_P g.1 vwCl [] H := hP
      have hD : va_D (fun q : Nat => s.heap.size ≤ q) [] := hD
      refine lv_icmp_eq (tgt := 1054) hx hb dL_law_426 (by decide) (fun _ => ?_) (fun h => absurd h (by decide +kernel))
      exact lc_tail ⟨hx, hb, hml, hr, hlocks, hown, hts, hK, hN, hZ, hX, hbl⟩ hS (lv_sub hl [0, 1, 2, 3] rfl)
    · exfalso; omega
    · exfalso; omega
    · exfalso; omega
  · skip
    have hP : va_P g.1 vwCl [((am 0), .inr (5, [.ref (am 1), .int 0, .ref (am 2), .int 0, .int 0, .ref (am 3), .ref (am 4), .ref (am 5), .ref (am 6), .int 0, .ref (am 7), .ref (am 8), .ref (am 9), .int 0, .ref (am 10), .ref (am 11), .ref (am 12), .ref (am 13), .ref (am 14), .ref (am 15), .ref (am 16), .ref (am 17), .ref (am 18), .ref (am 19), .ref (am 20), .ref (am 21), .ref (am 22)])), ((am 2), .inl (zI g, 60, .inl (fun _ => 0)))] H := hP
    have hD : va_D (fun q : Nat => s.heap.size ≤ q) [((am 0), .inr (5, [.ref (am 1), .int 0, .ref (am 2), .int 0, .int 0, .ref (am 3), .ref (am 4), .ref (am 5), .ref (am 6), .int 0, .ref (am 7), .ref (am 8), .ref (am 9), .int 0, .ref (am 10), .ref (am 11), .ref (am 12), .ref (am 13), .ref (am 14), .ref (am 15), .ref (am 16), .ref (am 17), .ref (am 18), .ref (am 19), .ref (am 20), .ref (am 21), .ref (am 22)])), ((am 2), .inl (zI g, 60, .inl (fun _ => 0)))] := hD
    refine lv_aload_n hx hb dL_law_397 rfl (lv_at hl 2 rfl) ?_
    refine lv_aload_n hx hb dL_law_398 rfl (lv_at hl 0 rfl) ?_
    refine lv_iload_n hx hb dL_law_399 rfl (lv_at hl 3 rfl) ?_
    refine lv_iconst (v := 1) hx hb dL_law_400 (by decide) ?_
    refine lv_iadd hx hb dL_law_401 ?_
    refine lv_topi (nm_r (e' := 1) (by decide +kernel) ?_)
    refine va_sld hx hb hX hbl hbA hS (vp_in_iff.mpr (by decide +kernel)) dL_law_402 ?_
    refine lv_topi (nm_r (e' := (xs 1)) (by rfl) ?_)
    refine lv_i2l (v := (xs 1).toInt64) hx hb dL_law_403 rfl ?_
    refine lv_bipush (v := 32) hx hb dL_law_404 (by decide) ?_
    refine lv_lshl (v := (((xs 1).toInt64) <<< ((32 : Int32).toInt64 &&& 63))) hx hb dL_law_406 rfl ?_
    refine lv_aload_n hx hb dL_law_407 rfl (lv_at hl 0 rfl) ?_
    refine lv_iload_n hx hb dL_law_408 rfl (lv_at hl 3 rfl) ?_
    refine lv_iconst (v := 2) hx hb dL_law_409 (by decide) ?_
    refine lv_iadd hx hb dL_law_410 ?_
    refine lv_topi (nm_r (e' := 2) (by decide +kernel) ?_)
    refine va_sld hx hb hX hbl hbA hS (vp_in_iff.mpr (by decide +kernel)) dL_law_411 ?_
    refine lv_topi (nm_r (e' := (xs 2)) (by rfl) ?_)
    refine lv_i2l (v := (xs 2).toInt64) hx hb dL_law_412 rfl ?_
    refine lv_ldc2 (v := 4294967295) hx hb hown (hts _ m_k_RL_39) dL_law_413 ?_
    refine lv_land hx hb dL_law_416 ?_
    refine lv_lor hx hb dL_law_417 ?_
    refine lv_aload_n hx hb dL_law_418 rfl (lv_at hl 0 rfl) ?_
    refine lv_iload_n hx hb dL_law_419 rfl (lv_at hl 3 rfl) ?_
    refine lv_iconst (v := 3) hx hb dL_law_420 (by decide) ?_
    refine lv_iadd hx hb dL_law_421 ?_
    refine lv_topi (nm_r (e' := 3) (by decide +kernel) ?_)
    refine va_sld hx hb hX hbl hbA hS (vp_in_iff.mpr (by decide +kernel)) dL_law_422 ?_
    refine lv_topi (nm_r (e' := (xs 3)) (by rfl) ?_)
    refine z_calli (wr := []) hP hD hS hA [0, 1] [] (by decide) rfl rfl (by decide) (va_runV (As := [.long ((((xs 1).toInt64) <<< ((32 : Int32).toInt64 &&& 63)) ||| (((xs 2).toInt64) &&& 4294967295)), .int (xs 3)]) (rest := [.int (-1)]) ⟨hx, hb, hml, hown, hts⟩ (kX5_type l g (am 0) (am 1) (am 2) (am 3) (am 4) (am 5) (am 6) (am 7) (am 8) (am 9) (am 10) (am 11) (am 12) (am 13) (am 14) (am 15) (am 16) (am 17) (am 18) (am 19) (am 20) (am 21) (am 22) H.size ((((xs 1).toInt64) <<< ((32 : Int32).toInt64 &&& 63)) ||| (((xs 2).toInt64) &&& 4294967295)) (xs 3)) ⟨callB_of 2 hts (zGood m_o_yX5_type) rfl rfl rfl (hts _ m_z_RX5) (hts _ m_m_RL_45) ⟨by decide +kernel, by decide +kernel, by decide +kernel⟩ ⟨Nat.le_of_ble_eq_true rfl, Nat.le_of_ble_eq_true rfl⟩, hts _ m_i_yX5_type, hts _ m_e_yX5_type⟩ (zPreV hK hN hZ hP hD hS hA [0, 1] (by decide) rfl rfl 5 0 rfl rfl) rfl rfl hl.1 rfl (lv_room (Nat.le_of_ble_eq_true rfl)) dL_law_423 ⟨Nat.le_of_ble_eq_true rfl, Nat.le_of_ble_eq_true rfl⟩) (fun r u H locs hw hP hD hS => ?_)
    rcases hw with ⟨i_5600, rfl⟩ | ⟨i_5601, i_5602, rfl⟩ | ⟨i_5603, i_5604, i_5605, rfl⟩ | ⟨i_5606, i_5607, i_5608, i_5609, rfl⟩ | ⟨i_5610, i_5611, i_5612, i_5613, i_5614, rfl⟩ | ⟨i_5615, i_5616, i_5617, i_5618, i_5619, i_5620, rfl⟩ | ⟨i_5621, i_5622, i_5623, i_5624, i_5625, i_5626, i_5627, rfl⟩ | ⟨i_5628, i_5629, i_5630, i_5631, i_5632, i_5633, i_5634, i_5635, rfl⟩ | ⟨i_5636, i_5637, i_5638, i_5639, i_5640, i_5641, i_5642, i_5643, i_5644, rfl⟩ | ⟨i_5645, i_5646, i_5647, i_5648, i_5649, i_5650, i_5651, i_5652, i_5653, i_5654, rfl⟩ | ⟨i_5655, i_5656, i_5657, i_5658, i_5659, i_5660, i_5661, i_5662, i_5663, i_5664, i_5665, rfl⟩ | ⟨i_5666, i_5667, i_5668, i_5669, i_5670, i_5671, i_5672, i_5673, i_5674, i_5675, i_5676, i_5677, rfl⟩ | ⟨i_5678, i_5679, i_5680, i_5681, i_5682, i_5683, i_5684, i_5685, i_5686, i_5687, i_5688, i_5689, i_5690, rfl⟩ | ⟨i_5691, i_5692, i_5693, i_5694, i_5695, i_5696, i_5697, i_5698, i_5699, i_5700, i_5701, i_5702, i_5703, i_5704, rfl⟩ | ⟨i_5705, i_5706, i_5707, i_5708, i_5709, i_5710, i_5711, i_5712, i_5713, i_5714, i_5715, i_5716, i_5717, i_5718, i_5719, rfl⟩ | ⟨i_5720, i_5721, i_5722, i_5723, i_5724, i_5725, i_5726, i_5727, i_5728, i_5729, i_5730, i_5731, i_5732, i_5733, i_5734, i_5735, rfl⟩ | ⟨i_5736, i_5737, i_5738, i_5739, i_5740, i_5741, i_5742, i_5743, i_5744, i_5745, i_5746, i_5747, i_5748, i_5749, i_5750, i_5751, i_5752, rfl⟩ | ⟨i_5753, i_5754, i_5755, i_5756, i_5757, i_5758, i_5759, i_5760, i_5761, i_5762, i_5763, i_5764, i_5765, i_5766, i_5767, i_5768, i_5769, i_5770, rfl⟩ | ⟨i_5771, i_5772, i_5773, i_5774, i_5775, i_5776, i_5777, i_5778, i_5779, i_5780, i_5781, i_5782, i_5783, i_5784, i_5785, i_5786, i_5787, i_5788, i_5789, rfl⟩ | ⟨i_5790, i_5791, i_5792, i_5793, i_5794, i_5795, i_5796, i_5797, i_5798, i_5799, i_5800, i_5801, i_5802, i_5803, i_5804, i_5805, i_5806, i_5807, i_5808, i_5809, rfl⟩ | ⟨i_5810, i_5811, i_5812, i_5813, i_5814, i_5815, i_5816, i_5817, i_5818, i_5819, i_5820, i_5821, i_5822, i_5823, i_5824, i_5825, i_5826, i_5827, i_5828, i_5829, i_5830, rfl⟩ | ⟨i_5831, i_5832, i_5833, i_5834, i_5835, i_5836, i_5837, i_5838, i_5839, i_5840, i_5841, i_5842, i_5843, i_5844, i_5845, i_5846, i_5847, i_5848, i_5849, i_5850, i_5851, i_5852, rfl⟩ | ⟨i_5853, i_5854, i_5855, i_5856, i_5857, i_5858, i_5859, i_5860, i_5861, i_5862, i_5863, i_5864, i_5865, i_5866, i_5867, i_5868, i_5869, i_5870, i_5871, i_5872, i_5873, i_5874, i_5875, rfl⟩ | ⟨i_5876, i_5877, i_5878, i_5879, i_5880, i_5881, i_5882, i_5883, i_5884, i_5885, i_5886, i_5887, i_5888, i_5889, i_5890, i_5891, i_5892, i_5893, i_5894, i_5895, i_5896, i_5897, i_5898, i_5899, rfl⟩ | ⟨i_5900, i_5901, i_5902, i_5903, i_5904, i_5905, i_5906, i_5907, i_5908, i_5909, i_5910, i_5911, i_5912, i_5913, i_5914, i_5915, i_5916, i_5917, i_5918, i_5919, i_5920, i_5921, i_5922, i_5923, i_5924, rfl⟩ | ⟨i_5925, i_5926, i_5927, i_5928, i_5929, i_5930, i_5931, i_5932, i_5933, i_5934, i_5935, i_5936, i_5937, i_5938, i_5939, i_5940, i_5941, i_5942, i_5943, i_5944, i_5945, i_5946, i_5947, i_5948, i_5949, rfl⟩
    · exfalso; omega
    · exfalso; omega
    · exfalso; omega
    · exfalso; omega
    · exfalso; omega
    · exfalso; omega
    · exfalso; omega
    · exfalso; omega
    · exfalso; omega
    · exfalso; omega
    · exfalso; omega
    · exfalso; omega
    · exfalso; omega
    · exfalso; omega
    · exfalso; omega
    · exfalso; omega
    · exfalso; omega
    · exfalso; omega
    · exfalso; omega
    · exfalso; omega
    · exfalso; omega
    · exfalso; omega
    · exfalso; omega
    · skip
      have hP : va_P g.1 vwCl [] H := hP
      have hD : va_D (fun q : Nat => s.heap.size ≤ q) [] := hD
      refine lv_icmp_eq (tgt := 1054) hx hb dL_law_426 (by decide) (fun _ => ?_) (fun h => absurd h (by decide +kernel))
      exact lc_tail ⟨hx, hb, hml, hr, hlocks, hown, hts, hK, hN, hZ, hX, hbl⟩ hS (lv_sub hl [0, 1, 2, 3] rfl)
    · exfalso; omega
    · exfalso; omega
  · skip
    have hP : va_P g.1 vwCl [((am 0), .inr (5, [.ref (am 1), .int 0, .ref (am 2), .int 0, .int 0, .ref (am 3), .ref (am 4), .ref (am 5), .ref (am 6), .int 0, .ref (am 7), .ref (am 8), .ref (am 9), .int 0, .ref (am 10), .ref (am 11), .ref (am 12), .ref (am 13), .ref (am 14), .ref (am 15), .ref (am 16), .ref (am 17), .ref (am 18), .ref (am 19), .ref (am 20), .ref (am 21), .ref (am 22)])), ((am 2), .inl (zI g, 60, .inl (fun _ => 0)))] H := hP
    have hD : va_D (fun q : Nat => s.heap.size ≤ q) [((am 0), .inr (5, [.ref (am 1), .int 0, .ref (am 2), .int 0, .int 0, .ref (am 3), .ref (am 4), .ref (am 5), .ref (am 6), .int 0, .ref (am 7), .ref (am 8), .ref (am 9), .int 0, .ref (am 10), .ref (am 11), .ref (am 12), .ref (am 13), .ref (am 14), .ref (am 15), .ref (am 16), .ref (am 17), .ref (am 18), .ref (am 19), .ref (am 20), .ref (am 21), .ref (am 22)])), ((am 2), .inl (zI g, 60, .inl (fun _ => 0)))] := hD
    refine lv_aload_n hx hb dL_law_397 rfl (lv_at hl 2 rfl) ?_
    refine lv_aload_n hx hb dL_law_398 rfl (lv_at hl 0 rfl) ?_
    refine lv_iload_n hx hb dL_law_399 rfl (lv_at hl 3 rfl) ?_
    refine lv_iconst (v := 1) hx hb dL_law_400 (by decide) ?_
    refine lv_iadd hx hb dL_law_401 ?_
    refine lv_topi (nm_r (e' := 1) (by decide +kernel) ?_)
    refine va_sld hx hb hX hbl hbA hS (vp_in_iff.mpr (by decide +kernel)) dL_law_402 ?_
    refine lv_topi (nm_r (e' := (xs 1)) (by rfl) ?_)
    refine lv_i2l (v := (xs 1).toInt64) hx hb dL_law_403 rfl ?_
    refine lv_bipush (v := 32) hx hb dL_law_404 (by decide) ?_
    refine lv_lshl (v := (((xs 1).toInt64) <<< ((32 : Int32).toInt64 &&& 63))) hx hb dL_law_406 rfl ?_
    refine lv_aload_n hx hb dL_law_407 rfl (lv_at hl 0 rfl) ?_
    refine lv_iload_n hx hb dL_law_408 rfl (lv_at hl 3 rfl) ?_
    refine lv_iconst (v := 2) hx hb dL_law_409 (by decide) ?_
    refine lv_iadd hx hb dL_law_410 ?_
    refine lv_topi (nm_r (e' := 2) (by decide +kernel) ?_)
    refine va_sld hx hb hX hbl hbA hS (vp_in_iff.mpr (by decide +kernel)) dL_law_411 ?_
    refine lv_topi (nm_r (e' := (xs 2)) (by rfl) ?_)
    refine lv_i2l (v := (xs 2).toInt64) hx hb dL_law_412 rfl ?_
    refine lv_ldc2 (v := 4294967295) hx hb hown (hts _ m_k_RL_39) dL_law_413 ?_
    refine lv_land hx hb dL_law_416 ?_
    refine lv_lor hx hb dL_law_417 ?_
    refine lv_aload_n hx hb dL_law_418 rfl (lv_at hl 0 rfl) ?_
    refine lv_iload_n hx hb dL_law_419 rfl (lv_at hl 3 rfl) ?_
    refine lv_iconst (v := 3) hx hb dL_law_420 (by decide) ?_
    refine lv_iadd hx hb dL_law_421 ?_
    refine lv_topi (nm_r (e' := 3) (by decide +kernel) ?_)
    refine va_sld hx hb hX hbl hbA hS (vp_in_iff.mpr (by decide +kernel)) dL_law_422 ?_
    refine lv_topi (nm_r (e' := (xs 3)) (by rfl) ?_)
    refine z_calli (wr := []) hP hD hS hA [0, 1] [] (by decide) rfl rfl (by decide) (va_runV (As := [.long ((((xs 1).toInt64) <<< ((32 : Int32).toInt64 &&& 63)) ||| (((xs 2).toInt64) &&& 4294967295)), .int (xs 3)]) (rest := [.int 8]) ⟨hx, hb, hml, hown, hts⟩ (kX5_type l g (am 0) (am 1) (am 2) (am 3) (am 4) (am 5) (am 6) (am 7) (am 8) (am 9) (am 10) (am 11) (am 12) (am 13) (am 14) (am 15) (am 16) (am 17) (am 18) (am 19) (am 20) (am 21) (am 22) H.size ((((xs 1).toInt64) <<< ((32 : Int32).toInt64 &&& 63)) ||| (((xs 2).toInt64) &&& 4294967295)) (xs 3)) ⟨callB_of 2 hts (zGood m_o_yX5_type) rfl rfl rfl (hts _ m_z_RX5) (hts _ m_m_RL_45) ⟨by decide +kernel, by decide +kernel, by decide +kernel⟩ ⟨Nat.le_of_ble_eq_true rfl, Nat.le_of_ble_eq_true rfl⟩, hts _ m_i_yX5_type, hts _ m_e_yX5_type⟩ (zPreV hK hN hZ hP hD hS hA [0, 1] (by decide) rfl rfl 5 0 rfl rfl) rfl rfl hl.1 rfl (lv_room (Nat.le_of_ble_eq_true rfl)) dL_law_423 ⟨Nat.le_of_ble_eq_true rfl, Nat.le_of_ble_eq_true rfl⟩) (fun r u H locs hw hP hD hS => ?_)
    rcases hw with ⟨i_5950, rfl⟩ | ⟨i_5951, i_5952, rfl⟩ | ⟨i_5953, i_5954, i_5955, rfl⟩ | ⟨i_5956, i_5957, i_5958, i_5959, rfl⟩ | ⟨i_5960, i_5961, i_5962, i_5963, i_5964, rfl⟩ | ⟨i_5965, i_5966, i_5967, i_5968, i_5969, i_5970, rfl⟩ | ⟨i_5971, i_5972, i_5973, i_5974, i_5975, i_5976, i_5977, rfl⟩ | ⟨i_5978, i_5979, i_5980, i_5981, i_5982, i_5983, i_5984, i_5985, rfl⟩ | ⟨i_5986, i_5987, i_5988, i_5989, i_5990, i_5991, i_5992, i_5993, i_5994, rfl⟩ | ⟨i_5995, i_5996, i_5997, i_5998, i_5999, i_6000, i_6001, i_6002, i_6003, i_6004, rfl⟩ | ⟨i_6005, i_6006, i_6007, i_6008, i_6009, i_6010, i_6011, i_6012, i_6013, i_6014, i_6015, rfl⟩ | ⟨i_6016, i_6017, i_6018, i_6019, i_6020, i_6021, i_6022, i_6023, i_6024, i_6025, i_6026, i_6027, rfl⟩ | ⟨i_6028, i_6029, i_6030, i_6031, i_6032, i_6033, i_6034, i_6035, i_6036, i_6037, i_6038, i_6039, i_6040, rfl⟩ | ⟨i_6041, i_6042, i_6043, i_6044, i_6045, i_6046, i_6047, i_6048, i_6049, i_6050, i_6051, i_6052, i_6053, i_6054, rfl⟩ | ⟨i_6055, i_6056, i_6057, i_6058, i_6059, i_6060, i_6061, i_6062, i_6063, i_6064, i_6065, i_6066, i_6067, i_6068, i_6069, rfl⟩ | ⟨i_6070, i_6071, i_6072, i_6073, i_6074, i_6075, i_6076, i_6077, i_6078, i_6079, i_6080, i_6081, i_6082, i_6083, i_6084, i_6085, rfl⟩ | ⟨i_6086, i_6087, i_6088, i_6089, i_6090, i_6091, i_6092, i_6093, i_6094, i_6095, i_6096, i_6097, i_6098, i_6099, i_6100, i_6101, i_6102, rfl⟩ | ⟨i_6103, i_6104, i_6105, i_6106, i_6107, i_6108, i_6109, i_6110, i_6111, i_6112, i_6113, i_6114, i_6115, i_6116, i_6117, i_6118, i_6119, i_6120, rfl⟩ | ⟨i_6121, i_6122, i_6123, i_6124, i_6125, i_6126, i_6127, i_6128, i_6129, i_6130, i_6131, i_6132, i_6133, i_6134, i_6135, i_6136, i_6137, i_6138, i_6139, rfl⟩ | ⟨i_6140, i_6141, i_6142, i_6143, i_6144, i_6145, i_6146, i_6147, i_6148, i_6149, i_6150, i_6151, i_6152, i_6153, i_6154, i_6155, i_6156, i_6157, i_6158, i_6159, rfl⟩ | ⟨i_6160, i_6161, i_6162, i_6163, i_6164, i_6165, i_6166, i_6167, i_6168, i_6169, i_6170, i_6171, i_6172, i_6173, i_6174, i_6175, i_6176, i_6177, i_6178, i_6179, i_6180, rfl⟩ | ⟨i_6181, i_6182, i_6183, i_6184, i_6185, i_6186, i_6187, i_6188, i_6189, i_6190, i_6191, i_6192, i_6193, i_6194, i_6195, i_6196, i_6197, i_6198, i_6199, i_6200, i_6201, i_6202, rfl⟩ | ⟨i_6203, i_6204, i_6205, i_6206, i_6207, i_6208, i_6209, i_6210, i_6211, i_6212, i_6213, i_6214, i_6215, i_6216, i_6217, i_6218, i_6219, i_6220, i_6221, i_6222, i_6223, i_6224, i_6225, rfl⟩ | ⟨i_6226, i_6227, i_6228, i_6229, i_6230, i_6231, i_6232, i_6233, i_6234, i_6235, i_6236, i_6237, i_6238, i_6239, i_6240, i_6241, i_6242, i_6243, i_6244, i_6245, i_6246, i_6247, i_6248, i_6249, rfl⟩ | ⟨i_6250, i_6251, i_6252, i_6253, i_6254, i_6255, i_6256, i_6257, i_6258, i_6259, i_6260, i_6261, i_6262, i_6263, i_6264, i_6265, i_6266, i_6267, i_6268, i_6269, i_6270, i_6271, i_6272, i_6273, i_6274, rfl⟩ | ⟨i_6275, i_6276, i_6277, i_6278, i_6279, i_6280, i_6281, i_6282, i_6283, i_6284, i_6285, i_6286, i_6287, i_6288, i_6289, i_6290, i_6291, i_6292, i_6293, i_6294, i_6295, i_6296, i_6297, i_6298, i_6299, rfl⟩
    · exfalso; omega
    · exfalso; omega
    · exfalso; omega
    · exfalso; omega
    · exfalso; omega
    · exfalso; omega
    · exfalso; omega
    · exfalso; omega
    · exfalso; omega
    · exfalso; omega
    · exfalso; omega
    · exfalso; omega
    · exfalso; omega
    · exfalso; omega
    · exfalso; omega
    · exfalso; omega
    · exfalso; omega
    · exfalso; omega
    · exfalso; omega
    · exfalso; omega
    · exfalso; omega
    · exfalso; omega
    · exfalso; omega
    · exfalso; omega
    · exfalso; omega
    · skip
      have hP : va_P g.1 vwCl [] H := hP
      have hD : va_D (fun q : Nat => s.heap.size ≤ q) [] := hD
      refine lv_icmp_eq (tgt := 1054) hx hb dL_law_426 (by decide) (fun _ => ?_) (fun h => absurd h (by decide +kernel))
      exact lc_tail ⟨hx, hb, hml, hr, hlocks, hown, hts, hK, hN, hZ, hX, hbl⟩ hS (lv_sub hl [0, 1, 2, 3] rfl)
  · skip
    have hP : va_P g.1 vwCl [((am 0), .inr (5, [.ref (am 1), .int 0, .ref (am 2), .int 0, .int 0, .ref (am 3), .ref (am 4), .ref (am 5), .ref (am 6), .int 0, .ref (am 7), .ref (am 8), .ref (am 9), .int 0, .ref (am 10), .ref (am 11), .ref (am 12), .ref (am 13), .ref (am 14), .ref (am 15), .ref (am 16), .ref (am 17), .ref (am 18), .ref (am 19), .ref (am 20), .ref (am 21), .ref (am 22)])), ((am 2), .inl (zI g, 60, .inl (fun _ => 0)))] H := hP
    have hD : va_D (fun q : Nat => s.heap.size ≤ q) [((am 0), .inr (5, [.ref (am 1), .int 0, .ref (am 2), .int 0, .int 0, .ref (am 3), .ref (am 4), .ref (am 5), .ref (am 6), .int 0, .ref (am 7), .ref (am 8), .ref (am 9), .int 0, .ref (am 10), .ref (am 11), .ref (am 12), .ref (am 13), .ref (am 14), .ref (am 15), .ref (am 16), .ref (am 17), .ref (am 18), .ref (am 19), .ref (am 20), .ref (am 21), .ref (am 22)])), ((am 2), .inl (zI g, 60, .inl (fun _ => 0)))] := hD
    refine lv_aload_n hx hb dL_law_397 rfl (lv_at hl 2 rfl) ?_
    refine lv_aload_n hx hb dL_law_398 rfl (lv_at hl 0 rfl) ?_
    refine lv_iload_n hx hb dL_law_399 rfl (lv_at hl 3 rfl) ?_
    refine lv_iconst (v := 1) hx hb dL_law_400 (by decide) ?_
    refine lv_iadd hx hb dL_law_401 ?_
    refine lv_topi (nm_r (e' := 1) (by decide +kernel) ?_)
    refine va_sld hx hb hX hbl hbA hS (vp_in_iff.mpr (by decide +kernel)) dL_law_402 ?_
    refine lv_topi (nm_r (e' := (xs 1)) (by rfl) ?_)
    refine lv_i2l (v := (xs 1).toInt64) hx hb dL_law_403 rfl ?_
    refine lv_bipush (v := 32) hx hb dL_law_404 (by decide) ?_
    refine lv_lshl (v := (((xs 1).toInt64) <<< ((32 : Int32).toInt64 &&& 63))) hx hb dL_law_406 rfl ?_
    refine lv_aload_n hx hb dL_law_407 rfl (lv_at hl 0 rfl) ?_
    refine lv_iload_n hx hb dL_law_408 rfl (lv_at hl 3 rfl) ?_
    refine lv_iconst (v := 2) hx hb dL_law_409 (by decide) ?_
    refine lv_iadd hx hb dL_law_410 ?_
    refine lv_topi (nm_r (e' := 2) (by decide +kernel) ?_)
    refine va_sld hx hb hX hbl hbA hS (vp_in_iff.mpr (by decide +kernel)) dL_law_411 ?_
    refine lv_topi (nm_r (e' := (xs 2)) (by rfl) ?_)
    refine lv_i2l (v := (xs 2).toInt64) hx hb dL_law_412 rfl ?_
    refine lv_ldc2 (v := 4294967295) hx hb hown (hts _ m_k_RL_39) dL_law_413 ?_
    refine lv_land hx hb dL_law_416 ?_
    refine lv_lor hx hb dL_law_417 ?_
    refine lv_aload_n hx hb dL_law_418 rfl (lv_at hl 0 rfl) ?_
    refine lv_iload_n hx hb dL_law_419 rfl (lv_at hl 3 rfl) ?_
    refine lv_iconst (v := 3) hx hb dL_law_420 (by decide) ?_
    refine lv_iadd hx hb dL_law_421 ?_
    refine lv_topi (nm_r (e' := 3) (by decide +kernel) ?_)
    refine va_sld hx hb hX hbl hbA hS (vp_in_iff.mpr (by decide +kernel)) dL_law_422 ?_
    refine lv_topi (nm_r (e' := (xs 3)) (by rfl) ?_)
    refine z_calli (wr := []) hP hD hS hA [0, 1] [] (by decide) rfl rfl (by decide) (va_runV (As := [.long ((((xs 1).toInt64) <<< ((32 : Int32).toInt64 &&& 63)) ||| (((xs 2).toInt64) &&& 4294967295)), .int (xs 3)]) (rest := [.int (-1)]) ⟨hx, hb, hml, hown, hts⟩ (kX5_type l g (am 0) (am 1) (am 2) (am 3) (am 4) (am 5) (am 6) (am 7) (am 8) (am 9) (am 10) (am 11) (am 12) (am 13) (am 14) (am 15) (am 16) (am 17) (am 18) (am 19) (am 20) (am 21) (am 22) H.size ((((xs 1).toInt64) <<< ((32 : Int32).toInt64 &&& 63)) ||| (((xs 2).toInt64) &&& 4294967295)) (xs 3)) ⟨callB_of 2 hts (zGood m_o_yX5_type) rfl rfl rfl (hts _ m_z_RX5) (hts _ m_m_RL_45) ⟨by decide +kernel, by decide +kernel, by decide +kernel⟩ ⟨Nat.le_of_ble_eq_true rfl, Nat.le_of_ble_eq_true rfl⟩, hts _ m_i_yX5_type, hts _ m_e_yX5_type⟩ (zPreV hK hN hZ hP hD hS hA [0, 1] (by decide) rfl rfl 5 0 rfl rfl) rfl rfl hl.1 rfl (lv_room (Nat.le_of_ble_eq_true rfl)) dL_law_423 ⟨Nat.le_of_ble_eq_true rfl, Nat.le_of_ble_eq_true rfl⟩) (fun r u H locs hw hP hD hS => ?_)
    rcases hw with ⟨i_6300, rfl⟩ | ⟨i_6301, i_6302, rfl⟩ | ⟨i_6303, i_6304, i_6305, rfl⟩ | ⟨i_6306, i_6307, i_6308, i_6309, rfl⟩ | ⟨i_6310, i_6311, i_6312, i_6313, i_6314, rfl⟩ | ⟨i_6315, i_6316, i_6317, i_6318, i_6319, i_6320, rfl⟩ | ⟨i_6321, i_6322, i_6323, i_6324, i_6325, i_6326, i_6327, rfl⟩ | ⟨i_6328, i_6329, i_6330, i_6331, i_6332, i_6333, i_6334, i_6335, rfl⟩ | ⟨i_6336, i_6337, i_6338, i_6339, i_6340, i_6341, i_6342, i_6343, i_6344, rfl⟩ | ⟨i_6345, i_6346, i_6347, i_6348, i_6349, i_6350, i_6351, i_6352, i_6353, i_6354, rfl⟩ | ⟨i_6355, i_6356, i_6357, i_6358, i_6359, i_6360, i_6361, i_6362, i_6363, i_6364, i_6365, rfl⟩ | ⟨i_6366, i_6367, i_6368, i_6369, i_6370, i_6371, i_6372, i_6373, i_6374, i_6375, i_6376, i_6377, rfl⟩ | ⟨i_6378, i_6379, i_6380, i_6381, i_6382, i_6383, i_6384, i_6385, i_6386, i_6387, i_6388, i_6389, i_6390, rfl⟩ | ⟨i_6391, i_6392, i_6393, i_6394, i_6395, i_6396, i_6397, i_6398, i_6399, i_6400, i_6401, i_6402, i_6403, i_6404, rfl⟩ | ⟨i_6405, i_6406, i_6407, i_6408, i_6409, i_6410, i_6411, i_6412, i_6413, i_6414, i_6415, i_6416, i_6417, i_6418, i_6419, rfl⟩ | ⟨i_6420, i_6421, i_6422, i_6423, i_6424, i_6425, i_6426, i_6427, i_6428, i_6429, i_6430, i_6431, i_6432, i_6433, i_6434, i_6435, rfl⟩ | ⟨i_6436, i_6437, i_6438, i_6439, i_6440, i_6441, i_6442, i_6443, i_6444, i_6445, i_6446, i_6447, i_6448, i_6449, i_6450, i_6451, i_6452, rfl⟩ | ⟨i_6453, i_6454, i_6455, i_6456, i_6457, i_6458, i_6459, i_6460, i_6461, i_6462, i_6463, i_6464, i_6465, i_6466, i_6467, i_6468, i_6469, i_6470, rfl⟩ | ⟨i_6471, i_6472, i_6473, i_6474, i_6475, i_6476, i_6477, i_6478, i_6479, i_6480, i_6481, i_6482, i_6483, i_6484, i_6485, i_6486, i_6487, i_6488, i_6489, rfl⟩ | ⟨i_6490, i_6491, i_6492, i_6493, i_6494, i_6495, i_6496, i_6497, i_6498, i_6499, i_6500, i_6501, i_6502, i_6503, i_6504, i_6505, i_6506, i_6507, i_6508, i_6509, rfl⟩ | ⟨i_6510, i_6511, i_6512, i_6513, i_6514, i_6515, i_6516, i_6517, i_6518, i_6519, i_6520, i_6521, i_6522, i_6523, i_6524, i_6525, i_6526, i_6527, i_6528, i_6529, i_6530, rfl⟩ | ⟨i_6531, i_6532, i_6533, i_6534, i_6535, i_6536, i_6537, i_6538, i_6539, i_6540, i_6541, i_6542, i_6543, i_6544, i_6545, i_6546, i_6547, i_6548, i_6549, i_6550, i_6551, i_6552, rfl⟩ | ⟨i_6553, i_6554, i_6555, i_6556, i_6557, i_6558, i_6559, i_6560, i_6561, i_6562, i_6563, i_6564, i_6565, i_6566, i_6567, i_6568, i_6569, i_6570, i_6571, i_6572, i_6573, i_6574, i_6575, rfl⟩ | ⟨i_6576, i_6577, i_6578, i_6579, i_6580, i_6581, i_6582, i_6583, i_6584, i_6585, i_6586, i_6587, i_6588, i_6589, i_6590, i_6591, i_6592, i_6593, i_6594, i_6595, i_6596, i_6597, i_6598, i_6599, rfl⟩ | ⟨i_6600, i_6601, i_6602, i_6603, i_6604, i_6605, i_6606, i_6607, i_6608, i_6609, i_6610, i_6611, i_6612, i_6613, i_6614, i_6615, i_6616, i_6617, i_6618, i_6619, i_6620, i_6621, i_6622, i_6623, i_6624, rfl⟩ | ⟨i_6625, i_6626, i_6627, i_6628, i_6629, i_6630, i_6631, i_6632, i_6633, i_6634, i_6635, i_6636, i_6637, i_6638, i_6639, i_6640, i_6641, i_6642, i_6643, i_6644, i_6645, i_6646, i_6647, i_6648, i_6649, rfl⟩
    · exfalso; omega
    · exfalso; omega
    · exfalso; omega
    · exfalso; omega
    · exfalso; omega
    · exfalso; omega
    · exfalso; omega
    · exfalso; omega
    · exfalso; omega
    · exfalso; omega
    · exfalso; omega
    · exfalso; omega
    · exfalso; omega
    · exfalso; omega
    · exfalso; omega
    · exfalso; omega
    · exfalso; omega
    · exfalso; omega
    · exfalso; omega
    · exfalso; omega
    · exfalso; omega
    · exfalso; omega
    · exfalso; omega
    · exfalso; omega
    · skip
      have hP : va_P g.1 vwCl [] H := hP
      have hD : va_D (fun q : Nat => s.heap.size ≤ q) [] := hD
      refine lv_icmp_eq (tgt := 1054) hx hb dL_law_426 (by decide) (fun _ => ?_) (fun h => absurd h (by decide +kernel))
      exact lc_tail ⟨hx, hb, hml, hr, hlocks, hown, hts, hK, hN, hZ, hX, hbl⟩ hS (lv_sub hl [0, 1, 2, 3] rfl)
    · exfalso; omega
  · skip
    have hP : va_P g.1 vwCl [((am 0), .inr (5, [.ref (am 1), .int 0, .ref (am 2), .int 0, .int 0, .ref (am 3), .ref (am 4), .ref (am 5), .ref (am 6), .int 0, .ref (am 7), .ref (am 8), .ref (am 9), .int 0, .ref (am 10), .ref (am 11), .ref (am 12), .ref (am 13), .ref (am 14), .ref (am 15), .ref (am 16), .ref (am 17), .ref (am 18), .ref (am 19), .ref (am 20), .ref (am 21), .ref (am 22)])), ((am 2), .inl (zI g, 60, .inl (fun _ => 0)))] H := hP
    have hD : va_D (fun q : Nat => s.heap.size ≤ q) [((am 0), .inr (5, [.ref (am 1), .int 0, .ref (am 2), .int 0, .int 0, .ref (am 3), .ref (am 4), .ref (am 5), .ref (am 6), .int 0, .ref (am 7), .ref (am 8), .ref (am 9), .int 0, .ref (am 10), .ref (am 11), .ref (am 12), .ref (am 13), .ref (am 14), .ref (am 15), .ref (am 16), .ref (am 17), .ref (am 18), .ref (am 19), .ref (am 20), .ref (am 21), .ref (am 22)])), ((am 2), .inl (zI g, 60, .inl (fun _ => 0)))] := hD
    refine lv_aload_n hx hb dL_law_397 rfl (lv_at hl 2 rfl) ?_
    refine lv_aload_n hx hb dL_law_398 rfl (lv_at hl 0 rfl) ?_
    refine lv_iload_n hx hb dL_law_399 rfl (lv_at hl 3 rfl) ?_
    refine lv_iconst (v := 1) hx hb dL_law_400 (by decide) ?_
    refine lv_iadd hx hb dL_law_401 ?_
    refine lv_topi (nm_r (e' := 1) (by decide +kernel) ?_)
    refine va_sld hx hb hX hbl hbA hS (vp_in_iff.mpr (by decide +kernel)) dL_law_402 ?_
    refine lv_topi (nm_r (e' := (xs 1)) (by rfl) ?_)
    refine lv_i2l (v := (xs 1).toInt64) hx hb dL_law_403 rfl ?_
    refine lv_bipush (v := 32) hx hb dL_law_404 (by decide) ?_
    refine lv_lshl (v := (((xs 1).toInt64) <<< ((32 : Int32).toInt64 &&& 63))) hx hb dL_law_406 rfl ?_
    refine lv_aload_n hx hb dL_law_407 rfl (lv_at hl 0 rfl) ?_
    refine lv_iload_n hx hb dL_law_408 rfl (lv_at hl 3 rfl) ?_
    refine lv_iconst (v := 2) hx hb dL_law_409 (by decide) ?_
    refine lv_iadd hx hb dL_law_410 ?_
    refine lv_topi (nm_r (e' := 2) (by decide +kernel) ?_)
    refine va_sld hx hb hX hbl hbA hS (vp_in_iff.mpr (by decide +kernel)) dL_law_411 ?_
    refine lv_topi (nm_r (e' := (xs 2)) (by rfl) ?_)
    refine lv_i2l (v := (xs 2).toInt64) hx hb dL_law_412 rfl ?_
    refine lv_ldc2 (v := 4294967295) hx hb hown (hts _ m_k_RL_39) dL_law_413 ?_
    refine lv_land hx hb dL_law_416 ?_
    refine lv_lor hx hb dL_law_417 ?_
    refine lv_aload_n hx hb dL_law_418 rfl (lv_at hl 0 rfl) ?_
    refine lv_iload_n hx hb dL_law_419 rfl (lv_at hl 3 rfl) ?_
    refine lv_iconst (v := 3) hx hb dL_law_420 (by decide) ?_
    refine lv_iadd hx hb dL_law_421 ?_
    refine lv_topi (nm_r (e' := 3) (by decide +kernel) ?_)
    refine va_sld hx hb hX hbl hbA hS (vp_in_iff.mpr (by decide +kernel)) dL_law_422 ?_
    refine lv_topi (nm_r (e' := (xs 3)) (by rfl) ?_)
    refine z_calli (wr := []) hP hD hS hA [0, 1] [] (by decide) rfl rfl (by decide) (va_runV (As := [.long ((((xs 1).toInt64) <<< ((32 : Int32).toInt64 &&& 63)) ||| (((xs 2).toInt64) &&& 4294967295)), .int (xs 3)]) (rest := [.int (-1)]) ⟨hx, hb, hml, hown, hts⟩ (kX5_type l g (am 0) (am 1) (am 2) (am 3) (am 4) (am 5) (am 6) (am 7) (am 8) (am 9) (am 10) (am 11) (am 12) (am 13) (am 14) (am 15) (am 16) (am 17) (am 18) (am 19) (am 20) (am 21) (am 22) H.size ((((xs 1).toInt64) <<< ((32 : Int32).toInt64 &&& 63)) ||| (((xs 2).toInt64) &&& 4294967295)) (xs 3)) ⟨callB_of 2 hts (zGood m_o_yX5_type) rfl rfl rfl (hts _ m_z_RX5) (hts _ m_m_RL_45) ⟨by decide +kernel, by decide +kernel, by decide +kernel⟩ ⟨Nat.le_of_ble_eq_true rfl, Nat.le_of_ble_eq_true rfl⟩, hts _ m_i_yX5_type, hts _ m_e_yX5_type⟩ (zPreV hK hN hZ hP hD hS hA [0, 1] (by decide) rfl rfl 5 0 rfl rfl) rfl rfl hl.1 rfl (lv_room (Nat.le_of_ble_eq_true rfl)) dL_law_423 ⟨Nat.le_of_ble_eq_true rfl, Nat.le_of_ble_eq_true rfl⟩) (fun r u H locs hw hP hD hS => ?_)
    rcases hw with ⟨i_6650, rfl⟩ | ⟨i_6651, i_6652, rfl⟩ | ⟨i_6653, i_6654, i_6655, rfl⟩ | ⟨i_6656, i_6657, i_6658, i_6659, rfl⟩ | ⟨i_6660, i_6661, i_6662, i_6663, i_6664, rfl⟩ | ⟨i_6665, i_6666, i_6667, i_6668, i_6669, i_6670, rfl⟩ | ⟨i_6671, i_6672, i_6673, i_6674, i_6675, i_6676, i_6677, rfl⟩ | ⟨i_6678, i_6679, i_6680, i_6681, i_6682, i_6683, i_6684, i_6685, rfl⟩ | ⟨i_6686, i_6687, i_6688, i_6689, i_6690, i_6691, i_6692, i_6693, i_6694, rfl⟩ | ⟨i_6695, i_6696, i_6697, i_6698, i_6699, i_6700, i_6701, i_6702, i_6703, i_6704, rfl⟩ | ⟨i_6705, i_6706, i_6707, i_6708, i_6709, i_6710, i_6711, i_6712, i_6713, i_6714, i_6715, rfl⟩ | ⟨i_6716, i_6717, i_6718, i_6719, i_6720, i_6721, i_6722, i_6723, i_6724, i_6725, i_6726, i_6727, rfl⟩ | ⟨i_6728, i_6729, i_6730, i_6731, i_6732, i_6733, i_6734, i_6735, i_6736, i_6737, i_6738, i_6739, i_6740, rfl⟩ | ⟨i_6741, i_6742, i_6743, i_6744, i_6745, i_6746, i_6747, i_6748, i_6749, i_6750, i_6751, i_6752, i_6753, i_6754, rfl⟩ | ⟨i_6755, i_6756, i_6757, i_6758, i_6759, i_6760, i_6761, i_6762, i_6763, i_6764, i_6765, i_6766, i_6767, i_6768, i_6769, rfl⟩ | ⟨i_6770, i_6771, i_6772, i_6773, i_6774, i_6775, i_6776, i_6777, i_6778, i_6779, i_6780, i_6781, i_6782, i_6783, i_6784, i_6785, rfl⟩ | ⟨i_6786, i_6787, i_6788, i_6789, i_6790, i_6791, i_6792, i_6793, i_6794, i_6795, i_6796, i_6797, i_6798, i_6799, i_6800, i_6801, i_6802, rfl⟩ | ⟨i_6803, i_6804, i_6805, i_6806, i_6807, i_6808, i_6809, i_6810, i_6811, i_6812, i_6813, i_6814, i_6815, i_6816, i_6817, i_6818, i_6819, i_6820, rfl⟩ | ⟨i_6821, i_6822, i_6823, i_6824, i_6825, i_6826, i_6827, i_6828, i_6829, i_6830, i_6831, i_6832, i_6833, i_6834, i_6835, i_6836, i_6837, i_6838, i_6839, rfl⟩ | ⟨i_6840, i_6841, i_6842, i_6843, i_6844, i_6845, i_6846, i_6847, i_6848, i_6849, i_6850, i_6851, i_6852, i_6853, i_6854, i_6855, i_6856, i_6857, i_6858, i_6859, rfl⟩ | ⟨i_6860, i_6861, i_6862, i_6863, i_6864, i_6865, i_6866, i_6867, i_6868, i_6869, i_6870, i_6871, i_6872, i_6873, i_6874, i_6875, i_6876, i_6877, i_6878, i_6879, i_6880, rfl⟩ | ⟨i_6881, i_6882, i_6883, i_6884, i_6885, i_6886, i_6887, i_6888, i_6889, i_6890, i_6891, i_6892, i_6893, i_6894, i_6895, i_6896, i_6897, i_6898, i_6899, i_6900, i_6901, i_6902, rfl⟩ | ⟨i_6903, i_6904, i_6905, i_6906, i_6907, i_6908, i_6909, i_6910, i_6911, i_6912, i_6913, i_6914, i_6915, i_6916, i_6917, i_6918, i_6919, i_6920, i_6921, i_6922, i_6923, i_6924, i_6925, rfl⟩ | ⟨i_6926, i_6927, i_6928, i_6929, i_6930, i_6931, i_6932, i_6933, i_6934, i_6935, i_6936, i_6937, i_6938, i_6939, i_6940, i_6941, i_6942, i_6943, i_6944, i_6945, i_6946, i_6947, i_6948, i_6949, rfl⟩ | ⟨i_6950, i_6951, i_6952, i_6953, i_6954, i_6955, i_6956, i_6957, i_6958, i_6959, i_6960, i_6961, i_6962, i_6963, i_6964, i_6965, i_6966, i_6967, i_6968, i_6969, i_6970, i_6971, i_6972, i_6973, i_6974, rfl⟩ | ⟨i_6975, i_6976, i_6977, i_6978, i_6979, i_6980, i_6981, i_6982, i_6983, i_6984, i_6985, i_6986, i_6987, i_6988, i_6989, i_6990, i_6991, i_6992, i_6993, i_6994, i_6995, i_6996, i_6997, i_6998, i_6999, rfl⟩
    · exfalso; omega
    · exfalso; omega
    · exfalso; omega
    · exfalso; omega
    · exfalso; omega
    · exfalso; omega
    · exfalso; omega
    · exfalso; omega
    · exfalso; omega
    · exfalso; omega
    · exfalso; omega
    · exfalso; omega
    · exfalso; omega
    · exfalso; omega
    · exfalso; omega
    · exfalso; omega
    · exfalso; omega
    · exfalso; omega
    · exfalso; omega
    · exfalso; omega
    · exfalso; omega
    · skip
      have hP : va_P g.1 vwCl [] H := hP
      have hD : va_D (fun q : Nat => s.heap.size ≤ q) [] := hD
      refine lv_icmp_eq (tgt := 1054) hx hb dL_law_426 (by decide) (fun _ => ?_) (fun h => absurd h (by decide +kernel))
      exact lc_tail ⟨hx, hb, hml, hr, hlocks, hown, hts, hK, hN, hZ, hX, hbl⟩ hS (lv_sub hl [0, 1, 2, 3] rfl)
    · exfalso; omega
    · exfalso; omega
    · exfalso; omega
    · exfalso; omega
  · skip
    have hP : va_P g.1 vwCl [((am 0), .inr (5, [.ref (am 1), .int 0, .ref (am 2), .int 0, .int 0, .ref (am 3), .ref (am 4), .ref (am 5), .ref (am 6), .int 0, .ref (am 7), .ref (am 8), .ref (am 9), .int 0, .ref (am 10), .ref (am 11), .ref (am 12), .ref (am 13), .ref (am 14), .ref (am 15), .ref (am 16), .ref (am 17), .ref (am 18), .ref (am 19), .ref (am 20), .ref (am 21), .ref (am 22)])), ((am 2), .inl (zI g, 60, .inl (fun _ => 0)))] H := hP
    have hD : va_D (fun q : Nat => s.heap.size ≤ q) [((am 0), .inr (5, [.ref (am 1), .int 0, .ref (am 2), .int 0, .int 0, .ref (am 3), .ref (am 4), .ref (am 5), .ref (am 6), .int 0, .ref (am 7), .ref (am 8), .ref (am 9), .int 0, .ref (am 10), .ref (am 11), .ref (am 12), .ref (am 13), .ref (am 14), .ref (am 15), .ref (am 16), .ref (am 17), .ref (am 18), .ref (am 19), .ref (am 20), .ref (am 21), .ref (am 22)])), ((am 2), .inl (zI g, 60, .inl (fun _ => 0)))] := hD
    refine lv_aload_n hx hb dL_law_397 rfl (lv_at hl 2 rfl) ?_
    refine lv_aload_n hx hb dL_law_398 rfl (lv_at hl 0 rfl) ?_
    refine lv_iload_n hx hb dL_law_399 rfl (lv_at hl 3 rfl) ?_
    refine lv_iconst (v := 1) hx hb dL_law_400 (by decide) ?_
    refine lv_iadd hx hb dL_law_401 ?_
    refine lv_topi (nm_r (e' := 1) (by decide +kernel) ?_)
    refine va_sld hx hb hX hbl hbA hS (vp_in_iff.mpr (by decide +kernel)) dL_law_402 ?_
    refine lv_topi (nm_r (e' := (xs 1)) (by rfl) ?_)
    refine lv_i2l (v := (xs 1).toInt64) hx hb dL_law_403 rfl ?_
    refine lv_bipush (v := 32) hx hb dL_law_404 (by decide) ?_
    refine lv_lshl (v := (((xs 1).toInt64) <<< ((32 : Int32).toInt64 &&& 63))) hx hb dL_law_406 rfl ?_
    refine lv_aload_n hx hb dL_law_407 rfl (lv_at hl 0 rfl) ?_
    refine lv_iload_n hx hb dL_law_408 rfl (lv_at hl 3 rfl) ?_
    refine lv_iconst (v := 2) hx hb dL_law_409 (by decide) ?_
    refine lv_iadd hx hb dL_law_410 ?_
    refine lv_topi (nm_r (e' := 2) (by decide +kernel) ?_)
    refine va_sld hx hb hX hbl hbA hS (vp_in_iff.mpr (by decide +kernel)) dL_law_411 ?_
    refine lv_topi (nm_r (e' := (xs 2)) (by rfl) ?_)
    refine lv_i2l (v := (xs 2).toInt64) hx hb dL_law_412 rfl ?_
    refine lv_ldc2 (v := 4294967295) hx hb hown (hts _ m_k_RL_39) dL_law_413 ?_
    refine lv_land hx hb dL_law_416 ?_
    refine lv_lor hx hb dL_law_417 ?_
    refine lv_aload_n hx hb dL_law_418 rfl (lv_at hl 0 rfl) ?_
    refine lv_iload_n hx hb dL_law_419 rfl (lv_at hl 3 rfl) ?_
    refine lv_iconst (v := 3) hx hb dL_law_420 (by decide) ?_
    refine lv_iadd hx hb dL_law_421 ?_
    refine lv_topi (nm_r (e' := 3) (by decide +kernel) ?_)
    refine va_sld hx hb hX hbl hbA hS (vp_in_iff.mpr (by decide +kernel)) dL_law_422 ?_
    refine lv_topi (nm_r (e' := (xs 3)) (by rfl) ?_)
    refine z_calli (wr := []) hP hD hS hA [0, 1] [] (by decide) rfl rfl (by decide) (va_runV (As := [.long ((((xs 1).toInt64) <<< ((32 : Int32).toInt64 &&& 63)) ||| (((xs 2).toInt64) &&& 4294967295)), .int (xs 3)]) (rest := [.int (-1)]) ⟨hx, hb, hml, hown, hts⟩ (kX5_type l g (am 0) (am 1) (am 2) (am 3) (am 4) (am 5) (am 6) (am 7) (am 8) (am 9) (am 10) (am 11) (am 12) (am 13) (am 14) (am 15) (am 16) (am 17) (am 18) (am 19) (am 20) (am 21) (am 22) H.size ((((xs 1).toInt64) <<< ((32 : Int32).toInt64 &&& 63)) ||| (((xs 2).toInt64) &&& 4294967295)) (xs 3)) ⟨callB_of 2 hts (zGood m_o_yX5_type) rfl rfl rfl (hts _ m_z_RX5) (hts _ m_m_RL_45) ⟨by decide +kernel, by decide +kernel, by decide +kernel⟩ ⟨Nat.le_of_ble_eq_true rfl, Nat.le_of_ble_eq_true rfl⟩, hts _ m_i_yX5_type, hts _ m_e_yX5_type⟩ (zPreV hK hN hZ hP hD hS hA [0, 1] (by decide) rfl rfl 5 0 rfl rfl) rfl rfl hl.1 rfl (lv_room (Nat.le_of_ble_eq_true rfl)) dL_law_423 ⟨Nat.le_of_ble_eq_true rfl, Nat.le_of_ble_eq_true rfl⟩) (fun r u H locs hw hP hD hS => ?_)
    rcases hw with ⟨i_7000, rfl⟩ | ⟨i_7001, i_7002, rfl⟩ | ⟨i_7003, i_7004, i_7005, rfl⟩ | ⟨i_7006, i_7007, i_7008, i_7009, rfl⟩ | ⟨i_7010, i_7011, i_7012, i_7013, i_7014, rfl⟩ | ⟨i_7015, i_7016, i_7017, i_7018, i_7019, i_7020, rfl⟩ | ⟨i_7021, i_7022, i_7023, i_7024, i_7025, i_7026, i_7027, rfl⟩ | ⟨i_7028, i_7029, i_7030, i_7031, i_7032, i_7033, i_7034, i_7035, rfl⟩ | ⟨i_7036, i_7037, i_7038, i_7039, i_7040, i_7041, i_7042, i_7043, i_7044, rfl⟩ | ⟨i_7045, i_7046, i_7047, i_7048, i_7049, i_7050, i_7051, i_7052, i_7053, i_7054, rfl⟩ | ⟨i_7055, i_7056, i_7057, i_7058, i_7059, i_7060, i_7061, i_7062, i_7063, i_7064, i_7065, rfl⟩ | ⟨i_7066, i_7067, i_7068, i_7069, i_7070, i_7071, i_7072, i_7073, i_7074, i_7075, i_7076, i_7077, rfl⟩ | ⟨i_7078, i_7079, i_7080, i_7081, i_7082, i_7083, i_7084, i_7085, i_7086, i_7087, i_7088, i_7089, i_7090, rfl⟩ | ⟨i_7091, i_7092, i_7093, i_7094, i_7095, i_7096, i_7097, i_7098, i_7099, i_7100, i_7101, i_7102, i_7103, i_7104, rfl⟩ | ⟨i_7105, i_7106, i_7107, i_7108, i_7109, i_7110, i_7111, i_7112, i_7113, i_7114, i_7115, i_7116, i_7117, i_7118, i_7119, rfl⟩ | ⟨i_7120, i_7121, i_7122, i_7123, i_7124, i_7125, i_7126, i_7127, i_7128, i_7129, i_7130, i_7131, i_7132, i_7133, i_7134, i_7135, rfl⟩ | ⟨i_7136, i_7137, i_7138, i_7139, i_7140, i_7141, i_7142, i_7143, i_7144, i_7145, i_7146, i_7147, i_7148, i_7149, i_7150, i_7151, i_7152, rfl⟩ | ⟨i_7153, i_7154, i_7155, i_7156, i_7157, i_7158, i_7159, i_7160, i_7161, i_7162, i_7163, i_7164, i_7165, i_7166, i_7167, i_7168, i_7169, i_7170, rfl⟩ | ⟨i_7171, i_7172, i_7173, i_7174, i_7175, i_7176, i_7177, i_7178, i_7179, i_7180, i_7181, i_7182, i_7183, i_7184, i_7185, i_7186, i_7187, i_7188, i_7189, rfl⟩ | ⟨i_7190, i_7191, i_7192, i_7193, i_7194, i_7195, i_7196, i_7197, i_7198, i_7199, i_7200, i_7201, i_7202, i_7203, i_7204, i_7205, i_7206, i_7207, i_7208, i_7209, rfl⟩ | ⟨i_7210, i_7211, i_7212, i_7213, i_7214, i_7215, i_7216, i_7217, i_7218, i_7219, i_7220, i_7221, i_7222, i_7223, i_7224, i_7225, i_7226, i_7227, i_7228, i_7229, i_7230, rfl⟩ | ⟨i_7231, i_7232, i_7233, i_7234, i_7235, i_7236, i_7237, i_7238, i_7239, i_7240, i_7241, i_7242, i_7243, i_7244, i_7245, i_7246, i_7247, i_7248, i_7249, i_7250, i_7251, i_7252, rfl⟩ | ⟨i_7253, i_7254, i_7255, i_7256, i_7257, i_7258, i_7259, i_7260, i_7261, i_7262, i_7263, i_7264, i_7265, i_7266, i_7267, i_7268, i_7269, i_7270, i_7271, i_7272, i_7273, i_7274, i_7275, rfl⟩ | ⟨i_7276, i_7277, i_7278, i_7279, i_7280, i_7281, i_7282, i_7283, i_7284, i_7285, i_7286, i_7287, i_7288, i_7289, i_7290, i_7291, i_7292, i_7293, i_7294, i_7295, i_7296, i_7297, i_7298, i_7299, rfl⟩ | ⟨i_7300, i_7301, i_7302, i_7303, i_7304, i_7305, i_7306, i_7307, i_7308, i_7309, i_7310, i_7311, i_7312, i_7313, i_7314, i_7315, i_7316, i_7317, i_7318, i_7319, i_7320, i_7321, i_7322, i_7323, i_7324, rfl⟩ | ⟨i_7325, i_7326, i_7327, i_7328, i_7329, i_7330, i_7331, i_7332, i_7333, i_7334, i_7335, i_7336, i_7337, i_7338, i_7339, i_7340, i_7341, i_7342, i_7343, i_7344, i_7345, i_7346, i_7347, i_7348, i_7349, rfl⟩
    · exfalso; omega
    · exfalso; omega
    · exfalso; omega
    · exfalso; omega
    · exfalso; omega
    · exfalso; omega
    · exfalso; omega
    · exfalso; omega
    · exfalso; omega
    · exfalso; omega
    · exfalso; omega
    · exfalso; omega
    · exfalso; omega
    · exfalso; omega
    · exfalso; omega
    · exfalso; omega
    · exfalso; omega
    · exfalso; omega
    · skip
      have hP : va_P g.1 vwCl [] H := hP
      have hD : va_D (fun q : Nat => s.heap.size ≤ q) [] := hD
      refine lv_icmp_eq (tgt := 1054) hx hb dL_law_426 (by decide) (fun _ => ?_) (fun h => absurd h (by decide +kernel))
      exact lc_tail ⟨hx, hb, hml, hr, hlocks, hown, hts, hK, hN, hZ, hX, hbl⟩ hS (lv_sub hl [0, 1, 2, 3] rfl)
    · exfalso; omega
    · exfalso; omega
    · exfalso; omega
    · exfalso; omega
    · exfalso; omega
    · exfalso; omega
    · exfalso; omega
  · skip
    have hP : va_P g.1 vwCl [((am 0), .inr (5, [.ref (am 1), .int 0, .ref (am 2), .int 0, .int 0, .ref (am 3), .ref (am 4), .ref (am 5), .ref (am 6), .int 0, .ref (am 7), .ref (am 8), .ref (am 9), .int 0, .ref (am 10), .ref (am 11), .ref (am 12), .ref (am 13), .ref (am 14), .ref (am 15), .ref (am 16), .ref (am 17), .ref (am 18), .ref (am 19), .ref (am 20), .ref (am 21), .ref (am 22)])), ((am 2), .inl (zI g, 60, .inl (fun _ => 0)))] H := hP
    have hD : va_D (fun q : Nat => s.heap.size ≤ q) [((am 0), .inr (5, [.ref (am 1), .int 0, .ref (am 2), .int 0, .int 0, .ref (am 3), .ref (am 4), .ref (am 5), .ref (am 6), .int 0, .ref (am 7), .ref (am 8), .ref (am 9), .int 0, .ref (am 10), .ref (am 11), .ref (am 12), .ref (am 13), .ref (am 14), .ref (am 15), .ref (am 16), .ref (am 17), .ref (am 18), .ref (am 19), .ref (am 20), .ref (am 21), .ref (am 22)])), ((am 2), .inl (zI g, 60, .inl (fun _ => 0)))] := hD
    refine lv_aload_n hx hb dL_law_397 rfl (lv_at hl 2 rfl) ?_
    refine lv_aload_n hx hb dL_law_398 rfl (lv_at hl 0 rfl) ?_
    refine lv_iload_n hx hb dL_law_399 rfl (lv_at hl 3 rfl) ?_
    refine lv_iconst (v := 1) hx hb dL_law_400 (by decide) ?_
    refine lv_iadd hx hb dL_law_401 ?_
    refine lv_topi (nm_r (e' := 1) (by decide +kernel) ?_)
    refine va_sld hx hb hX hbl hbA hS (vp_in_iff.mpr (by decide +kernel)) dL_law_402 ?_
    refine lv_topi (nm_r (e' := (xs 1)) (by rfl) ?_)
    refine lv_i2l (v := (xs 1).toInt64) hx hb dL_law_403 rfl ?_
    refine lv_bipush (v := 32) hx hb dL_law_404 (by decide) ?_
    refine lv_lshl (v := (((xs 1).toInt64) <<< ((32 : Int32).toInt64 &&& 63))) hx hb dL_law_406 rfl ?_
    refine lv_aload_n hx hb dL_law_407 rfl (lv_at hl 0 rfl) ?_
    refine lv_iload_n hx hb dL_law_408 rfl (lv_at hl 3 rfl) ?_
    refine lv_iconst (v := 2) hx hb dL_law_409 (by decide) ?_
    refine lv_iadd hx hb dL_law_410 ?_
    refine lv_topi (nm_r (e' := 2) (by decide +kernel) ?_)
    refine va_sld hx hb hX hbl hbA hS (vp_in_iff.mpr (by decide +kernel)) dL_law_411 ?_
    refine lv_topi (nm_r (e' := (xs 2)) (by rfl) ?_)
    refine lv_i2l (v := (xs 2).toInt64) hx hb dL_law_412 rfl ?_
    refine lv_ldc2 (v := 4294967295) hx hb hown (hts _ m_k_RL_39) dL_law_413 ?_
    refine lv_land hx hb dL_law_416 ?_
    refine lv_lor hx hb dL_law_417 ?_
    refine lv_aload_n hx hb dL_law_418 rfl (lv_at hl 0 rfl) ?_
    refine lv_iload_n hx hb dL_law_419 rfl (lv_at hl 3 rfl) ?_
    refine lv_iconst (v := 3) hx hb dL_law_420 (by decide) ?_
    refine lv_iadd hx hb dL_law_421 ?_
    refine lv_topi (nm_r (e' := 3) (by decide +kernel) ?_)
    refine va_sld hx hb hX hbl hbA hS (vp_in_iff.mpr (by decide +kernel)) dL_law_422 ?_
    refine lv_topi (nm_r (e' := (xs 3)) (by rfl) ?_)
    refine z_calli (wr := []) hP hD hS hA [0, 1] [] (by decide) rfl rfl (by decide) (va_runV (As := [.long ((((xs 1).toInt64) <<< ((32 : Int32).toInt64 &&& 63)) ||| (((xs 2).toInt64) &&& 4294967295)), .int (xs 3)]) (rest := [.int (-1)]) ⟨hx, hb, hml, hown, hts⟩ (kX5_type l g (am 0) (am 1) (am 2) (am 3) (am 4) (am 5) (am 6) (am 7) (am 8) (am 9) (am 10) (am 11) (am 12) (am 13) (am 14) (am 15) (am 16) (am 17) (am 18) (am 19) (am 20) (am 21) (am 22) H.size ((((xs 1).toInt64) <<< ((32 : Int32).toInt64 &&& 63)) ||| (((xs 2).toInt64) &&& 4294967295)) (xs 3)) ⟨callB_of 2 hts (zGood m_o_yX5_type) rfl rfl rfl (hts _ m_z_RX5) (hts _ m_m_RL_45) ⟨by decide +kernel, by decide +kernel, by decide +kernel⟩ ⟨Nat.le_of_ble_eq_true rfl, Nat.le_of_ble_eq_true rfl⟩, hts _ m_i_yX5_type, hts _ m_e_yX5_type⟩ (zPreV hK hN hZ hP hD hS hA [0, 1] (by decide) rfl rfl 5 0 rfl rfl) rfl rfl hl.1 rfl (lv_room (Nat.le_of_ble_eq_true rfl)) dL_law_423 ⟨Nat.le_of_ble_eq_true rfl, Nat.le_of_ble_eq_true rfl⟩) (fun r u H locs hw hP hD hS => ?_)
    rcases hw with ⟨i_7350, rfl⟩ | ⟨i_7351, i_7352, rfl⟩ | ⟨i_7353, i_7354, i_7355, rfl⟩ | ⟨i_7356, i_7357, i_7358, i_7359, rfl⟩ | ⟨i_7360, i_7361, i_7362, i_7363, i_7364, rfl⟩ | ⟨i_7365, i_7366, i_7367, i_7368, i_7369, i_7370, rfl⟩ | ⟨i_7371, i_7372, i_7373, i_7374, i_7375, i_7376, i_7377, rfl⟩ | ⟨i_7378, i_7379, i_7380, i_7381, i_7382, i_7383, i_7384, i_7385, rfl⟩ | ⟨i_7386, i_7387, i_7388, i_7389, i_7390, i_7391, i_7392, i_7393, i_7394, rfl⟩ | ⟨i_7395, i_7396, i_7397, i_7398, i_7399, i_7400, i_7401, i_7402, i_7403, i_7404, rfl⟩ | ⟨i_7405, i_7406, i_7407, i_7408, i_7409, i_7410, i_7411, i_7412, i_7413, i_7414, i_7415, rfl⟩ | ⟨i_7416, i_7417, i_7418, i_7419, i_7420, i_7421, i_7422, i_7423, i_7424, i_7425, i_7426, i_7427, rfl⟩ | ⟨i_7428, i_7429, i_7430, i_7431, i_7432, i_7433, i_7434, i_7435, i_7436, i_7437, i_7438, i_7439, i_7440, rfl⟩ | ⟨i_7441, i_7442, i_7443, i_7444, i_7445, i_7446, i_7447, i_7448, i_7449, i_7450, i_7451, i_7452, i_7453, i_7454, rfl⟩ | ⟨i_7455, i_7456, i_7457, i_7458, i_7459, i_7460, i_7461, i_7462, i_7463, i_7464, i_7465, i_7466, i_7467, i_7468, i_7469, rfl⟩ | ⟨i_7470, i_7471, i_7472, i_7473, i_7474, i_7475, i_7476, i_7477, i_7478, i_7479, i_7480, i_7481, i_7482, i_7483, i_7484, i_7485, rfl⟩ | ⟨i_7486, i_7487, i_7488, i_7489, i_7490, i_7491, i_7492, i_7493, i_7494, i_7495, i_7496, i_7497, i_7498, i_7499, i_7500, i_7501, i_7502, rfl⟩ | ⟨i_7503, i_7504, i_7505, i_7506, i_7507, i_7508, i_7509, i_7510, i_7511, i_7512, i_7513, i_7514, i_7515, i_7516, i_7517, i_7518, i_7519, i_7520, rfl⟩ | ⟨i_7521, i_7522, i_7523, i_7524, i_7525, i_7526, i_7527, i_7528, i_7529, i_7530, i_7531, i_7532, i_7533, i_7534, i_7535, i_7536, i_7537, i_7538, i_7539, rfl⟩ | ⟨i_7540, i_7541, i_7542, i_7543, i_7544, i_7545, i_7546, i_7547, i_7548, i_7549, i_7550, i_7551, i_7552, i_7553, i_7554, i_7555, i_7556, i_7557, i_7558, i_7559, rfl⟩ | ⟨i_7560, i_7561, i_7562, i_7563, i_7564, i_7565, i_7566, i_7567, i_7568, i_7569, i_7570, i_7571, i_7572, i_7573, i_7574, i_7575, i_7576, i_7577, i_7578, i_7579, i_7580, rfl⟩ | ⟨i_7581, i_7582, i_7583, i_7584, i_7585, i_7586, i_7587, i_7588, i_7589, i_7590, i_7591, i_7592, i_7593, i_7594, i_7595, i_7596, i_7597, i_7598, i_7599, i_7600, i_7601, i_7602, rfl⟩ | ⟨i_7603, i_7604, i_7605, i_7606, i_7607, i_7608, i_7609, i_7610, i_7611, i_7612, i_7613, i_7614, i_7615, i_7616, i_7617, i_7618, i_7619, i_7620, i_7621, i_7622, i_7623, i_7624, i_7625, rfl⟩ | ⟨i_7626, i_7627, i_7628, i_7629, i_7630, i_7631, i_7632, i_7633, i_7634, i_7635, i_7636, i_7637, i_7638, i_7639, i_7640, i_7641, i_7642, i_7643, i_7644, i_7645, i_7646, i_7647, i_7648, i_7649, rfl⟩ | ⟨i_7650, i_7651, i_7652, i_7653, i_7654, i_7655, i_7656, i_7657, i_7658, i_7659, i_7660, i_7661, i_7662, i_7663, i_7664, i_7665, i_7666, i_7667, i_7668, i_7669, i_7670, i_7671, i_7672, i_7673, i_7674, rfl⟩ | ⟨i_7675, i_7676, i_7677, i_7678, i_7679, i_7680, i_7681, i_7682, i_7683, i_7684, i_7685, i_7686, i_7687, i_7688, i_7689, i_7690, i_7691, i_7692, i_7693, i_7694, i_7695, i_7696, i_7697, i_7698, i_7699, rfl⟩
    · exfalso; omega
    · exfalso; omega
    · exfalso; omega
    · exfalso; omega
    · exfalso; omega
    · exfalso; omega
    · exfalso; omega
    · exfalso; omega
    · exfalso; omega
    · exfalso; omega
    · exfalso; omega
    · exfalso; omega
    · exfalso; omega
    · exfalso; omega
    · exfalso; omega
    · skip
      have hP : va_P g.1 vwCl [] H := hP
      have hD : va_D (fun q : Nat => s.heap.size ≤ q) [] := hD
      refine lv_icmp_eq (tgt := 1054) hx hb dL_law_426 (by decide) (fun _ => ?_) (fun h => absurd h (by decide +kernel))
      exact lc_tail ⟨hx, hb, hml, hr, hlocks, hown, hts, hK, hN, hZ, hX, hbl⟩ hS (lv_sub hl [0, 1, 2, 3] rfl)
    · exfalso; omega
    · exfalso; omega
    · exfalso; omega
    · exfalso; omega
    · exfalso; omega
    · exfalso; omega
    · exfalso; omega
    · exfalso; omega
    · exfalso; omega
    · exfalso; omega
  · skip
    have hP : va_P g.1 vwCl [((am 0), .inr (5, [.ref (am 1), .int 0, .ref (am 2), .int 0, .int 0, .ref (am 3), .ref (am 4), .ref (am 5), .ref (am 6), .int 0, .ref (am 7), .ref (am 8), .ref (am 9), .int 0, .ref (am 10), .ref (am 11), .ref (am 12), .ref (am 13), .ref (am 14), .ref (am 15), .ref (am 16), .ref (am 17), .ref (am 18), .ref (am 19), .ref (am 20), .ref (am 21), .ref (am 22)])), ((am 2), .inl (zI g, 60, .inl (fun _ => 0)))] H := hP
    have hD : va_D (fun q : Nat => s.heap.size ≤ q) [((am 0), .inr (5, [.ref (am 1), .int 0, .ref (am 2), .int 0, .int 0, .ref (am 3), .ref (am 4), .ref (am 5), .ref (am 6), .int 0, .ref (am 7), .ref (am 8), .ref (am 9), .int 0, .ref (am 10), .ref (am 11), .ref (am 12), .ref (am 13), .ref (am 14), .ref (am 15), .ref (am 16), .ref (am 17), .ref (am 18), .ref (am 19), .ref (am 20), .ref (am 21), .ref (am 22)])), ((am 2), .inl (zI g, 60, .inl (fun _ => 0)))] := hD
    refine lv_aload_n hx hb dL_law_397 rfl (lv_at hl 2 rfl) ?_
    refine lv_aload_n hx hb dL_law_398 rfl (lv_at hl 0 rfl) ?_
    refine lv_iload_n hx hb dL_law_399 rfl (lv_at hl 3 rfl) ?_
    refine lv_iconst (v := 1) hx hb dL_law_400 (by decide) ?_
    refine lv_iadd hx hb dL_law_401 ?_
    refine lv_topi (nm_r (e' := 1) (by decide +kernel) ?_)
    refine va_sld hx hb hX hbl hbA hS (vp_in_iff.mpr (by decide +kernel)) dL_law_402 ?_
    refine lv_topi (nm_r (e' := (xs 1)) (by rfl) ?_)
    refine lv_i2l (v := (xs 1).toInt64) hx hb dL_law_403 rfl ?_
    refine lv_bipush (v := 32) hx hb dL_law_404 (by decide) ?_
    refine lv_lshl (v := (((xs 1).toInt64) <<< ((32 : Int32).toInt64 &&& 63))) hx hb dL_law_406 rfl ?_
    refine lv_aload_n hx hb dL_law_407 rfl (lv_at hl 0 rfl) ?_
    refine lv_iload_n hx hb dL_law_408 rfl (lv_at hl 3 rfl) ?_
    refine lv_iconst (v := 2) hx hb dL_law_409 (by decide) ?_
    refine lv_iadd hx hb dL_law_410 ?_
    refine lv_topi (nm_r (e' := 2) (by decide +kernel) ?_)
    refine va_sld hx hb hX hbl hbA hS (vp_in_iff.mpr (by decide +kernel)) dL_law_411 ?_
    refine lv_topi (nm_r (e' := (xs 2)) (by rfl) ?_)
    refine lv_i2l (v := (xs 2).toInt64) hx hb dL_law_412 rfl ?_
    refine lv_ldc2 (v := 4294967295) hx hb hown (hts _ m_k_RL_39) dL_law_413 ?_
    refine lv_land hx hb dL_law_416 ?_
    refine lv_lor hx hb dL_law_417 ?_
    refine lv_aload_n hx hb dL_law_418 rfl (lv_at hl 0 rfl) ?_
    refine lv_iload_n hx hb dL_law_419 rfl (lv_at hl 3 rfl) ?_
    refine lv_iconst (v := 3) hx hb dL_law_420 (by decide) ?_
    refine lv_iadd hx hb dL_law_421 ?_
    refine lv_topi (nm_r (e' := 3) (by decide +kernel) ?_)
    refine va_sld hx hb hX hbl hbA hS (vp_in_iff.mpr (by decide +kernel)) dL_law_422 ?_
    refine lv_topi (nm_r (e' := (xs 3)) (by rfl) ?_)
    refine z_calli (wr := []) hP hD hS hA [0, 1] [] (by decide) rfl rfl (by decide) (va_runV (As := [.long ((((xs 1).toInt64) <<< ((32 : Int32).toInt64 &&& 63)) ||| (((xs 2).toInt64) &&& 4294967295)), .int (xs 3)]) (rest := [.int (-1)]) ⟨hx, hb, hml, hown, hts⟩ (kX5_type l g (am 0) (am 1) (am 2) (am 3) (am 4) (am 5) (am 6) (am 7) (am 8) (am 9) (am 10) (am 11) (am 12) (am 13) (am 14) (am 15) (am 16) (am 17) (am 18) (am 19) (am 20) (am 21) (am 22) H.size ((((xs 1).toInt64) <<< ((32 : Int32).toInt64 &&& 63)) ||| (((xs 2).toInt64) &&& 4294967295)) (xs 3)) ⟨callB_of 2 hts (zGood m_o_yX5_type) rfl rfl rfl (hts _ m_z_RX5) (hts _ m_m_RL_45) ⟨by decide +kernel, by decide +kernel, by decide +kernel⟩ ⟨Nat.le_of_ble_eq_true rfl, Nat.le_of_ble_eq_true rfl⟩, hts _ m_i_yX5_type, hts _ m_e_yX5_type⟩ (zPreV hK hN hZ hP hD hS hA [0, 1] (by decide) rfl rfl 5 0 rfl rfl) rfl rfl hl.1 rfl (lv_room (Nat.le_of_ble_eq_true rfl)) dL_law_423 ⟨Nat.le_of_ble_eq_true rfl, Nat.le_of_ble_eq_true rfl⟩) (fun r u H locs hw hP hD hS => ?_)
    rcases hw with ⟨i_7700, rfl⟩ | ⟨i_7701, i_7702, rfl⟩ | ⟨i_7703, i_7704, i_7705, rfl⟩ | ⟨i_7706, i_7707, i_7708, i_7709, rfl⟩ | ⟨i_7710, i_7711, i_7712, i_7713, i_7714, rfl⟩ | ⟨i_7715, i_7716, i_7717, i_7718, i_7719, i_7720, rfl⟩ | ⟨i_7721, i_7722, i_7723, i_7724, i_7725, i_7726, i_7727, rfl⟩ | ⟨i_7728, i_7729, i_7730, i_7731, i_7732, i_7733, i_7734, i_7735, rfl⟩ | ⟨i_7736, i_7737, i_7738, i_7739, i_7740, i_7741, i_7742, i_7743, i_7744, rfl⟩ | ⟨i_7745, i_7746, i_7747, i_7748, i_7749, i_7750, i_7751, i_7752, i_7753, i_7754, rfl⟩ | ⟨i_7755, i_7756, i_7757, i_7758, i_7759, i_7760, i_7761, i_7762, i_7763, i_7764, i_7765, rfl⟩ | ⟨i_7766, i_7767, i_7768, i_7769, i_7770, i_7771, i_7772, i_7773, i_7774, i_7775, i_7776, i_7777, rfl⟩ | ⟨i_7778, i_7779, i_7780, i_7781, i_7782, i_7783, i_7784, i_7785, i_7786, i_7787, i_7788, i_7789, i_7790, rfl⟩ | ⟨i_7791, i_7792, i_7793, i_7794, i_7795, i_7796, i_7797, i_7798, i_7799, i_7800, i_7801, i_7802, i_7803, i_7804, rfl⟩ | ⟨i_7805, i_7806, i_7807, i_7808, i_7809, i_7810, i_7811, i_7812, i_7813, i_7814, i_7815, i_7816, i_7817, i_7818, i_7819, rfl⟩ | ⟨i_7820, i_7821, i_7822, i_7823, i_7824, i_7825, i_7826, i_7827, i_7828, i_7829, i_7830, i_7831, i_7832, i_7833, i_7834, i_7835, rfl⟩ | ⟨i_7836, i_7837, i_7838, i_7839, i_7840, i_7841, i_7842, i_7843, i_7844, i_7845, i_7846, i_7847, i_7848, i_7849, i_7850, i_7851, i_7852, rfl⟩ | ⟨i_7853, i_7854, i_7855, i_7856, i_7857, i_7858, i_7859, i_7860, i_7861, i_7862, i_7863, i_7864, i_7865, i_7866, i_7867, i_7868, i_7869, i_7870, rfl⟩ | ⟨i_7871, i_7872, i_7873, i_7874, i_7875, i_7876, i_7877, i_7878, i_7879, i_7880, i_7881, i_7882, i_7883, i_7884, i_7885, i_7886, i_7887, i_7888, i_7889, rfl⟩ | ⟨i_7890, i_7891, i_7892, i_7893, i_7894, i_7895, i_7896, i_7897, i_7898, i_7899, i_7900, i_7901, i_7902, i_7903, i_7904, i_7905, i_7906, i_7907, i_7908, i_7909, rfl⟩ | ⟨i_7910, i_7911, i_7912, i_7913, i_7914, i_7915, i_7916, i_7917, i_7918, i_7919, i_7920, i_7921, i_7922, i_7923, i_7924, i_7925, i_7926, i_7927, i_7928, i_7929, i_7930, rfl⟩ | ⟨i_7931, i_7932, i_7933, i_7934, i_7935, i_7936, i_7937, i_7938, i_7939, i_7940, i_7941, i_7942, i_7943, i_7944, i_7945, i_7946, i_7947, i_7948, i_7949, i_7950, i_7951, i_7952, rfl⟩ | ⟨i_7953, i_7954, i_7955, i_7956, i_7957, i_7958, i_7959, i_7960, i_7961, i_7962, i_7963, i_7964, i_7965, i_7966, i_7967, i_7968, i_7969, i_7970, i_7971, i_7972, i_7973, i_7974, i_7975, rfl⟩ | ⟨i_7976, i_7977, i_7978, i_7979, i_7980, i_7981, i_7982, i_7983, i_7984, i_7985, i_7986, i_7987, i_7988, i_7989, i_7990, i_7991, i_7992, i_7993, i_7994, i_7995, i_7996, i_7997, i_7998, i_7999, rfl⟩ | ⟨i_8000, i_8001, i_8002, i_8003, i_8004, i_8005, i_8006, i_8007, i_8008, i_8009, i_8010, i_8011, i_8012, i_8013, i_8014, i_8015, i_8016, i_8017, i_8018, i_8019, i_8020, i_8021, i_8022, i_8023, i_8024, rfl⟩ | ⟨i_8025, i_8026, i_8027, i_8028, i_8029, i_8030, i_8031, i_8032, i_8033, i_8034, i_8035, i_8036, i_8037, i_8038, i_8039, i_8040, i_8041, i_8042, i_8043, i_8044, i_8045, i_8046, i_8047, i_8048, i_8049, rfl⟩
    · exfalso; omega
    · exfalso; omega
    · exfalso; omega
    · exfalso; omega
    · exfalso; omega
    · exfalso; omega
    · exfalso; omega
    · exfalso; omega
    · exfalso; omega
    · exfalso; omega
    · exfalso; omega
    · exfalso; omega
    · skip
      have hP : va_P g.1 vwCl [] H := hP
      have hD : va_D (fun q : Nat => s.heap.size ≤ q) [] := hD
      refine lv_icmp_eq (tgt := 1054) hx hb dL_law_426 (by decide) (fun _ => ?_) (fun h => absurd h (by decide +kernel))
      exact lc_tail ⟨hx, hb, hml, hr, hlocks, hown, hts, hK, hN, hZ, hX, hbl⟩ hS (lv_sub hl [0, 1, 2, 3] rfl)
    · exfalso; omega
    · exfalso; omega
    · exfalso; omega
    · exfalso; omega
    · exfalso; omega
    · exfalso; omega
    · exfalso; omega
    · exfalso; omega
    · exfalso; omega
    · exfalso; omega
    · exfalso; omega
    · exfalso; omega
    · exfalso; omega
  · skip
    have hP : va_P g.1 vwCl [((am 0), .inr (5, [.ref (am 1), .int 0, .ref (am 2), .int 0, .int 0, .ref (am 3), .ref (am 4), .ref (am 5), .ref (am 6), .int 0, .ref (am 7), .ref (am 8), .ref (am 9), .int 0, .ref (am 10), .ref (am 11), .ref (am 12), .ref (am 13), .ref (am 14), .ref (am 15), .ref (am 16), .ref (am 17), .ref (am 18), .ref (am 19), .ref (am 20), .ref (am 21), .ref (am 22)])), ((am 2), .inl (zI g, 60, .inl (fun _ => 0)))] H := hP
    have hD : va_D (fun q : Nat => s.heap.size ≤ q) [((am 0), .inr (5, [.ref (am 1), .int 0, .ref (am 2), .int 0, .int 0, .ref (am 3), .ref (am 4), .ref (am 5), .ref (am 6), .int 0, .ref (am 7), .ref (am 8), .ref (am 9), .int 0, .ref (am 10), .ref (am 11), .ref (am 12), .ref (am 13), .ref (am 14), .ref (am 15), .ref (am 16), .ref (am 17), .ref (am 18), .ref (am 19), .ref (am 20), .ref (am 21), .ref (am 22)])), ((am 2), .inl (zI g, 60, .inl (fun _ => 0)))] := hD
    refine lv_aload_n hx hb dL_law_397 rfl (lv_at hl 2 rfl) ?_
    refine lv_aload_n hx hb dL_law_398 rfl (lv_at hl 0 rfl) ?_
    refine lv_iload_n hx hb dL_law_399 rfl (lv_at hl 3 rfl) ?_
    refine lv_iconst (v := 1) hx hb dL_law_400 (by decide) ?_
    refine lv_iadd hx hb dL_law_401 ?_
    refine lv_topi (nm_r (e' := 1) (by decide +kernel) ?_)
    refine va_sld hx hb hX hbl hbA hS (vp_in_iff.mpr (by decide +kernel)) dL_law_402 ?_
    refine lv_topi (nm_r (e' := (xs 1)) (by rfl) ?_)
    refine lv_i2l (v := (xs 1).toInt64) hx hb dL_law_403 rfl ?_
    refine lv_bipush (v := 32) hx hb dL_law_404 (by decide) ?_
    refine lv_lshl (v := (((xs 1).toInt64) <<< ((32 : Int32).toInt64 &&& 63))) hx hb dL_law_406 rfl ?_
    refine lv_aload_n hx hb dL_law_407 rfl (lv_at hl 0 rfl) ?_
    refine lv_iload_n hx hb dL_law_408 rfl (lv_at hl 3 rfl) ?_
    refine lv_iconst (v := 2) hx hb dL_law_409 (by decide) ?_
    refine lv_iadd hx hb dL_law_410 ?_
    refine lv_topi (nm_r (e' := 2) (by decide +kernel) ?_)
    refine va_sld hx hb hX hbl hbA hS (vp_in_iff.mpr (by decide +kernel)) dL_law_411 ?_
    refine lv_topi (nm_r (e' := (xs 2)) (by rfl) ?_)
    refine lv_i2l (v := (xs 2).toInt64) hx hb dL_law_412 rfl ?_
    refine lv_ldc2 (v := 4294967295) hx hb hown (hts _ m_k_RL_39) dL_law_413 ?_
    refine lv_land hx hb dL_law_416 ?_
    refine lv_lor hx hb dL_law_417 ?_
    refine lv_aload_n hx hb dL_law_418 rfl (lv_at hl 0 rfl) ?_
    refine lv_iload_n hx hb dL_law_419 rfl (lv_at hl 3 rfl) ?_
    refine lv_iconst (v := 3) hx hb dL_law_420 (by decide) ?_
    refine lv_iadd hx hb dL_law_421 ?_
    refine lv_topi (nm_r (e' := 3) (by decide +kernel) ?_)
    refine va_sld hx hb hX hbl hbA hS (vp_in_iff.mpr (by decide +kernel)) dL_law_422 ?_
    refine lv_topi (nm_r (e' := (xs 3)) (by rfl) ?_)
    refine z_calli (wr := []) hP hD hS hA [0, 1] [] (by decide) rfl rfl (by decide) (va_runV (As := [.long ((((xs 1).toInt64) <<< ((32 : Int32).toInt64 &&& 63)) ||| (((xs 2).toInt64) &&& 4294967295)), .int (xs 3)]) (rest := [.int (-1)]) ⟨hx, hb, hml, hown, hts⟩ (kX5_type l g (am 0) (am 1) (am 2) (am 3) (am 4) (am 5) (am 6) (am 7) (am 8) (am 9) (am 10) (am 11) (am 12) (am 13) (am 14) (am 15) (am 16) (am 17) (am 18) (am 19) (am 20) (am 21) (am 22) H.size ((((xs 1).toInt64) <<< ((32 : Int32).toInt64 &&& 63)) ||| (((xs 2).toInt64) &&& 4294967295)) (xs 3)) ⟨callB_of 2 hts (zGood m_o_yX5_type) rfl rfl rfl (hts _ m_z_RX5) (hts _ m_m_RL_45) ⟨by decide +kernel, by decide +kernel, by decide +kernel⟩ ⟨Nat.le_of_ble_eq_true rfl, Nat.le_of_ble_eq_true rfl⟩, hts _ m_i_yX5_type, hts _ m_e_yX5_type⟩ (zPreV hK hN hZ hP hD hS hA [0, 1] (by decide) rfl rfl 5 0 rfl rfl) rfl rfl hl.1 rfl (lv_room (Nat.le_of_ble_eq_true rfl)) dL_law_423 ⟨Nat.le_of_ble_eq_true rfl, Nat.le_of_ble_eq_true rfl⟩) (fun r u H locs hw hP hD hS => ?_)
    rcases hw with ⟨i_8050, rfl⟩ | ⟨i_8051, i_8052, rfl⟩ | ⟨i_8053, i_8054, i_8055, rfl⟩ | ⟨i_8056, i_8057, i_8058, i_8059, rfl⟩ | ⟨i_8060, i_8061, i_8062, i_8063, i_8064, rfl⟩ | ⟨i_8065, i_8066, i_8067, i_8068, i_8069, i_8070, rfl⟩ | ⟨i_8071, i_8072, i_8073, i_8074, i_8075, i_8076, i_8077, rfl⟩ | ⟨i_8078, i_8079, i_8080, i_8081, i_8082, i_8083, i_8084, i_8085, rfl⟩ | ⟨i_8086, i_8087, i_8088, i_8089, i_8090, i_8091, i_8092, i_8093, i_8094, rfl⟩ | ⟨i_8095, i_8096, i_8097, i_8098, i_8099, i_8100, i_8101, i_8102, i_8103, i_8104, rfl⟩ | ⟨i_8105, i_8106, i_8107, i_8108, i_8109, i_8110, i_8111, i_8112, i_8113, i_8114, i_8115, rfl⟩ | ⟨i_8116, i_8117, i_8118, i_8119, i_8120, i_8121, i_8122, i_8123, i_8124, i_8125, i_8126, i_8127, rfl⟩ | ⟨i_8128, i_8129, i_8130, i_8131, i_8132, i_8133, i_8134, i_8135, i_8136, i_8137, i_8138, i_8139, i_8140, rfl⟩ | ⟨i_8141, i_8142, i_8143, i_8144, i_8145, i_8146, i_8147, i_8148, i_8149, i_8150, i_8151, i_8152, i_8153, i_8154, rfl⟩ | ⟨i_8155, i_8156, i_8157, i_8158, i_8159, i_8160, i_8161, i_8162, i_8163, i_8164, i_8165, i_8166, i_8167, i_8168, i_8169, rfl⟩ | ⟨i_8170, i_8171, i_8172, i_8173, i_8174, i_8175, i_8176, i_8177, i_8178, i_8179, i_8180, i_8181, i_8182, i_8183, i_8184, i_8185, rfl⟩ | ⟨i_8186, i_8187, i_8188, i_8189, i_8190, i_8191, i_8192, i_8193, i_8194, i_8195, i_8196, i_8197, i_8198, i_8199, i_8200, i_8201, i_8202, rfl⟩ | ⟨i_8203, i_8204, i_8205, i_8206, i_8207, i_8208, i_8209, i_8210, i_8211, i_8212, i_8213, i_8214, i_8215, i_8216, i_8217, i_8218, i_8219, i_8220, rfl⟩ | ⟨i_8221, i_8222, i_8223, i_8224, i_8225, i_8226, i_8227, i_8228, i_8229, i_8230, i_8231, i_8232, i_8233, i_8234, i_8235, i_8236, i_8237, i_8238, i_8239, rfl⟩ | ⟨i_8240, i_8241, i_8242, i_8243, i_8244, i_8245, i_8246, i_8247, i_8248, i_8249, i_8250, i_8251, i_8252, i_8253, i_8254, i_8255, i_8256, i_8257, i_8258, i_8259, rfl⟩ | ⟨i_8260, i_8261, i_8262, i_8263, i_8264, i_8265, i_8266, i_8267, i_8268, i_8269, i_8270, i_8271, i_8272, i_8273, i_8274, i_8275, i_8276, i_8277, i_8278, i_8279, i_8280, rfl⟩ | ⟨i_8281, i_8282, i_8283, i_8284, i_8285, i_8286, i_8287, i_8288, i_8289, i_8290, i_8291, i_8292, i_8293, i_8294, i_8295, i_8296, i_8297, i_8298, i_8299, i_8300, i_8301, i_8302, rfl⟩ | ⟨i_8303, i_8304, i_8305, i_8306, i_8307, i_8308, i_8309, i_8310, i_8311, i_8312, i_8313, i_8314, i_8315, i_8316, i_8317, i_8318, i_8319, i_8320, i_8321, i_8322, i_8323, i_8324, i_8325, rfl⟩ | ⟨i_8326, i_8327, i_8328, i_8329, i_8330, i_8331, i_8332, i_8333, i_8334, i_8335, i_8336, i_8337, i_8338, i_8339, i_8340, i_8341, i_8342, i_8343, i_8344, i_8345, i_8346, i_8347, i_8348, i_8349, rfl⟩ | ⟨i_8350, i_8351, i_8352, i_8353, i_8354, i_8355, i_8356, i_8357, i_8358, i_8359, i_8360, i_8361, i_8362, i_8363, i_8364, i_8365, i_8366, i_8367, i_8368, i_8369, i_8370, i_8371, i_8372, i_8373, i_8374, rfl⟩ | ⟨i_8375, i_8376, i_8377, i_8378, i_8379, i_8380, i_8381, i_8382, i_8383, i_8384, i_8385, i_8386, i_8387, i_8388, i_8389, i_8390, i_8391, i_8392, i_8393, i_8394, i_8395, i_8396, i_8397, i_8398, i_8399, rfl⟩
    · exfalso; omega
    · exfalso; omega
    · exfalso; omega
    · exfalso; omega
    · exfalso; omega
    · exfalso; omega
    · exfalso; omega
    · exfalso; omega
    · exfalso; omega
    · skip
      have hP : va_P g.1 vwCl [] H := hP
      have hD : va_D (fun q : Nat => s.heap.size ≤ q) [] := hD
      refine lv_icmp_eq (tgt := 1054) hx hb dL_law_426 (by decide) (fun _ => ?_) (fun h => absurd h (by decide +kernel))
      exact lc_tail ⟨hx, hb, hml, hr, hlocks, hown, hts, hK, hN, hZ, hX, hbl⟩ hS (lv_sub hl [0, 1, 2, 3] rfl)
    · exfalso; omega
    · exfalso; omega
    · exfalso; omega
    · exfalso; omega
    · exfalso; omega
    · exfalso; omega
    · exfalso; omega
    · exfalso; omega
    · exfalso; omega
    · exfalso; omega
    · exfalso; omega
    · exfalso; omega
    · exfalso; omega
    · exfalso; omega
    · exfalso; omega
    · exfalso; omega
  · skip
    have hP : va_P g.1 vwCl [((am 0), .inr (5, [.ref (am 1), .int 0, .ref (am 2), .int 0, .int 0, .ref (am 3), .ref (am 4), .ref (am 5), .ref (am 6), .int 0, .ref (am 7), .ref (am 8), .ref (am 9), .int 0, .ref (am 10), .ref (am 11), .ref (am 12), .ref (am 13), .ref (am 14), .ref (am 15), .ref (am 16), .ref (am 17), .ref (am 18), .ref (am 19), .ref (am 20), .ref (am 21), .ref (am 22)])), ((am 2), .inl (zI g, 60, .inl (fun _ => 0)))] H := hP
    have hD : va_D (fun q : Nat => s.heap.size ≤ q) [((am 0), .inr (5, [.ref (am 1), .int 0, .ref (am 2), .int 0, .int 0, .ref (am 3), .ref (am 4), .ref (am 5), .ref (am 6), .int 0, .ref (am 7), .ref (am 8), .ref (am 9), .int 0, .ref (am 10), .ref (am 11), .ref (am 12), .ref (am 13), .ref (am 14), .ref (am 15), .ref (am 16), .ref (am 17), .ref (am 18), .ref (am 19), .ref (am 20), .ref (am 21), .ref (am 22)])), ((am 2), .inl (zI g, 60, .inl (fun _ => 0)))] := hD
    refine lv_aload_n hx hb dL_law_397 rfl (lv_at hl 2 rfl) ?_
    refine lv_aload_n hx hb dL_law_398 rfl (lv_at hl 0 rfl) ?_
    refine lv_iload_n hx hb dL_law_399 rfl (lv_at hl 3 rfl) ?_
    refine lv_iconst (v := 1) hx hb dL_law_400 (by decide) ?_
    refine lv_iadd hx hb dL_law_401 ?_
    refine lv_topi (nm_r (e' := 1) (by decide +kernel) ?_)
    refine va_sld hx hb hX hbl hbA hS (vp_in_iff.mpr (by decide +kernel)) dL_law_402 ?_
    refine lv_topi (nm_r (e' := (xs 1)) (by rfl) ?_)
    refine lv_i2l (v := (xs 1).toInt64) hx hb dL_law_403 rfl ?_
    refine lv_bipush (v := 32) hx hb dL_law_404 (by decide) ?_
    refine lv_lshl (v := (((xs 1).toInt64) <<< ((32 : Int32).toInt64 &&& 63))) hx hb dL_law_406 rfl ?_
    refine lv_aload_n hx hb dL_law_407 rfl (lv_at hl 0 rfl) ?_
    refine lv_iload_n hx hb dL_law_408 rfl (lv_at hl 3 rfl) ?_
    refine lv_iconst (v := 2) hx hb dL_law_409 (by decide) ?_
    refine lv_iadd hx hb dL_law_410 ?_
    refine lv_topi (nm_r (e' := 2) (by decide +kernel) ?_)
    refine va_sld hx hb hX hbl hbA hS (vp_in_iff.mpr (by decide +kernel)) dL_law_411 ?_
    refine lv_topi (nm_r (e' := (xs 2)) (by rfl) ?_)
    refine lv_i2l (v := (xs 2).toInt64) hx hb dL_law_412 rfl ?_
    refine lv_ldc2 (v := 4294967295) hx hb hown (hts _ m_k_RL_39) dL_law_413 ?_
    refine lv_land hx hb dL_law_416 ?_
    refine lv_lor hx hb dL_law_417 ?_
    refine lv_aload_n hx hb dL_law_418 rfl (lv_at hl 0 rfl) ?_
    refine lv_iload_n hx hb dL_law_419 rfl (lv_at hl 3 rfl) ?_
    refine lv_iconst (v := 3) hx hb dL_law_420 (by decide) ?_
    refine lv_iadd hx hb dL_law_421 ?_
    refine lv_topi (nm_r (e' := 3) (by decide +kernel) ?_)
    refine va_sld hx hb hX hbl hbA hS (vp_in_iff.mpr (by decide +kernel)) dL_law_422 ?_
    refine lv_topi (nm_r (e' := (xs 3)) (by rfl) ?_)
    refine z_calli (wr := []) hP hD hS hA [0, 1] [] (by decide) rfl rfl (by decide) (va_runV (As := [.long ((((xs 1).toInt64) <<< ((32 : Int32).toInt64 &&& 63)) ||| (((xs 2).toInt64) &&& 4294967295)), .int (xs 3)]) (rest := [.int (-1)]) ⟨hx, hb, hml, hown, hts⟩ (kX5_type l g (am 0) (am 1) (am 2) (am 3) (am 4) (am 5) (am 6) (am 7) (am 8) (am 9) (am 10) (am 11) (am 12) (am 13) (am 14) (am 15) (am 16) (am 17) (am 18) (am 19) (am 20) (am 21) (am 22) H.size ((((xs 1).toInt64) <<< ((32 : Int32).toInt64 &&& 63)) ||| (((xs 2).toInt64) &&& 4294967295)) (xs 3)) ⟨callB_of 2 hts (zGood m_o_yX5_type) rfl rfl rfl (hts _ m_z_RX5) (hts _ m_m_RL_45) ⟨by decide +kernel, by decide +kernel, by decide +kernel⟩ ⟨Nat.le_of_ble_eq_true rfl, Nat.le_of_ble_eq_true rfl⟩, hts _ m_i_yX5_type, hts _ m_e_yX5_type⟩ (zPreV hK hN hZ hP hD hS hA [0, 1] (by decide) rfl rfl 5 0 rfl rfl) rfl rfl hl.1 rfl (lv_room (Nat.le_of_ble_eq_true rfl)) dL_law_423 ⟨Nat.le_of_ble_eq_true rfl, Nat.le_of_ble_eq_true rfl⟩) (fun r u H locs hw hP hD hS => ?_)
    rcases hw with ⟨i_8400, rfl⟩ | ⟨i_8401, i_8402, rfl⟩ | ⟨i_8403, i_8404, i_8405, rfl⟩ | ⟨i_8406, i_8407, i_8408, i_8409, rfl⟩ | ⟨i_8410, i_8411, i_8412, i_8413, i_8414, rfl⟩ | ⟨i_8415, i_8416, i_8417, i_8418, i_8419, i_8420, rfl⟩ | ⟨i_8421, i_8422, i_8423, i_8424, i_8425, i_8426, i_8427, rfl⟩ | ⟨i_8428, i_8429, i_8430, i_8431, i_8432, i_8433, i_8434, i_8435, rfl⟩ | ⟨i_8436, i_8437, i_8438, i_8439, i_8440, i_8441, i_8442, i_8443, i_8444, rfl⟩ | ⟨i_8445, i_8446, i_8447, i_8448, i_8449, i_8450, i_8451, i_8452, i_8453, i_8454, rfl⟩ | ⟨i_8455, i_8456, i_8457, i_8458, i_8459, i_8460, i_8461, i_8462, i_8463, i_8464, i_8465, rfl⟩ | ⟨i_8466, i_8467, i_8468, i_8469, i_8470, i_8471, i_8472, i_8473, i_8474, i_8475, i_8476, i_8477, rfl⟩ | ⟨i_8478, i_8479, i_8480, i_8481, i_8482, i_8483, i_8484, i_8485, i_8486, i_8487, i_8488, i_8489, i_8490, rfl⟩ | ⟨i_8491, i_8492, i_8493, i_8494, i_8495, i_8496, i_8497, i_8498, i_8499, i_8500, i_8501, i_8502, i_8503, i_8504, rfl⟩ | ⟨i_8505, i_8506, i_8507, i_8508, i_8509, i_8510, i_8511, i_8512, i_8513, i_8514, i_8515, i_8516, i_8517, i_8518, i_8519, rfl⟩ | ⟨i_8520, i_8521, i_8522, i_8523, i_8524, i_8525, i_8526, i_8527, i_8528, i_8529, i_8530, i_8531, i_8532, i_8533, i_8534, i_8535, rfl⟩ | ⟨i_8536, i_8537, i_8538, i_8539, i_8540, i_8541, i_8542, i_8543, i_8544, i_8545, i_8546, i_8547, i_8548, i_8549, i_8550, i_8551, i_8552, rfl⟩ | ⟨i_8553, i_8554, i_8555, i_8556, i_8557, i_8558, i_8559, i_8560, i_8561, i_8562, i_8563, i_8564, i_8565, i_8566, i_8567, i_8568, i_8569, i_8570, rfl⟩ | ⟨i_8571, i_8572, i_8573, i_8574, i_8575, i_8576, i_8577, i_8578, i_8579, i_8580, i_8581, i_8582, i_8583, i_8584, i_8585, i_8586, i_8587, i_8588, i_8589, rfl⟩ | ⟨i_8590, i_8591, i_8592, i_8593, i_8594, i_8595, i_8596, i_8597, i_8598, i_8599, i_8600, i_8601, i_8602, i_8603, i_8604, i_8605, i_8606, i_8607, i_8608, i_8609, rfl⟩ | ⟨i_8610, i_8611, i_8612, i_8613, i_8614, i_8615, i_8616, i_8617, i_8618, i_8619, i_8620, i_8621, i_8622, i_8623, i_8624, i_8625, i_8626, i_8627, i_8628, i_8629, i_8630, rfl⟩ | ⟨i_8631, i_8632, i_8633, i_8634, i_8635, i_8636, i_8637, i_8638, i_8639, i_8640, i_8641, i_8642, i_8643, i_8644, i_8645, i_8646, i_8647, i_8648, i_8649, i_8650, i_8651, i_8652, rfl⟩ | ⟨i_8653, i_8654, i_8655, i_8656, i_8657, i_8658, i_8659, i_8660, i_8661, i_8662, i_8663, i_8664, i_8665, i_8666, i_8667, i_8668, i_8669, i_8670, i_8671, i_8672, i_8673, i_8674, i_8675, rfl⟩ | ⟨i_8676, i_8677, i_8678, i_8679, i_8680, i_8681, i_8682, i_8683, i_8684, i_8685, i_8686, i_8687, i_8688, i_8689, i_8690, i_8691, i_8692, i_8693, i_8694, i_8695, i_8696, i_8697, i_8698, i_8699, rfl⟩ | ⟨i_8700, i_8701, i_8702, i_8703, i_8704, i_8705, i_8706, i_8707, i_8708, i_8709, i_8710, i_8711, i_8712, i_8713, i_8714, i_8715, i_8716, i_8717, i_8718, i_8719, i_8720, i_8721, i_8722, i_8723, i_8724, rfl⟩ | ⟨i_8725, i_8726, i_8727, i_8728, i_8729, i_8730, i_8731, i_8732, i_8733, i_8734, i_8735, i_8736, i_8737, i_8738, i_8739, i_8740, i_8741, i_8742, i_8743, i_8744, i_8745, i_8746, i_8747, i_8748, i_8749, rfl⟩
    · exfalso; omega
    · exfalso; omega
    · exfalso; omega
    · exfalso; omega
    · exfalso; omega
    · exfalso; omega
    · skip
      have hP : va_P g.1 vwCl [] H := hP
      have hD : va_D (fun q : Nat => s.heap.size ≤ q) [] := hD
      refine lv_icmp_eq (tgt := 1054) hx hb dL_law_426 (by decide) (fun _ => ?_) (fun h => absurd h (by decide +kernel))
      exact lc_tail ⟨hx, hb, hml, hr, hlocks, hown, hts, hK, hN, hZ, hX, hbl⟩ hS (lv_sub hl [0, 1, 2, 3] rfl)
    · exfalso; omega
    · exfalso; omega
    · exfalso; omega
    · exfalso; omega
    · exfalso; omega
    · exfalso; omega
    · exfalso; omega
    · exfalso; omega
    · exfalso; omega
    · exfalso; omega
    · exfalso; omega
    · exfalso; omega
    · exfalso; omega
    · exfalso; omega
    · exfalso; omega
    · exfalso; omega
    · exfalso; omega
    · exfalso; omega
    · exfalso; omega
  · skip
    have hP : va_P g.1 vwCl [((am 0), .inr (5, [.ref (am 1), .int 0, .ref (am 2), .int 0, .int 0, .ref (am 3), .ref (am 4), .ref (am 5), .ref (am 6), .int 0, .ref (am 7), .ref (am 8), .ref (am 9), .int 0, .ref (am 10), .ref (am 11), .ref (am 12), .ref (am 13), .ref (am 14), .ref (am 15), .ref (am 16), .ref (am 17), .ref (am 18), .ref (am 19), .ref (am 20), .ref (am 21), .ref (am 22)])), ((am 2), .inl (zI g, 60, .inl (fun _ => 0)))] H := hP
    have hD : va_D (fun q : Nat => s.heap.size ≤ q) [((am 0), .inr (5, [.ref (am 1), .int 0, .ref (am 2), .int 0, .int 0, .ref (am 3), .ref (am 4), .ref (am 5), .ref (am 6), .int 0, .ref (am 7), .ref (am 8), .ref (am 9), .int 0, .ref (am 10), .ref (am 11), .ref (am 12), .ref (am 13), .ref (am 14), .ref (am 15), .ref (am 16), .ref (am 17), .ref (am 18), .ref (am 19), .ref (am 20), .ref (am 21), .ref (am 22)])), ((am 2), .inl (zI g, 60, .inl (fun _ => 0)))] := hD
    refine lv_aload_n hx hb dL_law_397 rfl (lv_at hl 2 rfl) ?_
    refine lv_aload_n hx hb dL_law_398 rfl (lv_at hl 0 rfl) ?_
    refine lv_iload_n hx hb dL_law_399 rfl (lv_at hl 3 rfl) ?_
    refine lv_iconst (v := 1) hx hb dL_law_400 (by decide) ?_
    refine lv_iadd hx hb dL_law_401 ?_
    refine lv_topi (nm_r (e' := 1) (by decide +kernel) ?_)
    refine va_sld hx hb hX hbl hbA hS (vp_in_iff.mpr (by decide +kernel)) dL_law_402 ?_
    refine lv_topi (nm_r (e' := (xs 1)) (by rfl) ?_)
    refine lv_i2l (v := (xs 1).toInt64) hx hb dL_law_403 rfl ?_
    refine lv_bipush (v := 32) hx hb dL_law_404 (by decide) ?_
    refine lv_lshl (v := (((xs 1).toInt64) <<< ((32 : Int32).toInt64 &&& 63))) hx hb dL_law_406 rfl ?_
    refine lv_aload_n hx hb dL_law_407 rfl (lv_at hl 0 rfl) ?_
    refine lv_iload_n hx hb dL_law_408 rfl (lv_at hl 3 rfl) ?_
    refine lv_iconst (v := 2) hx hb dL_law_409 (by decide) ?_
    refine lv_iadd hx hb dL_law_410 ?_
    refine lv_topi (nm_r (e' := 2) (by decide +kernel) ?_)
    refine va_sld hx hb hX hbl hbA hS (vp_in_iff.mpr (by decide +kernel)) dL_law_411 ?_
    refine lv_topi (nm_r (e' := (xs 2)) (by rfl) ?_)
    refine lv_i2l (v := (xs 2).toInt64) hx hb dL_law_412 rfl ?_
    refine lv_ldc2 (v := 4294967295) hx hb hown (hts _ m_k_RL_39) dL_law_413 ?_
    refine lv_land hx hb dL_law_416 ?_
    refine lv_lor hx hb dL_law_417 ?_
    refine lv_aload_n hx hb dL_law_418 rfl (lv_at hl 0 rfl) ?_
    refine lv_iload_n hx hb dL_law_419 rfl (lv_at hl 3 rfl) ?_
    refine lv_iconst (v := 3) hx hb dL_law_420 (by decide) ?_
    refine lv_iadd hx hb dL_law_421 ?_
    refine lv_topi (nm_r (e' := 3) (by decide +kernel) ?_)
    refine va_sld hx hb hX hbl hbA hS (vp_in_iff.mpr (by decide +kernel)) dL_law_422 ?_
    refine lv_topi (nm_r (e' := (xs 3)) (by rfl) ?_)
    refine z_calli (wr := []) hP hD hS hA [0, 1] [] (by decide) rfl rfl (by decide) (va_runV (As := [.long ((((xs 1).toInt64) <<< ((32 : Int32).toInt64 &&& 63)) ||| (((xs 2).toInt64) &&& 4294967295)), .int (xs 3)]) (rest := [.int (-1)]) ⟨hx, hb, hml, hown, hts⟩ (kX5_type l g (am 0) (am 1) (am 2) (am 3) (am 4) (am 5) (am 6) (am 7) (am 8) (am 9) (am 10) (am 11) (am 12) (am 13) (am 14) (am 15) (am 16) (am 17) (am 18) (am 19) (am 20) (am 21) (am 22) H.size ((((xs 1).toInt64) <<< ((32 : Int32).toInt64 &&& 63)) ||| (((xs 2).toInt64) &&& 4294967295)) (xs 3)) ⟨callB_of 2 hts (zGood m_o_yX5_type) rfl rfl rfl (hts _ m_z_RX5) (hts _ m_m_RL_45) ⟨by decide +kernel, by decide +kernel, by decide +kernel⟩ ⟨Nat.le_of_ble_eq_true rfl, Nat.le_of_ble_eq_true rfl⟩, hts _ m_i_yX5_type, hts _ m_e_yX5_type⟩ (zPreV hK hN hZ hP hD hS hA [0, 1] (by decide) rfl rfl 5 0 rfl rfl) rfl rfl hl.1 rfl (lv_room (Nat.le_of_ble_eq_true rfl)) dL_law_423 ⟨Nat.le_of_ble_eq_true rfl, Nat.le_of_ble_eq_true rfl⟩) (fun r u H locs hw hP hD hS => ?_)
    rcases hw with ⟨i_8750, rfl⟩ | ⟨i_8751, i_8752, rfl⟩ | ⟨i_8753, i_8754, i_8755, rfl⟩ | ⟨i_8756, i_8757, i_8758, i_8759, rfl⟩ | ⟨i_8760, i_8761, i_8762, i_8763, i_8764, rfl⟩ | ⟨i_8765, i_8766, i_8767, i_8768, i_8769, i_8770, rfl⟩ | ⟨i_8771, i_8772, i_8773, i_8774, i_8775, i_8776, i_8777, rfl⟩ | ⟨i_8778, i_8779, i_8780, i_8781, i_8782, i_8783, i_8784, i_8785, rfl⟩ | ⟨i_8786, i_8787, i_8788, i_8789, i_8790, i_8791, i_8792, i_8793, i_8794, rfl⟩ | ⟨i_8795, i_8796, i_8797, i_8798, i_8799, i_8800, i_8801, i_8802, i_8803, i_8804, rfl⟩ | ⟨i_8805, i_8806, i_8807, i_8808, i_8809, i_8810, i_8811, i_8812, i_8813, i_8814, i_8815, rfl⟩ | ⟨i_8816, i_8817, i_8818, i_8819, i_8820, i_8821, i_8822, i_8823, i_8824, i_8825, i_8826, i_8827, rfl⟩ | ⟨i_8828, i_8829, i_8830, i_8831, i_8832, i_8833, i_8834, i_8835, i_8836, i_8837, i_8838, i_8839, i_8840, rfl⟩ | ⟨i_8841, i_8842, i_8843, i_8844, i_8845, i_8846, i_8847, i_8848, i_8849, i_8850, i_8851, i_8852, i_8853, i_8854, rfl⟩ | ⟨i_8855, i_8856, i_8857, i_8858, i_8859, i_8860, i_8861, i_8862, i_8863, i_8864, i_8865, i_8866, i_8867, i_8868, i_8869, rfl⟩ | ⟨i_8870, i_8871, i_8872, i_8873, i_8874, i_8875, i_8876, i_8877, i_8878, i_8879, i_8880, i_8881, i_8882, i_8883, i_8884, i_8885, rfl⟩ | ⟨i_8886, i_8887, i_8888, i_8889, i_8890, i_8891, i_8892, i_8893, i_8894, i_8895, i_8896, i_8897, i_8898, i_8899, i_8900, i_8901, i_8902, rfl⟩ | ⟨i_8903, i_8904, i_8905, i_8906, i_8907, i_8908, i_8909, i_8910, i_8911, i_8912, i_8913, i_8914, i_8915, i_8916, i_8917, i_8918, i_8919, i_8920, rfl⟩ | ⟨i_8921, i_8922, i_8923, i_8924, i_8925, i_8926, i_8927, i_8928, i_8929, i_8930, i_8931, i_8932, i_8933, i_8934, i_8935, i_8936, i_8937, i_8938, i_8939, rfl⟩ | ⟨i_8940, i_8941, i_8942, i_8943, i_8944, i_8945, i_8946, i_8947, i_8948, i_8949, i_8950, i_8951, i_8952, i_8953, i_8954, i_8955, i_8956, i_8957, i_8958, i_8959, rfl⟩ | ⟨i_8960, i_8961, i_8962, i_8963, i_8964, i_8965, i_8966, i_8967, i_8968, i_8969, i_8970, i_8971, i_8972, i_8973, i_8974, i_8975, i_8976, i_8977, i_8978, i_8979, i_8980, rfl⟩ | ⟨i_8981, i_8982, i_8983, i_8984, i_8985, i_8986, i_8987, i_8988, i_8989, i_8990, i_8991, i_8992, i_8993, i_8994, i_8995, i_8996, i_8997, i_8998, i_8999, i_9000, i_9001, i_9002, rfl⟩ | ⟨i_9003, i_9004, i_9005, i_9006, i_9007, i_9008, i_9009, i_9010, i_9011, i_9012, i_9013, i_9014, i_9015, i_9016, i_9017, i_9018, i_9019, i_9020, i_9021, i_9022, i_9023, i_9024, i_9025, rfl⟩ | ⟨i_9026, i_9027, i_9028, i_9029, i_9030, i_9031, i_9032, i_9033, i_9034, i_9035, i_9036, i_9037, i_9038, i_9039, i_9040, i_9041, i_9042, i_9043, i_9044, i_9045, i_9046, i_9047, i_9048, i_9049, rfl⟩ | ⟨i_9050, i_9051, i_9052, i_9053, i_9054, i_9055, i_9056, i_9057, i_9058, i_9059, i_9060, i_9061, i_9062, i_9063, i_9064, i_9065, i_9066, i_9067, i_9068, i_9069, i_9070, i_9071, i_9072, i_9073, i_9074, rfl⟩ | ⟨i_9075, i_9076, i_9077, i_9078, i_9079, i_9080, i_9081, i_9082, i_9083, i_9084, i_9085, i_9086, i_9087, i_9088, i_9089, i_9090, i_9091, i_9092, i_9093, i_9094, i_9095, i_9096, i_9097, i_9098, i_9099, rfl⟩
    · exfalso; omega
    · exfalso; omega
    · exfalso; omega
    · skip
      have hP : va_P g.1 vwCl [] H := hP
      have hD : va_D (fun q : Nat => s.heap.size ≤ q) [] := hD
      refine lv_icmp_eq (tgt := 1054) hx hb dL_law_426 (by decide) (fun _ => ?_) (fun h => absurd h (by decide +kernel))
      exact lc_tail ⟨hx, hb, hml, hr, hlocks, hown, hts, hK, hN, hZ, hX, hbl⟩ hS (lv_sub hl [0, 1, 2, 3] rfl)
    · exfalso; omega
    · exfalso; omega
    · exfalso; omega
    · exfalso; omega
    · exfalso; omega
    · exfalso; omega
    · exfalso; omega
    · exfalso; omega
    · exfalso; omega
    · exfalso; omega
    · exfalso; omega
    · exfalso; omega
    · exfalso; omega
    · exfalso; omega
    · exfalso; omega
    · exfalso; omega
    · exfalso; omega
    · exfalso; omega
    · exfalso; omega
    · exfalso; omega
    · exfalso; omega
    · exfalso; omega
  · skip
    have hP : va_P g.1 vwCl [((am 0), .inr (5, [.ref (am 1), .int 0, .ref (am 2), .int 0, .int 0, .ref (am 3), .ref (am 4), .ref (am 5), .ref (am 6), .int 0, .ref (am 7), .ref (am 8), .ref (am 9), .int 0, .ref (am 10), .ref (am 11), .ref (am 12), .ref (am 13), .ref (am 14), .ref (am 15), .ref (am 16), .ref (am 17), .ref (am 18), .ref (am 19), .ref (am 20), .ref (am 21), .ref (am 22)])), ((am 2), .inl (zI g, 60, .inl (fun _ => 0)))] H := hP
    have hD : va_D (fun q : Nat => s.heap.size ≤ q) [((am 0), .inr (5, [.ref (am 1), .int 0, .ref (am 2), .int 0, .int 0, .ref (am 3), .ref (am 4), .ref (am 5), .ref (am 6), .int 0, .ref (am 7), .ref (am 8), .ref (am 9), .int 0, .ref (am 10), .ref (am 11), .ref (am 12), .ref (am 13), .ref (am 14), .ref (am 15), .ref (am 16), .ref (am 17), .ref (am 18), .ref (am 19), .ref (am 20), .ref (am 21), .ref (am 22)])), ((am 2), .inl (zI g, 60, .inl (fun _ => 0)))] := hD
    refine lv_aload_n hx hb dL_law_397 rfl (lv_at hl 2 rfl) ?_
    refine lv_aload_n hx hb dL_law_398 rfl (lv_at hl 0 rfl) ?_
    refine lv_iload_n hx hb dL_law_399 rfl (lv_at hl 3 rfl) ?_
    refine lv_iconst (v := 1) hx hb dL_law_400 (by decide) ?_
    refine lv_iadd hx hb dL_law_401 ?_
    refine lv_topi (nm_r (e' := 1) (by decide +kernel) ?_)
    refine va_sld hx hb hX hbl hbA hS (vp_in_iff.mpr (by decide +kernel)) dL_law_402 ?_
    refine lv_topi (nm_r (e' := (xs 1)) (by rfl) ?_)
    refine lv_i2l (v := (xs 1).toInt64) hx hb dL_law_403 rfl ?_
    refine lv_bipush (v := 32) hx hb dL_law_404 (by decide) ?_
    refine lv_lshl (v := (((xs 1).toInt64) <<< ((32 : Int32).toInt64 &&& 63))) hx hb dL_law_406 rfl ?_
    refine lv_aload_n hx hb dL_law_407 rfl (lv_at hl 0 rfl) ?_
    refine lv_iload_n hx hb dL_law_408 rfl (lv_at hl 3 rfl) ?_
    refine lv_iconst (v := 2) hx hb dL_law_409 (by decide) ?_
    refine lv_iadd hx hb dL_law_410 ?_
    refine lv_topi (nm_r (e' := 2) (by decide +kernel) ?_)
    refine va_sld hx hb hX hbl hbA hS (vp_in_iff.mpr (by decide +kernel)) dL_law_411 ?_
    refine lv_topi (nm_r (e' := (xs 2)) (by rfl) ?_)
    refine lv_i2l (v := (xs 2).toInt64) hx hb dL_law_412 rfl ?_
    refine lv_ldc2 (v := 4294967295) hx hb hown (hts _ m_k_RL_39) dL_law_413 ?_
    refine lv_land hx hb dL_law_416 ?_
    refine lv_lor hx hb dL_law_417 ?_
    refine lv_aload_n hx hb dL_law_418 rfl (lv_at hl 0 rfl) ?_
    refine lv_iload_n hx hb dL_law_419 rfl (lv_at hl 3 rfl) ?_
    refine lv_iconst (v := 3) hx hb dL_law_420 (by decide) ?_
    refine lv_iadd hx hb dL_law_421 ?_
    refine lv_topi (nm_r (e' := 3) (by decide +kernel) ?_)
    refine va_sld hx hb hX hbl hbA hS (vp_in_iff.mpr (by decide +kernel)) dL_law_422 ?_
    refine lv_topi (nm_r (e' := (xs 3)) (by rfl) ?_)
    refine z_calli (wr := []) hP hD hS hA [0, 1] [] (by decide) rfl rfl (by decide) (va_runV (As := [.long ((((xs 1).toInt64) <<< ((32 : Int32).toInt64 &&& 63)) ||| (((xs 2).toInt64) &&& 4294967295)), .int (xs 3)]) (rest := [.int (-1)]) ⟨hx, hb, hml, hown, hts⟩ (kX5_type l g (am 0) (am 1) (am 2) (am 3) (am 4) (am 5) (am 6) (am 7) (am 8) (am 9) (am 10) (am 11) (am 12) (am 13) (am 14) (am 15) (am 16) (am 17) (am 18) (am 19) (am 20) (am 21) (am 22) H.size ((((xs 1).toInt64) <<< ((32 : Int32).toInt64 &&& 63)) ||| (((xs 2).toInt64) &&& 4294967295)) (xs 3)) ⟨callB_of 2 hts (zGood m_o_yX5_type) rfl rfl rfl (hts _ m_z_RX5) (hts _ m_m_RL_45) ⟨by decide +kernel, by decide +kernel, by decide +kernel⟩ ⟨Nat.le_of_ble_eq_true rfl, Nat.le_of_ble_eq_true rfl⟩, hts _ m_i_yX5_type, hts _ m_e_yX5_type⟩ (zPreV hK hN hZ hP hD hS hA [0, 1] (by decide) rfl rfl 5 0 rfl rfl) rfl rfl hl.1 rfl (lv_room (Nat.le_of_ble_eq_true rfl)) dL_law_423 ⟨Nat.le_of_ble_eq_true rfl, Nat.le_of_ble_eq_true rfl⟩) (fun r u H locs hw hP hD hS => ?_)
    rcases hw with ⟨i_9100, rfl⟩ | ⟨i_9101, i_9102, rfl⟩ | ⟨i_9103, i_9104, i_9105, rfl⟩ | ⟨i_9106, i_9107, i_9108, i_9109, rfl⟩ | ⟨i_9110, i_9111, i_9112, i_9113, i_9114, rfl⟩ | ⟨i_9115, i_9116, i_9117, i_9118, i_9119, i_9120, rfl⟩ | ⟨i_9121, i_9122, i_9123, i_9124, i_9125, i_9126, i_9127, rfl⟩ | ⟨i_9128, i_9129, i_9130, i_9131, i_9132, i_9133, i_9134, i_9135, rfl⟩ | ⟨i_9136, i_9137, i_9138, i_9139, i_9140, i_9141, i_9142, i_9143, i_9144, rfl⟩ | ⟨i_9145, i_9146, i_9147, i_9148, i_9149, i_9150, i_9151, i_9152, i_9153, i_9154, rfl⟩ | ⟨i_9155, i_9156, i_9157, i_9158, i_9159, i_9160, i_9161, i_9162, i_9163, i_9164, i_9165, rfl⟩ | ⟨i_9166, i_9167, i_9168, i_9169, i_9170, i_9171, i_9172, i_9173, i_9174, i_9175, i_9176, i_9177, rfl⟩ | ⟨i_9178, i_9179, i_9180, i_9181, i_9182, i_9183, i_9184, i_9185, i_9186, i_9187, i_9188, i_9189, i_9190, rfl⟩ | ⟨i_9191, i_9192, i_9193, i_9194, i_9195, i_9196, i_9197, i_9198, i_9199, i_9200, i_9201, i_9202, i_9203, i_9204, rfl⟩ | ⟨i_9205, i_9206, i_9207, i_9208, i_9209, i_9210, i_9211, i_9212, i_9213, i_9214, i_9215, i_9216, i_9217, i_9218, i_9219, rfl⟩ | ⟨i_9220, i_9221, i_9222, i_9223, i_9224, i_9225, i_9226, i_9227, i_9228, i_9229, i_9230, i_9231, i_9232, i_9233, i_9234, i_9235, rfl⟩ | ⟨i_9236, i_9237, i_9238, i_9239, i_9240, i_9241, i_9242, i_9243, i_9244, i_9245, i_9246, i_9247, i_9248, i_9249, i_9250, i_9251, i_9252, rfl⟩ | ⟨i_9253, i_9254, i_9255, i_9256, i_9257, i_9258, i_9259, i_9260, i_9261, i_9262, i_9263, i_9264, i_9265, i_9266, i_9267, i_9268, i_9269, i_9270, rfl⟩ | ⟨i_9271, i_9272, i_9273, i_9274, i_9275, i_9276, i_9277, i_9278, i_9279, i_9280, i_9281, i_9282, i_9283, i_9284, i_9285, i_9286, i_9287, i_9288, i_9289, rfl⟩ | ⟨i_9290, i_9291, i_9292, i_9293, i_9294, i_9295, i_9296, i_9297, i_9298, i_9299, i_9300, i_9301, i_9302, i_9303, i_9304, i_9305, i_9306, i_9307, i_9308, i_9309, rfl⟩ | ⟨i_9310, i_9311, i_9312, i_9313, i_9314, i_9315, i_9316, i_9317, i_9318, i_9319, i_9320, i_9321, i_9322, i_9323, i_9324, i_9325, i_9326, i_9327, i_9328, i_9329, i_9330, rfl⟩ | ⟨i_9331, i_9332, i_9333, i_9334, i_9335, i_9336, i_9337, i_9338, i_9339, i_9340, i_9341, i_9342, i_9343, i_9344, i_9345, i_9346, i_9347, i_9348, i_9349, i_9350, i_9351, i_9352, rfl⟩ | ⟨i_9353, i_9354, i_9355, i_9356, i_9357, i_9358, i_9359, i_9360, i_9361, i_9362, i_9363, i_9364, i_9365, i_9366, i_9367, i_9368, i_9369, i_9370, i_9371, i_9372, i_9373, i_9374, i_9375, rfl⟩ | ⟨i_9376, i_9377, i_9378, i_9379, i_9380, i_9381, i_9382, i_9383, i_9384, i_9385, i_9386, i_9387, i_9388, i_9389, i_9390, i_9391, i_9392, i_9393, i_9394, i_9395, i_9396, i_9397, i_9398, i_9399, rfl⟩ | ⟨i_9400, i_9401, i_9402, i_9403, i_9404, i_9405, i_9406, i_9407, i_9408, i_9409, i_9410, i_9411, i_9412, i_9413, i_9414, i_9415, i_9416, i_9417, i_9418, i_9419, i_9420, i_9421, i_9422, i_9423, i_9424, rfl⟩ | ⟨i_9425, i_9426, i_9427, i_9428, i_9429, i_9430, i_9431, i_9432, i_9433, i_9434, i_9435, i_9436, i_9437, i_9438, i_9439, i_9440, i_9441, i_9442, i_9443, i_9444, i_9445, i_9446, i_9447, i_9448, i_9449, rfl⟩
    · exfalso; omega
    · skip
      have hP : va_P g.1 vwCl [] H := hP
      have hD : va_D (fun q : Nat => s.heap.size ≤ q) [] := hD
      refine lv_icmp_eq (tgt := 1054) hx hb dL_law_426 (by decide) (fun _ => ?_) (fun h => absurd h (by decide +kernel))
      exact lc_tail ⟨hx, hb, hml, hr, hlocks, hown, hts, hK, hN, hZ, hX, hbl⟩ hS (lv_sub hl [0, 1, 2, 3] rfl)
    · exfalso; omega
    · exfalso; omega
    · exfalso; omega
    · exfalso; omega
    · exfalso; omega
    · exfalso; omega
    · exfalso; omega
    · exfalso; omega
    · exfalso; omega
    · exfalso; omega
    · exfalso; omega
    · exfalso; omega
    · exfalso; omega
    · exfalso; omega
    · exfalso; omega
    · exfalso; omega
    · exfalso; omega
    · exfalso; omega
    · exfalso; omega
    · exfalso; omega
    · exfalso; omega
    · exfalso; omega
    · exfalso; omega
    · exfalso; omega
set_option maxHeartbeats 4000000 in
set_option maxRecDepth 100000 in
theorem lc_rules {p : Program} {l : Launch} {e : Env} {s : State} {m : MethodId} {below : List Frame} {meth : Method} {c : Code} {b : Nat} {xs : Nat → Int32} {g : zG} (C0 : lC g p s m meth c b xs) {ax am : Nat → Nat} {H : Heap} {locs : List Loc} (hP : va_P g.1 vwCl (lW g ax am) H) (hD : va_D (fun q : Nat => s.heap.size ≤ q) (lW g ax am)) (hS : va_S (fun q : Nat => s.heap.size ≤ q) s.heap H locs) {ls : Array Slot} (hl : lv_has ls 4 [(0, .ref b), (1, .ref (ax 0)), (2, .ref (am 0)), (3, .int 0)]) : W p l e room_1 s m #[Value.ref b] below meth c H locs 600000 7302250 (lw_Z below #[Value.ref b] s) (F0 m 431 ls []) := by
  obtain ⟨hx, hb, hml, hr, hlocks, hown, hts, hK, hN, hZ, hX, hbl⟩ := C0
  have hA : ∀ q : Nat, s.heap.size ≤ q → (fun q : Nat => s.heap.size ≤ q) q := fun _ h => h
  have hbA : ¬ (fun q : Nat => s.heap.size ≤ q) b := Nat.not_le.mpr hbl
  have hP := hP.sub (ws' := [((ax 0), .inr (4, [.ref (ax 1), .ref (ax 10), .int 0, .ref (ax 19), .ref (ax 30), .ref (ax 32), .ref (ax 36), .int (-1), .ref (ax 37), .ref (ax 38), .ref (ax 39), .ref (ax 40)])), ((ax 30), .inr (3, [.ref (ax 31), .int 0])), ((ax 39), .inl (zI g, 5, .inl (fun _ => 0))), ((am 0), .inr (5, [.ref (am 1), .int 0, .ref (am 2), .int 0, .int 0, .ref (am 3), .ref (am 4), .ref (am 5), .ref (am 6), .int 0, .ref (am 7), .ref (am 8), .ref (am 9), .int 0, .ref (am 10), .ref (am 11), .ref (am 12), .ref (am 13), .ref (am 14), .ref (am 15), .ref (am 16), .ref (am 17), .ref (am 18), .ref (am 19), .ref (am 20), .ref (am 21), .ref (am 22)])), ((am 3), .inl (zI g, 5, .inl (fun _ => 0)))]) [0, 30, 39, 41, 44] rfl
  have hD := hD.sub (ws' := [((ax 0), .inr (4, [.ref (ax 1), .ref (ax 10), .int 0, .ref (ax 19), .ref (ax 30), .ref (ax 32), .ref (ax 36), .int (-1), .ref (ax 37), .ref (ax 38), .ref (ax 39), .ref (ax 40)])), ((ax 30), .inr (3, [.ref (ax 31), .int 0])), ((ax 39), .inl (zI g, 5, .inl (fun _ => 0))), ((am 0), .inr (5, [.ref (am 1), .int 0, .ref (am 2), .int 0, .int 0, .ref (am 3), .ref (am 4), .ref (am 5), .ref (am 6), .int 0, .ref (am 7), .ref (am 8), .ref (am 9), .int 0, .ref (am 10), .ref (am 11), .ref (am 12), .ref (am 13), .ref (am 14), .ref (am 15), .ref (am 16), .ref (am 17), .ref (am 18), .ref (am 19), .ref (am 20), .ref (am 21), .ref (am 22)])), ((am 3), .inl (zI g, 5, .inl (fun _ => 0)))]) [0, 30, 39, 41, 44] (by decide) rfl
  refine lv_aload_n hx hb dL_law_431 rfl (lv_at hl 1 rfl) ?_
  refine z_calli (wr := [((am 0), .inr (5, [.ref (am 1), .int 0, .ref (am 2), .int 0, .int 0, .ref (am 3), .ref (am 4), .ref (am 5), .ref (am 6), .int 0, .ref (am 7), .ref (am 8), .ref (am 9), .int 0, .ref (am 10), .ref (am 11), .ref (am 12), .ref (am 13), .ref (am 14), .ref (am 15), .ref (am 16), .ref (am 17), .ref (am 18), .ref (am 19), .ref (am 20), .ref (am 21), .ref (am 22)])), ((am 3), .inl (zI g, 5, .inl (fun _ => 0)))]) hP hD hS hA [0, 1, 2] [3, 4] (by decide) rfl rfl (by decide) (va_runV (As := []) (rest := []) ⟨hx, hb, hml, hown, hts⟩ (kX4_rules l g (ax 0) (ax 1) (ax 10) (ax 19) (ax 30) (ax 32) (ax 36) (ax 37) (ax 38) (ax 39) (ax 40) (ax 31) H.size) ⟨callB_of 0 hts (zGood m_o_yX4_rules) rfl rfl rfl (hts _ m_z_RX4) (hts _ m_m_RL_46) ⟨by decide +kernel, by decide +kernel, by decide +kernel⟩ ⟨Nat.le_of_ble_eq_true rfl, Nat.le_of_ble_eq_true rfl⟩, hts _ m_i_yX4_rules, hts _ m_e_yX4_rules⟩ (zPreV hK hN hZ hP hD hS hA [0, 1, 2] (by decide) rfl rfl 4 0 rfl rfl) rfl rfl hl.1 rfl (lv_room (Nat.le_of_ble_eq_true rfl)) dL_law_432 ⟨Nat.le_of_ble_eq_true rfl, Nat.le_of_ble_eq_true rfl⟩) (fun r u H locs hw hP hD hS => ?_)
  obtain rfl := hw
  have hP : va_P g.1 vwCl [((am 0), .inr (5, [.ref (am 1), .int 0, .ref (am 2), .int 0, .int 0, .ref (am 3), .ref (am 4), .ref (am 5), .ref (am 6), .int 0, .ref (am 7), .ref (am 8), .ref (am 9), .int 0, .ref (am 10), .ref (am 11), .ref (am 12), .ref (am 13), .ref (am 14), .ref (am 15), .ref (am 16), .ref (am 17), .ref (am 18), .ref (am 19), .ref (am 20), .ref (am 21), .ref (am 22)])), ((am 3), .inl (zI g, 5, .inl (fun _ => 0)))] H := hP
  have hD : va_D (fun q : Nat => s.heap.size ≤ q) [((am 0), .inr (5, [.ref (am 1), .int 0, .ref (am 2), .int 0, .int 0, .ref (am 3), .ref (am 4), .ref (am 5), .ref (am 6), .int 0, .ref (am 7), .ref (am 8), .ref (am 9), .int 0, .ref (am 10), .ref (am 11), .ref (am 12), .ref (am 13), .ref (am 14), .ref (am 15), .ref (am 16), .ref (am 17), .ref (am 18), .ref (am 19), .ref (am 20), .ref (am 21), .ref (am 22)])), ((am 3), .inl (zI g, 5, .inl (fun _ => 0)))] := hD
  refine lv_aload_n hx hb dL_law_435 rfl (lv_at hl 2 rfl) ?_
  refine z_calli (wr := []) hP hD hS hA [0, 1] [] (by decide) rfl rfl (by decide) (va_runV (As := []) (rest := [.int (-20)]) ⟨hx, hb, hml, hown, hts⟩ (kX5_rules l g (am 0) (am 1) (am 2) (am 3) (am 4) (am 5) (am 6) (am 7) (am 8) (am 9) (am 10) (am 11) (am 12) (am 13) (am 14) (am 15) (am 16) (am 17) (am 18) (am 19) (am 20) (am 21) (am 22) H.size) ⟨callB_of 0 hts (zGood m_o_yX5_rules) rfl rfl rfl (hts _ m_z_RX5) (hts _ m_m_RL_50) ⟨by decide +kernel, by decide +kernel, by decide +kernel⟩ ⟨Nat.le_of_ble_eq_true rfl, Nat.le_of_ble_eq_true rfl⟩, hts _ m_i_yX5_rules, hts _ m_e_yX5_rules⟩ (zPreV hK hN hZ hP hD hS hA [0, 1] (by decide) rfl rfl 5 0 rfl rfl) rfl rfl hl.1 rfl (lv_room (Nat.le_of_ble_eq_true rfl)) dL_law_436 ⟨Nat.le_of_ble_eq_true rfl, Nat.le_of_ble_eq_true rfl⟩) (fun r u H locs hw hP hD hS => ?_)
  obtain rfl := hw
  have hP : va_P g.1 vwCl [] H := hP
  have hD : va_D (fun q : Nat => s.heap.size ≤ q) [] := hD
  refine lv_icmp_eq (tgt := 1054) hx hb dL_law_439 (by decide) (fun _ => ?_) (fun h => absurd h (by decide +kernel))
  exact lc_tail ⟨hx, hb, hml, hr, hlocks, hown, hts, hK, hN, hZ, hX, hbl⟩ hS (lv_sub hl [0, 1, 2, 3] rfl)
set_option maxHeartbeats 4000000 in
set_option maxRecDepth 100000 in
theorem lc_lots {p : Program} {l : Launch} {e : Env} {s : State} {m : MethodId} {below : List Frame} {meth : Method} {c : Code} {b : Nat} {xs : Nat → Int32} {g : zG} (C0 : lC g p s m meth c b xs) {ax am : Nat → Nat} {H : Heap} {locs : List Loc} (hP : va_P g.1 vwCl (lW g ax am) H) (hD : va_D (fun q : Nat => s.heap.size ≤ q) (lW g ax am)) (hS : va_S (fun q : Nat => s.heap.size ≤ q) s.heap H locs) {ls : Array Slot} (hl : lv_has ls 4 [(0, .ref b), (1, .ref (ax 0)), (2, .ref (am 0)), (3, .int 0)]) : W p l e room_1 s m #[Value.ref b] below meth c H locs 600000 7302250 (lw_Z below #[Value.ref b] s) (F0 m 444 ls []) := by
  obtain ⟨hx, hb, hml, hr, hlocks, hown, hts, hK, hN, hZ, hX, hbl⟩ := C0
  have hA : ∀ q : Nat, s.heap.size ≤ q → (fun q : Nat => s.heap.size ≤ q) q := fun _ h => h
  have hbA : ¬ (fun q : Nat => s.heap.size ≤ q) b := Nat.not_le.mpr hbl
  have hP := hP.sub (ws' := [((ax 0), .inr (4, [.ref (ax 1), .ref (ax 10), .int 0, .ref (ax 19), .ref (ax 30), .ref (ax 32), .ref (ax 36), .int (-1), .ref (ax 37), .ref (ax 38), .ref (ax 39), .ref (ax 40)])), ((ax 30), .inr (3, [.ref (ax 31), .int 0])), ((am 0), .inr (5, [.ref (am 1), .int 0, .ref (am 2), .int 0, .int 0, .ref (am 3), .ref (am 4), .ref (am 5), .ref (am 6), .int 0, .ref (am 7), .ref (am 8), .ref (am 9), .int 0, .ref (am 10), .ref (am 11), .ref (am 12), .ref (am 13), .ref (am 14), .ref (am 15), .ref (am 16), .ref (am 17), .ref (am 18), .ref (am 19), .ref (am 20), .ref (am 21), .ref (am 22)]))]) [0, 30, 41] rfl
  have hD := hD.sub (ws' := [((ax 0), .inr (4, [.ref (ax 1), .ref (ax 10), .int 0, .ref (ax 19), .ref (ax 30), .ref (ax 32), .ref (ax 36), .int (-1), .ref (ax 37), .ref (ax 38), .ref (ax 39), .ref (ax 40)])), ((ax 30), .inr (3, [.ref (ax 31), .int 0])), ((am 0), .inr (5, [.ref (am 1), .int 0, .ref (am 2), .int 0, .int 0, .ref (am 3), .ref (am 4), .ref (am 5), .ref (am 6), .int 0, .ref (am 7), .ref (am 8), .ref (am 9), .int 0, .ref (am 10), .ref (am 11), .ref (am 12), .ref (am 13), .ref (am 14), .ref (am 15), .ref (am 16), .ref (am 17), .ref (am 18), .ref (am 19), .ref (am 20), .ref (am 21), .ref (am 22)]))]) [0, 30, 41] (by decide) rfl
  refine lv_aload_n hx hb dL_law_444 rfl (lv_at hl 1 rfl) ?_
  refine z_calli (wr := [((am 0), .inr (5, [.ref (am 1), .int 0, .ref (am 2), .int 0, .int 0, .ref (am 3), .ref (am 4), .ref (am 5), .ref (am 6), .int 0, .ref (am 7), .ref (am 8), .ref (am 9), .int 0, .ref (am 10), .ref (am 11), .ref (am 12), .ref (am 13), .ref (am 14), .ref (am 15), .ref (am 16), .ref (am 17), .ref (am 18), .ref (am 19), .ref (am 20), .ref (am 21), .ref (am 22)]))]) hP hD hS hA [0, 1] [2] (by decide) rfl rfl (by decide) (va_runV (As := []) (rest := []) ⟨hx, hb, hml, hown, hts⟩ (kX4_lots l g (ax 0) (ax 1) (ax 10) (ax 19) (ax 30) (ax 32) (ax 36) (ax 37) (ax 38) (ax 39) (ax 40) (ax 31) H.size) ⟨callB_of 0 hts (zGood m_o_yX4_lots) rfl rfl rfl (hts _ m_z_RX4) (hts _ m_m_RL_51) ⟨by decide +kernel, by decide +kernel, by decide +kernel⟩ ⟨Nat.le_of_ble_eq_true rfl, Nat.le_of_ble_eq_true rfl⟩, hts _ m_i_yX4_lots, hts _ m_e_yX4_lots⟩ (zPreV hK hN hZ hP hD hS hA [0, 1] (by decide) rfl rfl 4 0 rfl rfl) rfl rfl hl.1 rfl (lv_room (Nat.le_of_ble_eq_true rfl)) dL_law_445 ⟨Nat.le_of_ble_eq_true rfl, Nat.le_of_ble_eq_true rfl⟩) (fun r u H locs hw hP hD hS => ?_)
  obtain rfl := hw
  have hP : va_P g.1 vwCl [((am 0), .inr (5, [.ref (am 1), .int 0, .ref (am 2), .int 0, .int 0, .ref (am 3), .ref (am 4), .ref (am 5), .ref (am 6), .int 0, .ref (am 7), .ref (am 8), .ref (am 9), .int 0, .ref (am 10), .ref (am 11), .ref (am 12), .ref (am 13), .ref (am 14), .ref (am 15), .ref (am 16), .ref (am 17), .ref (am 18), .ref (am 19), .ref (am 20), .ref (am 21), .ref (am 22)]))] H := hP
  have hD : va_D (fun q : Nat => s.heap.size ≤ q) [((am 0), .inr (5, [.ref (am 1), .int 0, .ref (am 2), .int 0, .int 0, .ref (am 3), .ref (am 4), .ref (am 5), .ref (am 6), .int 0, .ref (am 7), .ref (am 8), .ref (am 9), .int 0, .ref (am 10), .ref (am 11), .ref (am 12), .ref (am 13), .ref (am 14), .ref (am 15), .ref (am 16), .ref (am 17), .ref (am 18), .ref (am 19), .ref (am 20), .ref (am 21), .ref (am 22)]))] := hD
  refine lv_aload_n hx hb dL_law_448 rfl (lv_at hl 2 rfl) ?_
  refine z_calli (wr := []) hP hD hS hA [0] [] (by decide) rfl rfl (by decide) (va_runV (As := []) (rest := [.int (-20)]) ⟨hx, hb, hml, hown, hts⟩ (kX5_lots l g (am 0) (am 1) (am 2) (am 3) (am 4) (am 5) (am 6) (am 7) (am 8) (am 9) (am 10) (am 11) (am 12) (am 13) (am 14) (am 15) (am 16) (am 17) (am 18) (am 19) (am 20) (am 21) (am 22) H.size) ⟨callB_of 0 hts (zGood m_o_yX5_lots) rfl rfl rfl (hts _ m_z_RX5) (hts _ m_m_RL_54) ⟨by decide +kernel, by decide +kernel, by decide +kernel⟩ ⟨Nat.le_of_ble_eq_true rfl, Nat.le_of_ble_eq_true rfl⟩, hts _ m_i_yX5_lots, hts _ m_e_yX5_lots⟩ (zPreV hK hN hZ hP hD hS hA [0] (by decide) rfl rfl 5 0 rfl rfl) rfl rfl hl.1 rfl (lv_room (Nat.le_of_ble_eq_true rfl)) dL_law_449 ⟨Nat.le_of_ble_eq_true rfl, Nat.le_of_ble_eq_true rfl⟩) (fun r u H locs hw hP hD hS => ?_)
  obtain rfl := hw
  have hP : va_P g.1 vwCl [] H := hP
  have hD : va_D (fun q : Nat => s.heap.size ≤ q) [] := hD
  refine lv_icmp_eq (tgt := 1054) hx hb dL_law_452 (by decide) (fun _ => ?_) (fun h => absurd h (by decide +kernel))
  exact lc_tail ⟨hx, hb, hml, hr, hlocks, hown, hts, hK, hN, hZ, hX, hbl⟩ hS (lv_sub hl [0, 1, 2, 3] rfl)
