theorem lk_Bt_102 : LV "TopYard$Bout" 102 y_Bt_collide b_Bt_collide 13 none 2 := ⟨wd_335, wd_336, (ms (i := 6) (by decide +kernel) (by decide +kernel)), wd_259, wd_337, ⟨by decide +kernel, by decide +kernel, by decide +kernel⟩, by decide⟩
theorem lk_Bt_106 : LV "TopYard$Bout" 106 y_Sp_fall b_Sp_fall 2 none 1 := ⟨wd_338, wd_339, wd_340, wd_263, wd_341, ⟨by decide +kernel, by decide +kernel, by decide +kernel⟩, by decide⟩
theorem lk_Bt_135 : LSt "TopYard$Bout" 135 y_Bt_lock b_Bt_lock 8 none 2 := ⟨wd_342, wd_343, wd_259, wd_344, ⟨by decide +kernel, by decide +kernel, by decide +kernel⟩, by decide⟩
theorem lk_Bt_140 : LSt "TopYard$Bout" 140 y_Bt_bounce b_Bt_bounce 14 none 5 := ⟨wd_345, wd_346, wd_259, wd_347, ⟨by decide +kernel, by decide +kernel, by decide +kernel⟩, by decide⟩
theorem lk_Bt_144 : LSt "TopYard$Bout" 144 y_Bt_passSpin b_Bt_passSpin 4 none 2 := ⟨wd_348, wd_349, wd_259, wd_350, ⟨by decide +kernel, by decide +kernel, by decide +kernel⟩, by decide⟩
theorem lk_Bt_150 : LSt "TopYard$Bout" 150 y_JM_max1 b_JM_max1 2 (some .int) 2 := ⟨wd_351, wd_352, wd_353, wd_354, ⟨by decide +kernel, by decide +kernel, by decide +kernel⟩, by decide⟩
theorem lk_Bt_41 : LV "TopYard$Bout" 41 y_Bt_at b_Bt_at 2 (some (.object "TopYard$Spinner")) 1 := ⟨wd_355, wd_356, wd_357, wd_259, wd_358, ⟨by decide +kernel, by decide +kernel, by decide +kernel⟩, by decide⟩
theorem lk_Bt_52 : LV "TopYard$Bout" 52 y_Bt_begin b_Bt_begin 5 none 1 := ⟨wd_359, wd_360, (ms (i := 2) (by decide +kernel) (by decide +kernel)), wd_259, wd_361, ⟨by decide +kernel, by decide +kernel, by decide +kernel⟩, by decide⟩
theorem lk_Bt_56 : LV "TopYard$Bout" 56 y_Bt_step b_Bt_step 8 none 3 := ⟨wd_362, wd_363, (ms (i := 3) (by decide +kernel) (by decide +kernel)), wd_259, wd_364, ⟨by decide +kernel, by decide +kernel, by decide +kernel⟩, by decide⟩
theorem lk_Bt_60 : LV "TopYard$Bout" 60 y_Bt_standing b_Bt_standing 3 (some .int) 0 := ⟨wd_365, wd_366, (ms (i := 7) (by decide +kernel) (by decide +kernel)), wd_259, wd_367, ⟨by decide +kernel, by decide +kernel, by decide +kernel⟩, by decide⟩
theorem lk_Bt_64 : LV "TopYard$Bout" 64 y_Bt_standsAt b_Bt_standsAt 3 (some .boolean) 1 := ⟨wd_368, wd_369, (ms (i := 8) (by decide +kernel) (by decide +kernel)), wd_259, wd_370, ⟨by decide +kernel, by decide +kernel, by decide +kernel⟩, by decide⟩
theorem lk_Bt_68 : LV "TopYard$Bout" 68 y_Sp_owner b_Sp_owner 1 (some .int) 0 := ⟨wd_371, wd_372, wd_373, wd_263, wd_374, ⟨by decide +kernel, by decide +kernel, by decide +kernel⟩, by decide⟩
theorem lk_Bt_71 : LV "TopYard$Bout" 71 y_Sp_begin b_Sp_begin 2 none 1 := ⟨wd_375, wd_376, wd_377, wd_263, wd_378, ⟨by decide +kernel, by decide +kernel, by decide +kernel⟩, by decide⟩
theorem lk_Bt_74 : LV "TopYard$Bout" 74 y_Sp_stands b_Sp_stands 1 (some .boolean) 0 := ⟨wd_379, wd_380, wd_381, wd_263, wd_382, ⟨by decide +kernel, by decide +kernel, by decide +kernel⟩, by decide⟩
theorem lk_Bt_78 : LV "TopYard$Bout" 78 y_Bt_lash b_Bt_lash 4 none 1 := ⟨wd_383, wd_384, (ms (i := 4) (by decide +kernel) (by decide +kernel)), wd_259, wd_385, ⟨by decide +kernel, by decide +kernel, by decide +kernel⟩, by decide⟩
theorem lk_Bt_81 : LV "TopYard$Bout" 81 y_Sp_slow b_Sp_slow 1 none 0 := ⟨wd_386, wd_387, wd_388, wd_263, wd_389, ⟨by decide +kernel, by decide +kernel, by decide +kernel⟩, by decide⟩
theorem lk_Bt_84 : LV "TopYard$Bout" 84 y_Sp_tilt b_Sp_tilt 1 none 0 := ⟨wd_390, wd_391, wd_392, wd_263, wd_393, ⟨by decide +kernel, by decide +kernel, by decide +kernel⟩, by decide⟩
theorem lk_Bt_87 : LV "TopYard$Bout" 87 y_Sp_push b_Sp_push 4 none 1 := ⟨wd_394, wd_395, wd_396, wd_263, wd_397, ⟨by decide +kernel, by decide +kernel, by decide +kernel⟩, by decide⟩
theorem lk_Bt_91 : LV "TopYard$Bout" 91 y_Sp_move b_Sp_move 1 none 0 := ⟨wd_398, wd_399, wd_400, wd_263, wd_401, ⟨by decide +kernel, by decide +kernel, by decide +kernel⟩, by decide⟩
theorem lk_Bt_99 : LV "TopYard$Bout" 99 y_Sp_leave b_Sp_leave 2 none 1 := ⟨wd_402, wd_403, wd_404, wd_263, wd_405, ⟨by decide +kernel, by decide +kernel, by decide +kernel⟩, by decide⟩
theorem lk_Bw_23 : LSt "TopYard$Bowl" 23 y_Bw_mayDent b_Bw_mayDent 2 (some .boolean) 2 := ⟨wd_406, wd_407, wd_249, wd_408, ⟨by decide +kernel, by decide +kernel, by decide +kernel⟩, by decide⟩
theorem lk_Bw_27 : LSt "TopYard$Bowl" 27 y_JA_fill b_JA_fill 4 none 2 := ⟨wd_409, wd_410, wd_411, wd_412, ⟨by decide +kernel, by decide +kernel, by decide +kernel⟩, by decide⟩
theorem lk_Bw_33 : LV "TopYard$Bowl" 33 y_Bw_heightAt b_Bw_heightAt 4 (some .int) 2 := ⟨wd_413, wd_414, wd_415, wd_249, wd_416, ⟨by decide +kernel, by decide +kernel, by decide +kernel⟩, by decide⟩
theorem lk_Ch_101 : LV "TopYard$Choice" 101 y_Ch_noShareIsNegative b_Ch_noShareIsNegative 2 (some .boolean) 0 := ⟨wd_417, wd_418, (ms (i := 17) (by decide +kernel) (by decide +kernel)), wd_274, wd_419, ⟨by decide +kernel, by decide +kernel, by decide +kernel⟩, by decide⟩
theorem lk_Ch_105 : LV "TopYard$Choice" 105 y_Ch_holdsForRows b_Ch_holdsForRows 5 (some .boolean) 0 := ⟨wd_420, wd_421, (ms (i := 18) (by decide +kernel) (by decide +kernel)), wd_274, wd_422, ⟨by decide +kernel, by decide +kernel, by decide +kernel⟩, by decide⟩
theorem lk_Ch_108 : LV "TopYard$Choice" 108 y_Ch_holdsForColumns b_Ch_holdsForColumns 5 (some .boolean) 0 := ⟨wd_423, wd_424, (ms (i := 19) (by decide +kernel) (by decide +kernel)), wd_274, wd_425, ⟨by decide +kernel, by decide +kernel, by decide +kernel⟩, by decide⟩
theorem lk_Ch_47 : LSt "TopYard$Choice" 47 y_JA_fill b_JA_fill 4 none 2 := ⟨wd_426, wd_410, wd_411, wd_412, ⟨by decide +kernel, by decide +kernel, by decide +kernel⟩, by decide⟩
theorem lk_Ch_55 : LV "TopYard$Choice" 55 y_Ch_inMillionths b_Ch_inMillionths 3 (some .int) 1 := ⟨wd_427, wd_428, wd_429, wd_274, wd_430, ⟨by decide +kernel, by decide +kernel, by decide +kernel⟩, by decide⟩
theorem lk_Ch_61 : LSt "TopYard$Choice" 61 y_JM_floorDiv b_JM_floorDiv 6 (some .long) 2 := ⟨wd_431, wd_432, wd_353, wd_433, ⟨by decide +kernel, by decide +kernel, by decide +kernel⟩, by decide⟩
theorem lk_Ch_67 : LV "TopYard$Choice" 67 y_Ch_findDeterminants b_Ch_findDeterminants 3 none 0 := ⟨wd_434, wd_435, (ms (i := 10) (by decide +kernel) (by decide +kernel)), wd_274, wd_436, ⟨by decide +kernel, by decide +kernel, by decide +kernel⟩, by decide⟩
theorem lk_Ch_70 : LV "TopYard$Choice" 70 y_Ch_solveBySize b_Ch_solveBySize 5 (some .boolean) 1 := ⟨wd_437, wd_438, (ms (i := 13) (by decide +kernel) (by decide +kernel)), wd_274, wd_439, ⟨by decide +kernel, by decide +kernel, by decide +kernel⟩, by decide⟩
theorem lk_Ch_74 : LSt "TopYard$Choice" 74 y_JI_bitCount b_JI_bitCount 1 (some .int) 1 := ⟨wd_440, wd_441, wd_442, wd_443, ⟨by decide +kernel, by decide +kernel, by decide +kernel⟩, by decide⟩
theorem lk_Ch_80 : LV "TopYard$Choice" 80 y_Ch_expand b_Ch_expand 9 (some .long) 2 := ⟨wd_444, wd_445, (ms (i := 11) (by decide +kernel) (by decide +kernel)), wd_274, wd_446, ⟨by decide +kernel, by decide +kernel, by decide +kernel⟩, by decide⟩
theorem lk_Ch_84 : LSt "TopYard$Choice" 84 y_JI_numberOfTrailingZeros b_JI_numberOfTrailingZeros 2 (some .int) 1 := ⟨wd_447, wd_448, wd_442, wd_449, ⟨by decide +kernel, by decide +kernel, by decide +kernel⟩, by decide⟩
theorem lk_Ch_87 : LV "TopYard$Choice" 87 y_Ch_minor b_Ch_minor 6 (some .long) 4 := ⟨wd_450, wd_451, (ms (i := 12) (by decide +kernel) (by decide +kernel)), wd_274, wd_452, ⟨by decide +kernel, by decide +kernel, by decide +kernel⟩, by decide⟩
theorem lk_Ch_91 : LV "TopYard$Choice" 91 y_Ch_solveByPart b_Ch_solveByPart 5 (some .boolean) 2 := ⟨wd_453, wd_454, (ms (i := 14) (by decide +kernel) (by decide +kernel)), wd_274, wd_455, ⟨by decide +kernel, by decide +kernel, by decide +kernel⟩, by decide⟩
theorem lk_Ch_95 : LV "TopYard$Choice" 95 y_Ch_cofactor b_Ch_cofactor 9 (some .long) 4 := ⟨wd_456, wd_457, (ms (i := 15) (by decide +kernel) (by decide +kernel)), wd_274, wd_458, ⟨by decide +kernel, by decide +kernel, by decide +kernel⟩, by decide⟩
theorem lk_Ch_98 : LV "TopYard$Choice" 98 y_Ch_changeSigns b_Ch_changeSigns 2 none 0 := ⟨wd_459, wd_460, (ms (i := 16) (by decide +kernel) (by decide +kernel)), wd_274, wd_461, ⟨by decide +kernel, by decide +kernel, by decide +kernel⟩, by decide⟩
theorem lk_Ga_31 : LV "TopYard$Game" 31 y_Ga_letterAt b_Ga_letterAt 3 (some .int) 1 := ⟨wd_462, wd_463, (ms (i := 25) (by decide +kernel) (by decide +kernel)), wd_290, wd_464, ⟨by decide +kernel, by decide +kernel, by decide +kernel⟩, by decide⟩
theorem lk_Ga_35 : LV "TopYard$Game" 35 y_Ga_figuresAt b_Ga_figuresAt 2 (some .int) 1 := ⟨wd_465, wd_466, (ms (i := 27) (by decide +kernel) (by decide +kernel)), wd_290, wd_467, ⟨by decide +kernel, by decide +kernel, by decide +kernel⟩, by decide⟩
theorem lk_Ga_38 : LV "TopYard$Game" 38 y_Ga_numberAt b_Ga_numberAt 5 (some .int) 2 := ⟨wd_468, wd_469, (ms (i := 28) (by decide +kernel) (by decide +kernel)), wd_290, wd_470, ⟨by decide +kernel, by decide +kernel, by decide +kernel⟩, by decide⟩
theorem lk_Ga_48 : LV "TopYard$Game" 48 y_Ga_byteAt b_Ga_byteAt 2 (some .int) 1 := ⟨wd_471, wd_472, (ms (i := 26) (by decide +kernel) (by decide +kernel)), wd_290, wd_473, ⟨by decide +kernel, by decide +kernel, by decide +kernel⟩, by decide⟩
theorem lk_Ga_55 : LSt "TopYard$Game" 55 y_Ga_isFigure b_Ga_isFigure 1 (some .boolean) 1 := ⟨wd_474, wd_475, wd_290, wd_476, ⟨by decide +kernel, by decide +kernel, by decide +kernel⟩, by decide⟩
theorem lk_Hd_13 : LSt "TopYard$Headings" 13 y_Hd_alongX b_Hd_alongX 2 (some .int) 1 := ⟨wd_477, wd_478, wd_479, wd_480, ⟨by decide +kernel, by decide +kernel, by decide +kernel⟩, by decide⟩
theorem lk_L_101 : LV "TopYardLaw" 101 y_M_pays b_M_pays 3 (some .int) 2 := ⟨wd_481, wd_482, wd_483, wd_327, wd_484, ⟨by decide +kernel, by decide +kernel, by decide +kernel⟩, by decide⟩
theorem lk_L_102 : LV "TopYardLaw" 102 y_X_fill b_X_fill 5 (some .int) 0 := ⟨wd_485, wd_486, wd_487, wd_321, wd_488, ⟨by decide +kernel, by decide +kernel, by decide +kernel⟩, by decide⟩
theorem lk_L_105 : LV "TopYardLaw" 105 y_M_fill b_M_fill 4 (some .int) 0 := ⟨wd_489, wd_490, wd_491, wd_327, wd_492, ⟨by decide +kernel, by decide +kernel, by decide +kernel⟩, by decide⟩
theorem lk_L_106 : LV "TopYardLaw" 106 y_X_value b_X_value 1 (some .int) 0 := ⟨wd_493, wd_494, wd_495, wd_321, wd_496, ⟨by decide +kernel, by decide +kernel, by decide +kernel⟩, by decide⟩
theorem lk_L_109 : LV "TopYardLaw" 109 y_M_value b_M_value 5 (some .int) 0 := ⟨wd_497, wd_498, wd_499, wd_327, wd_500, ⟨by decide +kernel, by decide +kernel, by decide +kernel⟩, by decide⟩
theorem lk_L_110 : LV "TopYardLaw" 110 y_X_mix b_X_mix 4 (some .int) 2 := ⟨wd_501, wd_502, wd_503, wd_321, wd_504, ⟨by decide +kernel, by decide +kernel, by decide +kernel⟩, by decide⟩
theorem lk_L_113 : LV "TopYardLaw" 113 y_M_mix b_M_mix 3 (some .int) 2 := ⟨wd_505, wd_506, wd_507, wd_327, wd_508, ⟨by decide +kernel, by decide +kernel, by decide +kernel⟩, by decide⟩
theorem lk_L_114 : LV "TopYardLaw" 114 y_X_expected b_X_expected 3 (some .int) 2 := ⟨wd_509, wd_510, wd_511, wd_321, wd_512, ⟨by decide +kernel, by decide +kernel, by decide +kernel⟩, by decide⟩
theorem lk_L_117 : LV "TopYardLaw" 117 y_M_expected b_M_expected 3 (some .int) 2 := ⟨wd_513, wd_514, wd_515, wd_327, wd_516, ⟨by decide +kernel, by decide +kernel, by decide +kernel⟩, by decide⟩
theorem lk_L_118 : LV "TopYardLaw" 118 y_X_was b_X_was 4 (some .int) 3 := ⟨wd_517, wd_518, wd_519, wd_321, wd_520, ⟨by decide +kernel, by decide +kernel, by decide +kernel⟩, by decide⟩
theorem lk_L_121 : LV "TopYardLaw" 121 y_M_was b_M_was 4 (some .int) 3 := ⟨wd_521, wd_522, wd_523, wd_327, wd_524, ⟨by decide +kernel, by decide +kernel, by decide +kernel⟩, by decide⟩
theorem lk_L_122 : LV "TopYardLaw" 122 y_X_forget b_X_forget 2 (some .int) 0 := ⟨wd_525, wd_526, wd_527, wd_321, wd_528, ⟨by decide +kernel, by decide +kernel, by decide +kernel⟩, by decide⟩
theorem lk_L_125 : LV "TopYardLaw" 125 y_M_forget b_M_forget 2 (some .int) 0 := ⟨wd_529, wd_530, wd_531, wd_327, wd_532, ⟨by decide +kernel, by decide +kernel, by decide +kernel⟩, by decide⟩
theorem lk_L_126 : LV "TopYardLaw" 126 y_X_read b_X_read 8 (some .int) 1 := ⟨wd_533, wd_534, wd_535, wd_321, wd_536, ⟨by decide +kernel, by decide +kernel, by decide +kernel⟩, by decide⟩
theorem lk_L_129 : LV "TopYardLaw" 129 y_M_read b_M_read 3 (some .int) 1 := ⟨wd_537, wd_538, wd_539, wd_327, wd_540, ⟨by decide +kernel, by decide +kernel, by decide +kernel⟩, by decide⟩
theorem lk_L_13 : LV "TopYardLaw" 13 y_X_turn b_X_turn 3 (some .int) 2 := ⟨wd_541, wd_542, wd_543, wd_321, wd_544, ⟨by decide +kernel, by decide +kernel, by decide +kernel⟩, by decide⟩
theorem lk_L_130 : LV "TopYardLaw" 130 y_X_worn b_X_worn 3 (some .int) 2 := ⟨wd_545, wd_546, wd_547, wd_321, wd_548, ⟨by decide +kernel, by decide +kernel, by decide +kernel⟩, by decide⟩
theorem lk_L_133 : LV "TopYardLaw" 133 y_M_worn b_M_worn 3 (some .int) 2 := ⟨wd_549, wd_550, wd_551, wd_327, wd_552, ⟨by decide +kernel, by decide +kernel, by decide +kernel⟩, by decide⟩
theorem lk_L_134 : LV "TopYardLaw" 134 y_X_most b_X_most 4 (some .int) 0 := ⟨wd_553, wd_554, wd_555, wd_321, wd_556, ⟨by decide +kernel, by decide +kernel, by decide +kernel⟩, by decide⟩
theorem lk_L_137 : LV "TopYardLaw" 137 y_M_most b_M_most 4 (some .int) 0 := ⟨wd_557, wd_558, wd_559, wd_327, wd_560, ⟨by decide +kernel, by decide +kernel, by decide +kernel⟩, by decide⟩
theorem lk_L_138 : LV "TopYardLaw" 138 y_X_explained b_X_explained 9 (some .int) 2 := ⟨wd_561, wd_562, wd_563, wd_321, wd_564, ⟨by decide +kernel, by decide +kernel, by decide +kernel⟩, by decide⟩
theorem lk_L_141 : LV "TopYardLaw" 141 y_M_explained b_M_explained 9 (some .int) 2 := ⟨wd_565, wd_566, wd_567, wd_327, wd_568, ⟨by decide +kernel, by decide +kernel, by decide +kernel⟩, by decide⟩
theorem lk_L_142 : LV "TopYardLaw" 142 y_X_type b_X_type 2 (some .int) 1 := ⟨wd_569, wd_570, wd_571, wd_321, wd_572, ⟨by decide +kernel, by decide +kernel, by decide +kernel⟩, by decide⟩
theorem lk_L_145 : LV "TopYardLaw" 145 y_M_type b_M_type 2 (some .int) 1 := ⟨wd_573, wd_574, wd_575, wd_327, wd_576, ⟨by decide +kernel, by decide +kernel, by decide +kernel⟩, by decide⟩
theorem lk_L_146 : LV "TopYardLaw" 146 y_X_wipe b_X_wipe 2 (some .int) 0 := ⟨wd_577, wd_578, wd_579, wd_321, wd_580, ⟨by decide +kernel, by decide +kernel, by decide +kernel⟩, by decide⟩
theorem lk_L_149 : LV "TopYardLaw" 149 y_M_wipe b_M_wipe 2 (some .int) 0 := ⟨wd_581, wd_582, wd_583, wd_327, wd_584, ⟨by decide +kernel, by decide +kernel, by decide +kernel⟩, by decide⟩
theorem lk_L_150 : LV "TopYardLaw" 150 y_X_fault b_X_fault 1 (some .int) 0 := ⟨wd_585, wd_586, wd_587, wd_321, wd_588, ⟨by decide +kernel, by decide +kernel, by decide +kernel⟩, by decide⟩
theorem lk_L_153 : LV "TopYardLaw" 153 y_M_fault b_M_fault 1 (some .int) 0 := ⟨wd_589, wd_590, wd_591, wd_327, wd_592, ⟨by decide +kernel, by decide +kernel, by decide +kernel⟩, by decide⟩
theorem lk_L_154 : LV "TopYardLaw" 154 y_X_play b_X_play 4 (some .int) 2 := ⟨wd_593, wd_594, wd_595, wd_321, wd_596, ⟨by decide +kernel, by decide +kernel, by decide +kernel⟩, by decide⟩
theorem lk_L_157 : LV "TopYardLaw" 157 y_M_play b_M_play 10 (some .int) 2 := ⟨wd_597, wd_598, wd_599, wd_327, wd_600, ⟨by decide +kernel, by decide +kernel, by decide +kernel⟩, by decide⟩
theorem lk_L_158 : LV "TopYardLaw" 158 y_X_played b_X_played 2 (some .int) 1 := ⟨wd_601, wd_602, wd_603, wd_321, wd_604, ⟨by decide +kernel, by decide +kernel, by decide +kernel⟩, by decide⟩
theorem lk_L_161 : LV "TopYardLaw" 161 y_M_played b_M_played 2 (some .int) 1 := ⟨wd_605, wd_606, wd_607, wd_327, wd_608, ⟨by decide +kernel, by decide +kernel, by decide +kernel⟩, by decide⟩
theorem lk_L_162 : LV "TopYardLaw" 162 y_X_met b_X_met 3 (some .int) 2 := ⟨wd_609, wd_610, wd_611, wd_321, wd_612, ⟨by decide +kernel, by decide +kernel, by decide +kernel⟩, by decide⟩
theorem lk_L_165 : LV "TopYardLaw" 165 y_M_met1 b_M_met1 3 (some .int) 2 := ⟨wd_613, wd_614, wd_615, wd_327, wd_616, ⟨by decide +kernel, by decide +kernel, by decide +kernel⟩, by decide⟩
theorem lk_L_166 : LV "TopYardLaw" 166 y_X_pairing b_X_pairing 3 (some .int) 2 := ⟨wd_617, wd_618, wd_619, wd_321, wd_620, ⟨by decide +kernel, by decide +kernel, by decide +kernel⟩, by decide⟩
theorem lk_L_169 : LV "TopYardLaw" 169 y_M_pairing b_M_pairing 6 (some .int) 2 := ⟨wd_621, wd_622, wd_623, wd_327, wd_624, ⟨by decide +kernel, by decide +kernel, by decide +kernel⟩, by decide⟩
theorem lk_L_17 : LV "TopYardLaw" 17 y_M_turn b_M_turn 3 (some .int) 2 := ⟨wd_625, wd_626, wd_627, wd_327, wd_628, ⟨by decide +kernel, by decide +kernel, by decide +kernel⟩, by decide⟩
theorem lk_L_170 : LV "TopYardLaw" 170 y_X_bag b_X_bag 6 (some .int) 3 := ⟨wd_629, wd_630, wd_631, wd_321, wd_632, ⟨by decide +kernel, by decide +kernel, by decide +kernel⟩, by decide⟩
theorem lk_L_173 : LV "TopYardLaw" 173 y_M_bag b_M_bag 13 (some .int) 3 := ⟨wd_633, wd_634, wd_635, wd_327, wd_636, ⟨by decide +kernel, by decide +kernel, by decide +kernel⟩, by decide⟩
theorem lk_L_174 : LV "TopYardLaw" 174 y_X_sheet b_X_sheet 5 (some .int) 3 := ⟨wd_637, wd_638, wd_639, wd_321, wd_640, ⟨by decide +kernel, by decide +kernel, by decide +kernel⟩, by decide⟩
theorem lk_L_177 : LV "TopYardLaw" 177 y_M_sheet b_M_sheet 5 (some .int) 3 := ⟨wd_641, wd_642, wd_643, wd_327, wd_644, ⟨by decide +kernel, by decide +kernel, by decide +kernel⟩, by decide⟩
theorem lk_L_178 : LV "TopYardLaw" 178 y_X_lose b_X_lose 3 (some .int) 1 := ⟨wd_645, wd_646, wd_647, wd_321, wd_648, ⟨by decide +kernel, by decide +kernel, by decide +kernel⟩, by decide⟩
theorem lk_L_181 : LV "TopYardLaw" 181 y_M_lose b_M_lose 2 (some .int) 1 := ⟨wd_649, wd_650, wd_651, wd_327, wd_652, ⟨by decide +kernel, by decide +kernel, by decide +kernel⟩, by decide⟩
theorem lk_L_182 : LV "TopYardLaw" 182 y_X_put b_X_put 7 (some .int) 4 := ⟨wd_653, wd_654, wd_655, wd_321, wd_656, ⟨by decide +kernel, by decide +kernel, by decide +kernel⟩, by decide⟩
theorem lk_L_186 : LV "TopYardLaw" 186 y_M_put b_M_put 6 (some .int) 4 := ⟨wd_657, wd_658, wd_659, wd_327, wd_660, ⟨by decide +kernel, by decide +kernel, by decide +kernel⟩, by decide⟩
theorem lk_L_187 : LV "TopYardLaw" 187 y_X_get b_X_get 6 (some .int) 3 := ⟨wd_661, wd_662, wd_663, wd_321, wd_664, ⟨by decide +kernel, by decide +kernel, by decide +kernel⟩, by decide⟩
theorem lk_L_190 : LV "TopYardLaw" 190 y_M_get b_M_get 4 (some .int) 3 := ⟨wd_665, wd_666, wd_667, wd_327, wd_668, ⟨by decide +kernel, by decide +kernel, by decide +kernel⟩, by decide⟩
theorem lk_L_191 : LV "TopYardLaw" 191 y_X_copy b_X_copy 8 (some .int) 5 := ⟨wd_669, wd_670, wd_671, wd_321, wd_672, ⟨by decide +kernel, by decide +kernel, by decide +kernel⟩, by decide⟩
theorem lk_L_194 : LV "TopYardLaw" 194 y_M_copy b_M_copy 7 (some .int) 5 := ⟨wd_673, wd_674, wd_675, wd_327, wd_676, ⟨by decide +kernel, by decide +kernel, by decide +kernel⟩, by decide⟩
theorem lk_L_195 : LV "TopYardLaw" 195 y_X_write b_X_write 7 (some .int) 2 := ⟨wd_677, wd_678, wd_679, wd_321, wd_680, ⟨by decide +kernel, by decide +kernel, by decide +kernel⟩, by decide⟩
theorem lk_L_198 : LV "TopYardLaw" 198 y_M_write b_M_write 6 (some .int) 2 := ⟨wd_681, wd_682, wd_683, wd_327, wd_684, ⟨by decide +kernel, by decide +kernel, by decide +kernel⟩, by decide⟩
theorem lk_L_199 : LV "TopYardLaw" 199 y_X_count b_X_count 2 (some .int) 1 := ⟨wd_685, wd_686, wd_687, wd_321, wd_688, ⟨by decide +kernel, by decide +kernel, by decide +kernel⟩, by decide⟩
theorem lk_L_202 : LV "TopYardLaw" 202 y_M_count b_M_count 2 (some .int) 1 := ⟨wd_689, wd_690, wd_691, wd_327, wd_692, ⟨by decide +kernel, by decide +kernel, by decide +kernel⟩, by decide⟩
theorem lk_L_203 : LV "TopYardLaw" 203 y_X_digest b_X_digest 5 (some .long) 0 := ⟨wd_693, wd_694, wd_695, wd_321, wd_696, ⟨by decide +kernel, by decide +kernel, by decide +kernel⟩, by decide⟩
theorem lk_L_207 : LV "TopYardLaw" 207 y_M_digest b_M_digest 5 (some .long) 0 := ⟨wd_697, wd_698, wd_699, wd_327, wd_700, ⟨by decide +kernel, by decide +kernel, by decide +kernel⟩, by decide⟩
theorem lk_L_22 : LV "TopYardLaw" 22 y_M_top b_M_top 6 (some .int) 5 := ⟨wd_701, wd_702, wd_703, wd_327, wd_704, ⟨by decide +kernel, by decide +kernel, by decide +kernel⟩, by decide⟩
theorem lk_L_23 : LV "TopYardLaw" 23 y_X_about b_X_about 4 (some .int) 2 := ⟨wd_705, wd_706, wd_707, wd_321, wd_708, ⟨by decide +kernel, by decide +kernel, by decide +kernel⟩, by decide⟩
theorem lk_L_26 : LV "TopYardLaw" 26 y_M_about b_M_about 3 (some .int) 2 := ⟨wd_709, wd_710, wd_711, wd_327, wd_712, ⟨by decide +kernel, by decide +kernel, by decide +kernel⟩, by decide⟩
theorem lk_L_27 : LV "TopYardLaw" 27 y_X_wear b_X_wear 5 (some .int) 2 := ⟨wd_713, wd_714, wd_715, wd_321, wd_716, ⟨by decide +kernel, by decide +kernel, by decide +kernel⟩, by decide⟩
theorem lk_L_30 : LV "TopYardLaw" 30 y_M_wear b_M_wear 4 (some .int) 2 := ⟨wd_717, wd_718, wd_719, wd_327, wd_720, ⟨by decide +kernel, by decide +kernel, by decide +kernel⟩, by decide⟩
theorem lk_L_31 : LV "TopYardLaw" 31 y_X_give b_X_give 5 (some .int) 2 := ⟨wd_721, wd_722, wd_723, wd_321, wd_724, ⟨by decide +kernel, by decide +kernel, by decide +kernel⟩, by decide⟩
theorem lk_L_34 : LV "TopYardLaw" 34 y_M_give b_M_give 4 (some .int) 2 := ⟨wd_725, wd_726, wd_727, wd_327, wd_728, ⟨by decide +kernel, by decide +kernel, by decide +kernel⟩, by decide⟩
theorem lk_L_35 : LV "TopYardLaw" 35 y_X_bowl b_X_bowl 4 (some .int) 2 := ⟨wd_729, wd_730, wd_731, wd_321, wd_732, ⟨by decide +kernel, by decide +kernel, by decide +kernel⟩, by decide⟩
theorem lk_L_38 : LV "TopYardLaw" 38 y_M_bowl b_M_bowl 4 (some .int) 2 := ⟨wd_733, wd_734, wd_735, wd_327, wd_736, ⟨by decide +kernel, by decide +kernel, by decide +kernel⟩, by decide⟩
theorem lk_L_39 : LV "TopYardLaw" 39 y_X_dent b_X_dent 4 (some .int) 3 := ⟨wd_737, wd_738, wd_739, wd_321, wd_740, ⟨by decide +kernel, by decide +kernel, by decide +kernel⟩, by decide⟩
theorem lk_L_43 : LV "TopYardLaw" 43 y_M_dent b_M_dent 4 (some .int) 3 := ⟨wd_741, wd_742, wd_743, wd_327, wd_744, ⟨by decide +kernel, by decide +kernel, by decide +kernel⟩, by decide⟩
theorem lk_L_44 : LV "TopYardLaw" 44 y_X_smooth b_X_smooth 2 (some .int) 0 := ⟨wd_745, wd_746, wd_747, wd_321, wd_748, ⟨by decide +kernel, by decide +kernel, by decide +kernel⟩, by decide⟩
theorem lk_L_48 : LV "TopYardLaw" 48 y_M_smooth b_M_smooth 2 (some .int) 0 := ⟨wd_749, wd_750, wd_751, wd_327, wd_752, ⟨by decide +kernel, by decide +kernel, by decide +kernel⟩, by decide⟩
theorem lk_L_49 : LV "TopYardLaw" 49 y_X_height b_X_height 4 (some .int) 3 := ⟨wd_753, wd_754, wd_755, wd_321, wd_756, ⟨by decide +kernel, by decide +kernel, by decide +kernel⟩, by decide⟩
theorem lk_L_52 : LV "TopYardLaw" 52 y_M_height b_M_height 4 (some .int) 3 := ⟨wd_757, wd_758, wd_759, wd_327, wd_760, ⟨by decide +kernel, by decide +kernel, by decide +kernel⟩, by decide⟩
theorem lk_L_53 : LV "TopYardLaw" 53 y_X_string b_X_string 4 (some .int) 2 := ⟨wd_761, wd_762, wd_763, wd_321, wd_764, ⟨by decide +kernel, by decide +kernel, by decide +kernel⟩, by decide⟩
theorem lk_L_56 : LV "TopYardLaw" 56 y_M_string b_M_string 4 (some .int) 2 := ⟨wd_765, wd_766, wd_767, wd_327, wd_768, ⟨by decide +kernel, by decide +kernel, by decide +kernel⟩, by decide⟩
theorem lk_L_57 : LV "TopYardLaw" 57 y_X_enter b_X_enter 9 (some .int) 5 := ⟨wd_769, wd_770, wd_771, wd_321, wd_772, ⟨by decide +kernel, by decide +kernel, by decide +kernel⟩, by decide⟩
theorem lk_L_60 : LV "TopYardLaw" 60 y_M_enter b_M_enter 7 (some .int) 5 := ⟨wd_773, wd_774, wd_775, wd_327, wd_776, ⟨by decide +kernel, by decide +kernel, by decide +kernel⟩, by decide⟩
theorem lk_L_61 : LV "TopYardLaw" 61 y_X_clear b_X_clear 2 (some .int) 0 := ⟨wd_777, wd_778, wd_779, wd_321, wd_780, ⟨by decide +kernel, by decide +kernel, by decide +kernel⟩, by decide⟩
theorem lk_L_64 : LV "TopYardLaw" 64 y_M_clear b_M_clear 2 (some .int) 0 := ⟨wd_781, wd_782, wd_783, wd_327, wd_784, ⟨by decide +kernel, by decide +kernel, by decide +kernel⟩, by decide⟩
theorem lk_L_65 : LV "TopYardLaw" 65 y_X_whip b_X_whip 5 (some .int) 3 := ⟨wd_785, wd_786, wd_787, wd_321, wd_788, ⟨by decide +kernel, by decide +kernel, by decide +kernel⟩, by decide⟩
theorem lk_L_68 : LV "TopYardLaw" 68 y_M_whip b_M_whip 4 (some .int) 3 := ⟨wd_789, wd_790, wd_791, wd_327, wd_792, ⟨by decide +kernel, by decide +kernel, by decide +kernel⟩, by decide⟩
theorem lk_L_69 : LV "TopYardLaw" 69 y_X_run b_X_run 1 (some .int) 0 := ⟨wd_793, wd_794, wd_795, wd_321, wd_796, ⟨by decide +kernel, by decide +kernel, by decide +kernel⟩, by decide⟩
theorem lk_L_72 : LV "TopYardLaw" 72 y_M_run b_M_run 1 (some .int) 0 := ⟨wd_797, wd_798, wd_799, wd_327, wd_800, ⟨by decide +kernel, by decide +kernel, by decide +kernel⟩, by decide⟩
theorem lk_L_73 : LV "TopYardLaw" 73 y_X_winner b_X_winner 1 (some .int) 0 := ⟨wd_801, wd_802, wd_803, wd_321, wd_804, ⟨by decide +kernel, by decide +kernel, by decide +kernel⟩, by decide⟩
theorem lk_L_76 : LV "TopYardLaw" 76 y_M_winner b_M_winner 2 (some .int) 0 := ⟨wd_805, wd_806, wd_807, wd_327, wd_808, ⟨by decide +kernel, by decide +kernel, by decide +kernel⟩, by decide⟩
theorem lk_L_77 : LV "TopYardLaw" 77 y_X_knocks b_X_knocks 2 (some .int) 1 := ⟨wd_809, wd_810, wd_811, wd_321, wd_812, ⟨by decide +kernel, by decide +kernel, by decide +kernel⟩, by decide⟩
theorem lk_L_81 : LV "TopYardLaw" 81 y_M_knocks b_M_knocks 3 (some .int) 1 := ⟨wd_813, wd_814, wd_815, wd_327, wd_816, ⟨by decide +kernel, by decide +kernel, by decide +kernel⟩, by decide⟩
theorem lk_L_82 : LV "TopYardLaw" 82 y_X_state b_X_state 6 (some .int) 3 := ⟨wd_817, wd_818, wd_819, wd_321, wd_820, ⟨by decide +kernel, by decide +kernel, by decide +kernel⟩, by decide⟩
theorem lk_L_85 : LV "TopYardLaw" 85 y_M_state b_M_state 5 (some .int) 3 := ⟨wd_821, wd_822, wd_823, wd_327, wd_824, ⟨by decide +kernel, by decide +kernel, by decide +kernel⟩, by decide⟩
theorem lk_L_86 : LV "TopYardLaw" 86 y_X_choose b_X_choose 2 (some .int) 0 := ⟨wd_825, wd_826, wd_827, wd_321, wd_828, ⟨by decide +kernel, by decide +kernel, by decide +kernel⟩, by decide⟩
theorem lk_L_89 : LV "TopYardLaw" 89 y_M_choose b_M_choose 2 (some .int) 0 := ⟨wd_829, wd_830, wd_831, wd_327, wd_832, ⟨by decide +kernel, by decide +kernel, by decide +kernel⟩, by decide⟩
theorem lk_L_90 : LV "TopYardLaw" 90 y_X_among b_X_among 3 (some .int) 2 := ⟨wd_833, wd_834, wd_835, wd_321, wd_836, ⟨by decide +kernel, by decide +kernel, by decide +kernel⟩, by decide⟩
theorem lk_L_93 : LV "TopYardLaw" 93 y_M_among b_M_among 5 (some .int) 2 := ⟨wd_837, wd_838, wd_839, wd_327, wd_840, ⟨by decide +kernel, by decide +kernel, by decide +kernel⟩, by decide⟩
theorem lk_L_94 : LV "TopYardLaw" 94 y_X_pay b_X_pay 5 (some .int) 3 := ⟨wd_841, wd_842, wd_843, wd_321, wd_844, ⟨by decide +kernel, by decide +kernel, by decide +kernel⟩, by decide⟩
theorem lk_L_97 : LV "TopYardLaw" 97 y_M_pay b_M_pay 5 (some .int) 3 := ⟨wd_845, wd_846, wd_847, wd_327, wd_848, ⟨by decide +kernel, by decide +kernel, by decide +kernel⟩, by decide⟩
theorem lk_L_98 : LV "TopYardLaw" 98 y_X_pays b_X_pays 3 (some .int) 2 := ⟨wd_849, wd_850, wd_851, wd_321, wd_852, ⟨by decide +kernel, by decide +kernel, by decide +kernel⟩, by decide⟩
theorem lk_M_164 : LSt "TopYardModel" 164 y_M_in b_M_in 6 (some .boolean) 3 := ⟨wd_853, wd_854, wd_327, wd_855, ⟨by decide +kernel, by decide +kernel, by decide +kernel⟩, by decide⟩
theorem lk_M_168 : LV "TopYardModel" 168 y_M_c b_M_c 2 (some .int) 1 := ⟨wd_856, wd_857, (ms (i := 37) (by decide +kernel) (by decide +kernel)), wd_327, wd_858, ⟨by decide +kernel, by decide +kernel, by decide +kernel⟩, by decide⟩
theorem lk_M_172 : LV "TopYardModel" 172 y_M_s b_M_s 2 (some .int) 1 := ⟨wd_859, wd_860, (ms (i := 38) (by decide +kernel) (by decide +kernel)), wd_327, wd_861, ⟨by decide +kernel, by decide +kernel, by decide +kernel⟩, by decide⟩
theorem lk_M_186 : LSt "TopYardModel" 186 y_M_isOwner b_M_isOwner 1 (some .boolean) 1 := ⟨wd_862, wd_863, wd_327, wd_864, ⟨by decide +kernel, by decide +kernel, by decide +kernel⟩, by decide⟩
theorem lk_M_190 : LV "TopYardModel" 190 y_M_isTop b_M_isTop 2 (some .boolean) 1 := ⟨wd_865, wd_866, (ms (i := 39) (by decide +kernel) (by decide +kernel)), wd_327, wd_867, ⟨by decide +kernel, by decide +kernel, by decide +kernel⟩, by decide⟩
theorem lk_M_208 : LV "TopYardModel" 208 y_M_heightOf b_M_heightOf 5 (some .int) 2 := ⟨wd_868, wd_869, (ms (i := 40) (by decide +kernel) (by decide +kernel)), wd_327, wd_870, ⟨by decide +kernel, by decide +kernel, by decide +kernel⟩, by decide⟩
theorem lk_M_219 : LV "TopYardModel" 219 y_M_slopeX b_M_slopeX 3 (some .int) 2 := ⟨wd_871, wd_872, (ms (i := 41) (by decide +kernel) (by decide +kernel)), wd_327, wd_873, ⟨by decide +kernel, by decide +kernel, by decide +kernel⟩, by decide⟩
theorem lk_M_222 : LV "TopYardModel" 222 y_M_slopeY b_M_slopeY 3 (some .int) 2 := ⟨wd_874, wd_875, (ms (i := 42) (by decide +kernel) (by decide +kernel)), wd_327, wd_876, ⟨by decide +kernel, by decide +kernel, by decide +kernel⟩, by decide⟩
theorem lk_M_250 : LSt "TopYardModel" 250 y_M_floor65 b_M_floor65 2 (some .int) 1 := ⟨wd_877, wd_878, wd_327, wd_879, ⟨by decide +kernel, by decide +kernel, by decide +kernel⟩, by decide⟩
theorem lk_M_266 : LV "TopYardModel" 266 y_M_moves b_M_moves 5 none 0 := ⟨wd_880, wd_881, (ms (i := 48) (by decide +kernel) (by decide +kernel)), wd_327, wd_882, ⟨by decide +kernel, by decide +kernel, by decide +kernel⟩, by decide⟩
theorem lk_M_269 : LV "TopYardModel" 269 y_M_knock b_M_knock 21 none 2 := ⟨wd_883, wd_884, (ms (i := 49) (by decide +kernel) (by decide +kernel)), wd_327, wd_885, ⟨by decide +kernel, by decide +kernel, by decide +kernel⟩, by decide⟩
theorem lk_M_273 : LV "TopYardModel" 273 y_M_standing b_M_standing 3 (some .int) 0 := ⟨wd_886, wd_887, (ms (i := 46) (by decide +kernel) (by decide +kernel)), wd_327, wd_888, ⟨by decide +kernel, by decide +kernel, by decide +kernel⟩, by decide⟩
theorem lk_M_277 : LV "TopYardModel" 277 y_M_ticks b_M_ticks 6 none 3 := ⟨wd_889, wd_890, (ms (i := 47) (by decide +kernel) (by decide +kernel)), wd_327, wd_891, ⟨by decide +kernel, by decide +kernel, by decide +kernel⟩, by decide⟩
theorem lk_M_281 : LV "TopYardModel" 281 y_M_begins b_M_begins 8 none 6 := ⟨wd_892, wd_893, (ms (i := 44) (by decide +kernel) (by decide +kernel)), wd_327, wd_894, ⟨by decide +kernel, by decide +kernel, by decide +kernel⟩, by decide⟩
theorem lk_M_285 : LV "TopYardModel" 285 y_M_runsTo b_M_runsTo 5 (some .int) 3 := ⟨wd_895, wd_896, (ms (i := 45) (by decide +kernel) (by decide +kernel)), wd_327, wd_897, ⟨by decide +kernel, by decide +kernel, by decide +kernel⟩, by decide⟩
theorem lk_M_289 : LV "TopYardModel" 289 y_M_runsBout b_M_runsBout 3 (some .int) 1 := ⟨wd_898, wd_899, (ms (i := 43) (by decide +kernel) (by decide +kernel)), wd_327, wd_900, ⟨by decide +kernel, by decide +kernel, by decide +kernel⟩, by decide⟩
theorem lk_M_292 : LV "TopYardModel" 292 y_M_alone b_M_alone 3 (some .int) 0 := ⟨wd_901, wd_902, (ms (i := 50) (by decide +kernel) (by decide +kernel)), wd_327, wd_903, ⟨by decide +kernel, by decide +kernel, by decide +kernel⟩, by decide⟩
theorem lk_M_295 : LV "TopYardModel" 295 y_M_stateOf b_M_stateOf 3 (some .int) 2 := ⟨wd_904, wd_905, (ms (i := 51) (by decide +kernel) (by decide +kernel)), wd_327, wd_906, ⟨by decide +kernel, by decide +kernel, by decide +kernel⟩, by decide⟩
theorem lk_M_298 : LV "TopYardModel" 298 y_M_comesTo b_M_comesTo 7 (some .int) 4 := ⟨wd_907, wd_908, (ms (i := 53) (by decide +kernel) (by decide +kernel)), wd_327, wd_909, ⟨by decide +kernel, by decide +kernel, by decide +kernel⟩, by decide⟩
theorem lk_M_302 : LV "TopYardModel" 302 y_M_expectedOf b_M_expectedOf 3 (some .int) 2 := ⟨wd_910, wd_911, (ms (i := 52) (by decide +kernel) (by decide +kernel)), wd_327, wd_912, ⟨by decide +kernel, by decide +kernel, by decide +kernel⟩, by decide⟩
theorem lk_M_311 : LV "TopYardModel" 311 y_M_isPay b_M_isPay 3 (some .boolean) 2 := ⟨wd_913, wd_914, (ms (i := 54) (by decide +kernel) (by decide +kernel)), wd_327, wd_915, ⟨by decide +kernel, by decide +kernel, by decide +kernel⟩, by decide⟩
theorem lk_M_317 : LV "TopYardModel" 317 y_M_det2 b_M_det2 5 (some .long) 4 := ⟨wd_916, wd_917, (ms (i := 58) (by decide +kernel) (by decide +kernel)), wd_327, wd_918, ⟨by decide +kernel, by decide +kernel, by decide +kernel⟩, by decide⟩
theorem lk_M_321 : LSt "TopYardModel" 321 y_M_without b_M_without 2 (some .int) 2 := ⟨wd_919, wd_920, wd_327, wd_921, ⟨by decide +kernel, by decide +kernel, by decide +kernel⟩, by decide⟩
theorem lk_M_324 : LV "TopYardModel" 324 y_M_det3 b_M_det3 7 (some .long) 6 := ⟨wd_922, wd_923, (ms (i := 59) (by decide +kernel) (by decide +kernel)), wd_327, wd_924, ⟨by decide +kernel, by decide +kernel, by decide +kernel⟩, by decide⟩
theorem lk_M_335 : LV "TopYardModel" 335 y_M_minor b_M_minor 8 (some .long) 3 := ⟨wd_925, wd_926, (ms (i := 57) (by decide +kernel) (by decide +kernel)), wd_327, wd_927, ⟨by decide +kernel, by decide +kernel, by decide +kernel⟩, by decide⟩
theorem lk_M_339 : LSt "TopYardModel" 339 y_M_ones b_M_ones 3 (some .int) 1 := ⟨wd_928, wd_929, wd_327, wd_930, ⟨by decide +kernel, by decide +kernel, by decide +kernel⟩, by decide⟩
theorem lk_M_342 : LV "TopYardModel" 342 y_M_takesPart b_M_takesPart 8 none 2 := ⟨wd_931, wd_932, (ms (i := 56) (by decide +kernel) (by decide +kernel)), wd_327, wd_933, ⟨by decide +kernel, by decide +kernel, by decide +kernel⟩, by decide⟩
theorem lk_M_345 : LV "TopYardModel" 345 y_M_isMix b_M_isMix 6 (some .boolean) 0 := ⟨wd_934, wd_935, (ms (i := 60) (by decide +kernel) (by decide +kernel)), wd_327, wd_936, ⟨by decide +kernel, by decide +kernel, by decide +kernel⟩, by decide⟩
theorem lk_M_349 : LV "TopYardModel" 349 y_M_findMix b_M_findMix 4 (some .boolean) 0 := ⟨wd_937, wd_938, (ms (i := 55) (by decide +kernel) (by decide +kernel)), wd_327, wd_939, ⟨by decide +kernel, by decide +kernel, by decide +kernel⟩, by decide⟩
theorem lk_M_359 : LSt "TopYardModel" 359 y_M_isSheet b_M_isSheet 1 (some .boolean) 1 := ⟨wd_940, wd_941, wd_327, wd_942, ⟨by decide +kernel, by decide +kernel, by decide +kernel⟩, by decide⟩
theorem lk_M_362 : LV "TopYardModel" 362 y_M_met2 b_M_met2 2 (some .int) 1 := ⟨wd_943, wd_944, (ms (i := 61) (by decide +kernel) (by decide +kernel)), wd_327, wd_945, ⟨by decide +kernel, by decide +kernel, by decide +kernel⟩, by decide⟩
theorem lk_M_365 : LV "TopYardModel" 365 y_M_was b_M_was 4 (some .int) 3 := ⟨wd_946, wd_522, wd_523, wd_327, wd_524, ⟨by decide +kernel, by decide +kernel, by decide +kernel⟩, by decide⟩
theorem lk_M_375 : LV "TopYardModel" 375 y_M_isOf b_M_isOf 3 (some .boolean) 2 := ⟨wd_947, wd_948, (ms (i := 63) (by decide +kernel) (by decide +kernel)), wd_327, wd_949, ⟨by decide +kernel, by decide +kernel, by decide +kernel⟩, by decide⟩
theorem lk_M_378 : LV "TopYardModel" 378 y_M_findWorn b_M_findWorn 5 none 1 := ⟨wd_950, wd_951, (ms (i := 62) (by decide +kernel) (by decide +kernel)), wd_327, wd_952, ⟨by decide +kernel, by decide +kernel, by decide +kernel⟩, by decide⟩
theorem lk_M_382 : LV "TopYardModel" 382 y_M_doubt b_M_doubt 6 (some .int) 0 := ⟨wd_953, wd_954, (ms (i := 64) (by decide +kernel) (by decide +kernel)), wd_327, wd_955, ⟨by decide +kernel, by decide +kernel, by decide +kernel⟩, by decide⟩
theorem lk_M_397 : LSt "TopYardModel" 397 y_M_ruleOf b_M_ruleOf 1 (some .int) 1 := ⟨wd_956, wd_957, wd_327, wd_958, ⟨by decide +kernel, by decide +kernel, by decide +kernel⟩, by decide⟩
theorem lk_M_400 : LV "TopYardModel" 400 y_M_isFigure b_M_isFigure 2 (some .boolean) 1 := ⟨wd_959, wd_960, (ms (i := 66) (by decide +kernel) (by decide +kernel)), wd_327, wd_961, ⟨by decide +kernel, by decide +kernel, by decide +kernel⟩, by decide⟩
theorem lk_M_403 : LSt "TopYardModel" 403 y_M_isRule b_M_isRule 2 (some .boolean) 2 := ⟨wd_962, wd_963, wd_327, wd_964, ⟨by decide +kernel, by decide +kernel, by decide +kernel⟩, by decide⟩
theorem lk_M_406 : LV "TopYardModel" 406 y_M_reads b_M_reads 7 none 0 := ⟨wd_965, wd_966, (ms (i := 65) (by decide +kernel) (by decide +kernel)), wd_327, wd_967, ⟨by decide +kernel, by decide +kernel, by decide +kernel⟩, by decide⟩
theorem lk_M_409 : LV "TopYardModel" 409 y_M_topsOf b_M_topsOf 4 (some .int) 1 := ⟨wd_968, wd_969, (ms (i := 67) (by decide +kernel) (by decide +kernel)), wd_327, wd_970, ⟨by decide +kernel, by decide +kernel, by decide +kernel⟩, by decide⟩
theorem lk_M_412 : LV "TopYardModel" 412 y_M_topOf b_M_topOf 5 (some .int) 2 := ⟨wd_971, wd_972, (ms (i := 68) (by decide +kernel) (by decide +kernel)), wd_327, wd_973, ⟨by decide +kernel, by decide +kernel, by decide +kernel⟩, by decide⟩
theorem lk_M_415 : LSt "TopYardModel" 415 y_M_first b_M_first 2 (some .int) 1 := ⟨wd_974, wd_975, wd_327, wd_976, ⟨by decide +kernel, by decide +kernel, by decide +kernel⟩, by decide⟩
theorem lk_M_418 : LV "TopYardModel" 418 y_M_costs b_M_costs 5 (some .int) 2 := ⟨wd_977, wd_978, (ms (i := 70) (by decide +kernel) (by decide +kernel)), wd_327, wd_979, ⟨by decide +kernel, by decide +kernel, by decide +kernel⟩, by decide⟩
theorem lk_M_421 : LV "TopYardModel" 421 y_M_findPairs b_M_findPairs 3 none 0 := ⟨wd_980, wd_981, (ms (i := 69) (by decide +kernel) (by decide +kernel)), wd_327, wd_982, ⟨by decide +kernel, by decide +kernel, by decide +kernel⟩, by decide⟩
theorem lk_M_429 : LV "TopYardModel" 429 y_M_lacks b_M_lacks 4 (some .int) 3 := ⟨wd_983, wd_984, (ms (i := 71) (by decide +kernel) (by decide +kernel)), wd_327, wd_985, ⟨by decide +kernel, by decide +kernel, by decide +kernel⟩, by decide⟩
theorem lk_M_432 : LSt "TopYardModel" 432 y_M_cut b_M_cut 2 (some .int) 2 := ⟨wd_986, wd_987, wd_327, wd_988, ⟨by decide +kernel, by decide +kernel, by decide +kernel⟩, by decide⟩
theorem lk_M_437 : LV "TopYardModel" 437 y_M_count b_M_count 2 (some .int) 1 := ⟨wd_989, wd_690, wd_691, wd_327, wd_692, ⟨by decide +kernel, by decide +kernel, by decide +kernel⟩, by decide⟩
theorem lk_M_440 : LV "TopYardModel" 440 y_M_run b_M_run 1 (some .int) 0 := ⟨wd_990, wd_798, wd_799, wd_327, wd_800, ⟨by decide +kernel, by decide +kernel, by decide +kernel⟩, by decide⟩
theorem lk_M_443 : LV "TopYardModel" 443 y_M_winner b_M_winner 2 (some .int) 0 := ⟨wd_991, wd_806, wd_807, wd_327, wd_808, ⟨by decide +kernel, by decide +kernel, by decide +kernel⟩, by decide⟩
theorem lk_M_446 : LV "TopYardModel" 446 y_M_value b_M_value 5 (some .int) 0 := ⟨wd_992, wd_498, wd_499, wd_327, wd_500, ⟨by decide +kernel, by decide +kernel, by decide +kernel⟩, by decide⟩
theorem lk_Pa_28 : LV "TopYard$Past" 28 y_Pa_speaks b_Pa_speaks 3 (some .boolean) 2 := ⟨wd_993, wd_994, wd_995, wd_283, wd_996, ⟨by decide +kernel, by decide +kernel, by decide +kernel⟩, by decide⟩
theorem lk_Pa_32 : LV "TopYard$Past" 32 y_Pa_sided b_Pa_sided 4 (some .int) 3 := ⟨wd_997, wd_998, (ms (i := 24) (by decide +kernel) (by decide +kernel)), wd_283, wd_999, ⟨by decide +kernel, by decide +kernel, by decide +kernel⟩, by decide⟩
theorem lk_Pa_36 : LV "TopYard$Past" 36 y_Pa_chances b_Pa_chances 4 (some .int) 1 := ⟨wd_1000, wd_1001, wd_1002, wd_283, wd_1003, ⟨by decide +kernel, by decide +kernel, by decide +kernel⟩, by decide⟩
theorem lk_Pa_40 : LV "TopYard$Past" 40 y_Pa_surprises b_Pa_surprises 4 (some .int) 1 := ⟨wd_1004, wd_1005, wd_1006, wd_283, wd_1007, ⟨by decide +kernel, by decide +kernel, by decide +kernel⟩, by decide⟩
theorem lk_Pk_25 : LSt "TopYard$Pack" 25 y_JM_min b_JM_min 2 (some .int) 2 := ⟨wd_1008, wd_1009, wd_353, wd_1010, ⟨by decide +kernel, by decide +kernel, by decide +kernel⟩, by decide⟩
theorem lk_Pk_31 : LSt "TopYard$Pack" 31 y_JM_max1 b_JM_max1 2 (some .int) 2 := ⟨wd_1011, wd_352, wd_353, wd_354, ⟨by decide +kernel, by decide +kernel, by decide +kernel⟩, by decide⟩
theorem lk_Pk_35 : LSt "TopYard$Pack" 35 y_JA_fill b_JA_fill 4 none 2 := ⟨wd_1012, wd_410, wd_411, wd_412, ⟨by decide +kernel, by decide +kernel, by decide +kernel⟩, by decide⟩
theorem lk_Sh_26 : LSt "TopYard$Sheet" 26 y_JM_min b_JM_min 2 (some .int) 2 := ⟨wd_1013, wd_1009, wd_353, wd_1010, ⟨by decide +kernel, by decide +kernel, by decide +kernel⟩, by decide⟩
theorem lk_Sh_32 : LSt "TopYard$Sheet" 32 y_JM_max1 b_JM_max1 2 (some .int) 2 := ⟨wd_1014, wd_352, wd_353, wd_354, ⟨by decide +kernel, by decide +kernel, by decide +kernel⟩, by decide⟩
theorem lk_Sh_35 : LSt "TopYard$Sheet" 35 y_JA_fill b_JA_fill 4 none 2 := ⟨wd_1015, wd_410, wd_411, wd_412, ⟨by decide +kernel, by decide +kernel, by decide +kernel⟩, by decide⟩
theorem lk_Sh_41 : LV "TopYard$Sheet" 41 y_Sh_narrowed b_Sh_narrowed 2 (some .int) 1 := ⟨wd_1016, wd_1017, (ms (i := 36) (by decide +kernel) (by decide +kernel)), wd_304, wd_1018, ⟨by decide +kernel, by decide +kernel, by decide +kernel⟩, by decide⟩
theorem lk_Sp_102 : LSt "TopYard$Spinner" 102 y_JM_floorDiv b_JM_floorDiv 6 (some .long) 2 := ⟨wd_1019, wd_432, wd_353, wd_433, ⟨by decide +kernel, by decide +kernel, by decide +kernel⟩, by decide⟩
theorem lk_Sp_108 : LV "TopYard$Spinner" 108 y_Bw_slopeAlongX b_Bw_slopeAlongX 3 (some .int) 2 := ⟨wd_1020, wd_1021, wd_1022, wd_249, wd_1023, ⟨by decide +kernel, by decide +kernel, by decide +kernel⟩, by decide⟩
theorem lk_Sp_113 : LV "TopYard$Spinner" 113 y_Bw_slopeAlongY b_Bw_slopeAlongY 3 (some .int) 2 := ⟨wd_1024, wd_1025, wd_1026, wd_249, wd_1027, ⟨by decide +kernel, by decide +kernel, by decide +kernel⟩, by decide⟩
theorem lk_Sp_116 : LSt "TopYard$Spinner" 116 y_JM_floorMod b_JM_floorMod 3 (some .int) 2 := ⟨wd_1028, wd_1029, wd_353, wd_1030, ⟨by decide +kernel, by decide +kernel, by decide +kernel⟩, by decide⟩
theorem lk_Sp_121 : LV "TopYard$Spinner" 121 y_Sp_isWithin b_Sp_isWithin 4 (some .boolean) 1 := ⟨wd_1031, wd_1032, (ms (i := 5) (by decide +kernel) (by decide +kernel)), wd_263, wd_1033, ⟨by decide +kernel, by decide +kernel, by decide +kernel⟩, by decide⟩
theorem lk_Sp_40 : LSt "TopYard$Spinner" 40 y_JM_max1 b_JM_max1 2 (some .int) 2 := ⟨wd_1034, wd_352, wd_353, wd_354, ⟨by decide +kernel, by decide +kernel, by decide +kernel⟩, by decide⟩
theorem lk_Sp_73 : LSt "TopYard$Spinner" 73 y_Hd_alongX b_Hd_alongX 2 (some .int) 1 := ⟨wd_1035, wd_478, wd_479, wd_480, ⟨by decide +kernel, by decide +kernel, by decide +kernel⟩, by decide⟩
theorem lk_Sp_82 : LSt "TopYard$Spinner" 82 y_Hd_alongY b_Hd_alongY 1 (some .int) 1 := ⟨wd_1036, wd_1037, wd_479, wd_1038, ⟨by decide +kernel, by decide +kernel, by decide +kernel⟩, by decide⟩
theorem lk_Sp_88 : LSt "TopYard$Spinner" 88 y_JM_min b_JM_min 2 (some .int) 2 := ⟨wd_1039, wd_1009, wd_353, wd_1010, ⟨by decide +kernel, by decide +kernel, by decide +kernel⟩, by decide⟩
theorem lk_X_100 : LSt "TopYard" 100 y_Hd_alongY b_Hd_alongY 1 (some .int) 1 := ⟨wd_1040, wd_1037, wd_479, wd_1038, ⟨by decide +kernel, by decide +kernel, by decide +kernel⟩, by decide⟩
theorem lk_X_103 : LSt "TopYard" 103 y_X_isOwner b_X_isOwner 1 (some .boolean) 1 := ⟨wd_1041, wd_1042, wd_321, wd_1043, ⟨by decide +kernel, by decide +kernel, by decide +kernel⟩, by decide⟩
theorem lk_X_110 : LV "TopYard" 110 y_X_topAt b_X_topAt 2 (some (.object "TopYard$Top")) 1 := ⟨wd_1044, wd_1045, (ms (i := 0) (by decide +kernel) (by decide +kernel)), wd_321, wd_1046, ⟨by decide +kernel, by decide +kernel, by decide +kernel⟩, by decide⟩
theorem lk_X_138 : LSt "TopYard" 138 y_Bw_mayDent b_Bw_mayDent 2 (some .boolean) 2 := ⟨wd_1047, wd_407, wd_249, wd_408, ⟨by decide +kernel, by decide +kernel, by decide +kernel⟩, by decide⟩
theorem lk_X_142 : LV "TopYard" 142 y_Bw_raise b_Bw_raise 4 (some .boolean) 3 := ⟨wd_1048, wd_1049, wd_1050, wd_249, wd_1051, ⟨by decide +kernel, by decide +kernel, by decide +kernel⟩, by decide⟩
theorem lk_X_148 : LV "TopYard" 148 y_Bw_flatten b_Bw_flatten 1 none 0 := ⟨wd_1052, wd_1053, wd_1054, wd_249, wd_1055, ⟨by decide +kernel, by decide +kernel, by decide +kernel⟩, by decide⟩
theorem lk_X_152 : LV "TopYard" 152 y_Bw_heightAt b_Bw_heightAt 4 (some .int) 2 := ⟨wd_1056, wd_414, wd_415, wd_249, wd_416, ⟨by decide +kernel, by decide +kernel, by decide +kernel⟩, by decide⟩
theorem lk_X_156 : LV "TopYard" 156 y_Bw_slopeAlongX b_Bw_slopeAlongX 3 (some .int) 2 := ⟨wd_1057, wd_1021, wd_1022, wd_249, wd_1023, ⟨by decide +kernel, by decide +kernel, by decide +kernel⟩, by decide⟩
theorem lk_X_159 : LV "TopYard" 159 y_Bw_slopeAlongY b_Bw_slopeAlongY 3 (some .int) 2 := ⟨wd_1058, wd_1025, wd_1026, wd_249, wd_1027, ⟨by decide +kernel, by decide +kernel, by decide +kernel⟩, by decide⟩
theorem lk_X_162 : LV "TopYard" 162 y_Bt_holds b_Bt_holds 4 (some .boolean) 1 := ⟨wd_1059, wd_1060, wd_1061, wd_259, wd_1062, ⟨by decide +kernel, by decide +kernel, by decide +kernel⟩, by decide⟩
theorem lk_X_165 : LV "TopYard" 165 y_Bt_addSpinner b_Bt_addSpinner 4 (some (.object "TopYard$Spinner")) 2 := ⟨wd_1063, wd_1064, wd_1065, wd_259, wd_1066, ⟨by decide +kernel, by decide +kernel, by decide +kernel⟩, by decide⟩
theorem lk_X_169 : LV "TopYard" 169 y_Sp_set b_Sp_set 5 none 4 := ⟨wd_1067, wd_1068, wd_1069, wd_263, wd_1070, ⟨by decide +kernel, by decide +kernel, by decide +kernel⟩, by decide⟩
theorem lk_X_178 : LV "TopYard" 178 y_Bt_empty b_Bt_empty 1 none 0 := ⟨wd_1071, wd_1072, wd_1073, wd_259, wd_1074, ⟨by decide +kernel, by decide +kernel, by decide +kernel⟩, by decide⟩
theorem lk_X_181 : LV "TopYard" 181 y_Bt_addWhip b_Bt_addWhip 4 (some .boolean) 3 := ⟨wd_1075, wd_1076, wd_1077, wd_259, wd_1078, ⟨by decide +kernel, by decide +kernel, by decide +kernel⟩, by decide⟩
theorem lk_X_187 : LV "TopYard" 187 y_X_spinBout b_X_spinBout 2 (some .int) 1 := ⟨wd_1079, wd_1080, (ms (i := 1) (by decide +kernel) (by decide +kernel)), wd_321, wd_1081, ⟨by decide +kernel, by decide +kernel, by decide +kernel⟩, by decide⟩
theorem lk_X_190 : LV "TopYard" 190 y_Bt_lonePlace b_Bt_lonePlace 2 (some .int) 0 := ⟨wd_1082, wd_1083, wd_1084, wd_259, wd_1085, ⟨by decide +kernel, by decide +kernel, by decide +kernel⟩, by decide⟩
theorem lk_X_200 : LV "TopYard" 200 y_Bt_at b_Bt_at 2 (some (.object "TopYard$Spinner")) 1 := ⟨wd_1086, wd_356, wd_357, wd_259, wd_358, ⟨by decide +kernel, by decide +kernel, by decide +kernel⟩, by decide⟩
theorem lk_X_204 : LV "TopYard" 204 y_Sp_figure b_Sp_figure 2 (some .int) 1 := ⟨wd_1087, wd_1088, wd_1089, wd_263, wd_1090, ⟨by decide +kernel, by decide +kernel, by decide +kernel⟩, by decide⟩
theorem lk_X_213 : LV "TopYard" 213 y_Ch_begin b_Ch_begin 2 none 0 := ⟨wd_1091, wd_1092, wd_1093, wd_274, wd_1094, ⟨by decide +kernel, by decide +kernel, by decide +kernel⟩, by decide⟩
theorem lk_X_216 : LV "TopYard" 216 y_Ch_addRow b_Ch_addRow 2 (some .int) 1 := ⟨wd_1095, wd_1096, wd_1097, wd_274, wd_1098, ⟨by decide +kernel, by decide +kernel, by decide +kernel⟩, by decide⟩
theorem lk_X_219 : LV "TopYard" 219 y_Ch_addColumn b_Ch_addColumn 2 (some .int) 1 := ⟨wd_1099, wd_1100, wd_1101, wd_274, wd_1102, ⟨by decide +kernel, by decide +kernel, by decide +kernel⟩, by decide⟩
theorem lk_X_222 : LV "TopYard" 222 y_Ch_has b_Ch_has 3 (some .boolean) 2 := ⟨wd_1103, wd_1104, wd_1105, wd_274, wd_1106, ⟨by decide +kernel, by decide +kernel, by decide +kernel⟩, by decide⟩
theorem lk_X_229 : LV "TopYard" 229 y_Ch_isOpen b_Ch_isOpen 1 (some .boolean) 0 := ⟨wd_1107, wd_1108, wd_1109, wd_274, wd_1110, ⟨by decide +kernel, by decide +kernel, by decide +kernel⟩, by decide⟩
theorem lk_X_239 : LV "TopYard" 239 y_X_duel b_X_duel 10 (some .int) 4 := ⟨wd_1111, wd_1112, (ms (i := 9) (by decide +kernel) (by decide +kernel)), wd_321, wd_1113, ⟨by decide +kernel, by decide +kernel, by decide +kernel⟩, by decide⟩
theorem lk_X_243 : LV "TopYard" 243 y_Ch_solve b_Ch_solve 3 none 0 := ⟨wd_1114, wd_1115, wd_1116, wd_274, wd_1117, ⟨by decide +kernel, by decide +kernel, by decide +kernel⟩, by decide⟩
theorem lk_X_246 : LV "TopYard" 246 y_Ch_valueInMillionths b_Ch_valueInMillionths 1 (some .int) 0 := ⟨wd_1118, wd_1119, wd_1120, wd_274, wd_1121, ⟨by decide +kernel, by decide +kernel, by decide +kernel⟩, by decide⟩
theorem lk_X_256 : LV "TopYard" 256 y_Ch_inMillionths b_Ch_inMillionths 3 (some .int) 1 := ⟨wd_1122, wd_428, wd_429, wd_274, wd_430, ⟨by decide +kernel, by decide +kernel, by decide +kernel⟩, by decide⟩
theorem lk_X_260 : LV "TopYard" 260 y_X_mayBeRow b_X_mayBeRow 4 (some .boolean) 3 := ⟨wd_1123, wd_1124, (ms (i := 20) (by decide +kernel) (by decide +kernel)), wd_321, wd_1125, ⟨by decide +kernel, by decide +kernel, by decide +kernel⟩, by decide⟩
theorem lk_X_263 : LV "TopYard" 263 y_Pa_add b_Pa_add 4 (some .boolean) 3 := ⟨wd_1126, wd_1127, wd_1128, wd_283, wd_1129, ⟨by decide +kernel, by decide +kernel, by decide +kernel⟩, by decide⟩
theorem lk_X_267 : LV "TopYard" 267 y_X_sheetAt b_X_sheetAt 2 (some (.object "TopYard$Sheet")) 1 := ⟨wd_1130, wd_1131, (ms (i := 21) (by decide +kernel) (by decide +kernel)), wd_321, wd_1132, ⟨by decide +kernel, by decide +kernel, by decide +kernel⟩, by decide⟩
theorem lk_X_275 : LV "TopYard" 275 y_X_find b_X_find 2 (some .int) 1 := ⟨wd_1133, wd_1134, (ms (i := 22) (by decide +kernel) (by decide +kernel)), wd_321, wd_1135, ⟨by decide +kernel, by decide +kernel, by decide +kernel⟩, by decide⟩
theorem lk_X_281 : LV "TopYard" 281 y_Sh_item b_Sh_item 2 (some .int) 1 := ⟨wd_1136, wd_1137, wd_1138, wd_304, wd_1139, ⟨by decide +kernel, by decide +kernel, by decide +kernel⟩, by decide⟩
theorem lk_X_284 : LV "TopYard" 284 y_X_foretellRows b_X_foretellRows 4 none 1 := ⟨wd_1140, wd_1141, (ms (i := 23) (by decide +kernel) (by decide +kernel)), wd_321, wd_1142, ⟨by decide +kernel, by decide +kernel, by decide +kernel⟩, by decide⟩
theorem lk_X_288 : LV "TopYard" 288 y_Pa_surprises b_Pa_surprises 4 (some .int) 1 := ⟨wd_1143, wd_1005, wd_1006, wd_283, wd_1007, ⟨by decide +kernel, by decide +kernel, by decide +kernel⟩, by decide⟩
theorem lk_X_291 : LV "TopYard" 291 y_Pa_chances b_Pa_chances 4 (some .int) 1 := ⟨wd_1144, wd_1001, wd_1002, wd_283, wd_1003, ⟨by decide +kernel, by decide +kernel, by decide +kernel⟩, by decide⟩
theorem lk_X_294 : LV "TopYard" 294 y_Pa_doubt b_Pa_doubt 9 (some .int) 1 := ⟨wd_1145, wd_1146, wd_1147, wd_283, wd_1148, ⟨by decide +kernel, by decide +kernel, by decide +kernel⟩, by decide⟩
theorem lk_X_298 : LV "TopYard" 298 y_Pa_rowsAsTold b_Pa_rowsAsTold 4 (some .int) 1 := ⟨wd_1149, wd_1150, wd_1151, wd_283, wd_1152, ⟨by decide +kernel, by decide +kernel, by decide +kernel⟩, by decide⟩
theorem lk_X_301 : LV "TopYard" 301 y_Ga_append b_Ga_append 2 (some .boolean) 1 := ⟨wd_1153, wd_1154, wd_1155, wd_290, wd_1156, ⟨by decide +kernel, by decide +kernel, by decide +kernel⟩, by decide⟩
theorem lk_X_305 : LV "TopYard" 305 y_Ga_parse b_Ga_parse 7 (some .int) 0 := ⟨wd_1157, wd_1158, wd_1159, wd_290, wd_1160, ⟨by decide +kernel, by decide +kernel, by decide +kernel⟩, by decide⟩
theorem lk_X_308 : LV "TopYard" 308 y_X_topsOf b_X_topsOf 4 (some .int) 1 := ⟨wd_1161, wd_1162, (ms (i := 29) (by decide +kernel) (by decide +kernel)), wd_321, wd_1163, ⟨by decide +kernel, by decide +kernel, by decide +kernel⟩, by decide⟩
theorem lk_X_311 : LV "TopYard" 311 y_X_playBouts b_X_playBouts 9 none 2 := ⟨wd_1164, wd_1165, (ms (i := 31) (by decide +kernel) (by decide +kernel)), wd_321, wd_1166, ⟨by decide +kernel, by decide +kernel, by decide +kernel⟩, by decide⟩
theorem lk_X_315 : LV "TopYard" 315 y_X_keepTops b_X_keepTops 6 (some .int) 2 := ⟨wd_1167, wd_1168, (ms (i := 33) (by decide +kernel) (by decide +kernel)), wd_321, wd_1169, ⟨by decide +kernel, by decide +kernel, by decide +kernel⟩, by decide⟩
theorem lk_X_318 : LSt "TopYard" 318 y_JI_bitCount b_JI_bitCount 1 (some .int) 1 := ⟨wd_1170, wd_441, wd_442, wd_443, ⟨by decide +kernel, by decide +kernel, by decide +kernel⟩, by decide⟩
theorem lk_X_323 : LV "TopYard" 323 y_X_mateInPairing b_X_mateInPairing 7 (some .int) 2 := ⟨wd_1171, wd_1172, (ms (i := 34) (by decide +kernel) (by decide +kernel)), wd_321, wd_1173, ⟨by decide +kernel, by decide +kernel, by decide +kernel⟩, by decide⟩
theorem lk_X_326 : LV "TopYard" 326 y_Pk_begin b_Pk_begin 2 none 1 := ⟨wd_1174, wd_1175, wd_1176, wd_297, wd_1177, ⟨by decide +kernel, by decide +kernel, by decide +kernel⟩, by decide⟩
theorem lk_X_328 : LV "TopYard" 328 y_To_worth b_To_worth 1 (some .int) 0 := ⟨wd_1178, wd_1179, wd_1180, wd_311, wd_1181, ⟨by decide +kernel, by decide +kernel, by decide +kernel⟩, by decide⟩
theorem lk_X_331 : LV "TopYard" 331 y_Pk_offer b_Pk_offer 5 none 2 := ⟨wd_1182, wd_1183, wd_1184, wd_297, wd_1185, ⟨by decide +kernel, by decide +kernel, by decide +kernel⟩, by decide⟩
theorem lk_X_334 : LV "TopYard" 334 y_Pk_bestWeight b_Pk_bestWeight 3 (some .int) 0 := ⟨wd_1186, wd_1187, wd_1188, wd_297, wd_1189, ⟨by decide +kernel, by decide +kernel, by decide +kernel⟩, by decide⟩
theorem lk_X_343 : LSt "TopYard" 343 y_Sh_isForm b_Sh_isForm 1 (some .boolean) 1 := ⟨wd_1190, wd_1191, wd_304, wd_1192, ⟨by decide +kernel, by decide +kernel, by decide +kernel⟩, by decide⟩
theorem lk_X_346 : LV "TopYard" 346 y_Sh_begin b_Sh_begin 3 none 2 := ⟨wd_1193, wd_1194, wd_1195, wd_304, wd_1196, ⟨by decide +kernel, by decide +kernel, by decide +kernel⟩, by decide⟩
theorem lk_X_348 : LV "TopYard" 348 y_Sh_findingAt b_Sh_findingAt 3 (some .int) 2 := ⟨wd_1197, wd_1198, wd_1199, wd_304, wd_1200, ⟨by decide +kernel, by decide +kernel, by decide +kernel⟩, by decide⟩
theorem lk_X_351 : LV "TopYard" 351 y_Sh_store b_Sh_store 3 none 2 := ⟨wd_1201, wd_1202, wd_1203, wd_304, wd_1204, ⟨by decide +kernel, by decide +kernel, by decide +kernel⟩, by decide⟩
theorem lk_X_357 : LV "TopYard" 357 y_Sh_spans b_Sh_spans 3 (some .boolean) 2 := ⟨wd_1205, wd_1206, wd_1207, wd_304, wd_1208, ⟨by decide +kernel, by decide +kernel, by decide +kernel⟩, by decide⟩
theorem lk_X_369 : LSt "TopYard" 369 y_JM_min b_JM_min 2 (some .int) 2 := ⟨wd_1209, wd_1009, wd_353, wd_1010, ⟨by decide +kernel, by decide +kernel, by decide +kernel⟩, by decide⟩
theorem lk_X_378 : LV "TopYard" 378 y_X_count b_X_count 2 (some .int) 1 := ⟨wd_1210, wd_686, wd_687, wd_321, wd_688, ⟨by decide +kernel, by decide +kernel, by decide +kernel⟩, by decide⟩
theorem lk_X_381 : LV "TopYard" 381 y_X_about b_X_about 4 (some .int) 2 := ⟨wd_1211, wd_706, wd_707, wd_321, wd_708, ⟨by decide +kernel, by decide +kernel, by decide +kernel⟩, by decide⟩
theorem lk_X_384 : LV "TopYard" 384 y_X_run b_X_run 1 (some .int) 0 := ⟨wd_1212, wd_794, wd_795, wd_321, wd_796, ⟨by decide +kernel, by decide +kernel, by decide +kernel⟩, by decide⟩
theorem lk_X_387 : LV "TopYard" 387 y_X_winner b_X_winner 1 (some .int) 0 := ⟨wd_1213, wd_802, wd_803, wd_321, wd_804, ⟨by decide +kernel, by decide +kernel, by decide +kernel⟩, by decide⟩
theorem lk_X_390 : LV "TopYard" 390 y_X_value b_X_value 1 (some .int) 0 := ⟨wd_1214, wd_494, wd_495, wd_321, wd_496, ⟨by decide +kernel, by decide +kernel, by decide +kernel⟩, by decide⟩
theorem lk_X_393 : LV "TopYard" 393 y_Bt_spinUntil b_Bt_spinUntil 6 (some .int) 4 := ⟨wd_1215, wd_1216, wd_1217, wd_259, wd_1218, ⟨by decide +kernel, by decide +kernel, by decide +kernel⟩, by decide⟩
theorem lk_X_397 : LV "TopYard" 397 y_Sp_fellInRing b_Sp_fellInRing 1 (some .boolean) 0 := ⟨wd_1219, wd_1220, wd_1221, wd_263, wd_1222, ⟨by decide +kernel, by decide +kernel, by decide +kernel⟩, by decide⟩
theorem lk_X_400 : LV "TopYard" 400 y_Pa_speaks b_Pa_speaks 3 (some .boolean) 2 := ⟨wd_1223, wd_994, wd_995, wd_283, wd_996, ⟨by decide +kernel, by decide +kernel, by decide +kernel⟩, by decide⟩
theorem lk_X_403 : LV "TopYard" 403 y_Pa_firstLike b_Pa_firstLike 3 (some .int) 1 := ⟨wd_1224, wd_1225, wd_1226, wd_283, wd_1227, ⟨by decide +kernel, by decide +kernel, by decide +kernel⟩, by decide⟩
theorem lk_X_415 : LV "TopYard" 415 y_X_isTopOf b_X_isTopOf 4 (some .boolean) 2 := ⟨wd_1228, wd_1229, (ms (i := 30) (by decide +kernel) (by decide +kernel)), wd_321, wd_1230, ⟨by decide +kernel, by decide +kernel, by decide +kernel⟩, by decide⟩
theorem lk_X_418 : LSt "TopYard" 418 y_JM_max1 b_JM_max1 2 (some .int) 2 := ⟨wd_1231, wd_352, wd_353, wd_354, ⟨by decide +kernel, by decide +kernel, by decide +kernel⟩, by decide⟩
theorem lk_X_421 : LV "TopYard" 421 y_Ga_mostBouts b_Ga_mostBouts 1 (some .int) 0 := ⟨wd_1232, wd_1233, wd_1234, wd_290, wd_1235, ⟨by decide +kernel, by decide +kernel, by decide +kernel⟩, by decide⟩
theorem lk_X_424 : LV "TopYard" 424 y_Ga_winsNeeded b_Ga_winsNeeded 1 (some .int) 0 := ⟨wd_1236, wd_1237, wd_1238, wd_290, wd_1239, ⟨by decide +kernel, by decide +kernel, by decide +kernel⟩, by decide⟩
theorem lk_X_427 : LV "TopYard" 427 y_X_nthTopOf b_X_nthTopOf 5 (some .int) 2 := ⟨wd_1240, wd_1241, (ms (i := 32) (by decide +kernel) (by decide +kernel)), wd_321, wd_1242, ⟨by decide +kernel, by decide +kernel, by decide +kernel⟩, by decide⟩
theorem lk_X_430 : LV "TopYard" 430 y_Ga_turns b_Ga_turns 1 (some .int) 0 := ⟨wd_1243, wd_1244, wd_1245, wd_290, wd_1246, ⟨by decide +kernel, by decide +kernel, by decide +kernel⟩, by decide⟩
theorem lk_X_433 : LV "TopYard" 433 y_Ga_ring b_Ga_ring 1 (some .int) 0 := ⟨wd_1247, wd_1248, wd_1249, wd_290, wd_1250, ⟨by decide +kernel, by decide +kernel, by decide +kernel⟩, by decide⟩
theorem lk_X_435 : LV "TopYard" 435 y_Ga_keeps b_Ga_keeps 1 (some .int) 0 := ⟨wd_1251, wd_1252, wd_1253, wd_290, wd_1254, ⟨by decide +kernel, by decide +kernel, by decide +kernel⟩, by decide⟩
theorem lk_X_438 : LSt "TopYard" 438 y_JI_numberOfTrailingZeros b_JI_numberOfTrailingZeros 2 (some .int) 1 := ⟨wd_1255, wd_448, wd_442, wd_449, ⟨by decide +kernel, by decide +kernel, by decide +kernel⟩, by decide⟩
theorem lk_X_441 : LV "TopYard" 441 y_X_bestMate b_X_bestMate 11 (some .int) 3 := ⟨wd_1256, wd_1257, (ms (i := 35) (by decide +kernel) (by decide +kernel)), wd_321, wd_1258, ⟨by decide +kernel, by decide +kernel, by decide +kernel⟩, by decide⟩
theorem lk_X_445 : LSt "TopYard" 445 y_X_costOfPair b_X_costOfPair 5 (some .long) 3 := ⟨wd_1259, wd_1260, wd_321, wd_1261, ⟨by decide +kernel, by decide +kernel, by decide +kernel⟩, by decide⟩
theorem lk_X_449 : LSt "TopYard" 449 y_X_leastCost b_X_leastCost 10 (some .long) 3 := ⟨wd_1262, wd_1263, wd_321, wd_1264, ⟨by decide +kernel, by decide +kernel, by decide +kernel⟩, by decide⟩
theorem lk_X_454 : LSt "TopYard" 454 y_JM_max2 b_JM_max2 4 (some .long) 2 := ⟨wd_1265, wd_1266, wd_353, wd_1267, ⟨by decide +kernel, by decide +kernel, by decide +kernel⟩, by decide⟩
theorem lk_X_83 : LSt "TopYard" 83 y_JA_fill b_JA_fill 4 none 2 := ⟨wd_1268, wd_410, wd_411, wd_412, ⟨by decide +kernel, by decide +kernel, by decide +kernel⟩, by decide⟩
theorem lk_X_90 : LSt "TopYard" 90 y_X_within b_X_within 3 (some .boolean) 3 := ⟨wd_1269, wd_1270, wd_321, wd_1271, ⟨by decide +kernel, by decide +kernel, by decide +kernel⟩, by decide⟩
theorem lk_X_94 : LSt "TopYard" 94 y_Hd_alongX b_Hd_alongX 2 (some .int) 1 := ⟨wd_1272, wd_478, wd_479, wd_480, ⟨by decide +kernel, by decide +kernel, by decide +kernel⟩, by decide⟩
theorem fl_Bt_109 : FL "TopYard$Bout" 109 7 15 false (.int) := ⟨kR7, kF7, 18, kT7, rfl, kW7, by decide, rfl, by decide, wd_53, rfl, rfl, kO7, kN7, rfl⟩
theorem fl_Bt_112 : FL "TopYard$Bout" 112 7 10 false (.long) := ⟨kR7, kF7, 18, kT7, rfl, kW7, by decide, rfl, by decide, wd_61, rfl, rfl, kO7, kN7, rfl⟩
theorem fl_Bt_116 : FL "TopYard$Bout" 116 7 11 false (.long) := ⟨kR7, kF7, 18, kT7, rfl, kW7, by decide, rfl, by decide, wd_62, rfl, rfl, kO7, kN7, rfl⟩
theorem fl_Bt_123 : FL "TopYard$Bout" 123 7 7 false (.int) := ⟨kR7, kF7, 18, kT7, rfl, kW7, by decide, rfl, by decide, wd_65, rfl, rfl, kO7, kN7, rfl⟩
theorem fl_Bt_126 : FL "TopYard$Bout" 126 7 12 false (.long) := ⟨kR7, kF7, 18, kT7, rfl, kW7, by decide, rfl, by decide, wd_57, rfl, rfl, kO7, kN7, rfl⟩
theorem fl_Bt_129 : FL "TopYard$Bout" 129 7 6 false (.int) := ⟨kR7, kF7, 18, kT7, rfl, kW7, by decide, rfl, by decide, wd_59, rfl, rfl, kO7, kN7, rfl⟩
theorem fl_Bt_13 : FL "TopYard$Bout" 13 0 0 true (.array (.object "TopYard$Spinner")) := ⟨kR0, kF0, 8, kT0, rfl, kW0, by decide, rfl, by decide, wd_18, rfl, rfl, kO0, kN0, rfl⟩
theorem fl_Bt_132 : FL "TopYard$Bout" 132 7 13 false (.long) := ⟨kR7, kF7, 18, kT7, rfl, kW7, by decide, rfl, by decide, wd_58, rfl, rfl, kO7, kN7, rfl⟩
theorem fl_Bt_147 : FL "TopYard$Bout" 147 7 8 false (.int) := ⟨kR7, kF7, 18, kT7, rfl, kW7, by decide, rfl, by decide, wd_60, rfl, rfl, kO7, kN7, rfl⟩
theorem fl_Bt_17 : FL "TopYard$Bout" 17 0 1 false (.int) := ⟨kR0, kF0, 8, kT0, rfl, kW0, by decide, rfl, by decide, wd_17, rfl, rfl, kO0, kN0, rfl⟩
theorem fl_Bt_21 : FL "TopYard$Bout" 21 0 2 true (.array .int) := ⟨kR0, kF0, 8, kT0, rfl, kW0, by decide, rfl, by decide, wd_28, rfl, rfl, kO0, kN0, rfl⟩
theorem fl_Bt_25 : FL "TopYard$Bout" 25 0 3 true (.array .int) := ⟨kR0, kF0, 8, kT0, rfl, kW0, by decide, rfl, by decide, wd_29, rfl, rfl, kO0, kN0, rfl⟩
theorem fl_Bt_28 : FL "TopYard$Bout" 28 0 4 true (.array .int) := ⟨kR0, kF0, 8, kT0, rfl, kW0, by decide, rfl, by decide, wd_30, rfl, rfl, kO0, kN0, rfl⟩
theorem fl_Bt_31 : FL "TopYard$Bout" 31 0 5 false (.int) := ⟨kR0, kF0, 8, kT0, rfl, kW0, by decide, rfl, by decide, wd_27, rfl, rfl, kO0, kN0, rfl⟩
theorem fl_Bt_34 : FL "TopYard$Bout" 34 0 6 false (.int) := ⟨kR0, kF0, 8, kT0, rfl, kW0, by decide, rfl, by decide, wd_51, rfl, rfl, kO0, kN0, rfl⟩
theorem fl_Bt_37 : FL "TopYard$Bout" 37 0 7 false (.int) := ⟨kR0, kF0, 8, kT0, rfl, kW0, by decide, rfl, by decide, wd_52, rfl, rfl, kO0, kN0, rfl⟩
theorem fl_Bt_45 : FL "TopYard$Bout" 45 7 1 false (.int) := ⟨kR7, kF7, 18, kT7, rfl, kW7, by decide, rfl, by decide, wd_19, rfl, rfl, kO7, kN7, rfl⟩
theorem fl_Bt_48 : FL "TopYard$Bout" 48 7 0 false (.object "TopYard$Top") := ⟨kR7, kF7, 18, kT7, rfl, kW7, by decide, rfl, by decide, wd_20, rfl, rfl, kO7, kN7, rfl⟩
theorem fl_Bt_94 : FL "TopYard$Bout" 94 1 0 false (.int) := ⟨kR1, kF1, 4, kT1, rfl, kW1, by decide, rfl, by decide, wd_67, rfl, rfl, kO1, kN1, rfl⟩
theorem fl_Bw_13 : FL "TopYard$Bowl" 13 1 1 false (.int) := ⟨kR1, kF1, 4, kT1, rfl, kW1, by decide, rfl, by decide, wd_252, rfl, rfl, kO1, kN1, rfl⟩
theorem fl_Bw_16 : FL "TopYard$Bowl" 16 1 2 false (.int) := ⟨kR1, kF1, 4, kT1, rfl, kW1, by decide, rfl, by decide, wd_12, rfl, rfl, kO1, kN1, rfl⟩
theorem fl_Bw_19 : FL "TopYard$Bowl" 19 1 3 true (.array .int) := ⟨kR1, kF1, 4, kT1, rfl, kW1, by decide, rfl, by decide, wd_13, rfl, rfl, kO1, kN1, rfl⟩
theorem fl_Bw_7 : FL "TopYard$Bowl" 7 1 0 false (.int) := ⟨kR1, kF1, 4, kT1, rfl, kW1, by decide, rfl, by decide, wd_251, rfl, rfl, kO1, kN1, rfl⟩
theorem fl_Ch_11 : FL "TopYard$Choice" 11 2 0 false (.int) := ⟨kR2, kF2, 10, kT2, rfl, kW2, by decide, rfl, by decide, wd_70, rfl, rfl, kO2, kN2, rfl⟩
theorem fl_Ch_15 : FL "TopYard$Choice" 15 2 1 false (.int) := ⟨kR2, kF2, 10, kT2, rfl, kW2, by decide, rfl, by decide, wd_71, rfl, rfl, kO2, kN2, rfl⟩
theorem fl_Ch_18 : FL "TopYard$Choice" 18 2 2 true (.array .int) := ⟨kR2, kF2, 10, kT2, rfl, kW2, by decide, rfl, by decide, wd_76, rfl, rfl, kO2, kN2, rfl⟩
theorem fl_Ch_22 : FL "TopYard$Choice" 22 2 3 true (.array .int) := ⟨kR2, kF2, 10, kT2, rfl, kW2, by decide, rfl, by decide, wd_77, rfl, rfl, kO2, kN2, rfl⟩
theorem fl_Ch_27 : FL "TopYard$Choice" 27 2 4 true (.array (.array .int)) := ⟨kR2, kF2, 10, kT2, rfl, kW2, by decide, rfl, by decide, wd_72, rfl, rfl, kO2, kN2, rfl⟩
theorem fl_Ch_30 : FL "TopYard$Choice" 30 2 5 true (.array .long) := ⟨kR2, kF2, 10, kT2, rfl, kW2, by decide, rfl, by decide, wd_89, rfl, rfl, kO2, kN2, rfl⟩
theorem fl_Ch_34 : FL "TopYard$Choice" 34 2 6 true (.array .long) := ⟨kR2, kF2, 10, kT2, rfl, kW2, by decide, rfl, by decide, wd_90, rfl, rfl, kO2, kN2, rfl⟩
theorem fl_Ch_37 : FL "TopYard$Choice" 37 2 7 true (.array .long) := ⟨kR2, kF2, 10, kT2, rfl, kW2, by decide, rfl, by decide, wd_86, rfl, rfl, kO2, kN2, rfl⟩
theorem fl_Ch_40 : FL "TopYard$Choice" 40 2 8 false (.long) := ⟨kR2, kF2, 10, kT2, rfl, kW2, by decide, rfl, by decide, wd_87, rfl, rfl, kO2, kN2, rfl⟩
theorem fl_Ch_44 : FL "TopYard$Choice" 44 2 9 false (.long) := ⟨kR2, kF2, 10, kT2, rfl, kW2, by decide, rfl, by decide, wd_88, rfl, rfl, kO2, kN2, rfl⟩
theorem fl_Ga_15 : FL "TopYard$Game" 15 3 1 true (.array .int) := ⟨kR3, kF3, 3, kT3, rfl, kW3, by decide, rfl, by decide, wd_114, rfl, rfl, kO3, kN3, rfl⟩
theorem fl_Ga_19 : FL "TopYard$Game" 19 3 2 true (.array .int) := ⟨kR3, kF3, 3, kT3, rfl, kW3, by decide, rfl, by decide, wd_119, rfl, rfl, kO3, kN3, rfl⟩
theorem fl_Ga_9 : FL "TopYard$Game" 9 3 0 false (.int) := ⟨kR3, kF3, 3, kT3, rfl, kW3, by decide, rfl, by decide, wd_113, rfl, rfl, kO3, kN3, rfl⟩
theorem fl_M_102 : FL "TopYardModel" 102 10 39 true (.array .int) := ⟨kR10, kF10, 67, kT10, rfl, kW10, by decide, rfl, by decide, wd_210, rfl, rfl, kO10, kN10, rfl⟩
theorem fl_M_105 : FL "TopYardModel" 105 10 40 true (.array .int) := ⟨kR10, kF10, 67, kT10, rfl, kW10, by decide, rfl, by decide, wd_209, rfl, rfl, kO10, kN10, rfl⟩
theorem fl_M_108 : FL "TopYardModel" 108 10 41 true (.array .int) := ⟨kR10, kF10, 67, kT10, rfl, kW10, by decide, rfl, by decide, wd_211, rfl, rfl, kO10, kN10, rfl⟩
theorem fl_M_111 : FL "TopYardModel" 111 10 42 true (.array .long) := ⟨kR10, kF10, 67, kT10, rfl, kW10, by decide, rfl, by decide, wd_213, rfl, rfl, kO10, kN10, rfl⟩
theorem fl_M_114 : FL "TopYardModel" 114 10 43 true (.array .long) := ⟨kR10, kF10, 67, kT10, rfl, kW10, by decide, rfl, by decide, wd_216, rfl, rfl, kO10, kN10, rfl⟩
theorem fl_M_117 : FL "TopYardModel" 117 10 44 true (.array .long) := ⟨kR10, kF10, 67, kT10, rfl, kW10, by decide, rfl, by decide, wd_217, rfl, rfl, kO10, kN10, rfl⟩
theorem fl_M_120 : FL "TopYardModel" 120 10 45 true (.array .long) := ⟨kR10, kF10, 67, kT10, rfl, kW10, by decide, rfl, by decide, wd_218, rfl, rfl, kO10, kN10, rfl⟩
theorem fl_M_123 : FL "TopYardModel" 123 10 49 true (.array .int) := ⟨kR10, kF10, 67, kT10, rfl, kW10, by decide, rfl, by decide, wd_222, rfl, rfl, kO10, kN10, rfl⟩
theorem fl_M_126 : FL "TopYardModel" 126 10 50 true (.array .int) := ⟨kR10, kF10, 67, kT10, rfl, kW10, by decide, rfl, by decide, wd_223, rfl, rfl, kO10, kN10, rfl⟩
theorem fl_M_129 : FL "TopYardModel" 129 10 51 true (.array .int) := ⟨kR10, kF10, 67, kT10, rfl, kW10, by decide, rfl, by decide, wd_224, rfl, rfl, kO10, kN10, rfl⟩
theorem fl_M_13 : FL "TopYardModel" 13 10 2 true (.array .int) := ⟨kR10, kF10, 67, kT10, rfl, kW10, by decide, rfl, by decide, wd_151, rfl, rfl, kO10, kN10, rfl⟩
theorem fl_M_132 : FL "TopYardModel" 132 10 54 true (.array .int) := ⟨kR10, kF10, 67, kT10, rfl, kW10, by decide, rfl, by decide, wd_233, rfl, rfl, kO10, kN10, rfl⟩
theorem fl_M_135 : FL "TopYardModel" 135 10 57 true (.array .int) := ⟨kR10, kF10, 67, kT10, rfl, kW10, by decide, rfl, by decide, wd_236, rfl, rfl, kO10, kN10, rfl⟩
theorem fl_M_138 : FL "TopYardModel" 138 10 58 true (.array .int) := ⟨kR10, kF10, 67, kT10, rfl, kW10, by decide, rfl, by decide, wd_238, rfl, rfl, kO10, kN10, rfl⟩
theorem fl_M_141 : FL "TopYardModel" 141 10 59 true (.array .int) := ⟨kR10, kF10, 67, kT10, rfl, kW10, by decide, rfl, by decide, wd_239, rfl, rfl, kO10, kN10, rfl⟩
theorem fl_M_144 : FL "TopYardModel" 144 10 60 true (.array .int) := ⟨kR10, kF10, 67, kT10, rfl, kW10, by decide, rfl, by decide, wd_240, rfl, rfl, kO10, kN10, rfl⟩
theorem fl_M_147 : FL "TopYardModel" 147 10 61 true (.array .int) := ⟨kR10, kF10, 67, kT10, rfl, kW10, by decide, rfl, by decide, wd_242, rfl, rfl, kO10, kN10, rfl⟩
theorem fl_M_150 : FL "TopYardModel" 150 10 62 true (.array .int) := ⟨kR10, kF10, 67, kT10, rfl, kW10, by decide, rfl, by decide, wd_226, rfl, rfl, kO10, kN10, rfl⟩
theorem fl_M_153 : FL "TopYardModel" 153 10 63 true (.array .int) := ⟨kR10, kF10, 67, kT10, rfl, kW10, by decide, rfl, by decide, wd_227, rfl, rfl, kO10, kN10, rfl⟩
theorem fl_M_156 : FL "TopYardModel" 156 10 64 true (.array .int) := ⟨kR10, kF10, 67, kT10, rfl, kW10, by decide, rfl, by decide, wd_228, rfl, rfl, kO10, kN10, rfl⟩
theorem fl_M_159 : FL "TopYardModel" 159 10 65 true (.array .int) := ⟨kR10, kF10, 67, kT10, rfl, kW10, by decide, rfl, by decide, wd_243, rfl, rfl, kO10, kN10, rfl⟩
theorem fl_M_16 : FL "TopYardModel" 16 10 3 true (.array .int) := ⟨kR10, kF10, 67, kT10, rfl, kW10, by decide, rfl, by decide, wd_152, rfl, rfl, kO10, kN10, rfl⟩
theorem fl_M_175 : FL "TopYardModel" 175 10 1 false (.int) := ⟨kR10, kF10, 67, kT10, rfl, kW10, by decide, rfl, by decide, wd_146, rfl, rfl, kO10, kN10, rfl⟩
theorem fl_M_19 : FL "TopYardModel" 19 10 4 true (.array .int) := ⟨kR10, kF10, 67, kT10, rfl, kW10, by decide, rfl, by decide, wd_153, rfl, rfl, kO10, kN10, rfl⟩
theorem fl_M_205 : FL "TopYardModel" 205 10 11 false (.int) := ⟨kR10, kF10, 67, kT10, rfl, kW10, by decide, rfl, by decide, wd_165, rfl, rfl, kO10, kN10, rfl⟩
theorem fl_M_22 : FL "TopYardModel" 22 10 5 true (.array .int) := ⟨kR10, kF10, 67, kT10, rfl, kW10, by decide, rfl, by decide, wd_154, rfl, rfl, kO10, kN10, rfl⟩
theorem fl_M_231 : FL "TopYardModel" 231 10 15 false (.int) := ⟨kR10, kF10, 67, kT10, rfl, kW10, by decide, rfl, by decide, wd_177, rfl, rfl, kO10, kN10, rfl⟩
theorem fl_M_234 : FL "TopYardModel" 234 10 21 false (.int) := ⟨kR10, kF10, 67, kT10, rfl, kW10, by decide, rfl, by decide, wd_183, rfl, rfl, kO10, kN10, rfl⟩
theorem fl_M_245 : FL "TopYardModel" 245 10 25 false (.int) := ⟨kR10, kF10, 67, kT10, rfl, kW10, by decide, rfl, by decide, wd_200, rfl, rfl, kO10, kN10, rfl⟩
theorem fl_M_25 : FL "TopYardModel" 25 10 6 true (.array .int) := ⟨kR10, kF10, 67, kT10, rfl, kW10, by decide, rfl, by decide, wd_155, rfl, rfl, kO10, kN10, rfl⟩
theorem fl_M_260 : FL "TopYardModel" 260 10 35 false (.int) := ⟨kR10, kF10, 67, kT10, rfl, kW10, by decide, rfl, by decide, wd_205, rfl, rfl, kO10, kN10, rfl⟩
theorem fl_M_263 : FL "TopYardModel" 263 10 36 false (.int) := ⟨kR10, kF10, 67, kT10, rfl, kW10, by decide, rfl, by decide, wd_206, rfl, rfl, kO10, kN10, rfl⟩
theorem fl_M_28 : FL "TopYardModel" 28 10 7 true (.array .int) := ⟨kR10, kF10, 67, kT10, rfl, kW10, by decide, rfl, by decide, wd_156, rfl, rfl, kO10, kN10, rfl⟩
theorem fl_M_305 : FL "TopYardModel" 305 10 37 false (.int) := ⟨kR10, kF10, 67, kT10, rfl, kW10, by decide, rfl, by decide, wd_207, rfl, rfl, kO10, kN10, rfl⟩
theorem fl_M_308 : FL "TopYardModel" 308 10 38 false (.int) := ⟨kR10, kF10, 67, kT10, rfl, kW10, by decide, rfl, by decide, wd_208, rfl, rfl, kO10, kN10, rfl⟩
theorem fl_M_31 : FL "TopYardModel" 31 10 8 true (.array .int) := ⟨kR10, kF10, 67, kT10, rfl, kW10, by decide, rfl, by decide, wd_174, rfl, rfl, kO10, kN10, rfl⟩
theorem fl_M_328 : FL "TopYardModel" 328 10 46 false (.long) := ⟨kR10, kF10, 67, kT10, rfl, kW10, by decide, rfl, by decide, wd_214, rfl, rfl, kO10, kN10, rfl⟩
theorem fl_M_332 : FL "TopYardModel" 332 10 47 false (.long) := ⟨kR10, kF10, 67, kT10, rfl, kW10, by decide, rfl, by decide, wd_215, rfl, rfl, kO10, kN10, rfl⟩
theorem fl_M_34 : FL "TopYardModel" 34 10 9 false (.int) := ⟨kR10, kF10, 67, kT10, rfl, kW10, by decide, rfl, by decide, wd_159, rfl, rfl, kO10, kN10, rfl⟩
theorem fl_M_356 : FL "TopYardModel" 356 10 48 false (.int) := ⟨kR10, kF10, 67, kT10, rfl, kW10, by decide, rfl, by decide, wd_221, rfl, rfl, kO10, kN10, rfl⟩
theorem fl_M_369 : FL "TopYardModel" 369 10 52 false (.int) := ⟨kR10, kF10, 67, kT10, rfl, kW10, by decide, rfl, by decide, wd_229, rfl, rfl, kO10, kN10, rfl⟩
theorem fl_M_372 : FL "TopYardModel" 372 10 53 false (.int) := ⟨kR10, kF10, 67, kT10, rfl, kW10, by decide, rfl, by decide, wd_230, rfl, rfl, kO10, kN10, rfl⟩
theorem fl_M_38 : FL "TopYardModel" 38 10 10 false (.int) := ⟨kR10, kF10, 67, kT10, rfl, kW10, by decide, rfl, by decide, wd_160, rfl, rfl, kO10, kN10, rfl⟩
theorem fl_M_387 : FL "TopYardModel" 387 10 55 false (.int) := ⟨kR10, kF10, 67, kT10, rfl, kW10, by decide, rfl, by decide, wd_232, rfl, rfl, kO10, kN10, rfl⟩
theorem fl_M_394 : FL "TopYardModel" 394 10 56 false (.int) := ⟨kR10, kF10, 67, kT10, rfl, kW10, by decide, rfl, by decide, wd_237, rfl, rfl, kO10, kN10, rfl⟩
theorem fl_M_41 : FL "TopYardModel" 41 10 12 true (.array .int) := ⟨kR10, kF10, 67, kT10, rfl, kW10, by decide, rfl, by decide, wd_166, rfl, rfl, kO10, kN10, rfl⟩
theorem fl_M_426 : FL "TopYardModel" 426 10 66 false (.int) := ⟨kR10, kF10, 67, kT10, rfl, kW10, by decide, rfl, by decide, wd_225, rfl, rfl, kO10, kN10, rfl⟩
theorem fl_M_44 : FL "TopYardModel" 44 10 13 true (.array .int) := ⟨kR10, kF10, 67, kT10, rfl, kW10, by decide, rfl, by decide, wd_167, rfl, rfl, kO10, kN10, rfl⟩
theorem fl_M_47 : FL "TopYardModel" 47 10 14 true (.array .int) := ⟨kR10, kF10, 67, kT10, rfl, kW10, by decide, rfl, by decide, wd_168, rfl, rfl, kO10, kN10, rfl⟩
theorem fl_M_50 : FL "TopYardModel" 50 10 16 true (.array .int) := ⟨kR10, kF10, 67, kT10, rfl, kW10, by decide, rfl, by decide, wd_178, rfl, rfl, kO10, kN10, rfl⟩
theorem fl_M_53 : FL "TopYardModel" 53 10 17 true (.array .int) := ⟨kR10, kF10, 67, kT10, rfl, kW10, by decide, rfl, by decide, wd_179, rfl, rfl, kO10, kN10, rfl⟩
theorem fl_M_56 : FL "TopYardModel" 56 10 18 true (.array .int) := ⟨kR10, kF10, 67, kT10, rfl, kW10, by decide, rfl, by decide, wd_180, rfl, rfl, kO10, kN10, rfl⟩
theorem fl_M_59 : FL "TopYardModel" 59 10 19 true (.array .int) := ⟨kR10, kF10, 67, kT10, rfl, kW10, by decide, rfl, by decide, wd_181, rfl, rfl, kO10, kN10, rfl⟩
theorem fl_M_62 : FL "TopYardModel" 62 10 20 true (.array .int) := ⟨kR10, kF10, 67, kT10, rfl, kW10, by decide, rfl, by decide, wd_182, rfl, rfl, kO10, kN10, rfl⟩
theorem fl_M_65 : FL "TopYardModel" 65 10 22 true (.array .int) := ⟨kR10, kF10, 67, kT10, rfl, kW10, by decide, rfl, by decide, wd_187, rfl, rfl, kO10, kN10, rfl⟩
theorem fl_M_68 : FL "TopYardModel" 68 10 23 true (.array .int) := ⟨kR10, kF10, 67, kT10, rfl, kW10, by decide, rfl, by decide, wd_188, rfl, rfl, kO10, kN10, rfl⟩
theorem fl_M_7 : FL "TopYardModel" 7 10 0 true (.array .int) := ⟨kR10, kF10, 67, kT10, rfl, kW10, by decide, rfl, by decide, wd_144, rfl, rfl, kO10, kN10, rfl⟩
theorem fl_M_71 : FL "TopYardModel" 71 10 24 true (.array .int) := ⟨kR10, kF10, 67, kT10, rfl, kW10, by decide, rfl, by decide, wd_189, rfl, rfl, kO10, kN10, rfl⟩
theorem fl_M_74 : FL "TopYardModel" 74 10 26 true (.array .int) := ⟨kR10, kF10, 67, kT10, rfl, kW10, by decide, rfl, by decide, wd_190, rfl, rfl, kO10, kN10, rfl⟩
theorem fl_M_77 : FL "TopYardModel" 77 10 27 true (.array .long) := ⟨kR10, kF10, 67, kT10, rfl, kW10, by decide, rfl, by decide, wd_191, rfl, rfl, kO10, kN10, rfl⟩
theorem fl_M_81 : FL "TopYardModel" 81 10 28 true (.array .long) := ⟨kR10, kF10, 67, kT10, rfl, kW10, by decide, rfl, by decide, wd_193, rfl, rfl, kO10, kN10, rfl⟩
theorem fl_M_84 : FL "TopYardModel" 84 10 29 true (.array .int) := ⟨kR10, kF10, 67, kT10, rfl, kW10, by decide, rfl, by decide, wd_194, rfl, rfl, kO10, kN10, rfl⟩
theorem fl_M_87 : FL "TopYardModel" 87 10 30 true (.array .long) := ⟨kR10, kF10, 67, kT10, rfl, kW10, by decide, rfl, by decide, wd_195, rfl, rfl, kO10, kN10, rfl⟩
theorem fl_M_90 : FL "TopYardModel" 90 10 31 true (.array .long) := ⟨kR10, kF10, 67, kT10, rfl, kW10, by decide, rfl, by decide, wd_196, rfl, rfl, kO10, kN10, rfl⟩
theorem fl_M_93 : FL "TopYardModel" 93 10 32 true (.array .int) := ⟨kR10, kF10, 67, kT10, rfl, kW10, by decide, rfl, by decide, wd_197, rfl, rfl, kO10, kN10, rfl⟩
theorem fl_M_96 : FL "TopYardModel" 96 10 33 true (.array .int) := ⟨kR10, kF10, 67, kT10, rfl, kW10, by decide, rfl, by decide, wd_198, rfl, rfl, kO10, kN10, rfl⟩
theorem fl_M_99 : FL "TopYardModel" 99 10 34 true (.array .int) := ⟨kR10, kF10, 67, kT10, rfl, kW10, by decide, rfl, by decide, wd_199, rfl, rfl, kO10, kN10, rfl⟩
theorem fl_Pa_15 : FL "TopYard$Past" 15 5 1 true (.array .int) := ⟨kR5, kF5, 5, kT5, rfl, kW5, by decide, rfl, by decide, wd_96, rfl, rfl, kO5, kN5, rfl⟩
theorem fl_Pa_19 : FL "TopYard$Past" 19 5 2 true (.array .int) := ⟨kR5, kF5, 5, kT5, rfl, kW5, by decide, rfl, by decide, wd_97, rfl, rfl, kO5, kN5, rfl⟩
theorem fl_Pa_22 : FL "TopYard$Past" 22 5 3 true (.array .int) := ⟨kR5, kF5, 5, kT5, rfl, kW5, by decide, rfl, by decide, wd_98, rfl, rfl, kO5, kN5, rfl⟩
theorem fl_Pa_25 : FL "TopYard$Past" 25 5 4 true (.array .int) := ⟨kR5, kF5, 5, kT5, rfl, kW5, by decide, rfl, by decide, wd_110, rfl, rfl, kO5, kN5, rfl⟩
theorem fl_Pa_9 : FL "TopYard$Past" 9 5 0 false (.int) := ⟨kR5, kF5, 5, kT5, rfl, kW5, by decide, rfl, by decide, wd_95, rfl, rfl, kO5, kN5, rfl⟩
theorem fl_Pk_11 : FL "TopYard$Pack" 11 4 0 true (.array .int) := ⟨kR4, kF4, 4, kT4, rfl, kW4, by decide, rfl, by decide, wd_128, rfl, rfl, kO4, kN4, rfl⟩
theorem fl_Pk_15 : FL "TopYard$Pack" 15 4 1 true (.array .int) := ⟨kR4, kF4, 4, kT4, rfl, kW4, by decide, rfl, by decide, wd_130, rfl, rfl, kO4, kN4, rfl⟩
theorem fl_Pk_18 : FL "TopYard$Pack" 18 4 2 false (.int) := ⟨kR4, kF4, 4, kT4, rfl, kW4, by decide, rfl, by decide, wd_126, rfl, rfl, kO4, kN4, rfl⟩
theorem fl_Pk_22 : FL "TopYard$Pack" 22 4 3 false (.int) := ⟨kR4, kF4, 4, kT4, rfl, kW4, by decide, rfl, by decide, wd_127, rfl, rfl, kO4, kN4, rfl⟩
theorem fl_Sh_15 : FL "TopYard$Sheet" 15 6 1 false (.int) := ⟨kR6, kF6, 4, kT6, rfl, kW6, by decide, rfl, by decide, wd_138, rfl, rfl, kO6, kN6, rfl⟩
theorem fl_Sh_19 : FL "TopYard$Sheet" 19 6 2 false (.int) := ⟨kR6, kF6, 4, kT6, rfl, kW6, by decide, rfl, by decide, wd_103, rfl, rfl, kO6, kN6, rfl⟩
theorem fl_Sh_22 : FL "TopYard$Sheet" 22 6 3 true (.array .int) := ⟨kR6, kF6, 4, kT6, rfl, kW6, by decide, rfl, by decide, wd_104, rfl, rfl, kO6, kN6, rfl⟩
theorem fl_Sh_9 : FL "TopYard$Sheet" 9 6 0 false (.boolean) := ⟨kR6, kF6, 4, kT6, rfl, kW6, by decide, rfl, by decide, wd_137, rfl, rfl, kO6, kN6, rfl⟩
theorem fl_Sp_15 : FL "TopYard$Spinner" 15 7 1 false (.int) := ⟨kR7, kF7, 18, kT7, rfl, kW7, by decide, rfl, by decide, wd_265, rfl, rfl, kO7, kN7, rfl⟩
theorem fl_Sp_19 : FL "TopYard$Spinner" 19 7 6 false (.int) := ⟨kR7, kF7, 18, kT7, rfl, kW7, by decide, rfl, by decide, wd_36, rfl, rfl, kO7, kN7, rfl⟩
theorem fl_Sp_22 : FL "TopYard$Spinner" 22 7 2 false (.int) := ⟨kR7, kF7, 18, kT7, rfl, kW7, by decide, rfl, by decide, wd_21, rfl, rfl, kO7, kN7, rfl⟩
theorem fl_Sp_25 : FL "TopYard$Spinner" 25 7 3 false (.int) := ⟨kR7, kF7, 18, kT7, rfl, kW7, by decide, rfl, by decide, wd_22, rfl, rfl, kO7, kN7, rfl⟩
theorem fl_Sp_28 : FL "TopYard$Spinner" 28 7 4 false (.int) := ⟨kR7, kF7, 18, kT7, rfl, kW7, by decide, rfl, by decide, wd_23, rfl, rfl, kO7, kN7, rfl⟩
theorem fl_Sp_31 : FL "TopYard$Spinner" 31 7 5 false (.int) := ⟨kR7, kF7, 18, kT7, rfl, kW7, by decide, rfl, by decide, wd_24, rfl, rfl, kO7, kN7, rfl⟩
theorem fl_Sp_34 : FL "TopYard$Spinner" 34 7 17 false (.int) := ⟨kR7, kF7, 18, kT7, rfl, kW7, by decide, rfl, by decide, wd_34, rfl, rfl, kO7, kN7, rfl⟩
theorem fl_Sp_37 : FL "TopYard$Spinner" 37 8 0 true (.int) := ⟨kR8, kF8, 6, kT8, rfl, kW8, by decide, rfl, by decide, wd_35, rfl, rfl, kO8, kN8, rfl⟩
theorem fl_Sp_46 : FL "TopYard$Spinner" 46 8 1 true (.int) := ⟨kR8, kF8, 6, kT8, rfl, kW8, by decide, rfl, by decide, wd_37, rfl, rfl, kO8, kN8, rfl⟩
theorem fl_Sp_49 : FL "TopYard$Spinner" 49 7 7 false (.int) := ⟨kR7, kF7, 18, kT7, rfl, kW7, by decide, rfl, by decide, wd_38, rfl, rfl, kO7, kN7, rfl⟩
theorem fl_Sp_50 : FL "TopYard$Spinner" 50 8 3 true (.int) := ⟨kR8, kF8, 6, kT8, rfl, kW8, by decide, rfl, by decide, wd_39, rfl, rfl, kO8, kN8, rfl⟩
theorem fl_Sp_53 : FL "TopYard$Spinner" 53 7 8 false (.int) := ⟨kR7, kF7, 18, kT7, rfl, kW7, by decide, rfl, by decide, wd_40, rfl, rfl, kO7, kN7, rfl⟩
theorem fl_Sp_54 : FL "TopYard$Spinner" 54 8 2 true (.int) := ⟨kR8, kF8, 6, kT8, rfl, kW8, by decide, rfl, by decide, wd_41, rfl, rfl, kO8, kN8, rfl⟩
theorem fl_Sp_57 : FL "TopYard$Spinner" 57 8 5 false (.int) := ⟨kR8, kF8, 6, kT8, rfl, kW8, by decide, rfl, by decide, wd_42, rfl, rfl, kO8, kN8, rfl⟩
theorem fl_Sp_60 : FL "TopYard$Spinner" 60 7 9 false (.int) := ⟨kR7, kF7, 18, kT7, rfl, kW7, by decide, rfl, by decide, wd_43, rfl, rfl, kO7, kN7, rfl⟩
theorem fl_Sp_63 : FL "TopYard$Spinner" 63 7 10 false (.long) := ⟨kR7, kF7, 18, kT7, rfl, kW7, by decide, rfl, by decide, wd_44, rfl, rfl, kO7, kN7, rfl⟩
theorem fl_Sp_67 : FL "TopYard$Spinner" 67 7 11 false (.long) := ⟨kR7, kF7, 18, kT7, rfl, kW7, by decide, rfl, by decide, wd_45, rfl, rfl, kO7, kN7, rfl⟩
theorem fl_Sp_70 : FL "TopYard$Spinner" 70 7 14 false (.int) := ⟨kR7, kF7, 18, kT7, rfl, kW7, by decide, rfl, by decide, wd_46, rfl, rfl, kO7, kN7, rfl⟩
theorem fl_Sp_79 : FL "TopYard$Spinner" 79 7 12 false (.long) := ⟨kR7, kF7, 18, kT7, rfl, kW7, by decide, rfl, by decide, wd_47, rfl, rfl, kO7, kN7, rfl⟩
theorem fl_Sp_85 : FL "TopYard$Spinner" 85 7 13 false (.long) := ⟨kR7, kF7, 18, kT7, rfl, kW7, by decide, rfl, by decide, wd_48, rfl, rfl, kO7, kN7, rfl⟩
theorem fl_Sp_9 : FL "TopYard$Spinner" 9 7 0 false (.object "TopYard$Top") := ⟨kR7, kF7, 18, kT7, rfl, kW7, by decide, rfl, by decide, wd_32, rfl, rfl, kO7, kN7, rfl⟩
theorem fl_Sp_91 : FL "TopYard$Spinner" 91 7 15 false (.int) := ⟨kR7, kF7, 18, kT7, rfl, kW7, by decide, rfl, by decide, wd_49, rfl, rfl, kO7, kN7, rfl⟩
theorem fl_Sp_94 : FL "TopYard$Spinner" 94 7 16 false (.int) := ⟨kR7, kF7, 18, kT7, rfl, kW7, by decide, rfl, by decide, wd_50, rfl, rfl, kO7, kN7, rfl⟩
theorem fl_Sp_97 : FL "TopYard$Spinner" 97 8 4 false (.int) := ⟨kR8, kF8, 6, kT8, rfl, kW8, by decide, rfl, by decide, wd_33, rfl, rfl, kO8, kN8, rfl⟩
theorem fl_To_13 : FL "TopYard$Top" 13 8 0 true (.int) := ⟨kR8, kF8, 6, kT8, rfl, kW8, by decide, rfl, by decide, wd_316, rfl, rfl, kO8, kN8, rfl⟩
theorem fl_To_16 : FL "TopYard$Top" 16 8 1 true (.int) := ⟨kR8, kF8, 6, kT8, rfl, kW8, by decide, rfl, by decide, wd_131, rfl, rfl, kO8, kN8, rfl⟩
theorem fl_To_19 : FL "TopYard$Top" 19 8 2 true (.int) := ⟨kR8, kF8, 6, kT8, rfl, kW8, by decide, rfl, by decide, wd_132, rfl, rfl, kO8, kN8, rfl⟩
theorem fl_To_22 : FL "TopYard$Top" 22 8 3 true (.int) := ⟨kR8, kF8, 6, kT8, rfl, kW8, by decide, rfl, by decide, wd_317, rfl, rfl, kO8, kN8, rfl⟩
theorem fl_To_25 : FL "TopYard$Top" 25 8 4 false (.int) := ⟨kR8, kF8, 6, kT8, rfl, kW8, by decide, rfl, by decide, wd_318, rfl, rfl, kO8, kN8, rfl⟩
theorem fl_To_7 : FL "TopYard$Top" 7 8 5 false (.int) := ⟨kR8, kF8, 6, kT8, rfl, kW8, by decide, rfl, by decide, wd_133, rfl, rfl, kO8, kN8, rfl⟩
theorem fl_X_11 : FL "TopYard" 11 9 0 true (.array (.object "TopYard$Top")) := ⟨kR9, kF9, 14, kT9, rfl, kW9, by decide, rfl, by decide, wd_2, rfl, rfl, kO9, kN9, rfl⟩
theorem fl_X_114 : FL "TopYard" 114 8 0 true (.int) := ⟨kR8, kF8, 6, kT8, rfl, kW8, by decide, rfl, by decide, wd_3, rfl, rfl, kO8, kN8, rfl⟩
theorem fl_X_117 : FL "TopYard" 117 8 1 true (.int) := ⟨kR8, kF8, 6, kT8, rfl, kW8, by decide, rfl, by decide, wd_4, rfl, rfl, kO8, kN8, rfl⟩
theorem fl_X_120 : FL "TopYard" 120 8 2 true (.int) := ⟨kR8, kF8, 6, kT8, rfl, kW8, by decide, rfl, by decide, wd_5, rfl, rfl, kO8, kN8, rfl⟩
theorem fl_X_123 : FL "TopYard" 123 8 3 true (.int) := ⟨kR8, kF8, 6, kT8, rfl, kW8, by decide, rfl, by decide, wd_6, rfl, rfl, kO8, kN8, rfl⟩
theorem fl_X_126 : FL "TopYard" 126 8 4 false (.int) := ⟨kR8, kF8, 6, kT8, rfl, kW8, by decide, rfl, by decide, wd_7, rfl, rfl, kO8, kN8, rfl⟩
theorem fl_X_129 : FL "TopYard" 129 8 5 false (.int) := ⟨kR8, kF8, 6, kT8, rfl, kW8, by decide, rfl, by decide, wd_8, rfl, rfl, kO8, kN8, rfl⟩
theorem fl_X_132 : FL "TopYard" 132 1 0 false (.int) := ⟨kR1, kF1, 4, kT1, rfl, kW1, by decide, rfl, by decide, wd_10, rfl, rfl, kO1, kN1, rfl⟩
theorem fl_X_135 : FL "TopYard" 135 1 1 false (.int) := ⟨kR1, kF1, 4, kT1, rfl, kW1, by decide, rfl, by decide, wd_11, rfl, rfl, kO1, kN1, rfl⟩
theorem fl_X_145 : FL "TopYard" 145 1 2 false (.int) := ⟨kR1, kF1, 4, kT1, rfl, kW1, by decide, rfl, by decide, wd_14, rfl, rfl, kO1, kN1, rfl⟩
theorem fl_X_15 : FL "TopYard" 15 9 1 false (.int) := ⟨kR9, kF9, 14, kT9, rfl, kW9, by decide, rfl, by decide, wd_1, rfl, rfl, kO9, kN9, rfl⟩
theorem fl_X_175 : FL "TopYard" 175 0 1 false (.int) := ⟨kR0, kF0, 8, kT0, rfl, kW0, by decide, rfl, by decide, wd_26, rfl, rfl, kO0, kN0, rfl⟩
theorem fl_X_184 : FL "TopYard" 184 0 5 false (.int) := ⟨kR0, kF0, 8, kT0, rfl, kW0, by decide, rfl, by decide, wd_31, rfl, rfl, kO0, kN0, rfl⟩
theorem fl_X_194 : FL "TopYard" 194 0 6 false (.int) := ⟨kR0, kF0, 8, kT0, rfl, kW0, by decide, rfl, by decide, wd_69, rfl, rfl, kO0, kN0, rfl⟩
theorem fl_X_197 : FL "TopYard" 197 0 7 false (.int) := ⟨kR0, kF0, 8, kT0, rfl, kW0, by decide, rfl, by decide, wd_68, rfl, rfl, kO0, kN0, rfl⟩
theorem fl_X_207 : FL "TopYard" 207 2 0 false (.int) := ⟨kR2, kF2, 10, kT2, rfl, kW2, by decide, rfl, by decide, wd_74, rfl, rfl, kO2, kN2, rfl⟩
theorem fl_X_210 : FL "TopYard" 210 2 1 false (.int) := ⟨kR2, kF2, 10, kT2, rfl, kW2, by decide, rfl, by decide, wd_75, rfl, rfl, kO2, kN2, rfl⟩
theorem fl_X_22 : FL "TopYard" 22 9 2 true (.object "TopYard$Bowl") := ⟨kR9, kF9, 14, kT9, rfl, kW9, by decide, rfl, by decide, wd_9, rfl, rfl, kO9, kN9, rfl⟩
theorem fl_X_225 : FL "TopYard" 225 2 4 true (.array (.array .int)) := ⟨kR2, kF2, 10, kT2, rfl, kW2, by decide, rfl, by decide, wd_78, rfl, rfl, kO2, kN2, rfl⟩
theorem fl_X_233 : FL "TopYard" 233 2 2 true (.array .int) := ⟨kR2, kF2, 10, kT2, rfl, kW2, by decide, rfl, by decide, wd_80, rfl, rfl, kO2, kN2, rfl⟩
theorem fl_X_236 : FL "TopYard" 236 2 3 true (.array .int) := ⟨kR2, kF2, 10, kT2, rfl, kW2, by decide, rfl, by decide, wd_81, rfl, rfl, kO2, kN2, rfl⟩
theorem fl_X_249 : FL "TopYard" 249 2 5 true (.array .long) := ⟨kR2, kF2, 10, kT2, rfl, kW2, by decide, rfl, by decide, wd_94, rfl, rfl, kO2, kN2, rfl⟩
theorem fl_X_253 : FL "TopYard" 253 2 6 true (.array .long) := ⟨kR2, kF2, 10, kT2, rfl, kW2, by decide, rfl, by decide, wd_93, rfl, rfl, kO2, kN2, rfl⟩
theorem fl_X_26 : FL "TopYard" 26 9 3 true (.array .int) := ⟨kR9, kF9, 14, kT9, rfl, kW9, by decide, rfl, by decide, wd_16, rfl, rfl, kO9, kN9, rfl⟩
theorem fl_X_266 : FL "TopYard" 266 5 0 false (.int) := ⟨kR5, kF5, 5, kT5, rfl, kW5, by decide, rfl, by decide, wd_100, rfl, rfl, kO5, kN5, rfl⟩
theorem fl_X_271 : FL "TopYard" 271 6 0 false (.boolean) := ⟨kR6, kF6, 4, kT6, rfl, kW6, by decide, rfl, by decide, wd_105, rfl, rfl, kO6, kN6, rfl⟩
theorem fl_X_278 : FL "TopYard" 278 6 2 false (.int) := ⟨kR6, kF6, 4, kT6, rfl, kW6, by decide, rfl, by decide, wd_106, rfl, rfl, kO6, kN6, rfl⟩
theorem fl_X_304 : FL "TopYard" 304 3 0 false (.int) := ⟨kR3, kF3, 3, kT3, rfl, kW3, by decide, rfl, by decide, wd_116, rfl, rfl, kO3, kN3, rfl⟩
theorem fl_X_33 : FL "TopYard" 33 9 4 true (.object "TopYard$Bout") := ⟨kR9, kF9, 14, kT9, rfl, kW9, by decide, rfl, by decide, wd_25, rfl, rfl, kO9, kN9, rfl⟩
theorem fl_X_337 : FL "TopYard" 337 4 1 true (.array .int) := ⟨kR4, kF4, 4, kT4, rfl, kW4, by decide, rfl, by decide, wd_135, rfl, rfl, kO4, kN4, rfl⟩
theorem fl_X_340 : FL "TopYard" 340 4 0 true (.array .int) := ⟨kR4, kF4, 4, kT4, rfl, kW4, by decide, rfl, by decide, wd_136, rfl, rfl, kO4, kN4, rfl⟩
theorem fl_X_354 : FL "TopYard" 354 6 1 false (.int) := ⟨kR6, kF6, 4, kT6, rfl, kW6, by decide, rfl, by decide, wd_139, rfl, rfl, kO6, kN6, rfl⟩
theorem fl_X_360 : FL "TopYard" 360 6 3 true (.array .int) := ⟨kR6, kF6, 4, kT6, rfl, kW6, by decide, rfl, by decide, wd_140, rfl, rfl, kO6, kN6, rfl⟩
theorem fl_X_37 : FL "TopYard" 37 9 5 true (.object "TopYard$Bout") := ⟨kR9, kF9, 14, kT9, rfl, kW9, by decide, rfl, by decide, wd_79, rfl, rfl, kO9, kN9, rfl⟩
theorem fl_X_406 : FL "TopYard" 406 5 4 true (.array .int) := ⟨kR5, kF5, 5, kT5, rfl, kW5, by decide, rfl, by decide, wd_107, rfl, rfl, kO5, kN5, rfl⟩
theorem fl_X_409 : FL "TopYard" 409 5 1 true (.array .int) := ⟨kR5, kF5, 5, kT5, rfl, kW5, by decide, rfl, by decide, wd_108, rfl, rfl, kO5, kN5, rfl⟩
theorem fl_X_412 : FL "TopYard" 412 5 2 true (.array .int) := ⟨kR5, kF5, 5, kT5, rfl, kW5, by decide, rfl, by decide, wd_109, rfl, rfl, kO5, kN5, rfl⟩
theorem fl_X_43 : FL "TopYard" 43 9 6 true (.object "TopYard$Choice") := ⟨kR9, kF9, 14, kT9, rfl, kW9, by decide, rfl, by decide, wd_73, rfl, rfl, kO9, kN9, rfl⟩
theorem fl_X_50 : FL "TopYard" 50 9 7 true (.object "TopYard$Past") := ⟨kR9, kF9, 14, kT9, rfl, kW9, by decide, rfl, by decide, wd_99, rfl, rfl, kO9, kN9, rfl⟩
theorem fl_X_57 : FL "TopYard" 57 9 8 true (.object "TopYard$Game") := ⟨kR9, kF9, 14, kT9, rfl, kW9, by decide, rfl, by decide, wd_115, rfl, rfl, kO9, kN9, rfl⟩
theorem fl_X_61 : FL "TopYard" 61 9 9 true (.array .int) := ⟨kR9, kF9, 14, kT9, rfl, kW9, by decide, rfl, by decide, wd_123, rfl, rfl, kO9, kN9, rfl⟩
theorem fl_X_64 : FL "TopYard" 64 9 10 true (.array .int) := ⟨kR9, kF9, 14, kT9, rfl, kW9, by decide, rfl, by decide, wd_124, rfl, rfl, kO9, kN9, rfl⟩
theorem fl_X_70 : FL "TopYard" 70 9 11 true (.object "TopYard$Pack") := ⟨kR9, kF9, 14, kT9, rfl, kW9, by decide, rfl, by decide, wd_134, rfl, rfl, kO9, kN9, rfl⟩
theorem fl_X_76 : FL "TopYard" 76 9 12 true (.array (.object "TopYard$Sheet")) := ⟨kR9, kF9, 14, kT9, rfl, kW9, by decide, rfl, by decide, wd_101, rfl, rfl, kO9, kN9, rfl⟩
theorem fl_X_80 : FL "TopYard" 80 9 13 false (.int) := ⟨kR9, kF9, 14, kT9, rfl, kW9, by decide, rfl, by decide, wd_102, rfl, rfl, kO9, kN9, rfl⟩
theorem kD0 : ∀ j, j < 8 → defaultValue (kT0 j) = (if (fks 0).getD j 0 = 0 then Value.int 0 else if (fks 0).getD j 0 = 1 then Value.long 0 else Value.null) := by decide +kernel
theorem kD1 : ∀ j, j < 4 → defaultValue (kT1 j) = (if (fks 1).getD j 0 = 0 then Value.int 0 else if (fks 1).getD j 0 = 1 then Value.long 0 else Value.null) := by decide +kernel
theorem kD2 : ∀ j, j < 10 → defaultValue (kT2 j) = (if (fks 2).getD j 0 = 0 then Value.int 0 else if (fks 2).getD j 0 = 1 then Value.long 0 else Value.null) := by decide +kernel
theorem kD3 : ∀ j, j < 3 → defaultValue (kT3 j) = (if (fks 3).getD j 0 = 0 then Value.int 0 else if (fks 3).getD j 0 = 1 then Value.long 0 else Value.null) := by decide +kernel
theorem kD4 : ∀ j, j < 4 → defaultValue (kT4 j) = (if (fks 4).getD j 0 = 0 then Value.int 0 else if (fks 4).getD j 0 = 1 then Value.long 0 else Value.null) := by decide +kernel
theorem kD5 : ∀ j, j < 5 → defaultValue (kT5 j) = (if (fks 5).getD j 0 = 0 then Value.int 0 else if (fks 5).getD j 0 = 1 then Value.long 0 else Value.null) := by decide +kernel
theorem kD6 : ∀ j, j < 4 → defaultValue (kT6 j) = (if (fks 6).getD j 0 = 0 then Value.int 0 else if (fks 6).getD j 0 = 1 then Value.long 0 else Value.null) := by decide +kernel
theorem kD7 : ∀ j, j < 18 → defaultValue (kT7 j) = (if (fks 7).getD j 0 = 0 then Value.int 0 else if (fks 7).getD j 0 = 1 then Value.long 0 else Value.null) := by decide +kernel
theorem kD8 : ∀ j, j < 6 → defaultValue (kT8 j) = (if (fks 8).getD j 0 = 0 then Value.int 0 else if (fks 8).getD j 0 = 1 then Value.long 0 else Value.null) := by decide +kernel
theorem kD9 : ∀ j, j < 14 → defaultValue (kT9 j) = (if (fks 9).getD j 0 = 0 then Value.int 0 else if (fks 9).getD j 0 = 1 then Value.long 0 else Value.null) := by decide +kernel
theorem kD10 : ∀ j, j < 67 → defaultValue (kT10 j) = (if (fks 10).getD j 0 = 0 then Value.int 0 else if (fks 10).getD j 0 = 1 then Value.long 0 else Value.null) := by decide +kernel
