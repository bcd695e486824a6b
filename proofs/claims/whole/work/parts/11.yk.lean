theorem gRc_m5 : gR (-5) := ⟨by decide, by decide⟩
theorem gRc_m4 : gR (-4) := ⟨by decide, by decide⟩
theorem gRc_m3 : gR (-3) := ⟨by decide, by decide⟩
theorem gRc_m2 : gR (-2) := ⟨by decide, by decide⟩
theorem gRc_m1 : gR (-1) := ⟨by decide, by decide⟩
theorem gRc_0 : gR 0 := ⟨by decide, by decide⟩
theorem gRc_1 : gR 1 := ⟨by decide, by decide⟩
theorem gRc_2 : gR 2 := ⟨by decide, by decide⟩
theorem gRc_3 : gR 3 := ⟨by decide, by decide⟩
theorem gRc_4 : gR 4 := ⟨by decide, by decide⟩
theorem gRc_5 : gR 5 := ⟨by decide, by decide⟩
theorem gRc_6 : gR 6 := ⟨by decide, by decide⟩
theorem gRc_7 : gR 7 := ⟨by decide, by decide⟩
theorem gRc_8 : gR 8 := ⟨by decide, by decide⟩
theorem gRc_9 : gR 9 := ⟨by decide, by decide⟩
theorem gRc_10 : gR 10 := ⟨by decide, by decide⟩
theorem gRc_12 : gR 12 := ⟨by decide, by decide⟩
theorem gRc_16 : gR 16 := ⟨by decide, by decide⟩
theorem gRc_20 : gR 20 := ⟨by decide, by decide⟩
theorem gRc_24 : gR 24 := ⟨by decide, by decide⟩
theorem gRc_30 : gR 30 := ⟨by decide, by decide⟩
theorem gRc_32 : gR 32 := ⟨by decide, by decide⟩
theorem gRc_48 : gR 48 := ⟨by decide, by decide⟩
theorem gRc_57 : gR 57 := ⟨by decide, by decide⟩
theorem gRc_59 : gR 59 := ⟨by decide, by decide⟩
theorem gRc_64 : gR 64 := ⟨by decide, by decide⟩
theorem gRc_97 : gR 97 := ⟨by decide, by decide⟩
theorem gRc_99 : gR 99 := ⟨by decide, by decide⟩
theorem gRc_100 : gR 100 := ⟨by decide, by decide⟩
theorem gRc_122 : gR 122 := ⟨by decide, by decide⟩
theorem gRc_144 : gR 144 := ⟨by decide, by decide⟩
theorem gRc_156 : gR 156 := ⟨by decide, by decide⟩
theorem gRc_157 : gR 157 := ⟨by decide, by decide⟩
theorem gRc_200 : gR 200 := ⟨by decide, by decide⟩
theorem gRc_240 : gR 240 := ⟨by decide, by decide⟩
theorem gRc_255 : gR 255 := ⟨by decide, by decide⟩
theorem gRc_314 : gR 314 := ⟨by decide, by decide⟩
theorem gRc_1099 : gR 1099 := ⟨by decide, by decide⟩
theorem gRc_1413 : gR 1413 := ⟨by decide, by decide⟩
theorem gRc_69069 : gR 69069 := ⟨by decide, by decide⟩
theorem gRc_100000 : gR 100000 := ⟨by decide, by decide⟩
theorem gRc_1000000 : gR 1000000 := ⟨by decide, by decide⟩
theorem gRb_m5 : (Int8.ofInt (-5)).toInt32 = g32 (-5) := by decide +kernel
theorem gRb_m4 : (Int8.ofInt (-4)).toInt32 = g32 (-4) := by decide +kernel
theorem gRb_m3 : (Int8.ofInt (-3)).toInt32 = g32 (-3) := by decide +kernel
theorem gRb_m2 : (Int8.ofInt (-2)).toInt32 = g32 (-2) := by decide +kernel
theorem gRb_6 : (Int8.ofInt 6).toInt32 = g32 6 := by decide +kernel
theorem gRb_7 : (Int8.ofInt 7).toInt32 = g32 7 := by decide +kernel
theorem gRb_8 : (Int8.ofInt 8).toInt32 = g32 8 := by decide +kernel
theorem gRb_9 : (Int8.ofInt 9).toInt32 = g32 9 := by decide +kernel
theorem gRb_10 : (Int8.ofInt 10).toInt32 = g32 10 := by decide +kernel
theorem gRb_12 : (Int8.ofInt 12).toInt32 = g32 12 := by decide +kernel
theorem gRb_16 : (Int8.ofInt 16).toInt32 = g32 16 := by decide +kernel
theorem gRb_20 : (Int8.ofInt 20).toInt32 = g32 20 := by decide +kernel
theorem gRb_24 : (Int8.ofInt 24).toInt32 = g32 24 := by decide +kernel
theorem gRb_30 : (Int8.ofInt 30).toInt32 = g32 30 := by decide +kernel
theorem gRb_32 : (Int8.ofInt 32).toInt32 = g32 32 := by decide +kernel
theorem gRb_48 : (Int8.ofInt 48).toInt32 = g32 48 := by decide +kernel
theorem gRb_57 : (Int8.ofInt 57).toInt32 = g32 57 := by decide +kernel
theorem gRb_59 : (Int8.ofInt 59).toInt32 = g32 59 := by decide +kernel
theorem gRb_64 : (Int8.ofInt 64).toInt32 = g32 64 := by decide +kernel
theorem gRb_97 : (Int8.ofInt 97).toInt32 = g32 97 := by decide +kernel
theorem gRb_99 : (Int8.ofInt 99).toInt32 = g32 99 := by decide +kernel
theorem gRb_100 : (Int8.ofInt 100).toInt32 = g32 100 := by decide +kernel
theorem gRb_122 : (Int8.ofInt 122).toInt32 = g32 122 := by decide +kernel
theorem gRs_144 : (Int16.ofInt 144).toInt32 = g32 144 := by decide +kernel
theorem gRs_156 : (Int16.ofInt 156).toInt32 = g32 156 := by decide +kernel
theorem gRs_157 : (Int16.ofInt 157).toInt32 = g32 157 := by decide +kernel
theorem gRs_200 : (Int16.ofInt 200).toInt32 = g32 200 := by decide +kernel
theorem gRs_240 : (Int16.ofInt 240).toInt32 = g32 240 := by decide +kernel
theorem gRs_255 : (Int16.ofInt 255).toInt32 = g32 255 := by decide +kernel
theorem gRs_314 : (Int16.ofInt 314).toInt32 = g32 314 := by decide +kernel
theorem gRs_1099 : (Int16.ofInt 1099).toInt32 = g32 1099 := by decide +kernel
theorem gRs_1413 : (Int16.ofInt 1413).toInt32 = g32 1413 := by decide +kernel
theorem ykX7_append : gYV yX7_append cX7_append 2 none 7 1 := ⟨wd_379, wd_377, wd_378, wd_72, ⟨by decide, by decide, by decide +kernel⟩, ⟨_, rfl, rfl⟩, fun _ _ _ => ⟨_, rfl⟩⟩
theorem ykX9_type : gYV yX9_type cX9_type 2 (some .int) 9 1 := ⟨wd_375, wd_373, wd_374, wd_70, ⟨by decide, by decide, by decide +kernel⟩, ⟨_, rfl, rfl⟩, fun _ _ _ => ⟨_, rfl⟩⟩
theorem ykX9_erase : gYV yX9_erase cX9_erase 2 (some .int) 9 0 := ⟨wd_383, wd_381, wd_382, wd_70, ⟨by decide, by decide, by decide +kernel⟩, ⟨_, rfl, rfl⟩, fun _ _ _ => ⟨_, rfl⟩⟩
theorem ykX1_copyFrom : gYV yX1_copyFrom cX1_copyFrom 2 none 1 1 := ⟨wd_395, wd_393, wd_394, wd_71, ⟨by decide, by decide, by decide +kernel⟩, ⟨_, rfl, rfl⟩, fun _ _ _ => ⟨_, rfl⟩⟩
theorem ykX7_kindAt : gYV yX7_kindAt cX7_kindAt 3 (some .int) 7 1 := ⟨wd_410, wd_409, wd_2, wd_72, ⟨by decide, by decide, by decide +kernel⟩, ⟨_, rfl, rfl⟩, fun _ _ _ => ⟨_, rfl⟩⟩
theorem ykX7_pass : gYV yX7_pass cX7_pass 1 none 7 0 := ⟨wd_406, wd_405, wd_1, wd_72, ⟨by decide, by decide, by decide +kernel⟩, ⟨_, rfl, rfl⟩, fun _ _ _ => ⟨_, rfl⟩⟩
theorem ykX7_isWord : gYV yX7_isWord cX7_isWord 3 (some .boolean) 7 1 := ⟨wd_419, wd_418, wd_4, wd_72, ⟨by decide, by decide, by decide +kernel⟩, ⟨_, rfl, rfl⟩, fun _ _ _ => ⟨_, rfl⟩⟩
theorem ykX7_number : gYV yX7_number cX7_number 5 (some .int) 7 2 := ⟨wd_475, wd_474, wd_6, wd_72, ⟨by decide, by decide, by decide +kernel⟩, ⟨_, rfl, rfl⟩, fun _ _ _ => ⟨_, rfl⟩⟩
theorem ykX1_startWith : gYV yX1_startWith cX1_startWith 2 none 1 1 := ⟨wd_479, wd_477, wd_478, wd_71, ⟨by decide, by decide, by decide +kernel⟩, ⟨_, rfl, rfl⟩, fun _ _ _ => ⟨_, rfl⟩⟩
theorem ykX7_readNet : gYV yX7_readNet cX7_readNet 3 (some .boolean) 7 1 := ⟨wd_471, wd_470, wd_5, wd_72, ⟨by decide, by decide, by decide +kernel⟩, ⟨_, rfl, rfl⟩, fun _ _ _ => ⟨_, rfl⟩⟩
theorem ykX1_has : gYV yX1_has cX1_has 2 (some .boolean) 1 1 := ⟨wd_495, wd_493, wd_494, wd_71, ⟨by decide, by decide, by decide +kernel⟩, ⟨_, rfl, rfl⟩, fun _ _ _ => ⟨_, rfl⟩⟩
theorem ykX9_cell : gYS yX9_cell cX9_cell 2 (some .int) 2 := ⟨wd_498, wd_497, wd_70, ⟨by decide, by decide, by decide +kernel⟩⟩
theorem ykX1_hasRoomFor : gYV yX1_hasRoomFor cX1_hasRoomFor 3 (some .boolean) 1 2 := ⟨wd_491, wd_489, wd_490, wd_71, ⟨by decide, by decide, by decide +kernel⟩, ⟨_, rfl, rfl⟩, fun _ _ _ => ⟨_, rfl⟩⟩
theorem ykX1_setLength : gYV yX1_setLength cX1_setLength 4 none 1 3 := ⟨wd_502, wd_500, wd_501, wd_71, ⟨by decide, by decide, by decide +kernel⟩, ⟨_, rfl, rfl⟩, fun _ _ _ => ⟨_, rfl⟩⟩
theorem ykX7_readLink : gYV yX7_readLink cX7_readLink 5 (some .boolean) 7 1 := ⟨wd_487, wd_486, wd_7, wd_72, ⟨by decide, by decide, by decide +kernel⟩, ⟨_, rfl, rfl⟩, fun _ _ _ => ⟨_, rfl⟩⟩
theorem ykX1_setLevel : gYV yX1_setLevel cX1_setLevel 3 none 1 2 := ⟨wd_511, wd_509, wd_510, wd_71, ⟨by decide, by decide, by decide +kernel⟩, ⟨_, rfl, rfl⟩, fun _ _ _ => ⟨_, rfl⟩⟩
theorem ykX7_readLevel : gYV yX7_readLevel cX7_readLevel 4 (some .boolean) 7 1 := ⟨wd_507, wd_506, wd_8, wd_72, ⟨by decide, by decide, by decide +kernel⟩, ⟨_, rfl, rfl⟩, fun _ _ _ => ⟨_, rfl⟩⟩
theorem ykX7_readClause : gYV yX7_readClause cX7_readClause 2 (some .boolean) 7 1 := ⟨wd_414, wd_413, wd_3, wd_72, ⟨by decide, by decide, by decide +kernel⟩, ⟨_, rfl, rfl⟩, fun _ _ _ => ⟨_, rfl⟩⟩
theorem ykX7_isSemicolon : gYV yX7_isSemicolon cX7_isSemicolon 1 (some .boolean) 7 0 := ⟨wd_515, wd_514, wd_9, wd_72, ⟨by decide, by decide, by decide +kernel⟩, ⟨_, rfl, rfl⟩, fun _ _ _ => ⟨_, rfl⟩⟩
theorem ykX7_readInto : gYV yX7_readInto cX7_readInto 3 (some .int) 7 1 := ⟨wd_402, wd_400, wd_401, wd_72, ⟨by decide, by decide, by decide +kernel⟩, ⟨_, rfl, rfl⟩, fun _ _ _ => ⟨_, rfl⟩⟩
theorem ykX9_readText : gYV yX9_readText cX9_readText 1 (some .int) 9 0 := ⟨wd_391, wd_390, wd_0, wd_70, ⟨by decide, by decide, by decide +kernel⟩, ⟨_, rfl, rfl⟩, fun _ _ _ => ⟨_, rfl⟩⟩
theorem ykX9_fault : gYV yX9_fault cX9_fault 1 (some .int) 9 0 := ⟨wd_387, wd_385, wd_386, wd_70, ⟨by decide, by decide, by decide +kernel⟩, ⟨_, rfl, rfl⟩, fun _ _ _ => ⟨_, rfl⟩⟩
theorem ykX9_blankAll : gYV yX9_blankAll cX9_blankAll 2 none 9 0 := ⟨wd_524, wd_523, wd_10, wd_70, ⟨by decide, by decide, by decide +kernel⟩, ⟨_, rfl, rfl⟩, fun _ _ _ => ⟨_, rfl⟩⟩
theorem ykX9_forgetSlots : gYV yX9_forgetSlots cX9_forgetSlots 2 none 9 0 := ⟨wd_528, wd_527, wd_11, wd_70, ⟨by decide, by decide, by decide +kernel⟩, ⟨_, rfl, rfl⟩, fun _ _ _ => ⟨_, rfl⟩⟩
theorem ykX9_net : gYV yX9_net cX9_net 1 (some .int) 9 0 := ⟨wd_520, wd_518, wd_519, wd_70, ⟨by decide, by decide, by decide +kernel⟩, ⟨_, rfl, rfl⟩, fun _ _ _ => ⟨_, rfl⟩⟩
theorem ykX1_cellOfLink : gYV yX1_cellOfLink cX1_cellOfLink 5 (some .int) 1 1 := ⟨wd_536, wd_534, wd_535, wd_71, ⟨by decide, by decide, by decide +kernel⟩, ⟨_, rfl, rfl⟩, fun _ _ _ => ⟨_, rfl⟩⟩
theorem ykX1_lengthOf : gYV yX1_lengthOf cX1_lengthOf 3 (some .int) 1 2 := ⟨wd_540, wd_538, wd_539, wd_71, ⟨by decide, by decide, by decide +kernel⟩, ⟨_, rfl, rfl⟩, fun _ _ _ => ⟨_, rfl⟩⟩
theorem ykX9_link : gYV yX9_link cX9_link 6 (some .int) 9 2 := ⟨wd_532, wd_530, wd_531, wd_70, ⟨by decide, by decide, by decide +kernel⟩, ⟨_, rfl, rfl⟩, fun _ _ _ => ⟨_, rfl⟩⟩
theorem ykX1_levelOf : gYV yX1_levelOf cX1_levelOf 2 (some .int) 1 1 := ⟨wd_549, wd_547, wd_548, wd_71, ⟨by decide, by decide, by decide +kernel⟩, ⟨_, rfl, rfl⟩, fun _ _ _ => ⟨_, rfl⟩⟩
theorem ykX9_level : gYV yX9_level cX9_level 2 (some .int) 9 1 := ⟨wd_544, wd_542, wd_543, wd_70, ⟨by decide, by decide, by decide +kernel⟩, ⟨_, rfl, rfl⟩, fun _ _ _ => ⟨_, rfl⟩⟩
theorem ykX9_bothThere : gYV yX9_bothThere cX9_bothThere 3 (some .boolean) 9 2 := ⟨wd_557, wd_556, wd_12, wd_70, ⟨by decide, by decide, by decide +kernel⟩, ⟨_, rfl, rfl⟩, fun _ _ _ => ⟨_, rfl⟩⟩
theorem ykX3_push : gYV yX3_push cX3_push 2 none 3 1 := ⟨wd_562, wd_560, wd_561, wd_73, ⟨by decide, by decide, by decide +kernel⟩, ⟨_, rfl, rfl⟩, fun _ _ _ => ⟨_, rfl⟩⟩
theorem ykX9_join : gYV yX9_join cX9_join 4 (some .int) 9 3 := ⟨wd_553, wd_551, wd_552, wd_70, ⟨by decide, by decide, by decide +kernel⟩, ⟨_, rfl, rfl⟩, fun _ _ _ => ⟨_, rfl⟩⟩
theorem ykX9_cut : gYV yX9_cut cX9_cut 4 (some .int) 9 2 := ⟨wd_571, wd_569, wd_570, wd_70, ⟨by decide, by decide, by decide +kernel⟩, ⟨_, rfl, rfl⟩, fun _ _ _ => ⟨_, rfl⟩⟩
theorem ykX9_lift : gYV yX9_lift cX9_lift 4 (some .int) 9 2 := ⟨wd_575, wd_573, wd_574, wd_70, ⟨by decide, by decide, by decide +kernel⟩, ⟨_, rfl, rfl⟩, fun _ _ _ => ⟨_, rfl⟩⟩
theorem ykX1_drawLevels : gYV yX1_drawLevels cX1_drawLevels 4 none 1 1 := ⟨wd_584, wd_582, wd_583, wd_71, ⟨by decide, by decide, by decide +kernel⟩, ⟨_, rfl, rfl⟩, fun _ _ _ => ⟨_, rfl⟩⟩
theorem ykX1_nodesOfLevel : gYV yX1_nodesOfLevel cX1_nodesOfLevel 4 (some .int) 1 1 := ⟨wd_589, wd_587, wd_588, wd_71, ⟨by decide, by decide, by decide +kernel⟩, ⟨_, rfl, rfl⟩, fun _ _ _ => ⟨_, rfl⟩⟩
theorem ykX9_draw : gYV yX9_draw cX9_draw 2 (some .int) 9 1 := ⟨wd_580, wd_578, wd_579, wd_70, ⟨by decide, by decide, by decide +kernel⟩, ⟨_, rfl, rfl⟩, fun _ _ _ => ⟨_, rfl⟩⟩
theorem ykX8_lengthAt : gYV yX8_lengthAt cX8_lengthAt 3 (some .int) 8 2 := ⟨wd_610, wd_609, wd_15, wd_77, ⟨by decide, by decide, by decide +kernel⟩, ⟨_, rfl, rfl⟩, fun _ _ _ => ⟨_, rfl⟩⟩
theorem ykX8_insert : gYV yX8_insert cX8_insert 6 none 8 3 := ⟨wd_606, wd_605, wd_14, wd_77, ⟨by decide, by decide, by decide +kernel⟩, ⟨_, rfl, rfl⟩, fun _ _ _ => ⟨_, rfl⟩⟩
theorem ykX8_sortLinks : gYV yX8_sortLinks cX8_sortLinks 4 none 8 1 := ⟨wd_601, wd_600, wd_13, wd_77, ⟨by decide, by decide, by decide +kernel⟩, ⟨_, rfl, rfl⟩, fun _ _ _ => ⟨_, rfl⟩⟩
theorem ykX0_clear : gYV yX0_clear cX0_clear 3 none 0 1 := ⟨wd_620, wd_618, wd_619, wd_76, ⟨by decide, by decide, by decide +kernel⟩, ⟨_, rfl, rfl⟩, fun _ _ _ => ⟨_, rfl⟩⟩
theorem ykX8_clear : gYV yX8_clear cX8_clear 2 none 8 1 := ⟨wd_615, wd_614, wd_16, wd_77, ⟨by decide, by decide, by decide +kernel⟩, ⟨_, rfl, rfl⟩, fun _ _ _ => ⟨_, rfl⟩⟩
theorem ykX0_between : gYV yX0_between cX0_between 3 (some .int) 0 2 := ⟨wd_627, wd_625, wd_626, wd_76, ⟨by decide, by decide, by decide +kernel⟩, ⟨_, rfl, rfl⟩, fun _ _ _ => ⟨_, rfl⟩⟩
theorem ykX0_add : gYV yX0_add cX0_add 10 none 0 3 := ⟨wd_635, wd_633, wd_634, wd_76, ⟨by decide, by decide, by decide +kernel⟩, ⟨_, rfl, rfl⟩, fun _ _ _ => ⟨_, rfl⟩⟩
theorem ykX8_take : gYV yX8_take cX8_take 4 none 8 3 := ⟨wd_631, wd_630, wd_17, wd_77, ⟨by decide, by decide, by decide +kernel⟩, ⟨_, rfl, rfl⟩, fun _ _ _ => ⟨_, rfl⟩⟩
theorem ykX8_follow : gYV yX8_follow cX8_follow 8 none 8 2 := ⟨wd_597, wd_595, wd_596, wd_77, ⟨by decide, by decide, by decide +kernel⟩, ⟨_, rfl, rfl⟩, fun _ _ _ => ⟨_, rfl⟩⟩
theorem ykX8_takes : gYV yX8_takes cX8_takes 3 (some .boolean) 8 2 := ⟨wd_639, wd_637, wd_638, wd_77, ⟨by decide, by decide, by decide +kernel⟩, ⟨_, rfl, rfl⟩, fun _ _ _ => ⟨_, rfl⟩⟩
theorem ykX9_thin : gYV yX9_thin cX9_thin 4 (some .int) 9 1 := ⟨wd_593, wd_591, wd_592, wd_70, ⟨by decide, by decide, by decide +kernel⟩, ⟨_, rfl, rfl⟩, fun _ _ _ => ⟨_, rfl⟩⟩
theorem ykX3_pop : gYV yX3_pop cX3_pop 2 none 3 1 := ⟨wd_647, wd_645, wd_646, wd_73, ⟨by decide, by decide, by decide +kernel⟩, ⟨_, rfl, rfl⟩, fun _ _ _ => ⟨_, rfl⟩⟩
theorem ykX9_undo : gYV yX9_undo cX9_undo 1 (some .int) 9 0 := ⟨wd_643, wd_641, wd_642, wd_70, ⟨by decide, by decide, by decide +kernel⟩, ⟨_, rfl, rfl⟩, fun _ _ _ => ⟨_, rfl⟩⟩
theorem ykX2_copyFrom : gYV yX2_copyFrom cX2_copyFrom 2 none 2 1 := ⟨wd_658, wd_656, wd_657, wd_74, ⟨by decide, by decide, by decide +kernel⟩, ⟨_, rfl, rfl⟩, fun _ _ _ => ⟨_, rfl⟩⟩
theorem ykX9_copyNotes : gYS yX9_copyNotes cX9_copyNotes 3 none 2 := ⟨wd_654, wd_653, wd_70, ⟨by decide, by decide, by decide +kernel⟩⟩
theorem ykX9_writtenNotes : gYV yX9_writtenNotes cX9_writtenNotes 3 (some .int) 9 0 := ⟨wd_663, wd_662, wd_18, wd_70, ⟨by decide, by decide, by decide +kernel⟩, ⟨_, rfl, rfl⟩, fun _ _ _ => ⟨_, rfl⟩⟩
theorem ykX9_keep : gYV yX9_keep cX9_keep 2 (some .int) 9 1 := ⟨wd_651, wd_649, wd_650, wd_70, ⟨by decide, by decide, by decide +kernel⟩, ⟨_, rfl, rfl⟩, fun _ _ _ => ⟨_, rfl⟩⟩
theorem ykX9_back : gYV yX9_back cX9_back 2 (some .int) 9 1 := ⟨wd_667, wd_665, wd_666, wd_70, ⟨by decide, by decide, by decide +kernel⟩, ⟨_, rfl, rfl⟩, fun _ _ _ => ⟨_, rfl⟩⟩
theorem ykX0_follow : gYV yX0_follow cX0_follow 5 none 0 1 := ⟨wd_675, wd_673, wd_674, wd_76, ⟨by decide, by decide, by decide +kernel⟩, ⟨_, rfl, rfl⟩, fun _ _ _ => ⟨_, rfl⟩⟩
theorem ykX9_distance : gYV yX9_distance cX9_distance 3 (some .int) 9 2 := ⟨wd_671, wd_669, wd_670, wd_70, ⟨by decide, by decide, by decide +kernel⟩, ⟨_, rfl, rfl⟩, fun _ _ _ => ⟨_, rfl⟩⟩
theorem ykX2_findNearest : gYV yX2_findNearest cX2_findNearest 7 none 2 4 := ⟨wd_695, wd_694, wd_20, wd_74, ⟨by decide, by decide, by decide +kernel⟩, ⟨_, rfl, rfl⟩, fun _ _ _ => ⟨_, rfl⟩⟩
theorem ykX2_nearestFarAt : gYV yX2_nearestFarAt cX2_nearestFarAt 2 (some .int) 2 1 := ⟨wd_705, wd_703, wd_704, wd_74, ⟨by decide, by decide, by decide +kernel⟩, ⟨_, rfl, rfl⟩, fun _ _ _ => ⟨_, rfl⟩⟩
theorem ykX2_isNear : gYV yX2_isNear cX2_isNear 4 (some .boolean) 2 2 := ⟨wd_701, wd_700, wd_21, wd_74, ⟨by decide, by decide, by decide +kernel⟩, ⟨_, rfl, rfl⟩, fun _ _ _ => ⟨_, rfl⟩⟩
theorem ykX2_write : gYV yX2_write cX2_write 6 none 2 3 := ⟨wd_691, wd_689, wd_690, wd_74, ⟨by decide, by decide, by decide +kernel⟩, ⟨_, rfl, rfl⟩, fun _ _ _ => ⟨_, rfl⟩⟩
theorem ykX9_writeDraft : gYV yX9_writeDraft cX9_writeDraft 2 none 9 1 := ⟨wd_687, wd_686, wd_19, wd_70, ⟨by decide, by decide, by decide +kernel⟩, ⟨_, rfl, rfl⟩, fun _ _ _ => ⟨_, rfl⟩⟩
theorem ykX2_nearestAt : gYV yX2_nearestAt cX2_nearestAt 2 (some .int) 2 1 := ⟨wd_709, wd_707, wd_708, wd_74, ⟨by decide, by decide, by decide +kernel⟩, ⟨_, rfl, rfl⟩, fun _ _ _ => ⟨_, rfl⟩⟩
theorem ykX9_nearest : gYV yX9_nearest cX9_nearest 4 (some .int) 9 3 := ⟨wd_683, wd_681, wd_682, wd_70, ⟨by decide, by decide, by decide +kernel⟩, ⟨_, rfl, rfl⟩, fun _ _ _ => ⟨_, rfl⟩⟩
theorem ykX2_farOf : gYV yX2_farOf cX2_farOf 2 (some .int) 2 1 := ⟨wd_726, wd_724, wd_725, wd_74, ⟨by decide, by decide, by decide +kernel⟩, ⟨_, rfl, rfl⟩, fun _ _ _ => ⟨_, rfl⟩⟩
theorem ykX2_holds : gYV yX2_holds cX2_holds 2 (some .boolean) 2 1 := ⟨wd_722, wd_720, wd_721, wd_74, ⟨by decide, by decide, by decide +kernel⟩, ⟨_, rfl, rfl⟩, fun _ _ _ => ⟨_, rfl⟩⟩
theorem ykX9_clusterOf : gYV yX9_clusterOf cX9_clusterOf 4 (some .int) 9 1 := ⟨wd_718, wd_717, wd_22, wd_70, ⟨by decide, by decide, by decide +kernel⟩, ⟨_, rfl, rfl⟩, fun _ _ _ => ⟨_, rfl⟩⟩
theorem ykX9_bunch : gYV yX9_bunch cX9_bunch 3 (some .int) 9 2 := ⟨wd_714, wd_712, wd_713, wd_70, ⟨by decide, by decide, by decide +kernel⟩, ⟨_, rfl, rfl⟩, fun _ _ _ => ⟨_, rfl⟩⟩
theorem ykX9_stepTowards : gYV yX9_stepTowards cX9_stepTowards 7 (some .int) 9 2 := ⟨wd_734, wd_733, wd_23, wd_70, ⟨by decide, by decide, by decide +kernel⟩, ⟨_, rfl, rfl⟩, fun _ _ _ => ⟨_, rfl⟩⟩
theorem ykX9_next : gYV yX9_next cX9_next 3 (some .int) 9 2 := ⟨wd_730, wd_728, wd_729, wd_70, ⟨by decide, by decide, by decide +kernel⟩, ⟨_, rfl, rfl⟩, fun _ _ _ => ⟨_, rfl⟩⟩
theorem ykX9_thinned : gYV yX9_thinned cX9_thinned 4 (some .int) 9 2 := ⟨wd_738, wd_736, wd_737, wd_70, ⟨by decide, by decide, by decide +kernel⟩, ⟨_, rfl, rfl⟩, fun _ _ _ => ⟨_, rfl⟩⟩
theorem ykX4_clear : gYV yX4_clear cX4_clear 1 none 4 0 := ⟨wd_750, wd_748, wd_749, wd_79, ⟨by decide, by decide, by decide +kernel⟩, ⟨_, rfl, rfl⟩, fun _ _ _ => ⟨_, rfl⟩⟩
theorem ykX4_offer : gYV yX4_offer cX4_offer 5 none 4 4 := ⟨wd_754, wd_752, wd_753, wd_79, ⟨by decide, by decide, by decide +kernel⟩, ⟨_, rfl, rfl⟩, fun _ _ _ => ⟨_, rfl⟩⟩
theorem ykX9_weighThinned : gYV yX9_weighThinned cX9_weighThinned 5 none 9 1 := ⟨wd_746, wd_745, wd_24, wd_70, ⟨by decide, by decide, by decide +kernel⟩, ⟨_, rfl, rfl⟩, fun _ _ _ => ⟨_, rfl⟩⟩
theorem ykX9_commonPart : gYS yX9_commonPart cX9_commonPart 6 (some .int) 2 := ⟨wd_757, wd_756, wd_70, ⟨by decide, by decide, by decide +kernel⟩⟩
theorem ykX9_worst : gYV yX9_worst cX9_worst 4 (some .int) 9 2 := ⟨wd_742, wd_740, wd_741, wd_70, ⟨by decide, by decide, by decide +kernel⟩, ⟨_, rfl, rfl⟩, fun _ _ _ => ⟨_, rfl⟩⟩
theorem ykX9_note : gYV yX9_note cX9_note 2 (some .int) 9 1 := ⟨wd_761, wd_759, wd_760, wd_70, ⟨by decide, by decide, by decide +kernel⟩, ⟨_, rfl, rfl⟩, fun _ _ _ => ⟨_, rfl⟩⟩
theorem ykX2_bearsSameAs : gYV yX2_bearsSameAs cX2_bearsSameAs 3 (some .boolean) 2 1 := ⟨wd_779, wd_777, wd_778, wd_74, ⟨by decide, by decide, by decide +kernel⟩, ⟨_, rfl, rfl⟩, fun _ _ _ => ⟨_, rfl⟩⟩
theorem ykX9_isFresh : gYV yX9_isFresh cX9_isFresh 2 (some .boolean) 9 1 := ⟨wd_775, wd_774, wd_25, wd_70, ⟨by decide, by decide, by decide +kernel⟩, ⟨_, rfl, rfl⟩, fun _ _ _ => ⟨_, rfl⟩⟩
theorem ykX9_mend : gYV yX9_mend cX9_mend 3 (some .int) 9 0 := ⟨wd_771, wd_769, wd_770, wd_70, ⟨by decide, by decide, by decide +kernel⟩, ⟨_, rfl, rfl⟩, fun _ _ _ => ⟨_, rfl⟩⟩
theorem ykX9_tear : gYV yX9_tear cX9_tear 3 (some .int) 9 1 := ⟨wd_783, wd_781, wd_782, wd_70, ⟨by decide, by decide, by decide +kernel⟩, ⟨_, rfl, rfl⟩, fun _ _ _ => ⟨_, rfl⟩⟩
theorem ykX9_noted : gYV yX9_noted cX9_noted 4 (some .int) 9 2 := ⟨wd_787, wd_785, wd_786, wd_70, ⟨by decide, by decide, by decide +kernel⟩, ⟨_, rfl, rfl⟩, fun _ _ _ => ⟨_, rfl⟩⟩
theorem ykX9_notedFar : gYV yX9_notedFar cX9_notedFar 3 (some .int) 9 2 := ⟨wd_791, wd_789, wd_790, wd_70, ⟨by decide, by decide, by decide +kernel⟩, ⟨_, rfl, rfl⟩, fun _ _ _ => ⟨_, rfl⟩⟩
theorem ykX6_look : gYV yX6_look cX6_look 4 (some .int) 6 3 := ⟨wd_804, wd_803, wd_26, wd_78, ⟨by decide, by decide, by decide +kernel⟩, ⟨_, rfl, rfl⟩, fun _ _ _ => ⟨_, rfl⟩⟩
theorem ykX6_tell : gYV yX6_tell cX6_tell 8 none 6 3 := ⟨wd_800, wd_798, wd_799, wd_78, ⟨by decide, by decide, by decide +kernel⟩, ⟨_, rfl, rfl⟩, fun _ _ _ => ⟨_, rfl⟩⟩
theorem ykX9_told : gYV yX9_told cX9_told 4 (some .int) 9 3 := ⟨wd_796, wd_794, wd_795, wd_70, ⟨by decide, by decide, by decide +kernel⟩, ⟨_, rfl, rfl⟩, fun _ _ _ => ⟨_, rfl⟩⟩
theorem ykX9_why : gYV yX9_why cX9_why 4 (some .int) 9 3 := ⟨wd_812, wd_810, wd_811, wd_70, ⟨by decide, by decide, by decide +kernel⟩, ⟨_, rfl, rfl⟩, fun _ _ _ => ⟨_, rfl⟩⟩
theorem ykX9_stepsBetween : gYV yX9_stepsBetween cX9_stepsBetween 5 (some .int) 9 2 := ⟨wd_820, wd_819, wd_27, wd_70, ⟨by decide, by decide, by decide +kernel⟩, ⟨_, rfl, rfl⟩, fun _ _ _ => ⟨_, rfl⟩⟩
theorem ykX9_nodeAfter : gYV yX9_nodeAfter cX9_nodeAfter 6 (some .int) 9 3 := ⟨wd_824, wd_823, wd_28, wd_70, ⟨by decide, by decide, by decide +kernel⟩, ⟨_, rfl, rfl⟩, fun _ _ _ => ⟨_, rfl⟩⟩
theorem ykX9_route : gYV yX9_route cX9_route 6 (some .int) 9 3 := ⟨wd_816, wd_814, wd_815, wd_70, ⟨by decide, by decide, by decide +kernel⟩, ⟨_, rfl, rfl⟩, fun _ _ _ => ⟨_, rfl⟩⟩
theorem ykX9_weighTold : gYV yX9_weighTold cX9_weighTold 5 (some .int) 9 0 := ⟨wd_832, wd_831, wd_29, wd_70, ⟨by decide, by decide, by decide +kernel⟩, ⟨_, rfl, rfl⟩, fun _ _ _ => ⟨_, rfl⟩⟩
theorem ykX9_pairs : gYV yX9_pairs cX9_pairs 3 (some .int) 9 1 := ⟨wd_828, wd_826, wd_827, wd_70, ⟨by decide, by decide, by decide +kernel⟩, ⟨_, rfl, rfl⟩, fun _ _ _ => ⟨_, rfl⟩⟩
theorem ykX9_parts : gYV yX9_parts cX9_parts 4 (some .int) 9 0 := ⟨wd_840, wd_839, wd_30, wd_70, ⟨by decide, by decide, by decide +kernel⟩, ⟨_, rfl, rfl⟩, fun _ _ _ => ⟨_, rfl⟩⟩
theorem ykX9_freshNotes : gYV yX9_freshNotes cX9_freshNotes 3 (some .int) 9 0 := ⟨wd_844, wd_843, wd_31, wd_70, ⟨by decide, by decide, by decide +kernel⟩, ⟨_, rfl, rfl⟩, fun _ _ _ => ⟨_, rfl⟩⟩
theorem ykX9_nodesInNotes : gYV yX9_nodesInNotes cX9_nodesInNotes 3 (some .int) 9 0 := ⟨wd_848, wd_847, wd_32, wd_70, ⟨by decide, by decide, by decide +kernel⟩, ⟨_, rfl, rfl⟩, fun _ _ _ => ⟨_, rfl⟩⟩
theorem ykX9_count : gYV yX9_count cX9_count 2 (some .int) 9 1 := ⟨wd_836, wd_834, wd_835, wd_70, ⟨by decide, by decide, by decide +kernel⟩, ⟨_, rfl, rfl⟩, fun _ _ _ => ⟨_, rfl⟩⟩
theorem ykX10_in : gYS yX10_in cX10_in 6 (some .boolean) 3 := ⟨wd_939, wd_938, wd_80, ⟨by decide, by decide, by decide +kernel⟩⟩
theorem ykX10_isNode : gYV yX10_isNode cX10_isNode 2 (some .boolean) 10 1 := ⟨wd_1025, wd_1024, wd_46, wd_80, ⟨by decide, by decide, by decide +kernel⟩, ⟨_, rfl, rfl⟩, fun _ _ _ => ⟨_, rfl⟩⟩
theorem ykX10_has : gYS yX10_has cX10_has 2 (some .boolean) 2 := ⟨wd_1156, wd_1155, wd_80, ⟨by decide, by decide, by decide +kernel⟩⟩
theorem ykX10_ones : gYS yX10_ones cX10_ones 3 (some .int) 1 := ⟨wd_1159, wd_1158, wd_80, ⟨by decide, by decide, by decide +kernel⟩⟩
theorem ykX10_length : gYV yX10_length cX10_length 3 (some .int) 10 2 := ⟨wd_1071, wd_1070, wd_53, wd_80, ⟨by decide, by decide, by decide +kernel⟩, ⟨_, rfl, rfl⟩, fun _ _ _ => ⟨_, rfl⟩⟩
theorem ykX10_lies : gYV yX10_lies cX10_lies 4 none 10 3 := ⟨wd_1005, wd_1004, wd_44, wd_80, ⟨by decide, by decide, by decide +kernel⟩, ⟨_, rfl, rfl⟩, fun _ _ _ => ⟨_, rfl⟩⟩
theorem ykX10_links : gYV yX10_links cX10_links 3 (some .int) 10 0 := ⟨wd_955, wd_954, wd_34, wd_80, ⟨by decide, by decide, by decide +kernel⟩, ⟨_, rfl, rfl⟩, fun _ _ _ => ⟨_, rfl⟩⟩
theorem ykX10_pairOf : gYV yX10_pairOf cX10_pairOf 4 (some .int) 10 1 := ⟨wd_1017, wd_1016, wd_45, wd_80, ⟨by decide, by decide, by decide +kernel⟩, ⟨_, rfl, rfl⟩, fun _ _ _ => ⟨_, rfl⟩⟩
theorem ykX10_type : gYV yX10_type cX10_type 2 (some .int) 10 1 := ⟨wd_935, wd_933, wd_934, wd_80, ⟨by decide, by decide, by decide +kernel⟩, ⟨_, rfl, rfl⟩, fun _ _ _ => ⟨_, rfl⟩⟩
theorem ykX10_erase : gYV yX10_erase cX10_erase 2 (some .int) 10 0 := ⟨wd_943, wd_941, wd_942, wd_80, ⟨by decide, by decide, by decide +kernel⟩, ⟨_, rfl, rfl⟩, fun _ _ _ => ⟨_, rfl⟩⟩
theorem ykX10_isSmall : gYS yX10_isSmall cX10_isSmall 1 (some .boolean) 1 := ⟨wd_962, wd_961, wd_80, ⟨by decide, by decide, by decide +kernel⟩⟩
theorem ykX10_isDigit : gYS yX10_isDigit cX10_isDigit 1 (some .boolean) 1 := ⟨wd_967, wd_966, wd_80, ⟨by decide, by decide, by decide +kernel⟩⟩
theorem ykX10_nextToken : gYV yX10_nextToken cX10_nextToken 1 none 10 0 := ⟨wd_959, wd_958, wd_35, wd_80, ⟨by decide, by decide, by decide +kernel⟩, ⟨_, rfl, rfl⟩, fun _ _ _ => ⟨_, rfl⟩⟩
theorem ykX10_wordHere : gYV yX10_wordHere cX10_wordHere 4 (some .int) 10 0 := ⟨wd_977, wd_976, wd_37, wd_80, ⟨by decide, by decide, by decide +kernel⟩, ⟨_, rfl, rfl⟩, fun _ _ _ => ⟨_, rfl⟩⟩
theorem ykX10_numberHere : gYV yX10_numberHere cX10_numberHere 3 (some .int) 10 0 := ⟨wd_985, wd_984, wd_39, wd_80, ⟨by decide, by decide, by decide +kernel⟩, ⟨_, rfl, rfl⟩, fun _ _ _ => ⟨_, rfl⟩⟩
theorem ykX10_number : gYV yX10_number cX10_number 5 (some .boolean) 10 3 := ⟨wd_981, wd_980, wd_38, wd_80, ⟨by decide, by decide, by decide +kernel⟩, ⟨_, rfl, rfl⟩, fun _ _ _ => ⟨_, rfl⟩⟩
theorem ykX10_otherNode : gYV yX10_otherNode cX10_otherNode 4 (some .boolean) 10 0 := ⟨wd_989, wd_988, wd_40, wd_80, ⟨by decide, by decide, by decide +kernel⟩, ⟨_, rfl, rfl⟩, fun _ _ _ => ⟨_, rfl⟩⟩
theorem ykX10_tellsNet : gYV yX10_tellsNet cX10_tellsNet 2 none 10 0 := ⟨wd_993, wd_992, wd_41, wd_80, ⟨by decide, by decide, by decide +kernel⟩, ⟨_, rfl, rfl⟩, fun _ _ _ => ⟨_, rfl⟩⟩
theorem ykX10_tellsLink : gYV yX10_tellsLink cX10_tellsLink 3 none 10 0 := ⟨wd_997, wd_996, wd_42, wd_80, ⟨by decide, by decide, by decide +kernel⟩, ⟨_, rfl, rfl⟩, fun _ _ _ => ⟨_, rfl⟩⟩
theorem ykX10_does : gYV yX10_does cX10_does 3 none 10 1 := ⟨wd_1001, wd_1000, wd_43, wd_80, ⟨by decide, by decide, by decide +kernel⟩, ⟨_, rfl, rfl⟩, fun _ _ _ => ⟨_, rfl⟩⟩
theorem ykX10_readsClause : gYV yX10_readsClause cX10_readsClause 3 (some .boolean) 10 0 := ⟨wd_973, wd_972, wd_36, wd_80, ⟨by decide, by decide, by decide +kernel⟩, ⟨_, rfl, rfl⟩, fun _ _ _ => ⟨_, rfl⟩⟩
theorem ykX10_reads : gYV yX10_reads cX10_reads 3 (some .boolean) 10 1 := ⟨wd_951, wd_950, wd_33, wd_80, ⟨by decide, by decide, by decide +kernel⟩, ⟨_, rfl, rfl⟩, fun _ _ _ => ⟨_, rfl⟩⟩
theorem ykX10_fault : gYV yX10_fault cX10_fault 1 (some .int) 10 0 := ⟨wd_947, wd_945, wd_946, wd_80, ⟨by decide, by decide, by decide +kernel⟩, ⟨_, rfl, rfl⟩, fun _ _ _ => ⟨_, rfl⟩⟩
theorem ykX10_net : gYV yX10_net cX10_net 1 (some .int) 10 0 := ⟨wd_1009, wd_1007, wd_1008, wd_80, ⟨by decide, by decide, by decide +kernel⟩, ⟨_, rfl, rfl⟩, fun _ _ _ => ⟨_, rfl⟩⟩
theorem ykX10_link : gYV yX10_link cX10_link 4 (some .int) 10 2 := ⟨wd_1013, wd_1011, wd_1012, wd_80, ⟨by decide, by decide, by decide +kernel⟩, ⟨_, rfl, rfl⟩, fun _ _ _ => ⟨_, rfl⟩⟩
theorem ykX10_level : gYV yX10_level cX10_level 2 (some .int) 10 1 := ⟨wd_1021, wd_1019, wd_1020, wd_80, ⟨by decide, by decide, by decide +kernel⟩, ⟨_, rfl, rfl⟩, fun _ _ _ => ⟨_, rfl⟩⟩
theorem ykX10_finds : gYV yX10_finds cX10_finds 6 none 10 1 := ⟨wd_1033, wd_1032, wd_47, wd_80, ⟨by decide, by decide, by decide +kernel⟩, ⟨_, rfl, rfl⟩, fun _ _ _ => ⟨_, rfl⟩⟩
theorem ykX10_isWay : gYV yX10_isWay cX10_isWay 3 (some .boolean) 10 2 := ⟨wd_1038, wd_1037, wd_48, wd_80, ⟨by decide, by decide, by decide +kernel⟩, ⟨_, rfl, rfl⟩, fun _ _ _ => ⟨_, rfl⟩⟩
theorem ykX10_distance : gYV yX10_distance cX10_distance 3 (some .int) 10 2 := ⟨wd_1029, wd_1027, wd_1028, wd_80, ⟨by decide, by decide, by decide +kernel⟩, ⟨_, rfl, rfl⟩, fun _ _ _ => ⟨_, rfl⟩⟩
theorem ykX10_nearestOf : gYV yX10_nearestOf cX10_nearestOf 5 (some .int) 10 2 := ⟨wd_1047, wd_1046, wd_49, wd_80, ⟨by decide, by decide, by decide +kernel⟩, ⟨_, rfl, rfl⟩, fun _ _ _ => ⟨_, rfl⟩⟩
theorem ykX10_isInBunch : gYV yX10_isInBunch cX10_isInBunch 4 (some .boolean) 10 2 := ⟨wd_1059, wd_1058, wd_51, wd_80, ⟨by decide, by decide, by decide +kernel⟩, ⟨_, rfl, rfl⟩, fun _ _ _ => ⟨_, rfl⟩⟩
theorem ykX10_bunchOf : gYV yX10_bunchOf cX10_bunchOf 4 (some .int) 10 1 := ⟨wd_1055, wd_1054, wd_50, wd_80, ⟨by decide, by decide, by decide +kernel⟩, ⟨_, rfl, rfl⟩, fun _ _ _ => ⟨_, rfl⟩⟩
theorem ykX10_nearest : gYV yX10_nearest cX10_nearest 5 (some .int) 10 3 := ⟨wd_1042, wd_1040, wd_1041, wd_80, ⟨by decide, by decide, by decide +kernel⟩, ⟨_, rfl, rfl⟩, fun _ _ _ => ⟨_, rfl⟩⟩
theorem ykX10_bunch : gYV yX10_bunch cX10_bunch 5 (some .int) 10 2 := ⟨wd_1051, wd_1049, wd_1050, wd_80, ⟨by decide, by decide, by decide +kernel⟩, ⟨_, rfl, rfl⟩, fun _ _ _ => ⟨_, rfl⟩⟩
theorem ykX10_nextOf : gYV yX10_nextOf cX10_nextOf 4 (some .int) 10 2 := ⟨wd_1067, wd_1066, wd_52, wd_80, ⟨by decide, by decide, by decide +kernel⟩, ⟨_, rfl, rfl⟩, fun _ _ _ => ⟨_, rfl⟩⟩
theorem ykX10_next : gYV yX10_next cX10_next 3 (some .int) 10 2 := ⟨wd_1063, wd_1061, wd_1062, wd_80, ⟨by decide, by decide, by decide +kernel⟩, ⟨_, rfl, rfl⟩, fun _ _ _ => ⟨_, rfl⟩⟩
theorem ykX10_takes : gYV yX10_takes cX10_takes 5 none 10 2 := ⟨wd_1084, wd_1083, wd_55, wd_80, ⟨by decide, by decide, by decide +kernel⟩, ⟨_, rfl, rfl⟩, fun _ _ _ => ⟨_, rfl⟩⟩
theorem ykX10_thins : gYV yX10_thins cX10_thins 3 none 10 1 := ⟨wd_1080, wd_1079, wd_54, wd_80, ⟨by decide, by decide, by decide +kernel⟩, ⟨_, rfl, rfl⟩, fun _ _ _ => ⟨_, rfl⟩⟩
theorem ykX10_thinned : gYV yX10_thinned cX10_thinned 6 (some .int) 10 2 := ⟨wd_1075, wd_1073, wd_1074, wd_80, ⟨by decide, by decide, by decide +kernel⟩, ⟨_, rfl, rfl⟩, fun _ _ _ => ⟨_, rfl⟩⟩
theorem ykX10_divisor : gYS yX10_divisor cX10_divisor 5 (some .int) 2 := ⟨wd_1091, wd_1090, wd_80, ⟨by decide, by decide, by decide +kernel⟩⟩
theorem ykX10_worst : gYV yX10_worst cX10_worst 8 (some .int) 10 2 := ⟨wd_1088, wd_1086, wd_1087, wd_80, ⟨by decide, by decide, by decide +kernel⟩, ⟨_, rfl, rfl⟩, fun _ _ _ => ⟨_, rfl⟩⟩
theorem ykX10_copyRow : gYV yX10_copyRow cX10_copyRow 4 none 10 2 := ⟨wd_1104, wd_1103, wd_57, wd_80, ⟨by decide, by decide, by decide +kernel⟩, ⟨_, rfl, rfl⟩, fun _ _ _ => ⟨_, rfl⟩⟩
theorem ykX10_keepPast : gYV yX10_keepPast cX10_keepPast 2 none 10 0 := ⟨wd_1100, wd_1099, wd_56, wd_80, ⟨by decide, by decide, by decide +kernel⟩, ⟨_, rfl, rfl⟩, fun _ _ _ => ⟨_, rfl⟩⟩
theorem ykX10_join : gYV yX10_join cX10_join 4 (some .int) 10 3 := ⟨wd_1095, wd_1093, wd_1094, wd_80, ⟨by decide, by decide, by decide +kernel⟩, ⟨_, rfl, rfl⟩, fun _ _ _ => ⟨_, rfl⟩⟩
theorem ykX10_cut : gYV yX10_cut cX10_cut 4 (some .int) 10 2 := ⟨wd_1108, wd_1106, wd_1107, wd_80, ⟨by decide, by decide, by decide +kernel⟩, ⟨_, rfl, rfl⟩, fun _ _ _ => ⟨_, rfl⟩⟩
theorem ykX10_lift : gYV yX10_lift cX10_lift 4 (some .int) 10 2 := ⟨wd_1112, wd_1110, wd_1111, wd_80, ⟨by decide, by decide, by decide +kernel⟩, ⟨_, rfl, rfl⟩, fun _ _ _ => ⟨_, rfl⟩⟩
theorem ykX10_draw : gYV yX10_draw cX10_draw 5 (some .int) 10 1 := ⟨wd_1116, wd_1114, wd_1115, wd_80, ⟨by decide, by decide, by decide +kernel⟩, ⟨_, rfl, rfl⟩, fun _ _ _ => ⟨_, rfl⟩⟩
theorem ykX10_thin : gYV yX10_thin cX10_thin 3 (some .int) 10 1 := ⟨wd_1121, wd_1119, wd_1120, wd_80, ⟨by decide, by decide, by decide +kernel⟩, ⟨_, rfl, rfl⟩, fun _ _ _ => ⟨_, rfl⟩⟩
theorem ykX10_undo : gYV yX10_undo cX10_undo 1 (some .int) 10 0 := ⟨wd_1125, wd_1123, wd_1124, wd_80, ⟨by decide, by decide, by decide +kernel⟩, ⟨_, rfl, rfl⟩, fun _ _ _ => ⟨_, rfl⟩⟩
theorem ykX10_isWritten : gYV yX10_isWritten cX10_isWritten 2 (some .boolean) 10 1 := ⟨wd_1137, wd_1136, wd_59, wd_80, ⟨by decide, by decide, by decide +kernel⟩, ⟨_, rfl, rfl⟩, fun _ _ _ => ⟨_, rfl⟩⟩
theorem ykX10_written : gYV yX10_written cX10_written 3 (some .int) 10 0 := ⟨wd_1133, wd_1132, wd_58, wd_80, ⟨by decide, by decide, by decide +kernel⟩, ⟨_, rfl, rfl⟩, fun _ _ _ => ⟨_, rfl⟩⟩
theorem ykX10_keep : gYV yX10_keep cX10_keep 3 (some .int) 10 1 := ⟨wd_1129, wd_1127, wd_1128, wd_80, ⟨by decide, by decide, by decide +kernel⟩, ⟨_, rfl, rfl⟩, fun _ _ _ => ⟨_, rfl⟩⟩
theorem ykX10_back : gYV yX10_back cX10_back 3 (some .int) 10 1 := ⟨wd_1141, wd_1139, wd_1140, wd_80, ⟨by decide, by decide, by decide +kernel⟩, ⟨_, rfl, rfl⟩, fun _ _ _ => ⟨_, rfl⟩⟩
theorem ykX10_freshens : gYV yX10_freshens cX10_freshens 4 none 10 1 := ⟨wd_1153, wd_1152, wd_61, wd_80, ⟨by decide, by decide, by decide +kernel⟩, ⟨_, rfl, rfl⟩, fun _ _ _ => ⟨_, rfl⟩⟩
theorem ykX10_isFresh : gYV yX10_isFresh cX10_isFresh 4 (some .boolean) 10 1 := ⟨wd_1167, wd_1166, wd_62, wd_80, ⟨by decide, by decide, by decide +kernel⟩, ⟨_, rfl, rfl⟩, fun _ _ _ => ⟨_, rfl⟩⟩
theorem ykX10_writes : gYV yX10_writes cX10_writes 3 none 10 1 := ⟨wd_1149, wd_1148, wd_60, wd_80, ⟨by decide, by decide, by decide +kernel⟩, ⟨_, rfl, rfl⟩, fun _ _ _ => ⟨_, rfl⟩⟩
theorem ykX10_note : gYV yX10_note cX10_note 2 (some .int) 10 1 := ⟨wd_1145, wd_1143, wd_1144, wd_80, ⟨by decide, by decide, by decide +kernel⟩, ⟨_, rfl, rfl⟩, fun _ _ _ => ⟨_, rfl⟩⟩
theorem ykX10_mend : gYV yX10_mend cX10_mend 3 (some .int) 10 0 := ⟨wd_1163, wd_1161, wd_1162, wd_80, ⟨by decide, by decide, by decide +kernel⟩, ⟨_, rfl, rfl⟩, fun _ _ _ => ⟨_, rfl⟩⟩
theorem ykX10_tear : gYV yX10_tear cX10_tear 4 (some .int) 10 1 := ⟨wd_1171, wd_1169, wd_1170, wd_80, ⟨by decide, by decide, by decide +kernel⟩, ⟨_, rfl, rfl⟩, fun _ _ _ => ⟨_, rfl⟩⟩
theorem ykX10_noted : gYV yX10_noted cX10_noted 3 (some .int) 10 2 := ⟨wd_1175, wd_1173, wd_1174, wd_80, ⟨by decide, by decide, by decide +kernel⟩, ⟨_, rfl, rfl⟩, fun _ _ _ => ⟨_, rfl⟩⟩
theorem ykX10_notedFar : gYV yX10_notedFar cX10_notedFar 3 (some .int) 10 2 := ⟨wd_1180, wd_1178, wd_1179, wd_80, ⟨by decide, by decide, by decide +kernel⟩, ⟨_, rfl, rfl⟩, fun _ _ _ => ⟨_, rfl⟩⟩
theorem ykX10_untold : gYV yX10_untold cX10_untold 3 (some .boolean) 10 2 := ⟨wd_1192, wd_1191, wd_64, wd_80, ⟨by decide, by decide, by decide +kernel⟩, ⟨_, rfl, rfl⟩, fun _ _ _ => ⟨_, rfl⟩⟩
theorem ykX10_tells : gYV yX10_tells cX10_tells 8 (some .boolean) 10 2 := ⟨wd_1188, wd_1187, wd_63, wd_80, ⟨by decide, by decide, by decide +kernel⟩, ⟨_, rfl, rfl⟩, fun _ _ _ => ⟨_, rfl⟩⟩
theorem ykX10_told : gYV yX10_told cX10_told 5 (some .int) 10 3 := ⟨wd_1184, wd_1182, wd_1183, wd_80, ⟨by decide, by decide, by decide +kernel⟩, ⟨_, rfl, rfl⟩, fun _ _ _ => ⟨_, rfl⟩⟩
theorem ykX10_why : gYV yX10_why cX10_why 5 (some .int) 10 3 := ⟨wd_1196, wd_1194, wd_1195, wd_80, ⟨by decide, by decide, by decide +kernel⟩, ⟨_, rfl, rfl⟩, fun _ _ _ => ⟨_, rfl⟩⟩
theorem ykX10_route : gYV yX10_route cX10_route 7 (some .int) 10 3 := ⟨wd_1200, wd_1198, wd_1199, wd_80, ⟨by decide, by decide, by decide +kernel⟩, ⟨_, rfl, rfl⟩, fun _ _ _ => ⟨_, rfl⟩⟩
theorem ykX10_pairs : gYV yX10_pairs cX10_pairs 11 (some .int) 10 1 := ⟨wd_1204, wd_1202, wd_1203, wd_80, ⟨by decide, by decide, by decide +kernel⟩, ⟨_, rfl, rfl⟩, fun _ _ _ => ⟨_, rfl⟩⟩
theorem ykX10_parts : gYV yX10_parts cX10_parts 5 (some .int) 10 0 := ⟨wd_1213, wd_1212, wd_65, wd_80, ⟨by decide, by decide, by decide +kernel⟩, ⟨_, rfl, rfl⟩, fun _ _ _ => ⟨_, rfl⟩⟩
theorem ykX10_freshNotes : gYV yX10_freshNotes cX10_freshNotes 3 (some .int) 10 0 := ⟨wd_1217, wd_1216, wd_66, wd_80, ⟨by decide, by decide, by decide +kernel⟩, ⟨_, rfl, rfl⟩, fun _ _ _ => ⟨_, rfl⟩⟩
theorem ykX10_inBunches : gYV yX10_inBunches cX10_inBunches 3 (some .int) 10 0 := ⟨wd_1221, wd_1220, wd_67, wd_80, ⟨by decide, by decide, by decide +kernel⟩, ⟨_, rfl, rfl⟩, fun _ _ _ => ⟨_, rfl⟩⟩
theorem ykX10_ofLevel : gYV yX10_ofLevel cX10_ofLevel 4 (some .int) 10 1 := ⟨wd_1225, wd_1224, wd_68, wd_80, ⟨by decide, by decide, by decide +kernel⟩, ⟨_, rfl, rfl⟩, fun _ _ _ => ⟨_, rfl⟩⟩
theorem ykX10_count : gYV yX10_count cX10_count 2 (some .int) 10 1 := ⟨wd_1209, wd_1207, wd_1208, wd_80, ⟨by decide, by decide, by decide +kernel⟩, ⟨_, rfl, rfl⟩, fun _ _ _ => ⟨_, rfl⟩⟩
