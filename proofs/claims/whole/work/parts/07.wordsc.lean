theorem ly_r {big : List Cond} (ws : List Cond) (ps : List Nat) (hp : ws = ps.filterMap (fun i => big[i]?)) : ∀ w ∈ ws, w ∈ big := by
  intro w hw
  rw [hp] at hw
  obtain ⟨i, -, hi⟩ := List.mem_filterMap.mp hw
  exact List.mem_of_getElem? hi
theorem ly0_X0 : ∀ w ∈ u_ws RX0 TX0 5, w ∈ tables_1 := ly_r _ [333, 335, 337, 339, 341] (by decide +kernel)
theorem ly1_X0 : (u_ws RX0 TX0 5).all gw = true := by decide +kernel
theorem ly_X0 {s : State} {args : Array Value} (h : EW s) : ∀ w ∈ u_ws RX0 TX0 5, w.before args s = true := fun w hw => h.use (tb_0 w (ly0_X0 w hw)) (List.all_eq_true.mp ly1_X0 w hw) args
theorem ly0_X1 : ∀ w ∈ u_ws RX1 TX1 9, w ∈ tables_1 := ly_r _ [271, 273, 275, 277, 279, 281, 283, 285, 287] (by decide +kernel)
theorem ly1_X1 : (u_ws RX1 TX1 9).all gw = true := by decide +kernel
theorem ly_X1 {s : State} {args : Array Value} (h : EW s) : ∀ w ∈ u_ws RX1 TX1 9, w.before args s = true := fun w hw => h.use (tb_0 w (ly0_X1 w hw)) (List.all_eq_true.mp ly1_X1 w hw) args
theorem ly0_X2 : ∀ w ∈ u_ws RX2 TX2 6, w ∈ tables_1 := ly_r _ [130, 132, 134, 136, 138, 140] (by decide +kernel)
theorem ly1_X2 : (u_ws RX2 TX2 6).all gw = true := by decide +kernel
theorem ly_X2 {s : State} {args : Array Value} (h : EW s) : ∀ w ∈ u_ws RX2 TX2 6, w.before args s = true := fun w hw => h.use (tb_0 w (ly0_X2 w hw)) (List.all_eq_true.mp ly1_X2 w hw) args
theorem ly0_X3 : ∀ w ∈ u_ws RX3 TX3 5, w ∈ tables_1 := ly_r _ [309, 311, 313, 315, 317] (by decide +kernel)
theorem ly1_X3 : (u_ws RX3 TX3 5).all gw = true := by decide +kernel
theorem ly_X3 {s : State} {args : Array Value} (h : EW s) : ∀ w ∈ u_ws RX3 TX3 5, w.before args s = true := fun w hw => h.use (tb_0 w (ly0_X3 w hw)) (List.all_eq_true.mp ly1_X3 w hw) args
theorem ly0_X4 : ∀ w ∈ u_ws RX4 TX4 3, w ∈ tables_1 := ly_r _ [201, 203, 205] (by decide +kernel)
theorem ly1_X4 : (u_ws RX4 TX4 3).all gw = true := by decide +kernel
theorem ly_X4 {s : State} {args : Array Value} (h : EW s) : ∀ w ∈ u_ws RX4 TX4 3, w.before args s = true := fun w hw => h.use (tb_0 w (ly0_X4 w hw)) (List.all_eq_true.mp ly1_X4 w hw) args
theorem ly0_X5 : ∀ w ∈ u_ws RX5 TX5 7, w ∈ tables_1 := ly_r _ [227, 229, 231, 233, 235, 237, 239] (by decide +kernel)
theorem ly1_X5 : (u_ws RX5 TX5 7).all gw = true := by decide +kernel
theorem ly_X5 {s : State} {args : Array Value} (h : EW s) : ∀ w ∈ u_ws RX5 TX5 7, w.before args s = true := fun w hw => h.use (tb_0 w (ly0_X5 w hw)) (List.all_eq_true.mp ly1_X5 w hw) args
theorem ly0_X6 : ∀ w ∈ u_ws RX6 TX6 2, w ∈ tables_1 := ly_r _ [56, 58] (by decide +kernel)
theorem ly1_X6 : (u_ws RX6 TX6 2).all gw = true := by decide +kernel
theorem ly_X6 {s : State} {args : Array Value} (h : EW s) : ∀ w ∈ u_ws RX6 TX6 2, w.before args s = true := fun w hw => h.use (tb_0 w (ly0_X6 w hw)) (List.all_eq_true.mp ly1_X6 w hw) args
theorem ly0_X7 : ∀ w ∈ u_ws RX7 TX7 2, w ∈ tables_1 := ly_r _ [246, 248] (by decide +kernel)
theorem ly1_X7 : (u_ws RX7 TX7 2).all gw = true := by decide +kernel
theorem ly_X7 {s : State} {args : Array Value} (h : EW s) : ∀ w ∈ u_ws RX7 TX7 2, w.before args s = true := fun w hw => h.use (tb_0 w (ly0_X7 w hw)) (List.all_eq_true.mp ly1_X7 w hw) args
theorem ly0_X8 : ∀ w ∈ u_ws RX8 TX8 11, w ∈ tables_1 := ly_r _ [85, 87, 89, 91, 93, 95, 97, 99, 101, 103, 105] (by decide +kernel)
theorem ly1_X8 : (u_ws RX8 TX8 11).all gw = true := by decide +kernel
theorem ly_X8 {s : State} {args : Array Value} (h : EW s) : ∀ w ∈ u_ws RX8 TX8 11, w.before args s = true := fun w hw => h.use (tb_0 w (ly0_X8 w hw)) (List.all_eq_true.mp ly1_X8 w hw) args
theorem ly0_X9 : ∀ w ∈ u_ws RX9 TX9 6, w ∈ tables_1 := ly_r _ [170, 172, 174, 176, 178, 180] (by decide +kernel)
theorem ly1_X9 : (u_ws RX9 TX9 6).all gw = true := by decide +kernel
theorem ly_X9 {s : State} {args : Array Value} (h : EW s) : ∀ w ∈ u_ws RX9 TX9 6, w.before args s = true := fun w hw => h.use (tb_0 w (ly0_X9 w hw)) (List.all_eq_true.mp ly1_X9 w hw) args
theorem ly0_X10 : ∀ w ∈ u_ws RX10 TX10 7, w ∈ tables_1 := ly_r _ [351, 353, 355, 357, 359, 361, 363] (by decide +kernel)
theorem ly1_X10 : (u_ws RX10 TX10 7).all gw = true := by decide +kernel
theorem ly_X10 {s : State} {args : Array Value} (h : EW s) : ∀ w ∈ u_ws RX10 TX10 7, w.before args s = true := fun w hw => h.use (tb_0 w (ly0_X10 w hw)) (List.all_eq_true.mp ly1_X10 w hw) args
theorem ly0_X11 : ∀ w ∈ u_ws RX11 TX11 27, w ∈ tables_1 := ly_r _ [871, 873, 875, 877, 879, 881, 883, 885, 887, 889, 891, 893, 895, 897, 899, 901, 903, 905, 907, 909, 911, 913, 915, 917, 919, 921, 923] (by decide +kernel)
theorem ly1_X11 : (u_ws RX11 TX11 27).all gw = true := by decide +kernel
theorem ly_X11 {s : State} {args : Array Value} (h : EW s) : ∀ w ∈ u_ws RX11 TX11 27, w.before args s = true := fun w hw => h.use (tb_0 w (ly0_X11 w hw)) (List.all_eq_true.mp ly1_X11 w hw) args
theorem mf_X0_setOne : MFV yX0_setOne cX0_setOne 4 none 3 := ⟨⟨q_575, rfl, q_12, ⟨by decide +kernel, by decide +kernel⟩, by decide +kernel⟩, q_574, q_975⟩
theorem mf_X0_run : MFV yX0_run cX0_run 2 none 1 := ⟨⟨q_585, rfl, q_12, ⟨by decide +kernel, by decide +kernel⟩, by decide +kernel⟩, q_584, q_977⟩
theorem mf_X0_hears : MFV yX0_hears cX0_hears 2 (some .int) 1 := ⟨⟨q_578, rfl, q_12, ⟨by decide +kernel, by decide +kernel⟩, by decide +kernel⟩, q_577, q_976⟩
theorem mf_X0_tells : MFV yX0_tells cX0_tells 2 (some .int) 1 := ⟨⟨q_588, rfl, q_12, ⟨by decide +kernel, by decide +kernel⟩, by decide +kernel⟩, q_587, q_978⟩
theorem mf_X0_pays : MFV yX0_pays cX0_pays 2 (some .int) 1 := ⟨⟨q_592, rfl, q_12, ⟨by decide +kernel, by decide +kernel⟩, by decide +kernel⟩, q_591, q_979⟩
theorem mf_X1_findBest : MFV yX1_findBest cX1_findBest 5 none 1 := ⟨⟨q_495, rfl, q_2, ⟨by decide +kernel, by decide +kernel⟩, by decide +kernel⟩, q_494, q_966⟩
theorem mf_X1_isChoosable : MFV yX1_isChoosable cX1_isChoosable 5 (some .boolean) 3 := ⟨⟨q_511, rfl, q_2, ⟨by decide +kernel, by decide +kernel⟩, by decide +kernel⟩, q_510, q_968⟩
theorem mf_X1_findChoice : MFV yX1_findChoice cX1_findChoice 7 none 1 := ⟨⟨q_506, rfl, q_2, ⟨by decide +kernel, by decide +kernel⟩, by decide +kernel⟩, q_505, q_967⟩
theorem mf_X1_findReach : MFV yX1_findReach cX1_findReach 7 (some .int) 2 := ⟨⟨q_520, rfl, q_2, ⟨by decide +kernel, by decide +kernel⟩, by decide +kernel⟩, q_519, q_969⟩
theorem mf_X1_findBegan : MFV yX1_findBegan cX1_findBegan 3 none 0 := ⟨⟨q_535, rfl, q_2, ⟨by decide +kernel, by decide +kernel⟩, by decide +kernel⟩, q_534, q_971⟩
theorem mf_X1_isAsSeen : MFV yX1_isAsSeen cX1_isAsSeen 6 (some .boolean) 2 := ⟨⟨q_538, rfl, q_2, ⟨by decide +kernel, by decide +kernel⟩, by decide +kernel⟩, q_537, q_972⟩
theorem mf_X1_waysToHear : MFV yX1_waysToHear cX1_waysToHear 5 (some .int) 2 := ⟨⟨q_550, rfl, q_2, ⟨by decide +kernel, by decide +kernel⟩, by decide +kernel⟩, q_549, q_973⟩
theorem mf_X1_finesOfAll : MFV yX1_finesOfAll cX1_finesOfAll 5 (some .long) 1 := ⟨⟨q_560, rfl, q_2, ⟨by decide +kernel, by decide +kernel⟩, by decide +kernel⟩, q_559, q_974⟩
theorem mf_X2_has : MFV yX2_has cX2_has 2 (some .boolean) 1 := ⟨⟨q_363, rfl, q_7, ⟨by decide +kernel, by decide +kernel⟩, by decide +kernel⟩, q_362, q_943⟩
theorem mf_X2_all : MFV yX2_all cX2_all 1 (some .int) 0 := ⟨⟨q_488, rfl, q_7, ⟨by decide +kernel, by decide +kernel⟩, by decide +kernel⟩, q_487, q_965⟩
theorem mf_X2_add : MFV yX2_add cX2_add 3 (some .boolean) 2 := ⟨⟨q_356, rfl, q_7, ⟨by decide +kernel, by decide +kernel⟩, by decide +kernel⟩, q_355, q_942⟩
theorem mf_X2_acquaint : MFV yX2_acquaint cX2_acquaint 4 none 3 := ⟨⟨q_418, rfl, q_7, ⟨by decide +kernel, by decide +kernel⟩, by decide +kernel⟩, q_417, q_955⟩
theorem mf_X2_addToRow : MFV yX2_addToRow cX2_addToRow 3 (some .boolean) 2 := ⟨⟨q_425, rfl, q_7, ⟨by decide +kernel, by decide +kernel⟩, by decide +kernel⟩, q_424, q_956⟩
theorem mf_X2_deafOn : MFV yX2_deafOn cX2_deafOn 4 (some .int) 1 := ⟨⟨q_449, rfl, q_7, ⟨by decide +kernel, by decide +kernel⟩, by decide +kernel⟩, q_448, q_960⟩
theorem mf_X2_pick : MFV yX2_pick cX2_pick 7 (some .int) 3 := ⟨⟨q_392, rfl, q_7, ⟨by decide +kernel, by decide +kernel⟩, by decide +kernel⟩, q_391, q_951⟩
theorem mf_X2_pickFromRow : MFV yX2_pickFromRow cX2_pickFromRow 6 (some .int) 3 := ⟨⟨q_404, rfl, q_7, ⟨by decide +kernel, by decide +kernel⟩, by decide +kernel⟩, q_403, q_952⟩
theorem mf_X2_pickNext : MFV yX2_pickNext cX2_pickNext 5 (some .int) 2 := ⟨⟨q_407, rfl, q_7, ⟨by decide +kernel, by decide +kernel⟩, by decide +kernel⟩, q_406, q_953⟩
theorem mf_X2_isAhead : MFV yX2_isAhead cX2_isAhead 4 (some .boolean) 3 := ⟨⟨q_411, rfl, q_7, ⟨by decide +kernel, by decide +kernel⟩, by decide +kernel⟩, q_410, q_954⟩
theorem mf_X2_copyFrom : MFV yX2_copyFrom cX2_copyFrom 2 none 1 := ⟨⟨q_615, rfl, q_7, ⟨by decide +kernel, by decide +kernel⟩, by decide +kernel⟩, q_614, q_981⟩
theorem mf_X3_read : MFV yX3_read cX3_read 3 (some .boolean) 1 := ⟨⟨q_241, rfl, q_11, ⟨by decide +kernel, by decide +kernel⟩, by decide +kernel⟩, q_240, q_923⟩
theorem mf_X3_readHead : MFV yX3_readHead cX3_readHead 1 (some .boolean) 0 := ⟨⟨q_253, rfl, q_11, ⟨by decide +kernel, by decide +kernel⟩, by decide +kernel⟩, q_252, q_926⟩
theorem mf_X3_readShun : MFV yX3_readShun cX3_readShun 1 (some .boolean) 0 := ⟨⟨q_259, rfl, q_11, ⟨by decide +kernel, by decide +kernel⟩, by decide +kernel⟩, q_258, q_928⟩
theorem mf_X3_readFine : MFV yX3_readFine cX3_readFine 1 (some .boolean) 0 := ⟨⟨q_320, rfl, q_11, ⟨by decide +kernel, by decide +kernel⟩, by decide +kernel⟩, q_319, q_934⟩
theorem mf_X3_readFewer : MFV yX3_readFewer cX3_readFewer 1 (some .boolean) 0 := ⟨⟨q_314, rfl, q_11, ⟨by decide +kernel, by decide +kernel⟩, by decide +kernel⟩, q_313, q_932⟩
theorem mf_X3_readLaw : MFV yX3_readLaw cX3_readLaw 1 (some .boolean) 0 := ⟨⟨q_323, rfl, q_11, ⟨by decide +kernel, by decide +kernel⟩, by decide +kernel⟩, q_322, q_935⟩
theorem mf_X3_readEither : MFV yX3_readEither cX3_readEither 5 (some .boolean) 1 := ⟨⟨q_326, rfl, q_11, ⟨by decide +kernel, by decide +kernel⟩, by decide +kernel⟩, q_325, q_936⟩
theorem mf_X3_readPart : MFV yX3_readPart cX3_readPart 3 (some .boolean) 1 := ⟨⟨q_329, rfl, q_11, ⟨by decide +kernel, by decide +kernel⟩, by decide +kernel⟩, q_328, q_937⟩
theorem mf_X3_readTest : MFV yX3_readTest cX3_readTest 3 (some .boolean) 0 := ⟨⟨q_332, rfl, q_11, ⟨by decide +kernel, by decide +kernel⟩, by decide +kernel⟩, q_331, q_938⟩
theorem mf_X3_factOf : MFV yX3_factOf cX3_factOf 2 (some .int) 1 := ⟨⟨q_335, rfl, q_11, ⟨by decide +kernel, by decide +kernel⟩, by decide +kernel⟩, q_334, q_939⟩
theorem mf_X3_readNumber : MFV yX3_readNumber cX3_readNumber 3 (some .boolean) 0 := ⟨⟨q_317, rfl, q_11, ⟨by decide +kernel, by decide +kernel⟩, by decide +kernel⟩, q_316, q_933⟩
theorem mf_X3_readWord : MFV yX3_readWord cX3_readWord 3 (some .boolean) 1 := ⟨⟨q_262, rfl, q_11, ⟨by decide +kernel, by decide +kernel⟩, by decide +kernel⟩, q_261, q_929⟩
theorem mf_X3_skip : MFV yX3_skip cX3_skip 2 (some .boolean) 1 := ⟨⟨q_308, rfl, q_11, ⟨by decide +kernel, by decide +kernel⟩, by decide +kernel⟩, q_307, q_930⟩
theorem mf_X4_add : MFV yX4_add cX4_add 3 (some .boolean) 2 := ⟨⟨q_528, rfl, q_9, ⟨by decide +kernel, by decide +kernel⟩, by decide +kernel⟩, q_527, q_970⟩
theorem mf_X4_copyFrom : MFV yX4_copyFrom cX4_copyFrom 3 none 1 := ⟨⟨q_620, rfl, q_9, ⟨by decide +kernel, by decide +kernel⟩, by decide +kernel⟩, q_619, q_982⟩
theorem mf_X5_copyFrom : MFV yX5_copyFrom cX5_copyFrom 2 none 1 := ⟨⟨q_610, rfl, q_4, ⟨by decide +kernel, by decide +kernel⟩, by decide +kernel⟩, q_609, q_980⟩
theorem mf_X6_add : MFV yX6_add cX6_add 2 (some .boolean) 1 := ⟨⟨q_234, rfl, q_5, ⟨by decide +kernel, by decide +kernel⟩, by decide +kernel⟩, q_233, q_922⟩
theorem mf_X6_at : MFV yX6_at cX6_at 2 (some .int) 1 := ⟨⟨q_256, rfl, q_5, ⟨by decide +kernel, by decide +kernel⟩, by decide +kernel⟩, q_255, q_927⟩
theorem mf_X6_copyFrom : MFV yX6_copyFrom cX6_copyFrom 2 none 1 := ⟨⟨q_244, rfl, q_5, ⟨by decide +kernel, by decide +kernel⟩, by decide +kernel⟩, q_243, q_924⟩
theorem mf_X7_setFacts : MFV yX7_setFacts cX7_setFacts 4 none 3 := ⟨⟨q_373, rfl, q_3, ⟨by decide +kernel, by decide +kernel⟩, by decide +kernel⟩, q_372, q_945⟩
theorem mf_X7_mayOf : MFV yX7_mayOf cX7_mayOf 5 (some .int) 2 := ⟨⟨q_386, rfl, q_3, ⟨by decide +kernel, by decide +kernel⟩, by decide +kernel⟩, q_385, q_949⟩
theorem mf_X7_fineOf : MFV yX7_fineOf cX7_fineOf 3 (some .int) 2 := ⟨⟨q_370, rfl, q_3, ⟨by decide +kernel, by decide +kernel⟩, by decide +kernel⟩, q_369, q_944⟩
theorem mf_X7_askedOf : MFV yX7_askedOf cX7_askedOf 5 (some .int) 2 := ⟨⟨q_389, rfl, q_3, ⟨by decide +kernel, by decide +kernel⟩, by decide +kernel⟩, q_388, q_950⟩
theorem mf_X7_goDay : MFV yX7_goDay cX7_goDay 12 (some .int) 4 := ⟨⟨q_443, rfl, q_3, ⟨by decide +kernel, by decide +kernel⟩, by decide +kernel⟩, q_442, q_958⟩
theorem mf_X7_hand : MFV yX7_hand cX7_hand 7 none 4 := ⟨⟨q_457, rfl, q_3, ⟨by decide +kernel, by decide +kernel⟩, by decide +kernel⟩, q_456, q_961⟩
theorem mf_X7_goOn : MFV yX7_goOn cX7_goOn 6 (some .int) 4 := ⟨⟨q_483, rfl, q_3, ⟨by decide +kernel, by decide +kernel⟩, by decide +kernel⟩, q_482, q_964⟩
theorem mf_X8_clear : MFV yX8_clear cX8_clear 1 none 0 := ⟨⟨q_250, rfl, q_6, ⟨by decide +kernel, by decide +kernel⟩, by decide +kernel⟩, q_249, q_925⟩
theorem mf_X8_addClause : MFV yX8_addClause cX8_addClause 3 none 2 := ⟨⟨q_311, rfl, q_6, ⟨by decide +kernel, by decide +kernel⟩, by decide +kernel⟩, q_310, q_931⟩
theorem mf_X8_addStep : MFV yX8_addStep cX8_addStep 4 none 3 := ⟨⟨q_338, rfl, q_6, ⟨by decide +kernel, by decide +kernel⟩, by decide +kernel⟩, q_337, q_940⟩
theorem mf_X8_weigh : MFV yX8_weigh cX8_weigh 5 (some .int) 2 := ⟨⟨q_377, rfl, q_6, ⟨by decide +kernel, by decide +kernel⟩, by decide +kernel⟩, q_376, q_946⟩
theorem mf_X8_holds : MFV yX8_holds cX8_holds 7 (some .boolean) 2 := ⟨⟨q_380, rfl, q_6, ⟨by decide +kernel, by decide +kernel⟩, by decide +kernel⟩, q_379, q_947⟩
theorem mf_X8_sumOf : MFV yX8_sumOf cX8_sumOf 5 (some .long) 1 := ⟨⟨q_467, rfl, q_6, ⟨by decide +kernel, by decide +kernel⟩, by decide +kernel⟩, q_466, q_962⟩
theorem mf_X8_copyFrom : MFV yX8_copyFrom cX8_copyFrom 2 none 1 := ⟨⟨q_341, rfl, q_6, ⟨by decide +kernel, by decide +kernel⟩, by decide +kernel⟩, q_340, q_941⟩
theorem mf_X9_startWith : MFV yX9_startWith cX9_startWith 4 none 3 := ⟨⟨q_436, rfl, q_8, ⟨by decide +kernel, by decide +kernel⟩, by decide +kernel⟩, q_435, q_957⟩
theorem mf_X9_yetToTell : MFV yX9_yetToTell cX9_yetToTell 1 (some .int) 0 := ⟨⟨q_446, rfl, q_8, ⟨by decide +kernel, by decide +kernel⟩, by decide +kernel⟩, q_445, q_959⟩
theorem mf_X9_copyFrom : MFV yX9_copyFrom cX9_copyFrom 2 none 1 := ⟨⟨q_479, rfl, q_8, ⟨by decide +kernel, by decide +kernel⟩, by decide +kernel⟩, q_478, q_963⟩
theorem mf_X10_feed : MFV yX10_feed cX10_feed 2 (some .int) 1 := ⟨⟨q_231, rfl, q_1, ⟨by decide +kernel, by decide +kernel⟩, by decide +kernel⟩, q_229, q_230⟩
theorem mf_X10_town : MFV yX10_town cX10_town 2 (some .int) 0 := ⟨⟨q_238, rfl, q_1, ⟨by decide +kernel, by decide +kernel⟩, by decide +kernel⟩, q_236, q_237⟩
theorem mf_X10_person : MFV yX10_person cX10_person 3 (some .int) 2 := ⟨⟨q_347, rfl, q_1, ⟨by decide +kernel, by decide +kernel⟩, by decide +kernel⟩, q_345, q_346⟩
theorem mf_X10_of : MFV yX10_of cX10_of 4 (some .int) 2 := ⟨⟨q_360, rfl, q_1, ⟨by decide +kernel, by decide +kernel⟩, by decide +kernel⟩, q_358, q_359⟩
theorem mf_X10_ofTeller : MFV yX10_ofTeller cX10_ofTeller 5 (some .int) 3 := ⟨⟨q_383, rfl, q_1, ⟨by decide +kernel, by decide +kernel⟩, by decide +kernel⟩, q_382, q_948⟩
theorem mf_X10_know : MFV yX10_know cX10_know 5 (some .int) 3 := ⟨⟨q_415, rfl, q_1, ⟨by decide +kernel, by decide +kernel⟩, by decide +kernel⟩, q_413, q_414⟩
theorem mf_X10_row : MFV yX10_row cX10_row 4 (some .int) 2 := ⟨⟨q_422, rfl, q_1, ⟨by decide +kernel, by decide +kernel⟩, by decide +kernel⟩, q_420, q_421⟩
theorem mf_X10_told : MFV yX10_told cX10_told 2 (some .int) 1 := ⟨⟨q_429, rfl, q_1, ⟨by decide +kernel, by decide +kernel⟩, by decide +kernel⟩, q_427, q_428⟩
theorem mf_X10_begin : MFV yX10_begin cX10_begin 3 (some .int) 2 := ⟨⟨q_433, rfl, q_1, ⟨by decide +kernel, by decide +kernel⟩, by decide +kernel⟩, q_431, q_432⟩
theorem mf_X10_day : MFV yX10_day cX10_day 1 (some .int) 0 := ⟨⟨q_440, rfl, q_1, ⟨by decide +kernel, by decide +kernel⟩, by decide +kernel⟩, q_438, q_439⟩
theorem mf_X10_sum : MFV yX10_sum cX10_sum 2 (some .long) 1 := ⟨⟨q_463, rfl, q_1, ⟨by decide +kernel, by decide +kernel⟩, by decide +kernel⟩, q_461, q_462⟩
theorem mf_X10_enough : MFV yX10_enough cX10_enough 3 (some .int) 1 := ⟨⟨q_471, rfl, q_1, ⟨by decide +kernel, by decide +kernel⟩, by decide +kernel⟩, q_469, q_470⟩
theorem mf_X10_end : MFV yX10_end cX10_end 4 (some .int) 1 := ⟨⟨q_476, rfl, q_1, ⟨by decide +kernel, by decide +kernel⟩, by decide +kernel⟩, q_474, q_475⟩
theorem mf_X10_best : MFV yX10_best cX10_best 3 (some .int) 2 := ⟨⟨q_492, rfl, q_1, ⟨by decide +kernel, by decide +kernel⟩, by decide +kernel⟩, q_490, q_491⟩
theorem mf_X10_choice : MFV yX10_choice cX10_choice 3 (some .int) 2 := ⟨⟨q_502, rfl, q_1, ⟨by decide +kernel, by decide +kernel⟩, by decide +kernel⟩, q_500, q_501⟩
theorem mf_X10_reach : MFV yX10_reach cX10_reach 3 (some .int) 2 := ⟨⟨q_517, rfl, q_1, ⟨by decide +kernel, by decide +kernel⟩, by decide +kernel⟩, q_515, q_516⟩
theorem mf_X10_see : MFV yX10_see cX10_see 3 (some .int) 2 := ⟨⟨q_525, rfl, q_1, ⟨by decide +kernel, by decide +kernel⟩, by decide +kernel⟩, q_523, q_524⟩
theorem mf_X10_began : MFV yX10_began cX10_began 2 (some .int) 1 := ⟨⟨q_532, rfl, q_1, ⟨by decide +kernel, by decide +kernel⟩, by decide +kernel⟩, q_530, q_531⟩
theorem mf_X10_stops : MFV yX10_stops cX10_stops 4 (some .int) 1 := ⟨⟨q_543, rfl, q_1, ⟨by decide +kernel, by decide +kernel⟩, by decide +kernel⟩, q_541, q_542⟩
theorem mf_X10_odds : MFV yX10_odds cX10_odds 4 (some .long) 3 := ⟨⟨q_547, rfl, q_1, ⟨by decide +kernel, by decide +kernel⟩, by decide +kernel⟩, q_545, q_546⟩
theorem mf_X10_mean : MFV yX10_mean cX10_mean 3 (some .long) 2 := ⟨⟨q_557, rfl, q_1, ⟨by decide +kernel, by decide +kernel⟩, by decide +kernel⟩, q_555, q_556⟩
theorem mf_X10_book : MFV yX10_book cX10_book 3 (some .int) 2 := ⟨⟨q_564, rfl, q_1, ⟨by decide +kernel, by decide +kernel⟩, by decide +kernel⟩, q_562, q_563⟩
theorem mf_X10_looked : MFV yX10_looked cX10_looked 4 (some .int) 0 := ⟨⟨q_568, rfl, q_1, ⟨by decide +kernel, by decide +kernel⟩, by decide +kernel⟩, q_566, q_567⟩
theorem mf_X10_act : MFV yX10_act cX10_act 4 (some .int) 3 := ⟨⟨q_572, rfl, q_1, ⟨by decide +kernel, by decide +kernel⟩, by decide +kernel⟩, q_570, q_571⟩
theorem mf_X10_trace : MFV yX10_trace cX10_trace 2 (some .int) 1 := ⟨⟨q_597, rfl, q_1, ⟨by decide +kernel, by decide +kernel⟩, by decide +kernel⟩, q_595, q_596⟩
theorem mf_X10_as : MFV yX10_as cX10_as 3 (some .int) 2 := ⟨⟨q_602, rfl, q_1, ⟨by decide +kernel, by decide +kernel⟩, by decide +kernel⟩, q_600, q_601⟩
theorem mf_X10_image : MFV yX10_image cX10_image 1 (some .int) 0 := ⟨⟨q_607, rfl, q_1, ⟨by decide +kernel, by decide +kernel⟩, by decide +kernel⟩, q_605, q_606⟩
theorem mf_X10_undo : MFV yX10_undo cX10_undo 1 (some .int) 0 := ⟨⟨q_625, rfl, q_1, ⟨by decide +kernel, by decide +kernel⟩, by decide +kernel⟩, q_623, q_624⟩
theorem mf_X10_count : MFV yX10_count cX10_count 2 (some .int) 1 := ⟨⟨q_629, rfl, q_1, ⟨by decide +kernel, by decide +kernel⟩, by decide +kernel⟩, q_627, q_628⟩
theorem mf_X10_isIn : MFS yX10_isIn cX10_isIn 2 (some .boolean) 2 := ⟨⟨q_350, rfl, q_1, ⟨by decide +kernel, by decide +kernel⟩, by decide +kernel⟩, q_349⟩
theorem mf_X10_isNumber : MFS yX10_isNumber cX10_isNumber 1 (some .boolean) 1 := ⟨⟨q_353, rfl, q_1, ⟨by decide +kernel, by decide +kernel⟩, by decide +kernel⟩, q_352⟩
theorem mf_X10_hasBit : MFS yX10_hasBit cX10_hasBit 2 (some .boolean) 2 := ⟨⟨q_367, rfl, q_1, ⟨by decide +kernel, by decide +kernel⟩, by decide +kernel⟩, q_366⟩
theorem mf_X10_isUnder : MFS yX10_isUnder cX10_isUnder 4 (some .boolean) 2 := ⟨⟨q_581, rfl, q_1, ⟨by decide +kernel, by decide +kernel⟩, by decide +kernel⟩, q_580⟩
theorem mf_X10_partOf : MFS yX10_partOf cX10_partOf 12 (some .long) 3 := ⟨⟨q_553, rfl, q_1, ⟨by decide +kernel, by decide +kernel⟩, by decide +kernel⟩, q_552⟩
theorem mf_X11_in : MFS yX11_in cX11_in 3 (some .boolean) 3 := ⟨⟨q_669, rfl, q_13, ⟨by decide +kernel, by decide +kernel⟩, by decide +kernel⟩, q_668⟩
theorem mf_X11_isPerson : MFV yX11_isPerson cX11_isPerson 2 (some .boolean) 1 := ⟨⟨q_722, rfl, q_13, ⟨by decide +kernel, by decide +kernel⟩, by decide +kernel⟩, q_721, q_995⟩
theorem mf_X11_keeps : MFV yX11_keeps cX11_keeps 2 none 0 := ⟨⟨q_813, rfl, q_13, ⟨by decide +kernel, by decide +kernel⟩, by decide +kernel⟩, q_812, q_1013⟩
theorem mf_X11_goesBack : MFV yX11_goesBack cX11_goesBack 2 none 0 := ⟨⟨q_819, rfl, q_13, ⟨by decide +kernel, by decide +kernel⟩, by decide +kernel⟩, q_818, q_1015⟩
theorem mf_X11_count1 : MFS yX11_count1 cX11_count1 3 (some .int) 1 := ⟨⟨q_749, rfl, q_13, ⟨by decide +kernel, by decide +kernel⟩, by decide +kernel⟩, q_748⟩
theorem mf_X11_feed : MFV yX11_feed cX11_feed 2 (some .int) 1 := ⟨⟨q_666, rfl, q_13, ⟨by decide +kernel, by decide +kernel⟩, by decide +kernel⟩, q_664, q_665⟩
theorem mf_X11_here : MFV yX11_here cX11_here 1 (some .int) 0 := ⟨⟨q_679, rfl, q_13, ⟨by decide +kernel, by decide +kernel⟩, by decide +kernel⟩, q_678, q_984⟩
theorem mf_X11_must : MFV yX11_must cX11_must 2 none 1 := ⟨⟨q_687, rfl, q_13, ⟨by decide +kernel, by decide +kernel⟩, by decide +kernel⟩, q_686, q_986⟩
theorem mf_X11_spells : MFV yX11_spells cX11_spells 3 none 1 := ⟨⟨q_682, rfl, q_13, ⟨by decide +kernel, by decide +kernel⟩, by decide +kernel⟩, q_681, q_985⟩
theorem mf_X11_figures : MFV yX11_figures cX11_figures 3 (some .int) 0 := ⟨⟨q_705, rfl, q_13, ⟨by decide +kernel, by decide +kernel⟩, by decide +kernel⟩, q_704, q_992⟩
theorem mf_X11_among : MFV yX11_among cX11_among 3 (some .int) 1 := ⟨⟨q_702, rfl, q_13, ⟨by decide +kernel, by decide +kernel⟩, by decide +kernel⟩, q_701, q_991⟩
theorem mf_X11_emits : MFV yX11_emits cX11_emits 2 none 1 := ⟨⟨q_699, rfl, q_13, ⟨by decide +kernel, by decide +kernel⟩, by decide +kernel⟩, q_698, q_990⟩
theorem mf_X11_factor : MFV yX11_factor cX11_factor 5 none 0 := ⟨⟨q_696, rfl, q_13, ⟨by decide +kernel, by decide +kernel⟩, by decide +kernel⟩, q_695, q_989⟩
theorem mf_X11_every : MFV yX11_every cX11_every 1 none 0 := ⟨⟨q_693, rfl, q_13, ⟨by decide +kernel, by decide +kernel⟩, by decide +kernel⟩, q_692, q_988⟩
theorem mf_X11_some : MFV yX11_some cX11_some 1 none 0 := ⟨⟨q_690, rfl, q_13, ⟨by decide +kernel, by decide +kernel⟩, by decide +kernel⟩, q_689, q_987⟩
theorem mf_X11_tellsHere : MFV yX11_tellsHere cX11_tellsHere 4 none 2 := ⟨⟨q_711, rfl, q_13, ⟨by decide +kernel, by decide +kernel⟩, by decide +kernel⟩, q_710, q_994⟩
theorem mf_X11_clauseOfF : MFV yX11_clauseOfF cX11_clauseOfF 2 none 0 := ⟨⟨q_708, rfl, q_13, ⟨by decide +kernel, by decide +kernel⟩, by decide +kernel⟩, q_707, q_993⟩
theorem mf_X11_clauseHere : MFV yX11_clauseHere cX11_clauseHere 1 none 0 := ⟨⟨q_676, rfl, q_13, ⟨by decide +kernel, by decide +kernel⟩, by decide +kernel⟩, q_675, q_983⟩
theorem mf_X11_town : MFV yX11_town cX11_town 2 (some .int) 0 := ⟨⟨q_673, rfl, q_13, ⟨by decide +kernel, by decide +kernel⟩, by decide +kernel⟩, q_671, q_672⟩
theorem mf_X11_tellsOf : MFV yX11_tellsOf cX11_tellsOf 3 (some .int) 2 := ⟨⟨q_737, rfl, q_13, ⟨by decide +kernel, by decide +kernel⟩, by decide +kernel⟩, q_736, q_1000⟩
theorem mf_X11_looks : MFV yX11_looks cX11_looks 11 none 2 := ⟨⟨q_734, rfl, q_13, ⟨by decide +kernel, by decide +kernel⟩, by decide +kernel⟩, q_733, q_999⟩
theorem mf_X11_fineOf : MFV yX11_fineOf cX11_fineOf 2 (some .int) 1 := ⟨⟨q_752, rfl, q_13, ⟨by decide +kernel, by decide +kernel⟩, by decide +kernel⟩, q_751, q_1004⟩
theorem mf_X11_person : MFV yX11_person cX11_person 4 (some .int) 2 := ⟨⟨q_715, rfl, q_13, ⟨by decide +kernel, by decide +kernel⟩, by decide +kernel⟩, q_713, q_714⟩
theorem mf_X11_hasHeard : MFV yX11_hasHeard cX11_hasHeard 2 (some .boolean) 1 := ⟨⟨q_725, rfl, q_13, ⟨by decide +kernel, by decide +kernel⟩, by decide +kernel⟩, q_724, q_996⟩
theorem mf_X11_hasTold : MFV yX11_hasTold cX11_hasTold 2 (some .boolean) 1 := ⟨⟨q_728, rfl, q_13, ⟨by decide +kernel, by decide +kernel⟩, by decide +kernel⟩, q_727, q_997⟩
theorem mf_X11_mayOf : MFV yX11_mayOf cX11_mayOf 4 (some .int) 1 := ⟨⟨q_731, rfl, q_13, ⟨by decide +kernel, by decide +kernel⟩, by decide +kernel⟩, q_730, q_998⟩
theorem mf_X11_askedOf : MFV yX11_askedOf cX11_askedOf 5 (some .int) 1 := ⟨⟨q_740, rfl, q_13, ⟨by decide +kernel, by decide +kernel⟩, by decide +kernel⟩, q_739, q_1001⟩
theorem mf_X11_firstOf : MFV yX11_firstOf cX11_firstOf 7 (some .int) 2 := ⟨⟨q_746, rfl, q_13, ⟨by decide +kernel, by decide +kernel⟩, by decide +kernel⟩, q_745, q_1003⟩
theorem mf_X11_choiceOf : MFV yX11_choiceOf cX11_choiceOf 6 (some .int) 1 := ⟨⟨q_743, rfl, q_13, ⟨by decide +kernel, by decide +kernel⟩, by decide +kernel⟩, q_742, q_1002⟩
theorem mf_X11_of : MFV yX11_of cX11_of 4 (some .int) 2 := ⟨⟨q_719, rfl, q_13, ⟨by decide +kernel, by decide +kernel⟩, by decide +kernel⟩, q_717, q_718⟩
theorem mf_X11_know : MFV yX11_know cX11_know 5 (some .int) 3 := ⟨⟨q_756, rfl, q_13, ⟨by decide +kernel, by decide +kernel⟩, by decide +kernel⟩, q_754, q_755⟩
theorem mf_X11_row : MFV yX11_row cX11_row 3 (some .int) 2 := ⟨⟨q_760, rfl, q_13, ⟨by decide +kernel, by decide +kernel⟩, by decide +kernel⟩, q_758, q_759⟩
theorem mf_X11_told : MFV yX11_told cX11_told 2 (some .int) 1 := ⟨⟨q_764, rfl, q_13, ⟨by decide +kernel, by decide +kernel⟩, by decide +kernel⟩, q_762, q_763⟩
theorem mf_X11_begins : MFV yX11_begins cX11_begins 3 none 2 := ⟨⟨q_771, rfl, q_13, ⟨by decide +kernel, by decide +kernel⟩, by decide +kernel⟩, q_770, q_1005⟩
theorem mf_X11_begin : MFV yX11_begin cX11_begin 3 (some .int) 2 := ⟨⟨q_768, rfl, q_13, ⟨by decide +kernel, by decide +kernel⟩, by decide +kernel⟩, q_766, q_767⟩
theorem mf_X11_isToTell : MFV yX11_isToTell cX11_isToTell 2 (some .boolean) 1 := ⟨⟨q_784, rfl, q_13, ⟨by decide +kernel, by decide +kernel⟩, by decide +kernel⟩, q_783, q_1008⟩
theorem mf_X11_isDeaf : MFV yX11_isDeaf cX11_isDeaf 2 (some .boolean) 1 := ⟨⟨q_787, rfl, q_13, ⟨by decide +kernel, by decide +kernel⟩, by decide +kernel⟩, q_786, q_1009⟩
theorem mf_X11_chooses : MFV yX11_chooses cX11_chooses 3 none 0 := ⟨⟨q_781, rfl, q_13, ⟨by decide +kernel, by decide +kernel⟩, by decide +kernel⟩, q_780, q_1007⟩
theorem mf_X11_lessOne : MFV yX11_lessOne cX11_lessOne 3 (some .int) 1 := ⟨⟨q_793, rfl, q_13, ⟨by decide +kernel, by decide +kernel⟩, by decide +kernel⟩, q_792, q_1011⟩
theorem mf_X11_numberFor : MFV yX11_numberFor cX11_numberFor 6 (some .int) 1 := ⟨⟨q_790, rfl, q_13, ⟨by decide +kernel, by decide +kernel⟩, by decide +kernel⟩, q_789, q_1010⟩
theorem mf_X11_goes : MFV yX11_goes cX11_goes 3 (some .int) 0 := ⟨⟨q_778, rfl, q_13, ⟨by decide +kernel, by decide +kernel⟩, by decide +kernel⟩, q_777, q_1006⟩
theorem mf_X11_day : MFV yX11_day cX11_day 1 (some .int) 0 := ⟨⟨q_775, rfl, q_13, ⟨by decide +kernel, by decide +kernel⟩, by decide +kernel⟩, q_773, q_774⟩
theorem mf_X11_sumOf : MFV yX11_sumOf cX11_sumOf 7 (some .long) 1 := ⟨⟨q_800, rfl, q_13, ⟨by decide +kernel, by decide +kernel⟩, by decide +kernel⟩, q_799, q_1012⟩
theorem mf_X11_sum : MFV yX11_sum cX11_sum 2 (some .long) 1 := ⟨⟨q_797, rfl, q_13, ⟨by decide +kernel, by decide +kernel⟩, by decide +kernel⟩, q_795, q_796⟩
theorem mf_X11_enough : MFV yX11_enough cX11_enough 3 (some .int) 1 := ⟨⟨q_805, rfl, q_13, ⟨by decide +kernel, by decide +kernel⟩, by decide +kernel⟩, q_803, q_804⟩
theorem mf_X11_ends : MFV yX11_ends cX11_ends 2 (some .int) 0 := ⟨⟨q_816, rfl, q_13, ⟨by decide +kernel, by decide +kernel⟩, by decide +kernel⟩, q_815, q_1014⟩
theorem mf_X11_end : MFV yX11_end cX11_end 5 (some .int) 1 := ⟨⟨q_810, rfl, q_13, ⟨by decide +kernel, by decide +kernel⟩, by decide +kernel⟩, q_808, q_809⟩
theorem mf_X11_best : MFV yX11_best cX11_best 9 (some .int) 2 := ⟨⟨q_823, rfl, q_13, ⟨by decide +kernel, by decide +kernel⟩, by decide +kernel⟩, q_821, q_822⟩
theorem mf_X11_triesSets : MFV yX11_triesSets cX11_triesSets 8 none 2 := ⟨⟨q_830, rfl, q_13, ⟨by decide +kernel, by decide +kernel⟩, by decide +kernel⟩, q_829, q_1016⟩
theorem mf_X11_choice : MFV yX11_choice cX11_choice 3 (some .int) 2 := ⟨⟨q_827, rfl, q_13, ⟨by decide +kernel, by decide +kernel⟩, by decide +kernel⟩, q_825, q_826⟩
theorem mf_X11_reach : MFV yX11_reach cX11_reach 3 (some .int) 2 := ⟨⟨q_834, rfl, q_13, ⟨by decide +kernel, by decide +kernel⟩, by decide +kernel⟩, q_832, q_833⟩
theorem mf_X11_see : MFV yX11_see cX11_see 3 (some .int) 2 := ⟨⟨q_838, rfl, q_13, ⟨by decide +kernel, by decide +kernel⟩, by decide +kernel⟩, q_836, q_837⟩
theorem mf_X11_isAsSeen : MFV yX11_isAsSeen cX11_isAsSeen 4 (some .boolean) 0 := ⟨⟨q_845, rfl, q_13, ⟨by decide +kernel, by decide +kernel⟩, by decide +kernel⟩, q_844, q_1017⟩
theorem mf_X11_began : MFV yX11_began cX11_began 6 (some .int) 1 := ⟨⟨q_842, rfl, q_13, ⟨by decide +kernel, by decide +kernel⟩, by decide +kernel⟩, q_840, q_841⟩
theorem mf_X11_othersHeard : MFV yX11_othersHeard cX11_othersHeard 3 (some .int) 1 := ⟨⟨q_852, rfl, q_13, ⟨by decide +kernel, by decide +kernel⟩, by decide +kernel⟩, q_851, q_1018⟩
theorem mf_X11_stops : MFV yX11_stops cX11_stops 4 (some .int) 1 := ⟨⟨q_849, rfl, q_13, ⟨by decide +kernel, by decide +kernel⟩, by decide +kernel⟩, q_847, q_848⟩
theorem mf_X11_lowest : MFS yX11_lowest cX11_lowest 11 (some .long) 3 := ⟨⟨q_859, rfl, q_13, ⟨by decide +kernel, by decide +kernel⟩, by decide +kernel⟩, q_858⟩
theorem mf_X11_odds : MFV yX11_odds cX11_odds 7 (some .long) 3 := ⟨⟨q_856, rfl, q_13, ⟨by decide +kernel, by decide +kernel⟩, by decide +kernel⟩, q_854, q_855⟩
theorem mf_X11_mean : MFV yX11_mean cX11_mean 6 (some .long) 2 := ⟨⟨q_863, rfl, q_13, ⟨by decide +kernel, by decide +kernel⟩, by decide +kernel⟩, q_861, q_862⟩
theorem mf_X11_book : MFV yX11_book cX11_book 3 (some .int) 2 := ⟨⟨q_867, rfl, q_13, ⟨by decide +kernel, by decide +kernel⟩, by decide +kernel⟩, q_865, q_866⟩
theorem mf_X11_looked : MFV yX11_looked cX11_looked 3 (some .int) 0 := ⟨⟨q_871, rfl, q_13, ⟨by decide +kernel, by decide +kernel⟩, by decide +kernel⟩, q_869, q_870⟩
theorem mf_X11_ranBody : MFV yX11_ranBody cX11_ranBody 2 none 1 := ⟨⟨q_884, rfl, q_13, ⟨by decide +kernel, by decide +kernel⟩, by decide +kernel⟩, q_883, q_1020⟩
theorem mf_X11_isUnder : MFS yX11_isUnder cX11_isUnder 2 (some .boolean) 2 := ⟨⟨q_881, rfl, q_13, ⟨by decide +kernel, by decide +kernel⟩, by decide +kernel⟩, q_880⟩
theorem mf_X11_plainHears : MFV yX11_plainHears cX11_plainHears 2 (some .int) 1 := ⟨⟨q_887, rfl, q_13, ⟨by decide +kernel, by decide +kernel⟩, by decide +kernel⟩, q_886, q_1021⟩
theorem mf_X11_hearsActs : MFV yX11_hearsActs cX11_hearsActs 2 (some .int) 1 := ⟨⟨q_878, rfl, q_13, ⟨by decide +kernel, by decide +kernel⟩, by decide +kernel⟩, q_877, q_1019⟩
theorem mf_X11_plainTells : MFV yX11_plainTells cX11_plainTells 2 (some .int) 1 := ⟨⟨q_893, rfl, q_13, ⟨by decide +kernel, by decide +kernel⟩, by decide +kernel⟩, q_892, q_1023⟩
theorem mf_X11_tellsActs : MFV yX11_tellsActs cX11_tellsActs 2 (some .int) 1 := ⟨⟨q_890, rfl, q_13, ⟨by decide +kernel, by decide +kernel⟩, by decide +kernel⟩, q_889, q_1022⟩
theorem mf_X11_plainPays : MFV yX11_plainPays cX11_plainPays 2 (some .int) 1 := ⟨⟨q_899, rfl, q_13, ⟨by decide +kernel, by decide +kernel⟩, by decide +kernel⟩, q_898, q_1025⟩
theorem mf_X11_paysActs : MFV yX11_paysActs cX11_paysActs 3 (some .int) 1 := ⟨⟨q_896, rfl, q_13, ⟨by decide +kernel, by decide +kernel⟩, by decide +kernel⟩, q_895, q_1024⟩
theorem mf_X11_act : MFV yX11_act cX11_act 4 (some .int) 3 := ⟨⟨q_875, rfl, q_13, ⟨by decide +kernel, by decide +kernel⟩, by decide +kernel⟩, q_873, q_874⟩
theorem mf_X11_trace : MFV yX11_trace cX11_trace 2 (some .int) 1 := ⟨⟨q_903, rfl, q_13, ⟨by decide +kernel, by decide +kernel⟩, by decide +kernel⟩, q_901, q_902⟩
theorem mf_X11_as : MFV yX11_as cX11_as 3 (some .int) 2 := ⟨⟨q_907, rfl, q_13, ⟨by decide +kernel, by decide +kernel⟩, by decide +kernel⟩, q_905, q_906⟩
theorem mf_X11_image : MFV yX11_image cX11_image 2 (some .int) 0 := ⟨⟨q_911, rfl, q_13, ⟨by decide +kernel, by decide +kernel⟩, by decide +kernel⟩, q_909, q_910⟩
theorem mf_X11_undo : MFV yX11_undo cX11_undo 2 (some .int) 0 := ⟨⟨q_915, rfl, q_13, ⟨by decide +kernel, by decide +kernel⟩, by decide +kernel⟩, q_913, q_914⟩
theorem mf_X11_count : MFV yX11_count cX11_count 2 (some .int) 1 := ⟨⟨q_919, rfl, q_13, ⟨by decide +kernel, by decide +kernel⟩, by decide +kernel⟩, q_917, q_918⟩
theorem mf_J6_bitCount_0f7a4 : MFS yJ6_bitCount_0f7a4 cJ6_bitCount_0f7a4 1 (some .int) 1 := ⟨⟨q_395, rfl, q_19, ⟨by decide +kernel, by decide +kernel⟩, by decide +kernel⟩, q_394⟩
theorem mf_J9_max_7cf53 : MFS yJ9_max_7cf53 cJ9_max_7cf53 2 (some .int) 2 := ⟨⟨q_136, rfl, q_10, ⟨by decide +kernel, by decide +kernel⟩, by decide +kernel⟩, q_135⟩
theorem mf_J9_min_7cf53 : MFS yJ9_min_7cf53 cJ9_min_7cf53 2 (some .int) 2 := ⟨⟨q_401, rfl, q_10, ⟨by decide +kernel, by decide +kernel⟩, by decide +kernel⟩, q_400⟩
theorem mf_J0_length_8abf5 : MFV yJ0_length_8abf5 cJ0_length_8abf5 1 (some .int) 0 := ⟨⟨q_266, rfl, q_15, ⟨by decide +kernel, by decide +kernel⟩, by decide +kernel⟩, q_264, q_265⟩
theorem mf_J0_charAt_5068e : MFV yJ0_charAt_5068e cJ0_charAt_5068e 2 (some .char) 1 := ⟨⟨q_275, rfl, q_15, ⟨by decide +kernel, by decide +kernel⟩, by decide +kernel⟩, q_273, q_274⟩
theorem mf_J0_coder_7d493 : MFV yJ0_coder_7d493 cJ0_coder_7d493 1 (some .byte) 0 := ⟨⟨q_270, rfl, q_15, ⟨by decide +kernel, by decide +kernel⟩, by decide +kernel⟩, q_268, q_269⟩
theorem mf_J0_isLatin1_aae02 : MFV yJ0_isLatin1_aae02 cJ0_isLatin1_aae02 1 (some .boolean) 0 := ⟨⟨q_279, rfl, q_15, ⟨by decide +kernel, by decide +kernel⟩, by decide +kernel⟩, q_277, q_278⟩
theorem mf_J0_checkIndex_df160 : MFS yJ0_checkIndex_df160 cJ0_checkIndex_df160 2 none 2 := ⟨⟨q_285, rfl, q_15, ⟨by decide +kernel, by decide +kernel⟩, by decide +kernel⟩, q_284⟩
theorem mf_J1_charAt_3b067 : MFS yJ1_charAt_3b067 cJ1_charAt_3b067 2 (some .char) 2 := ⟨⟨q_282, rfl, q_16, ⟨by decide +kernel, by decide +kernel⟩, by decide +kernel⟩, q_281⟩
theorem mf_J2_getChar_3b067 : MFS yJ2_getChar_3b067 cJ2_getChar_3b067 2 (some .char) 2 := ⟨⟨q_302, rfl, q_18, ⟨by decide +kernel, by decide +kernel⟩, by decide +kernel⟩, q_301⟩
theorem mf_J2_length_9d52b : MFS yJ2_length_9d52b cJ2_length_9d52b 1 (some .int) 1 := ⟨⟨q_298, rfl, q_18, ⟨by decide +kernel, by decide +kernel⟩, by decide +kernel⟩, q_297⟩
theorem mf_J2_charAt_3b067 : MFS yJ2_charAt_3b067 cJ2_charAt_3b067 2 (some .char) 2 := ⟨⟨q_292, rfl, q_18, ⟨by decide +kernel, by decide +kernel⟩, by decide +kernel⟩, q_291⟩
theorem mf_J2_checkIndex_2214a : MFS yJ2_checkIndex_2214a cJ2_checkIndex_2214a 2 none 2 := ⟨⟨q_295, rfl, q_18, ⟨by decide +kernel, by decide +kernel⟩, by decide +kernel⟩, q_294⟩
theorem mf_J3_checkIndex_8e157 : MFS yJ3_checkIndex_8e157 cJ3_checkIndex_8e157 3 (some .int) 3 := ⟨⟨q_289, rfl, q_17, ⟨by decide +kernel, by decide +kernel⟩, by decide +kernel⟩, q_288⟩
