/-! THE CHECKS RUN, method by method (wip/p42/gen/ck.py) -/
theorem ckX0_init : pgX0_init.all (z_eck 0) = true := by decide +kernel
theorem ckX0_clear : pgX0_clear.all (z_eck 1) = true := by decide +kernel
theorem ckX0_hasPart : pgX0_hasPart.all (z_eck 2) = true := by decide +kernel
theorem ckX0_hasReader : pgX0_hasReader.all (z_eck 3) = true := by decide +kernel
theorem ckX0_addPart : pgX0_addPart.all (z_eck 8) = true := by decide +kernel
theorem ckX0_addReader : pgX0_addReader.all (z_eck 9) = true := by decide +kernel
theorem ckX0_addWant : pgX0_addWant.all (z_eck 10) = true := by decide +kernel
theorem ckX0_forbid : pgX0_forbid.all (z_eck 11) = true := by decide +kernel
theorem ckX0_cover : pgX0_cover.all (z_eck 12) = true := by decide +kernel
theorem ckX0_wantOf : pgX0_wantOf.all (z_eck 13) = true := by decide +kernel
theorem ckX0_worthAt : pgX0_worthAt.all (z_eck 14) = true := by decide +kernel
theorem ckX0_coveredFrom : pgX0_coveredFrom.all (z_eck 15) = true := by decide +kernel
theorem ckX0_comesAfter : pgX0_comesAfter.all (z_eck 16) = true := by decide +kernel
theorem ckX0_latestBegin : pgX0_latestBegin.all (z_eck 17) = true := by decide +kernel
theorem ckX1_init : pgX1_init.all (z_eck 18) = true := by decide +kernel
theorem ckX1_take : pgX1_take.all (z_eck 19) = true := by decide +kernel
theorem ckX1_look : pgX1_look.all (z_eck 20) = true := by decide +kernel
theorem ckX1_takeSign : pgX1_takeSign.all (z_eck 21) = true := by decide +kernel
theorem ckX1_figure : pgX1_figure.all (z_eck 22) = true := by decide +kernel
theorem ckX1_takeFigure : pgX1_takeFigure.all (z_eck 23) = true := by decide +kernel
theorem ckX1_takeMinute : pgX1_takeMinute.all (z_eck 24) = true := by decide +kernel
theorem ckX1_takeLast : pgX1_takeLast.all (z_eck 25) = true := by decide +kernel
theorem ckX1_takePart : pgX1_takePart.all (z_eck 26) = true := by decide +kernel
theorem ckX1_takeReader : pgX1_takeReader.all (z_eck 27) = true := by decide +kernel
theorem ckX1_takeWant : pgX1_takeWant.all (z_eck 28) = true := by decide +kernel
theorem ckX1_takeNot : pgX1_takeNot.all (z_eck 29) = true := by decide +kernel
theorem ckX1_takeCushion : pgX1_takeCushion.all (z_eck 30) = true := by decide +kernel
theorem ckX2_init : pgX2_init.all (z_eck 31) = true := by decide +kernel
theorem ckX2_clear : pgX2_clear.all (z_eck 32) = true := by decide +kernel
theorem ckX2_become : pgX2_become.all (z_eck 33) = true := by decide +kernel
theorem ckX2_isBegunAhead : pgX2_isBegunAhead.all (z_eck 34) = true := by decide +kernel
theorem ckX2_begunAhead : pgX2_begunAhead.all (z_eck 35) = true := by decide +kernel
theorem ckX2_isReadIn : pgX2_isReadIn.all (z_eck 36) = true := by decide +kernel
theorem ckX2_lossOf : pgX2_lossOf.all (z_eck 37) = true := by decide +kernel
theorem ckX2_lossOfAll : pgX2_lossOfAll.all (z_eck 38) = true := by decide +kernel
theorem ckX2_lossBy : pgX2_lossBy.all (z_eck 39) = true := by decide +kernel
theorem ckX2_firstWrong : pgX2_firstWrong.all (z_eck 40) = true := by decide +kernel
theorem ckX2_firstWrongOf : pgX2_firstWrongOf.all (z_eck 41) = true := by decide +kernel
theorem ckX2_isCrowded : pgX2_isCrowded.all (z_eck 42) = true := by decide +kernel
theorem ckX2_isInOrder : pgX2_isInOrder.all (z_eck 43) = true := by decide +kernel
theorem ckX3_init : pgX3_init.all (z_eck 44) = true := by decide +kernel
theorem ckX3_go : pgX3_go.all (z_eck 45) = true := by decide +kernel
theorem ckX3_pick : pgX3_pick.all (z_eck 46) = true := by decide +kernel
theorem ckX3_pickByCard : pgX3_pickByCard.all (z_eck 47) = true := by decide +kernel
theorem ckX3_pickNext : pgX3_pickNext.all (z_eck 48) = true := by decide +kernel
theorem ckX3_pickDear : pgX3_pickDear.all (z_eck 49) = true := by decide +kernel
theorem ckX3_pickShort : pgX3_pickShort.all (z_eck 50) = true := by decide +kernel
theorem ckX3_firstOf : pgX3_firstOf.all (z_eck 51) = true := by decide +kernel
theorem ckX3_mayBegin : pgX3_mayBegin.all (z_eck 52) = true := by decide +kernel
theorem ckX3_isThrough : pgX3_isThrough.all (z_eck 53) = true := by decide +kernel
theorem ckX3_freeCopy : pgX3_freeCopy.all (z_eck 54) = true := by decide +kernel
theorem ckX3_begin : pgX3_begin.all (z_eck 55) = true := by decide +kernel
theorem ckX3_letGo : pgX3_letGo.all (z_eck 56) = true := by decide +kernel
theorem ckX4_init : pgX4_init.all (z_eck 57) = true := by decide +kernel
theorem ckX4_beginCard : pgX4_beginCard.all (z_eck 60) = true := by decide +kernel
theorem ckX4_nextCard : pgX4_nextCard.all (z_eck 61) = true := by decide +kernel
theorem ckX4_swap : pgX4_swap.all (z_eck 62) = true := by decide +kernel
theorem ckX5_init : pgX5_init.all (z_eck 63) = true := by decide +kernel
theorem ckX5_start : pgX5_start.all (z_eck 64) = true := by decide +kernel
theorem ckX5_keep : pgX5_keep.all (z_eck 65) = true := by decide +kernel
theorem ckX5_add : pgX5_add.all (z_eck 66) = true := by decide +kernel
theorem ckX5_go : pgX5_go.all (z_eck 67) = true := by decide +kernel
theorem ckX5_grow : pgX5_grow.all (z_eck 68) = true := by decide +kernel
theorem ckX5_weigh : pgX5_weigh.all (z_eck 69) = true := by decide +kernel
theorem ckX5_hope : pgX5_hope.all (z_eck 70) = true := by decide +kernel
theorem ckX5_worst : pgX5_worst.all (z_eck 71) = true := by decide +kernel
theorem ckX5_isNext : pgX5_isNext.all (z_eck 72) = true := by decide +kernel
theorem ckX5_earliest : pgX5_earliest.all (z_eck 73) = true := by decide +kernel
theorem ckX5_firstCopy : pgX5_firstCopy.all (z_eck 74) = true := by decide +kernel
theorem ckX5_place : pgX5_place.all (z_eck 75) = true := by decide +kernel
theorem ckX5_takeBack : pgX5_takeBack.all (z_eck 76) = true := by decide +kernel
theorem ckX5_miss : pgX5_miss.all (z_eck 77) = true := by decide +kernel
theorem ckX6_init : pgX6_init.all (z_eck 78) = true := by decide +kernel
theorem ckX6_has : pgX6_has.all (z_eck 79) = true := by decide +kernel
theorem ckX6_isMissing : pgX6_isMissing.all (z_eck 80) = true := by decide +kernel
theorem ckX6_lackAt : pgX6_lackAt.all (z_eck 81) = true := by decide +kernel
theorem ckX6_begin : pgX6_begin.all (z_eck 83) = true := by decide +kernel
theorem ckX7_init : pgX7_init.all (z_eck 86) = true := by decide +kernel
theorem ckX7_text : pgX7_text.all (z_eck 93) = true := by decide +kernel
theorem ckX7_put : pgX7_put.all (z_eck 94) = true := by decide +kernel
theorem ckX7_fault : pgX7_fault.all (z_eck 95) = true := by decide +kernel
theorem ckX7_house : pgX7_house.all (z_eck 96) = true := by decide +kernel
theorem ckX7_copies : pgX7_copies.all (z_eck 100) = true := by decide +kernel
theorem ckX7_late : pgX7_late.all (z_eck 102) = true := by decide +kernel
theorem ckX7_judge : pgX7_judge.all (z_eck 104) = true := by decide +kernel
theorem ckX7_missed : pgX7_missed.all (z_eck 105) = true := by decide +kernel
theorem ckX7_image : pgX7_image.all (z_eck 108) = true := by decide +kernel
theorem ckX7_on : pgX7_on.all (z_eck 109) = true := by decide +kernel
theorem ckX7_rule : pgX7_rule.all (z_eck 110) = true := by decide +kernel
theorem ckX7_run : pgX7_run.all (z_eck 112) = true := by decide +kernel
theorem ckX7_best : pgX7_best.all (z_eck 113) = true := by decide +kernel
theorem ckX7_least : pgX7_least.all (z_eck 114) = true := by decide +kernel
theorem ckX7_mend : pgX7_mend.all (z_eck 115) = true := by decide +kernel
theorem ckX7_soon : pgX7_soon.all (z_eck 116) = true := by decide +kernel
theorem ckX7_even : pgX7_even.all (z_eck 117) = true := by decide +kernel
theorem ckX7_bound : pgX7_bound.all (z_eck 118) = true := by decide +kernel
theorem ckX7_quarrel : pgX7_quarrel.all (z_eck 119) = true := by decide +kernel
theorem ckX7_asked : pgX7_asked.all (z_eck 121) = true := by decide +kernel
theorem ckX7_found : pgX7_found.all (z_eck 126) = true := by decide +kernel
theorem ckX7_isBeginning : pgX7_isBeginning.all (z_eck 127) = true := by decide +kernel
theorem ckX7_lackOfCard : pgX7_lackOfCard.all (z_eck 129) = true := by decide +kernel
theorem ckX7_searchAll : pgX7_searchAll.all (z_eck 131) = true := by decide +kernel
theorem ckX7_canAllHaveAll : pgX7_canAllHaveAll.all (z_eck 132) = true := by decide +kernel
theorem ckX7_keepAhead : pgX7_keepAhead.all (z_eck 133) = true := by decide +kernel
theorem ckL_law_0 : pgL_law_0.all (z_eck 250) = true := by decide +kernel
theorem ckL_law_1 : pgL_law_1.all (z_eck 250) = true := by decide +kernel
theorem ckL_law_2 : pgL_law_2.all (z_eck 250) = true := by decide +kernel
theorem ckL_law_3 : pgL_law_3.all (z_eck 250) = true := by decide +kernel
theorem ckL_law_4 : pgL_law_4.all (z_eck 250) = true := by decide +kernel
theorem ckL_law_5 : pgL_law_5.all (z_eck 250) = true := by decide +kernel
theorem ckL_law_6 : pgL_law_6.all (z_eck 250) = true := by decide +kernel
theorem ckL_law_7 : pgL_law_7.all (z_eck 250) = true := by decide +kernel
theorem ckL_law : pgL_law.all (z_eck 250) = true := by
  unfold pgL_law
  simp only [List.all_append, ckL_law_0, ckL_law_1, ckL_law_2, ckL_law_3, ckL_law_4, ckL_law_5, ckL_law_6, ckL_law_7, Bool.and_self]
theorem ckL_cell : pgL_cell.all (z_eck 251) = true := by decide +kernel
theorem ckL_put : pgL_put.all (z_eck 252) = true := by decide +kernel
theorem ckL_number : pgL_number.all (z_eck 253) = true := by decide +kernel
theorem ckL_numbers_0 : pgL_numbers_0.all (z_eck 254) = true := by decide +kernel
theorem ckL_numbers_1 : pgL_numbers_1.all (z_eck 254) = true := by decide +kernel
theorem ckL_numbers_2 : pgL_numbers_2.all (z_eck 254) = true := by decide +kernel
theorem ckL_numbers_3 : pgL_numbers_3.all (z_eck 254) = true := by decide +kernel
theorem ckL_numbers_4 : pgL_numbers_4.all (z_eck 254) = true := by decide +kernel
theorem ckL_numbers_5 : pgL_numbers_5.all (z_eck 254) = true := by decide +kernel
theorem ckL_numbers_6 : pgL_numbers_6.all (z_eck 254) = true := by decide +kernel
theorem ckL_numbers_7 : pgL_numbers_7.all (z_eck 254) = true := by decide +kernel
theorem ckL_numbers : pgL_numbers.all (z_eck 254) = true := by
  unfold pgL_numbers
  simp only [List.all_append, ckL_numbers_0, ckL_numbers_1, ckL_numbers_2, ckL_numbers_3, ckL_numbers_4, ckL_numbers_5, ckL_numbers_6, ckL_numbers_7, Bool.and_self]
theorem ckL_house_0 : pgL_house_0.all (z_eck 255) = true := by decide +kernel
theorem ckL_house_1 : pgL_house_1.all (z_eck 255) = true := by decide +kernel
theorem ckL_house_2 : pgL_house_2.all (z_eck 255) = true := by decide +kernel
theorem ckL_house_3 : pgL_house_3.all (z_eck 255) = true := by decide +kernel
theorem ckL_house_4 : pgL_house_4.all (z_eck 255) = true := by decide +kernel
theorem ckL_house_5 : pgL_house_5.all (z_eck 255) = true := by decide +kernel
theorem ckL_house : pgL_house.all (z_eck 255) = true := by
  unfold pgL_house
  simp only [List.all_append, ckL_house_0, ckL_house_1, ckL_house_2, ckL_house_3, ckL_house_4, ckL_house_5, Bool.and_self]
set_option maxRecDepth 20000 in
theorem z_mcw0 : z_mcw 0 := rfl
set_option maxRecDepth 20000 in
theorem z_mcw1 : z_mcw 1 := rfl
set_option maxRecDepth 20000 in
theorem z_mcw2 : z_mcw 2 := rfl
set_option maxRecDepth 20000 in
theorem z_mcw3 : z_mcw 3 := rfl
set_option maxRecDepth 20000 in
theorem z_mcw8 : z_mcw 8 := rfl
set_option maxRecDepth 20000 in
theorem z_mcw9 : z_mcw 9 := rfl
set_option maxRecDepth 20000 in
theorem z_mcw10 : z_mcw 10 := rfl
set_option maxRecDepth 20000 in
theorem z_mcw11 : z_mcw 11 := rfl
set_option maxRecDepth 20000 in
theorem z_mcw12 : z_mcw 12 := rfl
set_option maxRecDepth 20000 in
theorem z_mcw13 : z_mcw 13 := rfl
set_option maxRecDepth 20000 in
theorem z_mcw14 : z_mcw 14 := rfl
set_option maxRecDepth 20000 in
theorem z_mcw15 : z_mcw 15 := rfl
set_option maxRecDepth 20000 in
theorem z_mcw16 : z_mcw 16 := rfl
set_option maxRecDepth 20000 in
theorem z_mcw17 : z_mcw 17 := rfl
set_option maxRecDepth 20000 in
theorem z_mcw18 : z_mcw 18 := rfl
set_option maxRecDepth 20000 in
theorem z_mcw19 : z_mcw 19 := rfl
set_option maxRecDepth 20000 in
theorem z_mcw20 : z_mcw 20 := rfl
set_option maxRecDepth 20000 in
theorem z_mcw21 : z_mcw 21 := rfl
set_option maxRecDepth 20000 in
theorem z_mcw22 : z_mcw 22 := rfl
set_option maxRecDepth 20000 in
theorem z_mcw23 : z_mcw 23 := rfl
set_option maxRecDepth 20000 in
theorem z_mcw24 : z_mcw 24 := rfl
set_option maxRecDepth 20000 in
theorem z_mcw25 : z_mcw 25 := rfl
set_option maxRecDepth 20000 in
theorem z_mcw26 : z_mcw 26 := rfl
set_option maxRecDepth 20000 in
theorem z_mcw27 : z_mcw 27 := rfl
set_option maxRecDepth 20000 in
theorem z_mcw28 : z_mcw 28 := rfl
set_option maxRecDepth 20000 in
theorem z_mcw29 : z_mcw 29 := rfl
set_option maxRecDepth 20000 in
theorem z_mcw30 : z_mcw 30 := rfl
set_option maxRecDepth 20000 in
theorem z_mcw31 : z_mcw 31 := rfl
set_option maxRecDepth 20000 in
theorem z_mcw32 : z_mcw 32 := rfl
set_option maxRecDepth 20000 in
theorem z_mcw33 : z_mcw 33 := rfl
set_option maxRecDepth 20000 in
theorem z_mcw34 : z_mcw 34 := rfl
set_option maxRecDepth 20000 in
theorem z_mcw35 : z_mcw 35 := rfl
set_option maxRecDepth 20000 in
theorem z_mcw36 : z_mcw 36 := rfl
set_option maxRecDepth 20000 in
theorem z_mcw37 : z_mcw 37 := rfl
set_option maxRecDepth 20000 in
theorem z_mcw38 : z_mcw 38 := rfl
set_option maxRecDepth 20000 in
theorem z_mcw39 : z_mcw 39 := rfl
set_option maxRecDepth 20000 in
theorem z_mcw40 : z_mcw 40 := rfl
set_option maxRecDepth 20000 in
theorem z_mcw41 : z_mcw 41 := rfl
set_option maxRecDepth 20000 in
theorem z_mcw42 : z_mcw 42 := rfl
set_option maxRecDepth 20000 in
theorem z_mcw43 : z_mcw 43 := rfl
set_option maxRecDepth 20000 in
theorem z_mcw44 : z_mcw 44 := rfl
set_option maxRecDepth 20000 in
theorem z_mcw45 : z_mcw 45 := rfl
set_option maxRecDepth 20000 in
theorem z_mcw46 : z_mcw 46 := rfl
set_option maxRecDepth 20000 in
theorem z_mcw47 : z_mcw 47 := rfl
set_option maxRecDepth 20000 in
theorem z_mcw48 : z_mcw 48 := rfl
set_option maxRecDepth 20000 in
theorem z_mcw49 : z_mcw 49 := rfl
set_option maxRecDepth 20000 in
theorem z_mcw50 : z_mcw 50 := rfl
set_option maxRecDepth 20000 in
theorem z_mcw51 : z_mcw 51 := rfl
set_option maxRecDepth 20000 in
theorem z_mcw52 : z_mcw 52 := rfl
set_option maxRecDepth 20000 in
theorem z_mcw53 : z_mcw 53 := rfl
set_option maxRecDepth 20000 in
theorem z_mcw54 : z_mcw 54 := rfl
set_option maxRecDepth 20000 in
theorem z_mcw55 : z_mcw 55 := rfl
set_option maxRecDepth 20000 in
theorem z_mcw56 : z_mcw 56 := rfl
set_option maxRecDepth 20000 in
theorem z_mcw57 : z_mcw 57 := rfl
set_option maxRecDepth 20000 in
theorem z_mcw60 : z_mcw 60 := rfl
set_option maxRecDepth 20000 in
theorem z_mcw61 : z_mcw 61 := rfl
set_option maxRecDepth 20000 in
theorem z_mcw62 : z_mcw 62 := rfl
set_option maxRecDepth 20000 in
theorem z_mcw63 : z_mcw 63 := rfl
set_option maxRecDepth 20000 in
theorem z_mcw64 : z_mcw 64 := rfl
set_option maxRecDepth 20000 in
theorem z_mcw65 : z_mcw 65 := rfl
set_option maxRecDepth 20000 in
theorem z_mcw66 : z_mcw 66 := rfl
set_option maxRecDepth 20000 in
theorem z_mcw67 : z_mcw 67 := rfl
set_option maxRecDepth 20000 in
theorem z_mcw68 : z_mcw 68 := rfl
set_option maxRecDepth 20000 in
theorem z_mcw69 : z_mcw 69 := rfl
set_option maxRecDepth 20000 in
theorem z_mcw70 : z_mcw 70 := rfl
set_option maxRecDepth 20000 in
theorem z_mcw71 : z_mcw 71 := rfl
set_option maxRecDepth 20000 in
theorem z_mcw72 : z_mcw 72 := rfl
set_option maxRecDepth 20000 in
theorem z_mcw73 : z_mcw 73 := rfl
set_option maxRecDepth 20000 in
theorem z_mcw74 : z_mcw 74 := rfl
set_option maxRecDepth 20000 in
theorem z_mcw75 : z_mcw 75 := rfl
set_option maxRecDepth 20000 in
theorem z_mcw76 : z_mcw 76 := rfl
set_option maxRecDepth 20000 in
theorem z_mcw77 : z_mcw 77 := rfl
set_option maxRecDepth 20000 in
theorem z_mcw78 : z_mcw 78 := rfl
set_option maxRecDepth 20000 in
theorem z_mcw79 : z_mcw 79 := rfl
set_option maxRecDepth 20000 in
theorem z_mcw80 : z_mcw 80 := rfl
set_option maxRecDepth 20000 in
theorem z_mcw81 : z_mcw 81 := rfl
set_option maxRecDepth 20000 in
theorem z_mcw83 : z_mcw 83 := rfl
set_option maxRecDepth 20000 in
theorem z_mcw86 : z_mcw 86 := rfl
set_option maxRecDepth 20000 in
theorem z_mcw93 : z_mcw 93 := rfl
set_option maxRecDepth 20000 in
theorem z_mcw94 : z_mcw 94 := rfl
set_option maxRecDepth 20000 in
theorem z_mcw95 : z_mcw 95 := rfl
set_option maxRecDepth 20000 in
theorem z_mcw96 : z_mcw 96 := rfl
set_option maxRecDepth 20000 in
theorem z_mcw100 : z_mcw 100 := rfl
set_option maxRecDepth 20000 in
theorem z_mcw102 : z_mcw 102 := rfl
set_option maxRecDepth 20000 in
theorem z_mcw104 : z_mcw 104 := rfl
set_option maxRecDepth 20000 in
theorem z_mcw105 : z_mcw 105 := rfl
set_option maxRecDepth 20000 in
theorem z_mcw108 : z_mcw 108 := rfl
set_option maxRecDepth 20000 in
theorem z_mcw109 : z_mcw 109 := rfl
set_option maxRecDepth 20000 in
theorem z_mcw110 : z_mcw 110 := rfl
set_option maxRecDepth 20000 in
theorem z_mcw112 : z_mcw 112 := rfl
set_option maxRecDepth 20000 in
theorem z_mcw113 : z_mcw 113 := rfl
set_option maxRecDepth 20000 in
theorem z_mcw114 : z_mcw 114 := rfl
set_option maxRecDepth 20000 in
theorem z_mcw115 : z_mcw 115 := rfl
set_option maxRecDepth 20000 in
theorem z_mcw116 : z_mcw 116 := rfl
set_option maxRecDepth 20000 in
theorem z_mcw117 : z_mcw 117 := rfl
set_option maxRecDepth 20000 in
theorem z_mcw118 : z_mcw 118 := rfl
set_option maxRecDepth 20000 in
theorem z_mcw119 : z_mcw 119 := rfl
set_option maxRecDepth 20000 in
theorem z_mcw121 : z_mcw 121 := rfl
set_option maxRecDepth 20000 in
theorem z_mcw126 : z_mcw 126 := rfl
set_option maxRecDepth 20000 in
theorem z_mcw127 : z_mcw 127 := rfl
set_option maxRecDepth 20000 in
theorem z_mcw129 : z_mcw 129 := rfl
set_option maxRecDepth 20000 in
theorem z_mcw131 : z_mcw 131 := rfl
set_option maxRecDepth 20000 in
theorem z_mcw132 : z_mcw 132 := rfl
set_option maxRecDepth 20000 in
theorem z_mcw133 : z_mcw 133 := rfl
set_option maxRecDepth 20000 in
theorem z_mcw251 : z_mcw 251 := rfl
set_option maxRecDepth 20000 in
theorem z_mcw252 : z_mcw 252 := rfl
set_option maxRecDepth 20000 in
theorem z_mcw253 : z_mcw 253 := rfl
set_option maxRecDepth 20000 in
theorem z_mcw254 : z_mcw 254 := rfl
set_option maxRecDepth 20000 in
theorem z_mcw255 : z_mcw 255 := rfl
theorem z_mckc0 : ∀ x ∈ ([0, 1, 2, 3, 8, 9, 10, 11, 12, 13] : List Nat), z_mck x = true := fun x h => List.all_eq_true.mp (show ([0, 1, 2, 3, 8, 9, 10, 11, 12, 13] : List Nat).all z_mck = true by decide +kernel) x h
theorem z_mckc1 : ∀ x ∈ ([14, 15, 16, 17, 18, 19, 20, 21, 22, 23] : List Nat), z_mck x = true := fun x h => List.all_eq_true.mp (show ([14, 15, 16, 17, 18, 19, 20, 21, 22, 23] : List Nat).all z_mck = true by decide +kernel) x h
theorem z_mckc2 : ∀ x ∈ ([24, 25, 26, 27, 28, 29, 30, 31, 32, 33] : List Nat), z_mck x = true := fun x h => List.all_eq_true.mp (show ([24, 25, 26, 27, 28, 29, 30, 31, 32, 33] : List Nat).all z_mck = true by decide +kernel) x h
theorem z_mckc3 : ∀ x ∈ ([34, 35, 36, 37, 38, 39, 40, 41, 42, 43] : List Nat), z_mck x = true := fun x h => List.all_eq_true.mp (show ([34, 35, 36, 37, 38, 39, 40, 41, 42, 43] : List Nat).all z_mck = true by decide +kernel) x h
theorem z_mckc4 : ∀ x ∈ ([44, 45, 46, 47, 48, 49, 50, 51, 52, 53] : List Nat), z_mck x = true := fun x h => List.all_eq_true.mp (show ([44, 45, 46, 47, 48, 49, 50, 51, 52, 53] : List Nat).all z_mck = true by decide +kernel) x h
theorem z_mckc5 : ∀ x ∈ ([54, 55, 56, 57, 60, 61, 62, 63, 64, 65] : List Nat), z_mck x = true := fun x h => List.all_eq_true.mp (show ([54, 55, 56, 57, 60, 61, 62, 63, 64, 65] : List Nat).all z_mck = true by decide +kernel) x h
theorem z_mckc6 : ∀ x ∈ ([66, 67, 68, 69, 70, 71, 72, 73, 74, 75] : List Nat), z_mck x = true := fun x h => List.all_eq_true.mp (show ([66, 67, 68, 69, 70, 71, 72, 73, 74, 75] : List Nat).all z_mck = true by decide +kernel) x h
theorem z_mckc7 : ∀ x ∈ ([76, 77, 78, 79, 80, 81, 83, 86, 93, 94] : List Nat), z_mck x = true := fun x h => List.all_eq_true.mp (show ([76, 77, 78, 79, 80, 81, 83, 86, 93, 94] : List Nat).all z_mck = true by decide +kernel) x h
theorem z_mckc8 : ∀ x ∈ ([95, 96, 100, 102, 104, 105, 108, 109, 110, 112] : List Nat), z_mck x = true := fun x h => List.all_eq_true.mp (show ([95, 96, 100, 102, 104, 105, 108, 109, 110, 112] : List Nat).all z_mck = true by decide +kernel) x h
theorem z_mckc9 : ∀ x ∈ ([113, 114, 115, 116, 117, 118, 119, 121, 126, 127] : List Nat), z_mck x = true := fun x h => List.all_eq_true.mp (show ([113, 114, 115, 116, 117, 118, 119, 121, 126, 127] : List Nat).all z_mck = true by decide +kernel) x h
theorem z_mckc10 : ∀ x ∈ ([129, 131, 132, 133, 251, 252, 253, 254, 255] : List Nat), z_mck x = true := fun x h => List.all_eq_true.mp (show ([129, 131, 132, 133, 251, 252, 253, 254, 255] : List Nat).all z_mck = true by decide +kernel) x h
/-- a called method is one of these -/
def z_lkL : List Nat := [0, 1, 2, 3, 8, 9, 10, 11, 12, 13, 14, 15, 16, 17, 18, 19, 20, 21, 22, 23, 24, 25, 26, 27, 28, 29, 30, 31, 32, 33, 34, 35, 36, 37, 38, 39, 40, 41, 42, 43, 44, 45, 46, 47, 48, 49, 50, 51, 52, 53, 54, 55, 56, 57, 60, 61, 62, 63, 64, 65, 66, 67, 68, 69, 70, 71, 72, 73, 74, 75, 76, 77, 78, 79, 80, 81, 83, 86, 93, 94, 95, 96, 100, 102, 104, 105, 108, 109, 110, 112, 113, 114, 115, 116, 117, 118, 119, 121, 126, 127, 129, 131, 132, 133, 251, 252, 253, 254, 255]
theorem z_lk_in {x : Nat} (h : z_lk x = true) : x ∈ z_lkL := by
  have key : ((List.range 256).all fun x => !(z_lk x) || decide (x ∈ z_lkL)) = true := by decide +kernel
  have hx : x < 256 := by
    unfold z_lk at h
    split at h
    · rename_i b hb
      have := (List.getElem?_eq_some_iff.mp hb).1
      have e : z_lkl.length = 256 := by decide +kernel
      omega
    · cases h
  have h1 := List.all_eq_true.mp key x (List.mem_range.mpr hx)
  rw [h] at h1
  exact of_decide_eq_true h1
theorem z_mcwc0 : ∀ x ∈ ([0, 1, 2, 3, 8, 9, 10, 11, 12, 13] : List Nat), z_mcw x := List.forall_mem_cons.mpr ⟨z_mcw0, List.forall_mem_cons.mpr ⟨z_mcw1, List.forall_mem_cons.mpr ⟨z_mcw2, List.forall_mem_cons.mpr ⟨z_mcw3, List.forall_mem_cons.mpr ⟨z_mcw8, List.forall_mem_cons.mpr ⟨z_mcw9, List.forall_mem_cons.mpr ⟨z_mcw10, List.forall_mem_cons.mpr ⟨z_mcw11, List.forall_mem_cons.mpr ⟨z_mcw12, List.forall_mem_cons.mpr ⟨z_mcw13, (fun _ q => by cases q)⟩⟩⟩⟩⟩⟩⟩⟩⟩⟩
theorem z_ckc0 : ∀ x ∈ ([0, 1, 2, 3, 8, 9, 10, 11, 12, 13] : List Nat), (z_pg x).all (z_eck x) = true := List.forall_mem_cons.mpr ⟨ckX0_init, List.forall_mem_cons.mpr ⟨ckX0_clear, List.forall_mem_cons.mpr ⟨ckX0_hasPart, List.forall_mem_cons.mpr ⟨ckX0_hasReader, List.forall_mem_cons.mpr ⟨ckX0_addPart, List.forall_mem_cons.mpr ⟨ckX0_addReader, List.forall_mem_cons.mpr ⟨ckX0_addWant, List.forall_mem_cons.mpr ⟨ckX0_forbid, List.forall_mem_cons.mpr ⟨ckX0_cover, List.forall_mem_cons.mpr ⟨ckX0_wantOf, (fun _ q => by cases q)⟩⟩⟩⟩⟩⟩⟩⟩⟩⟩
theorem z_mcwc1 : ∀ x ∈ ([14, 15, 16, 17, 18, 19, 20, 21, 22, 23] : List Nat), z_mcw x := List.forall_mem_cons.mpr ⟨z_mcw14, List.forall_mem_cons.mpr ⟨z_mcw15, List.forall_mem_cons.mpr ⟨z_mcw16, List.forall_mem_cons.mpr ⟨z_mcw17, List.forall_mem_cons.mpr ⟨z_mcw18, List.forall_mem_cons.mpr ⟨z_mcw19, List.forall_mem_cons.mpr ⟨z_mcw20, List.forall_mem_cons.mpr ⟨z_mcw21, List.forall_mem_cons.mpr ⟨z_mcw22, List.forall_mem_cons.mpr ⟨z_mcw23, (fun _ q => by cases q)⟩⟩⟩⟩⟩⟩⟩⟩⟩⟩
theorem z_ckc1 : ∀ x ∈ ([14, 15, 16, 17, 18, 19, 20, 21, 22, 23] : List Nat), (z_pg x).all (z_eck x) = true := List.forall_mem_cons.mpr ⟨ckX0_worthAt, List.forall_mem_cons.mpr ⟨ckX0_coveredFrom, List.forall_mem_cons.mpr ⟨ckX0_comesAfter, List.forall_mem_cons.mpr ⟨ckX0_latestBegin, List.forall_mem_cons.mpr ⟨ckX1_init, List.forall_mem_cons.mpr ⟨ckX1_take, List.forall_mem_cons.mpr ⟨ckX1_look, List.forall_mem_cons.mpr ⟨ckX1_takeSign, List.forall_mem_cons.mpr ⟨ckX1_figure, List.forall_mem_cons.mpr ⟨ckX1_takeFigure, (fun _ q => by cases q)⟩⟩⟩⟩⟩⟩⟩⟩⟩⟩
theorem z_mcwc2 : ∀ x ∈ ([24, 25, 26, 27, 28, 29, 30, 31, 32, 33] : List Nat), z_mcw x := List.forall_mem_cons.mpr ⟨z_mcw24, List.forall_mem_cons.mpr ⟨z_mcw25, List.forall_mem_cons.mpr ⟨z_mcw26, List.forall_mem_cons.mpr ⟨z_mcw27, List.forall_mem_cons.mpr ⟨z_mcw28, List.forall_mem_cons.mpr ⟨z_mcw29, List.forall_mem_cons.mpr ⟨z_mcw30, List.forall_mem_cons.mpr ⟨z_mcw31, List.forall_mem_cons.mpr ⟨z_mcw32, List.forall_mem_cons.mpr ⟨z_mcw33, (fun _ q => by cases q)⟩⟩⟩⟩⟩⟩⟩⟩⟩⟩
theorem z_ckc2 : ∀ x ∈ ([24, 25, 26, 27, 28, 29, 30, 31, 32, 33] : List Nat), (z_pg x).all (z_eck x) = true := List.forall_mem_cons.mpr ⟨ckX1_takeMinute, List.forall_mem_cons.mpr ⟨ckX1_takeLast, List.forall_mem_cons.mpr ⟨ckX1_takePart, List.forall_mem_cons.mpr ⟨ckX1_takeReader, List.forall_mem_cons.mpr ⟨ckX1_takeWant, List.forall_mem_cons.mpr ⟨ckX1_takeNot, List.forall_mem_cons.mpr ⟨ckX1_takeCushion, List.forall_mem_cons.mpr ⟨ckX2_init, List.forall_mem_cons.mpr ⟨ckX2_clear, List.forall_mem_cons.mpr ⟨ckX2_become, (fun _ q => by cases q)⟩⟩⟩⟩⟩⟩⟩⟩⟩⟩
theorem z_mcwc3 : ∀ x ∈ ([34, 35, 36, 37, 38, 39, 40, 41, 42, 43] : List Nat), z_mcw x := List.forall_mem_cons.mpr ⟨z_mcw34, List.forall_mem_cons.mpr ⟨z_mcw35, List.forall_mem_cons.mpr ⟨z_mcw36, List.forall_mem_cons.mpr ⟨z_mcw37, List.forall_mem_cons.mpr ⟨z_mcw38, List.forall_mem_cons.mpr ⟨z_mcw39, List.forall_mem_cons.mpr ⟨z_mcw40, List.forall_mem_cons.mpr ⟨z_mcw41, List.forall_mem_cons.mpr ⟨z_mcw42, List.forall_mem_cons.mpr ⟨z_mcw43, (fun _ q => by cases q)⟩⟩⟩⟩⟩⟩⟩⟩⟩⟩
theorem z_ckc3 : ∀ x ∈ ([34, 35, 36, 37, 38, 39, 40, 41, 42, 43] : List Nat), (z_pg x).all (z_eck x) = true := List.forall_mem_cons.mpr ⟨ckX2_isBegunAhead, List.forall_mem_cons.mpr ⟨ckX2_begunAhead, List.forall_mem_cons.mpr ⟨ckX2_isReadIn, List.forall_mem_cons.mpr ⟨ckX2_lossOf, List.forall_mem_cons.mpr ⟨ckX2_lossOfAll, List.forall_mem_cons.mpr ⟨ckX2_lossBy, List.forall_mem_cons.mpr ⟨ckX2_firstWrong, List.forall_mem_cons.mpr ⟨ckX2_firstWrongOf, List.forall_mem_cons.mpr ⟨ckX2_isCrowded, List.forall_mem_cons.mpr ⟨ckX2_isInOrder, (fun _ q => by cases q)⟩⟩⟩⟩⟩⟩⟩⟩⟩⟩
theorem z_mcwc4 : ∀ x ∈ ([44, 45, 46, 47, 48, 49, 50, 51, 52, 53] : List Nat), z_mcw x := List.forall_mem_cons.mpr ⟨z_mcw44, List.forall_mem_cons.mpr ⟨z_mcw45, List.forall_mem_cons.mpr ⟨z_mcw46, List.forall_mem_cons.mpr ⟨z_mcw47, List.forall_mem_cons.mpr ⟨z_mcw48, List.forall_mem_cons.mpr ⟨z_mcw49, List.forall_mem_cons.mpr ⟨z_mcw50, List.forall_mem_cons.mpr ⟨z_mcw51, List.forall_mem_cons.mpr ⟨z_mcw52, List.forall_mem_cons.mpr ⟨z_mcw53, (fun _ q => by cases q)⟩⟩⟩⟩⟩⟩⟩⟩⟩⟩
theorem z_ckc4 : ∀ x ∈ ([44, 45, 46, 47, 48, 49, 50, 51, 52, 53] : List Nat), (z_pg x).all (z_eck x) = true := List.forall_mem_cons.mpr ⟨ckX3_init, List.forall_mem_cons.mpr ⟨ckX3_go, List.forall_mem_cons.mpr ⟨ckX3_pick, List.forall_mem_cons.mpr ⟨ckX3_pickByCard, List.forall_mem_cons.mpr ⟨ckX3_pickNext, List.forall_mem_cons.mpr ⟨ckX3_pickDear, List.forall_mem_cons.mpr ⟨ckX3_pickShort, List.forall_mem_cons.mpr ⟨ckX3_firstOf, List.forall_mem_cons.mpr ⟨ckX3_mayBegin, List.forall_mem_cons.mpr ⟨ckX3_isThrough, (fun _ q => by cases q)⟩⟩⟩⟩⟩⟩⟩⟩⟩⟩
theorem z_mcwc5 : ∀ x ∈ ([54, 55, 56, 57, 60, 61, 62, 63, 64, 65] : List Nat), z_mcw x := List.forall_mem_cons.mpr ⟨z_mcw54, List.forall_mem_cons.mpr ⟨z_mcw55, List.forall_mem_cons.mpr ⟨z_mcw56, List.forall_mem_cons.mpr ⟨z_mcw57, List.forall_mem_cons.mpr ⟨z_mcw60, List.forall_mem_cons.mpr ⟨z_mcw61, List.forall_mem_cons.mpr ⟨z_mcw62, List.forall_mem_cons.mpr ⟨z_mcw63, List.forall_mem_cons.mpr ⟨z_mcw64, List.forall_mem_cons.mpr ⟨z_mcw65, (fun _ q => by cases q)⟩⟩⟩⟩⟩⟩⟩⟩⟩⟩
theorem z_ckc5 : ∀ x ∈ ([54, 55, 56, 57, 60, 61, 62, 63, 64, 65] : List Nat), (z_pg x).all (z_eck x) = true := List.forall_mem_cons.mpr ⟨ckX3_freeCopy, List.forall_mem_cons.mpr ⟨ckX3_begin, List.forall_mem_cons.mpr ⟨ckX3_letGo, List.forall_mem_cons.mpr ⟨ckX4_init, List.forall_mem_cons.mpr ⟨ckX4_beginCard, List.forall_mem_cons.mpr ⟨ckX4_nextCard, List.forall_mem_cons.mpr ⟨ckX4_swap, List.forall_mem_cons.mpr ⟨ckX5_init, List.forall_mem_cons.mpr ⟨ckX5_start, List.forall_mem_cons.mpr ⟨ckX5_keep, (fun _ q => by cases q)⟩⟩⟩⟩⟩⟩⟩⟩⟩⟩
theorem z_mcwc6 : ∀ x ∈ ([66, 67, 68, 69, 70, 71, 72, 73, 74, 75] : List Nat), z_mcw x := List.forall_mem_cons.mpr ⟨z_mcw66, List.forall_mem_cons.mpr ⟨z_mcw67, List.forall_mem_cons.mpr ⟨z_mcw68, List.forall_mem_cons.mpr ⟨z_mcw69, List.forall_mem_cons.mpr ⟨z_mcw70, List.forall_mem_cons.mpr ⟨z_mcw71, List.forall_mem_cons.mpr ⟨z_mcw72, List.forall_mem_cons.mpr ⟨z_mcw73, List.forall_mem_cons.mpr ⟨z_mcw74, List.forall_mem_cons.mpr ⟨z_mcw75, (fun _ q => by cases q)⟩⟩⟩⟩⟩⟩⟩⟩⟩⟩
theorem z_ckc6 : ∀ x ∈ ([66, 67, 68, 69, 70, 71, 72, 73, 74, 75] : List Nat), (z_pg x).all (z_eck x) = true := List.forall_mem_cons.mpr ⟨ckX5_add, List.forall_mem_cons.mpr ⟨ckX5_go, List.forall_mem_cons.mpr ⟨ckX5_grow, List.forall_mem_cons.mpr ⟨ckX5_weigh, List.forall_mem_cons.mpr ⟨ckX5_hope, List.forall_mem_cons.mpr ⟨ckX5_worst, List.forall_mem_cons.mpr ⟨ckX5_isNext, List.forall_mem_cons.mpr ⟨ckX5_earliest, List.forall_mem_cons.mpr ⟨ckX5_firstCopy, List.forall_mem_cons.mpr ⟨ckX5_place, (fun _ q => by cases q)⟩⟩⟩⟩⟩⟩⟩⟩⟩⟩
theorem z_mcwc7 : ∀ x ∈ ([76, 77, 78, 79, 80, 81, 83, 86, 93, 94] : List Nat), z_mcw x := List.forall_mem_cons.mpr ⟨z_mcw76, List.forall_mem_cons.mpr ⟨z_mcw77, List.forall_mem_cons.mpr ⟨z_mcw78, List.forall_mem_cons.mpr ⟨z_mcw79, List.forall_mem_cons.mpr ⟨z_mcw80, List.forall_mem_cons.mpr ⟨z_mcw81, List.forall_mem_cons.mpr ⟨z_mcw83, List.forall_mem_cons.mpr ⟨z_mcw86, List.forall_mem_cons.mpr ⟨z_mcw93, List.forall_mem_cons.mpr ⟨z_mcw94, (fun _ q => by cases q)⟩⟩⟩⟩⟩⟩⟩⟩⟩⟩
theorem z_ckc7 : ∀ x ∈ ([76, 77, 78, 79, 80, 81, 83, 86, 93, 94] : List Nat), (z_pg x).all (z_eck x) = true := List.forall_mem_cons.mpr ⟨ckX5_takeBack, List.forall_mem_cons.mpr ⟨ckX5_miss, List.forall_mem_cons.mpr ⟨ckX6_init, List.forall_mem_cons.mpr ⟨ckX6_has, List.forall_mem_cons.mpr ⟨ckX6_isMissing, List.forall_mem_cons.mpr ⟨ckX6_lackAt, List.forall_mem_cons.mpr ⟨ckX6_begin, List.forall_mem_cons.mpr ⟨ckX7_init, List.forall_mem_cons.mpr ⟨ckX7_text, List.forall_mem_cons.mpr ⟨ckX7_put, (fun _ q => by cases q)⟩⟩⟩⟩⟩⟩⟩⟩⟩⟩
theorem z_mcwc8 : ∀ x ∈ ([95, 96, 100, 102, 104, 105, 108, 109, 110, 112] : List Nat), z_mcw x := List.forall_mem_cons.mpr ⟨z_mcw95, List.forall_mem_cons.mpr ⟨z_mcw96, List.forall_mem_cons.mpr ⟨z_mcw100, List.forall_mem_cons.mpr ⟨z_mcw102, List.forall_mem_cons.mpr ⟨z_mcw104, List.forall_mem_cons.mpr ⟨z_mcw105, List.forall_mem_cons.mpr ⟨z_mcw108, List.forall_mem_cons.mpr ⟨z_mcw109, List.forall_mem_cons.mpr ⟨z_mcw110, List.forall_mem_cons.mpr ⟨z_mcw112, (fun _ q => by cases q)⟩⟩⟩⟩⟩⟩⟩⟩⟩⟩
theorem z_ckc8 : ∀ x ∈ ([95, 96, 100, 102, 104, 105, 108, 109, 110, 112] : List Nat), (z_pg x).all (z_eck x) = true := List.forall_mem_cons.mpr ⟨ckX7_fault, List.forall_mem_cons.mpr ⟨ckX7_house, List.forall_mem_cons.mpr ⟨ckX7_copies, List.forall_mem_cons.mpr ⟨ckX7_late, List.forall_mem_cons.mpr ⟨ckX7_judge, List.forall_mem_cons.mpr ⟨ckX7_missed, List.forall_mem_cons.mpr ⟨ckX7_image, List.forall_mem_cons.mpr ⟨ckX7_on, List.forall_mem_cons.mpr ⟨ckX7_rule, List.forall_mem_cons.mpr ⟨ckX7_run, (fun _ q => by cases q)⟩⟩⟩⟩⟩⟩⟩⟩⟩⟩
theorem z_mcwc9 : ∀ x ∈ ([113, 114, 115, 116, 117, 118, 119, 121, 126, 127] : List Nat), z_mcw x := List.forall_mem_cons.mpr ⟨z_mcw113, List.forall_mem_cons.mpr ⟨z_mcw114, List.forall_mem_cons.mpr ⟨z_mcw115, List.forall_mem_cons.mpr ⟨z_mcw116, List.forall_mem_cons.mpr ⟨z_mcw117, List.forall_mem_cons.mpr ⟨z_mcw118, List.forall_mem_cons.mpr ⟨z_mcw119, List.forall_mem_cons.mpr ⟨z_mcw121, List.forall_mem_cons.mpr ⟨z_mcw126, List.forall_mem_cons.mpr ⟨z_mcw127, (fun _ q => by cases q)⟩⟩⟩⟩⟩⟩⟩⟩⟩⟩
theorem z_ckc9 : ∀ x ∈ ([113, 114, 115, 116, 117, 118, 119, 121, 126, 127] : List Nat), (z_pg x).all (z_eck x) = true := List.forall_mem_cons.mpr ⟨ckX7_best, List.forall_mem_cons.mpr ⟨ckX7_least, List.forall_mem_cons.mpr ⟨ckX7_mend, List.forall_mem_cons.mpr ⟨ckX7_soon, List.forall_mem_cons.mpr ⟨ckX7_even, List.forall_mem_cons.mpr ⟨ckX7_bound, List.forall_mem_cons.mpr ⟨ckX7_quarrel, List.forall_mem_cons.mpr ⟨ckX7_asked, List.forall_mem_cons.mpr ⟨ckX7_found, List.forall_mem_cons.mpr ⟨ckX7_isBeginning, (fun _ q => by cases q)⟩⟩⟩⟩⟩⟩⟩⟩⟩⟩
theorem z_mcwc10 : ∀ x ∈ ([129, 131, 132, 133, 251, 252, 253, 254, 255] : List Nat), z_mcw x := List.forall_mem_cons.mpr ⟨z_mcw129, List.forall_mem_cons.mpr ⟨z_mcw131, List.forall_mem_cons.mpr ⟨z_mcw132, List.forall_mem_cons.mpr ⟨z_mcw133, List.forall_mem_cons.mpr ⟨z_mcw251, List.forall_mem_cons.mpr ⟨z_mcw252, List.forall_mem_cons.mpr ⟨z_mcw253, List.forall_mem_cons.mpr ⟨z_mcw254, List.forall_mem_cons.mpr ⟨z_mcw255, (fun _ q => by cases q)⟩⟩⟩⟩⟩⟩⟩⟩⟩
theorem z_ckc10 : ∀ x ∈ ([129, 131, 132, 133, 251, 252, 253, 254, 255] : List Nat), (z_pg x).all (z_eck x) = true := List.forall_mem_cons.mpr ⟨ckX7_lackOfCard, List.forall_mem_cons.mpr ⟨ckX7_searchAll, List.forall_mem_cons.mpr ⟨ckX7_canAllHaveAll, List.forall_mem_cons.mpr ⟨ckX7_keepAhead, List.forall_mem_cons.mpr ⟨ckL_cell, List.forall_mem_cons.mpr ⟨ckL_put, List.forall_mem_cons.mpr ⟨ckL_number, List.forall_mem_cons.mpr ⟨ckL_numbers, List.forall_mem_cons.mpr ⟨ckL_house, (fun _ q => by cases q)⟩⟩⟩⟩⟩⟩⟩⟩⟩
theorem z_mckA (x : Nat) (hx : z_lk x = true) : z_mck x = true := by
  have key : ∀ x ∈ ([0, 1, 2, 3, 8, 9, 10, 11, 12, 13] ++ ([14, 15, 16, 17, 18, 19, 20, 21, 22, 23] ++ ([24, 25, 26, 27, 28, 29, 30, 31, 32, 33] ++ ([34, 35, 36, 37, 38, 39, 40, 41, 42, 43] ++ ([44, 45, 46, 47, 48, 49, 50, 51, 52, 53] ++ ([54, 55, 56, 57, 60, 61, 62, 63, 64, 65] ++ ([66, 67, 68, 69, 70, 71, 72, 73, 74, 75] ++ ([76, 77, 78, 79, 80, 81, 83, 86, 93, 94] ++ ([95, 96, 100, 102, 104, 105, 108, 109, 110, 112] ++ ([113, 114, 115, 116, 117, 118, 119, 121, 126, 127] ++ ([129, 131, 132, 133, 251, 252, 253, 254, 255])))))))))) : List Nat), z_mck x = true := List.forall_mem_append.mpr ⟨z_mckc0, List.forall_mem_append.mpr ⟨z_mckc1, List.forall_mem_append.mpr ⟨z_mckc2, List.forall_mem_append.mpr ⟨z_mckc3, List.forall_mem_append.mpr ⟨z_mckc4, List.forall_mem_append.mpr ⟨z_mckc5, List.forall_mem_append.mpr ⟨z_mckc6, List.forall_mem_append.mpr ⟨z_mckc7, List.forall_mem_append.mpr ⟨z_mckc8, List.forall_mem_append.mpr ⟨z_mckc9, z_mckc10⟩⟩⟩⟩⟩⟩⟩⟩⟩⟩
  exact key x (z_lk_in hx)
theorem z_mcwA (x : Nat) (hx : z_lk x = true) : z_mcw x := by
  have key : ∀ x ∈ ([0, 1, 2, 3, 8, 9, 10, 11, 12, 13] ++ ([14, 15, 16, 17, 18, 19, 20, 21, 22, 23] ++ ([24, 25, 26, 27, 28, 29, 30, 31, 32, 33] ++ ([34, 35, 36, 37, 38, 39, 40, 41, 42, 43] ++ ([44, 45, 46, 47, 48, 49, 50, 51, 52, 53] ++ ([54, 55, 56, 57, 60, 61, 62, 63, 64, 65] ++ ([66, 67, 68, 69, 70, 71, 72, 73, 74, 75] ++ ([76, 77, 78, 79, 80, 81, 83, 86, 93, 94] ++ ([95, 96, 100, 102, 104, 105, 108, 109, 110, 112] ++ ([113, 114, 115, 116, 117, 118, 119, 121, 126, 127] ++ ([129, 131, 132, 133, 251, 252, 253, 254, 255])))))))))) : List Nat), z_mcw x := List.forall_mem_append.mpr ⟨z_mcwc0, List.forall_mem_append.mpr ⟨z_mcwc1, List.forall_mem_append.mpr ⟨z_mcwc2, List.forall_mem_append.mpr ⟨z_mcwc3, List.forall_mem_append.mpr ⟨z_mcwc4, List.forall_mem_append.mpr ⟨z_mcwc5, List.forall_mem_append.mpr ⟨z_mcwc6, List.forall_mem_append.mpr ⟨z_mcwc7, List.forall_mem_append.mpr ⟨z_mcwc8, List.forall_mem_append.mpr ⟨z_mcwc9, z_mcwc10⟩⟩⟩⟩⟩⟩⟩⟩⟩⟩
  exact key x (z_lk_in hx)
theorem z_ckB (x : Nat) (hx : z_lk x = true) : (z_pg x).all (z_eck x) = true := by
  have key : ∀ x ∈ ([0, 1, 2, 3, 8, 9, 10, 11, 12, 13] ++ ([14, 15, 16, 17, 18, 19, 20, 21, 22, 23] ++ ([24, 25, 26, 27, 28, 29, 30, 31, 32, 33] ++ ([34, 35, 36, 37, 38, 39, 40, 41, 42, 43] ++ ([44, 45, 46, 47, 48, 49, 50, 51, 52, 53] ++ ([54, 55, 56, 57, 60, 61, 62, 63, 64, 65] ++ ([66, 67, 68, 69, 70, 71, 72, 73, 74, 75] ++ ([76, 77, 78, 79, 80, 81, 83, 86, 93, 94] ++ ([95, 96, 100, 102, 104, 105, 108, 109, 110, 112] ++ ([113, 114, 115, 116, 117, 118, 119, 121, 126, 127] ++ ([129, 131, 132, 133, 251, 252, 253, 254, 255])))))))))) : List Nat), (z_pg x).all (z_eck x) = true := List.forall_mem_append.mpr ⟨z_ckc0, List.forall_mem_append.mpr ⟨z_ckc1, List.forall_mem_append.mpr ⟨z_ckc2, List.forall_mem_append.mpr ⟨z_ckc3, List.forall_mem_append.mpr ⟨z_ckc4, List.forall_mem_append.mpr ⟨z_ckc5, List.forall_mem_append.mpr ⟨z_ckc6, List.forall_mem_append.mpr ⟨z_ckc7, List.forall_mem_append.mpr ⟨z_ckc8, List.forall_mem_append.mpr ⟨z_ckc9, z_ckc10⟩⟩⟩⟩⟩⟩⟩⟩⟩⟩
  exact key x (z_lk_in hx)
theorem z_ckA (x : Nat) (hx : z_lk x = true ∨ x = 250) : (z_pg x).all (z_eck x) = true := by
  rcases hx with hx | rfl
  · exact z_ckB x hx
  · exact ckL_law
