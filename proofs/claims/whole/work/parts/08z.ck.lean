/-! THE CHECKS RUN, method by method (wip/whole/gen/ck.py) -/
theorem ckX0_init : pgX0_init.all (z_eck 0) = true := by decide +kernel
theorem ckX0_clear : pgX0_clear.all (z_eck 1) = true := by decide +kernel
theorem ckX0_hasPart : pgX0_hasPart.all (z_eck 2) = true := by decide +kernel
theorem ckX0_hasReader : pgX0_hasReader.all (z_eck 3) = true := by decide +kernel
theorem ckX0_hasWant : pgX0_hasWant.all (z_eck 4) = true := by decide +kernel
theorem ckX0_ofPart : pgX0_ofPart.all (z_eck 5) = true := by decide +kernel
theorem ckX0_ofReader : pgX0_ofReader.all (z_eck 6) = true := by decide +kernel
theorem ckX0_ofWant : pgX0_ofWant.all (z_eck 7) = true := by decide +kernel
theorem ckX0_addPart : pgX0_addPart.all (z_eck 8) = true := by decide +kernel
theorem ckX0_addReader : pgX0_addReader.all (z_eck 9) = true := by decide +kernel
theorem ckX0_addWant : pgX0_addWant.all (z_eck 10) = true := by decide +kernel
theorem ckX0_forbid : pgX0_forbid.all (z_eck 11) = true := by decide +kernel
theorem ckX0_cover : pgX0_cover.all (z_eck 12) = true := by decide +kernel
theorem ckX0_wantOf : pgX0_wantOf.all (z_eck 13) = true := by decide +kernel
theorem ckX0_worthAt : pgX0_worthAt.all (z_eck 14) = true := by decide +kernel
theorem ckX0_coveredFrom : pgX0_coveredFrom.all (z_eck 15) = true := by decide +kernel
theorem ckX0_comesAfter : pgX0_comesAfter.all (z_eck 16) = true := by decide +kernel
theorem ckX0_latestBegin : pgX0_latestBegin.all (z_eck 17) = true := by decide +kernel
theorem ckX1_init : pgX1_init.all (z_eck 18) = true := by decide +kernel
theorem ckX1_take : pgX1_take.all (z_eck 19) = true := by decide +kernel
theorem ckX1_look : pgX1_look.all (z_eck 20) = true := by decide +kernel
theorem ckX1_takeSign : pgX1_takeSign.all (z_eck 21) = true := by decide +kernel
theorem ckX1_figure : pgX1_figure.all (z_eck 22) = true := by decide +kernel
theorem ckX1_takeFigure : pgX1_takeFigure.all (z_eck 23) = true := by decide +kernel
theorem ckX1_takeMinute : pgX1_takeMinute.all (z_eck 24) = true := by decide +kernel
theorem ckX1_takeLast : pgX1_takeLast.all (z_eck 25) = true := by decide +kernel
theorem ckX1_takePart : pgX1_takePart.all (z_eck 26) = true := by decide +kernel
theorem ckX1_takeReader : pgX1_takeReader.all (z_eck 27) = true := by decide +kernel
theorem ckX1_takeWant : pgX1_takeWant.all (z_eck 28) = true := by decide +kernel
theorem ckX1_takeNot : pgX1_takeNot.all (z_eck 29) = true := by decide +kernel
theorem ckX1_takeCushion : pgX1_takeCushion.all (z_eck 30) = true := by decide +kernel
theorem ckX2_init : pgX2_init.all (z_eck 31) = true := by decide +kernel
theorem ckX2_clear : pgX2_clear.all (z_eck 32) = true := by decide +kernel
theorem ckX2_become : pgX2_become.all (z_eck 33) = true := by decide +kernel
theorem ckX2_isBegunAhead : pgX2_isBegunAhead.all (z_eck 34) = true := by decide +kernel
theorem ckX2_begunAhead : pgX2_begunAhead.all (z_eck 35) = true := by decide +kernel
theorem ckX2_isReadIn : pgX2_isReadIn.all (z_eck 36) = true := by decide +kernel
theorem ckX2_lossOf : pgX2_lossOf.all (z_eck 37) = true := by decide +kernel
theorem ckX2_lossOfAll : pgX2_lossOfAll.all (z_eck 38) = true := by decide +kernel
theorem ckX2_lossBy : pgX2_lossBy.all (z_eck 39) = true := by decide +kernel
theorem ckX2_firstWrong : pgX2_firstWrong.all (z_eck 40) = true := by decide +kernel
theorem ckX2_firstWrongOf : pgX2_firstWrongOf.all (z_eck 41) = true := by decide +kernel
theorem ckX2_isCrowded : pgX2_isCrowded.all (z_eck 42) = true := by decide +kernel
theorem ckX2_isInOrder : pgX2_isInOrder.all (z_eck 43) = true := by decide +kernel
theorem ckX3_init : pgX3_init.all (z_eck 44) = true := by decide +kernel
theorem ckX3_go : pgX3_go.all (z_eck 45) = true := by decide +kernel
theorem ckX3_pick : pgX3_pick.all (z_eck 46) = true := by decide +kernel
theorem ckX3_pickByCard : pgX3_pickByCard.all (z_eck 47) = true := by decide +kernel
theorem ckX3_pickNext : pgX3_pickNext.all (z_eck 48) = true := by decide +kernel
theorem ckX3_pickDear : pgX3_pickDear.all (z_eck 49) = true := by decide +kernel
theorem ckX3_pickShort : pgX3_pickShort.all (z_eck 50) = true := by decide +kernel
theorem ckX3_firstOf : pgX3_firstOf.all (z_eck 51) = true := by decide +kernel
theorem ckX3_mayBegin : pgX3_mayBegin.all (z_eck 52) = true := by decide +kernel
theorem ckX3_isThrough : pgX3_isThrough.all (z_eck 53) = true := by decide +kernel
theorem ckX3_freeCopy : pgX3_freeCopy.all (z_eck 54) = true := by decide +kernel
theorem ckX3_begin : pgX3_begin.all (z_eck 55) = true := by decide +kernel
theorem ckX3_letGo : pgX3_letGo.all (z_eck 56) = true := by decide +kernel
theorem ckX4_init : pgX4_init.all (z_eck 57) = true := by decide +kernel
theorem ckX4_isCard : pgX4_isCard.all (z_eck 58) = true := by decide +kernel
theorem ckX4_isOf : pgX4_isOf.all (z_eck 59) = true := by decide +kernel
theorem ckX4_beginCard : pgX4_beginCard.all (z_eck 60) = true := by decide +kernel
theorem ckX4_nextCard : pgX4_nextCard.all (z_eck 61) = true := by decide +kernel
theorem ckX4_swap : pgX4_swap.all (z_eck 62) = true := by decide +kernel
theorem ckX5_init : pgX5_init.all (z_eck 63) = true := by decide +kernel
theorem ckX5_start : pgX5_start.all (z_eck 64) = true := by decide +kernel
theorem ckX5_keep : pgX5_keep.all (z_eck 65) = true := by decide +kernel
theorem ckX5_add : pgX5_add.all (z_eck 66) = true := by decide +kernel
theorem ckX5_go : pgX5_go.all (z_eck 67) = true := by decide +kernel
theorem ckX5_grow : pgX5_grow.all (z_eck 68) = true := by decide +kernel
theorem ckX5_weigh : pgX5_weigh.all (z_eck 69) = true := by decide +kernel
theorem ckX5_hope : pgX5_hope.all (z_eck 70) = true := by decide +kernel
theorem ckX5_worst : pgX5_worst.all (z_eck 71) = true := by decide +kernel
theorem ckX5_isNext : pgX5_isNext.all (z_eck 72) = true := by decide +kernel
theorem ckX5_earliest : pgX5_earliest.all (z_eck 73) = true := by decide +kernel
theorem ckX5_firstCopy : pgX5_firstCopy.all (z_eck 74) = true := by decide +kernel
theorem ckX5_place : pgX5_place.all (z_eck 75) = true := by decide +kernel
theorem ckX5_takeBack : pgX5_takeBack.all (z_eck 76) = true := by decide +kernel
theorem ckX5_miss : pgX5_miss.all (z_eck 77) = true := by decide +kernel
theorem ckX6_init : pgX6_init.all (z_eck 78) = true := by decide +kernel
theorem ckX6_has : pgX6_has.all (z_eck 79) = true := by decide +kernel
theorem ckX6_isMissing : pgX6_isMissing.all (z_eck 80) = true := by decide +kernel
theorem ckX6_lackAt : pgX6_lackAt.all (z_eck 81) = true := by decide +kernel
theorem ckX6_spans : pgX6_spans.all (z_eck 82) = true := by decide +kernel
theorem ckX6_begin : pgX6_begin.all (z_eck 83) = true := by decide +kernel
theorem ckX6_there : pgX6_there.all (z_eck 84) = true := by decide +kernel
theorem ckX6_digestOn : pgX6_digestOn.all (z_eck 85) = true := by decide +kernel
theorem ckX7_init : pgX7_init.all (z_eck 86) = true := by decide +kernel
theorem ckX7_row : pgX7_row.all (z_eck 87) = true := by decide +kernel
theorem ckX7_lay : pgX7_lay.all (z_eck 88) = true := by decide +kernel
theorem ckX7_at : pgX7_at.all (z_eck 89) = true := by decide +kernel
theorem ckX7_tear : pgX7_tear.all (z_eck 90) = true := by decide +kernel
theorem ckX7_copy : pgX7_copy.all (z_eck 91) = true := by decide +kernel
theorem ckX7_mean : pgX7_mean.all (z_eck 92) = true := by decide +kernel
theorem ckX7_text : pgX7_text.all (z_eck 93) = true := by decide +kernel
theorem ckX7_put : pgX7_put.all (z_eck 94) = true := by decide +kernel
theorem ckX7_fault : pgX7_fault.all (z_eck 95) = true := by decide +kernel
theorem ckX7_house : pgX7_house.all (z_eck 96) = true := by decide +kernel
theorem ckX7_part : pgX7_part.all (z_eck 97) = true := by decide +kernel
theorem ckX7_reader : pgX7_reader.all (z_eck 98) = true := by decide +kernel
theorem ckX7_want : pgX7_want.all (z_eck 99) = true := by decide +kernel
theorem ckX7_copies : pgX7_copies.all (z_eck 100) = true := by decide +kernel
theorem ckX7_post : pgX7_post.all (z_eck 101) = true := by decide +kernel
theorem ckX7_late : pgX7_late.all (z_eck 102) = true := by decide +kernel
theorem ckX7_read : pgX7_read.all (z_eck 103) = true := by decide +kernel
theorem ckX7_judge : pgX7_judge.all (z_eck 104) = true := by decide +kernel
theorem ckX7_missed : pgX7_missed.all (z_eck 105) = true := by decide +kernel
theorem ckX7_who : pgX7_who.all (z_eck 106) = true := by decide +kernel
theorem ckX7_can : pgX7_can.all (z_eck 107) = true := by decide +kernel
theorem ckX7_image : pgX7_image.all (z_eck 108) = true := by decide +kernel
theorem ckX7_on : pgX7_on.all (z_eck 109) = true := by decide +kernel
theorem ckX7_rule : pgX7_rule.all (z_eck 110) = true := by decide +kernel
theorem ckX7_mark : pgX7_mark.all (z_eck 111) = true := by decide +kernel
theorem ckX7_run : pgX7_run.all (z_eck 112) = true := by decide +kernel
theorem ckX7_best : pgX7_best.all (z_eck 113) = true := by decide +kernel
theorem ckX7_least : pgX7_least.all (z_eck 114) = true := by decide +kernel
theorem ckX7_mend : pgX7_mend.all (z_eck 115) = true := by decide +kernel
theorem ckX7_soon : pgX7_soon.all (z_eck 116) = true := by decide +kernel
theorem ckX7_even : pgX7_even.all (z_eck 117) = true := by decide +kernel
theorem ckX7_bound : pgX7_bound.all (z_eck 118) = true := by decide +kernel
theorem ckX7_quarrel : pgX7_quarrel.all (z_eck 119) = true := by decide +kernel
theorem ckX7_twice : pgX7_twice.all (z_eck 120) = true := by decide +kernel
theorem ckX7_asked : pgX7_asked.all (z_eck 121) = true := by decide +kernel
theorem ckX7_count : pgX7_count.all (z_eck 122) = true := by decide +kernel
theorem ckX7_finding : pgX7_finding.all (z_eck 123) = true := by decide +kernel
theorem ckX7_findings : pgX7_findings.all (z_eck 124) = true := by decide +kernel
theorem ckX7_digest : pgX7_digest.all (z_eck 125) = true := by decide +kernel
theorem ckX7_found : pgX7_found.all (z_eck 126) = true := by decide +kernel
theorem ckX7_isBeginning : pgX7_isBeginning.all (z_eck 127) = true := by decide +kernel
theorem ckX7_ofWant : pgX7_ofWant.all (z_eck 128) = true := by decide +kernel
theorem ckX7_lackOfCard : pgX7_lackOfCard.all (z_eck 129) = true := by decide +kernel
theorem ckX7_rulesThere : pgX7_rulesThere.all (z_eck 130) = true := by decide +kernel
theorem ckX7_searchAll : pgX7_searchAll.all (z_eck 131) = true := by decide +kernel
theorem ckX7_canAllHaveAll : pgX7_canAllHaveAll.all (z_eck 132) = true := by decide +kernel
theorem ckX7_keepAhead : pgX7_keepAhead.all (z_eck 133) = true := by decide +kernel
theorem ckX7_digestOfHouse : pgX7_digestOfHouse.all (z_eck 134) = true := by decide +kernel
theorem ckX8_init : pgX8_init.all (z_eck 135) = true := by decide +kernel
theorem ckX8_in : pgX8_in.all (z_eck 136) = true := by decide +kernel
theorem ckX8_has : pgX8_has.all (z_eck 137) = true := by decide +kernel
theorem ckX8_bits : pgX8_bits.all (z_eck 138) = true := by decide +kernel
theorem ckX8_greater : pgX8_greater.all (z_eck 139) = true := by decide +kernel
theorem ckX8_meets : pgX8_meets.all (z_eck 140) = true := by decide +kernel
theorem ckX8_finding : pgX8_finding.all (z_eck 141) = true := by decide +kernel
theorem ckX8_findings : pgX8_findings.all (z_eck 142) = true := by decide +kernel
theorem ckX8_tells : pgX8_tells.all (z_eck 143) = true := by decide +kernel
theorem ckX8_asked : pgX8_asked.all (z_eck 144) = true := by decide +kernel
theorem ckX8_isRow : pgX8_isRow.all (z_eck 145) = true := by decide +kernel
theorem ckX8_rowAt : pgX8_rowAt.all (z_eck 146) = true := by decide +kernel
theorem ckX8_row : pgX8_row.all (z_eck 147) = true := by decide +kernel
theorem ckX8_lay : pgX8_lay.all (z_eck 148) = true := by decide +kernel
theorem ckX8_at : pgX8_at.all (z_eck 149) = true := by decide +kernel
theorem ckX8_tear : pgX8_tear.all (z_eck 150) = true := by decide +kernel
theorem ckX8_copy : pgX8_copy.all (z_eck 151) = true := by decide +kernel
theorem ckX8_mean : pgX8_mean.all (z_eck 152) = true := by decide +kernel
theorem ckX8_isText : pgX8_isText.all (z_eck 153) = true := by decide +kernel
theorem ckX8_text : pgX8_text.all (z_eck 154) = true := by decide +kernel
theorem ckX8_put : pgX8_put.all (z_eck 155) = true := by decide +kernel
theorem ckX8_byteAt : pgX8_byteAt.all (z_eck 156) = true := by decide +kernel
theorem ckX8_sign : pgX8_sign.all (z_eck 157) = true := by decide +kernel
theorem ckX8_figure : pgX8_figure.all (z_eck 158) = true := by decide +kernel
theorem ckX8_minute : pgX8_minute.all (z_eck 159) = true := by decide +kernel
theorem ckX8_readsLast : pgX8_readsLast.all (z_eck 160) = true := by decide +kernel
theorem ckX8_readsPart : pgX8_readsPart.all (z_eck 161) = true := by decide +kernel
theorem ckX8_readsReader : pgX8_readsReader.all (z_eck 162) = true := by decide +kernel
theorem ckX8_readsWant : pgX8_readsWant.all (z_eck 163) = true := by decide +kernel
theorem ckX8_readsNot : pgX8_readsNot.all (z_eck 164) = true := by decide +kernel
theorem ckX8_readsCushion : pgX8_readsCushion.all (z_eck 165) = true := by decide +kernel
theorem ckX8_readsItem : pgX8_readsItem.all (z_eck 166) = true := by decide +kernel
theorem ckX8_faultOf : pgX8_faultOf.all (z_eck 167) = true := by decide +kernel
theorem ckX8_fault : pgX8_fault.all (z_eck 168) = true := by decide +kernel
theorem ckX8_house : pgX8_house.all (z_eck 169) = true := by decide +kernel
theorem ckX8_isPart : pgX8_isPart.all (z_eck 170) = true := by decide +kernel
theorem ckX8_isReader : pgX8_isReader.all (z_eck 171) = true := by decide +kernel
theorem ckX8_isWant : pgX8_isWant.all (z_eck 172) = true := by decide +kernel
theorem ckX8_readerOf : pgX8_readerOf.all (z_eck 173) = true := by decide +kernel
theorem ckX8_partOf : pgX8_partOf.all (z_eck 174) = true := by decide +kernel
theorem ckX8_minutesOf : pgX8_minutesOf.all (z_eck 175) = true := by decide +kernel
theorem ckX8_copiesOf : pgX8_copiesOf.all (z_eck 176) = true := by decide +kernel
theorem ckX8_comesAt : pgX8_comesAt.all (z_eck 177) = true := by decide +kernel
theorem ckX8_from : pgX8_from.all (z_eck 178) = true := by decide +kernel
theorem ckX8_till : pgX8_till.all (z_eck 179) = true := by decide +kernel
theorem ckX8_isInOrder : pgX8_isInOrder.all (z_eck 180) = true := by decide +kernel
theorem ckX8_isNotAfter : pgX8_isNotAfter.all (z_eck 181) = true := by decide +kernel
theorem ckX8_isUnder : pgX8_isUnder.all (z_eck 182) = true := by decide +kernel
theorem ckX8_part : pgX8_part.all (z_eck 183) = true := by decide +kernel
theorem ckX8_readerTells : pgX8_readerTells.all (z_eck 184) = true := by decide +kernel
theorem ckX8_reader : pgX8_reader.all (z_eck 185) = true := by decide +kernel
theorem ckX8_wantTells : pgX8_wantTells.all (z_eck 186) = true := by decide +kernel
theorem ckX8_want : pgX8_want.all (z_eck 187) = true := by decide +kernel
theorem ckX8_copies : pgX8_copies.all (z_eck 188) = true := by decide +kernel
theorem ckX8_post : pgX8_post.all (z_eck 189) = true := by decide +kernel
theorem ckX8_late : pgX8_late.all (z_eck 190) = true := by decide +kernel
theorem ckX8_isRead : pgX8_isRead.all (z_eck 191) = true := by decide +kernel
theorem ckX8_endOf : pgX8_endOf.all (z_eck 192) = true := by decide +kernel
theorem ckX8_isReading : pgX8_isReading.all (z_eck 193) = true := by decide +kernel
theorem ckX8_read : pgX8_read.all (z_eck 194) = true := by decide +kernel
theorem ckX8_readingMany : pgX8_readingMany.all (z_eck 195) = true := by decide +kernel
theorem ckX8_doesRead : pgX8_doesRead.all (z_eck 196) = true := by decide +kernel
theorem ckX8_isDue : pgX8_isDue.all (z_eck 197) = true := by decide +kernel
theorem ckX8_isSpoilt : pgX8_isSpoilt.all (z_eck 198) = true := by decide +kernel
theorem ckX8_isWell : pgX8_isWell.all (z_eck 199) = true := by decide +kernel
theorem ckX8_firstBad : pgX8_firstBad.all (z_eck 200) = true := by decide +kernel
theorem ckX8_judge : pgX8_judge.all (z_eck 201) = true := by decide +kernel
theorem ckX8_worthAt : pgX8_worthAt.all (z_eck 202) = true := by decide +kernel
theorem ckX8_missedOf : pgX8_missedOf.all (z_eck 203) = true := by decide +kernel
theorem ckX8_missed : pgX8_missed.all (z_eck 204) = true := by decide +kernel
theorem ckX8_who : pgX8_who.all (z_eck 205) = true := by decide +kernel
theorem ckX8_can : pgX8_can.all (z_eck 206) = true := by decide +kernel
theorem ckX8_image : pgX8_image.all (z_eck 207) = true := by decide +kernel
theorem ckX8_on : pgX8_on.all (z_eck 208) = true := by decide +kernel
theorem ckX8_isRule : pgX8_isRule.all (z_eck 209) = true := by decide +kernel
theorem ckX8_rule : pgX8_rule.all (z_eck 210) = true := by decide +kernel
theorem ckX8_markOf : pgX8_markOf.all (z_eck 211) = true := by decide +kernel
theorem ckX8_mark : pgX8_mark.all (z_eck 212) = true := by decide +kernel
theorem ckX8_hasAll : pgX8_hasAll.all (z_eck 213) = true := by decide +kernel
theorem ckX8_takenMany : pgX8_takenMany.all (z_eck 214) = true := by decide +kernel
theorem ckX8_may : pgX8_may.all (z_eck 215) = true := by decide +kernel
theorem ckX8_firstOf : pgX8_firstOf.all (z_eck 216) = true := by decide +kernel
theorem ckX8_waitsSince : pgX8_waitsSince.all (z_eck 217) = true := by decide +kernel
theorem ckX8_chosen : pgX8_chosen.all (z_eck 218) = true := by decide +kernel
theorem ckX8_runs : pgX8_runs.all (z_eck 219) = true := by decide +kernel
theorem ckX8_run : pgX8_run.all (z_eck 220) = true := by decide +kernel
theorem ckX8_keep : pgX8_keep.all (z_eck 221) = true := by decide +kernel
theorem ckX8_back : pgX8_back.all (z_eck 222) = true := by decide +kernel
theorem ckX8_layCard : pgX8_layCard.all (z_eck 223) = true := by decide +kernel
theorem ckX8_best : pgX8_best.all (z_eck 224) = true := by decide +kernel
theorem ckX8_copyEnd : pgX8_copyEnd.all (z_eck 225) = true := by decide +kernel
theorem ckX8_freeCopy : pgX8_freeCopy.all (z_eck 226) = true := by decide +kernel
theorem ckX8_isNext : pgX8_isNext.all (z_eck 227) = true := by decide +kernel
theorem ckX8_letsAll : pgX8_letsAll.all (z_eck 228) = true := by decide +kernel
theorem ckX8_places : pgX8_places.all (z_eck 229) = true := by decide +kernel
theorem ckX8_missedLooked : pgX8_missedLooked.all (z_eck 230) = true := by decide +kernel
theorem ckX8_worst : pgX8_worst.all (z_eck 231) = true := by decide +kernel
theorem ckX8_lastEnd : pgX8_lastEnd.all (z_eck 232) = true := by decide +kernel
theorem ckX8_visit : pgX8_visit.all (z_eck 233) = true := by decide +kernel
theorem ckX8_search : pgX8_search.all (z_eck 234) = true := by decide +kernel
theorem ckX8_begins : pgX8_begins.all (z_eck 235) = true := by decide +kernel
theorem ckX8_allWants : pgX8_allWants.all (z_eck 236) = true := by decide +kernel
theorem ckX8_least : pgX8_least.all (z_eck 237) = true := by decide +kernel
theorem ckX8_mend : pgX8_mend.all (z_eck 238) = true := by decide +kernel
theorem ckX8_soon : pgX8_soon.all (z_eck 239) = true := by decide +kernel
theorem ckX8_even : pgX8_even.all (z_eck 240) = true := by decide +kernel
theorem ckX8_bound : pgX8_bound.all (z_eck 241) = true := by decide +kernel
theorem ckX8_canAll : pgX8_canAll.all (z_eck 242) = true := by decide +kernel
theorem ckX8_quarrel : pgX8_quarrel.all (z_eck 243) = true := by decide +kernel
theorem ckX8_twice : pgX8_twice.all (z_eck 244) = true := by decide +kernel
theorem ckX8_counted : pgX8_counted.all (z_eck 245) = true := by decide +kernel
theorem ckX8_count : pgX8_count.all (z_eck 246) = true := by decide +kernel
theorem ckX8_mix : pgX8_mix.all (z_eck 247) = true := by decide +kernel
theorem ckX8_mixHouse : pgX8_mixHouse.all (z_eck 248) = true := by decide +kernel
theorem ckX8_digest : pgX8_digest.all (z_eck 249) = true := by decide +kernel
theorem ckL_law_0 : pgL_law_0.all (z_eck 250) = true := by decide +kernel
theorem ckL_law_1 : pgL_law_1.all (z_eck 250) = true := by decide +kernel
theorem ckL_law_2 : pgL_law_2.all (z_eck 250) = true := by decide +kernel
theorem ckL_law_3 : pgL_law_3.all (z_eck 250) = true := by decide +kernel
theorem ckL_law_4 : pgL_law_4.all (z_eck 250) = true := by decide +kernel
theorem ckL_law_5 : pgL_law_5.all (z_eck 250) = true := by decide +kernel
theorem ckL_law_6 : pgL_law_6.all (z_eck 250) = true := by decide +kernel
theorem ckL_law_7 : pgL_law_7.all (z_eck 250) = true := by decide +kernel
theorem ckL_law_8 : pgL_law_8.all (z_eck 250) = true := by decide +kernel
theorem ckL_law_9 : pgL_law_9.all (z_eck 250) = true := by decide +kernel
theorem ckL_law_10 : pgL_law_10.all (z_eck 250) = true := by decide +kernel
theorem ckL_law_11 : pgL_law_11.all (z_eck 250) = true := by decide +kernel
theorem ckL_law_12 : pgL_law_12.all (z_eck 250) = true := by decide +kernel
theorem ckL_law_13 : pgL_law_13.all (z_eck 250) = true := by decide +kernel
theorem ckL_law : pgL_law.all (z_eck 250) = true := by
  unfold pgL_law
  simp only [List.all_append, ckL_law_0, ckL_law_1, ckL_law_2, ckL_law_3, ckL_law_4, ckL_law_5, ckL_law_6, ckL_law_7, ckL_law_8, ckL_law_9, ckL_law_10, ckL_law_11, ckL_law_12, ckL_law_13, Bool.and_self]
set_option maxRecDepth 20000 in
theorem z_mcw0 : z_mcw 0 := rfl
set_option maxRecDepth 20000 in
theorem z_mcw1 : z_mcw 1 := rfl
set_option maxRecDepth 20000 in
theorem z_mcw2 : z_mcw 2 := rfl
set_option maxRecDepth 20000 in
theorem z_mcw3 : z_mcw 3 := rfl
set_option maxRecDepth 20000 in
theorem z_mcw4 : z_mcw 4 := rfl
set_option maxRecDepth 20000 in
theorem z_mcw5 : z_mcw 5 := rfl
set_option maxRecDepth 20000 in
theorem z_mcw6 : z_mcw 6 := rfl
set_option maxRecDepth 20000 in
theorem z_mcw7 : z_mcw 7 := rfl
set_option maxRecDepth 20000 in
theorem z_mcw8 : z_mcw 8 := rfl
set_option maxRecDepth 20000 in
theorem z_mcw9 : z_mcw 9 := rfl
set_option maxRecDepth 20000 in
theorem z_mcw10 : z_mcw 10 := rfl
set_option maxRecDepth 20000 in
theorem z_mcw11 : z_mcw 11 := rfl
set_option maxRecDepth 20000 in
theorem z_mcw12 : z_mcw 12 := rfl
set_option maxRecDepth 20000 in
theorem z_mcw13 : z_mcw 13 := rfl
set_option maxRecDepth 20000 in
theorem z_mcw14 : z_mcw 14 := rfl
set_option maxRecDepth 20000 in
theorem z_mcw15 : z_mcw 15 := rfl
set_option maxRecDepth 20000 in
theorem z_mcw16 : z_mcw 16 := rfl
set_option maxRecDepth 20000 in
theorem z_mcw17 : z_mcw 17 := rfl
set_option maxRecDepth 20000 in
theorem z_mcw18 : z_mcw 18 := rfl
set_option maxRecDepth 20000 in
theorem z_mcw19 : z_mcw 19 := rfl
set_option maxRecDepth 20000 in
theorem z_mcw20 : z_mcw 20 := rfl
set_option maxRecDepth 20000 in
theorem z_mcw21 : z_mcw 21 := rfl
set_option maxRecDepth 20000 in
theorem z_mcw22 : z_mcw 22 := rfl
set_option maxRecDepth 20000 in
theorem z_mcw23 : z_mcw 23 := rfl
set_option maxRecDepth 20000 in
theorem z_mcw24 : z_mcw 24 := rfl
set_option maxRecDepth 20000 in
theorem z_mcw25 : z_mcw 25 := rfl
set_option maxRecDepth 20000 in
theorem z_mcw26 : z_mcw 26 := rfl
set_option maxRecDepth 20000 in
theorem z_mcw27 : z_mcw 27 := rfl
set_option maxRecDepth 20000 in
theorem z_mcw28 : z_mcw 28 := rfl
set_option maxRecDepth 20000 in
theorem z_mcw29 : z_mcw 29 := rfl
set_option maxRecDepth 20000 in
theorem z_mcw30 : z_mcw 30 := rfl
set_option maxRecDepth 20000 in
theorem z_mcw31 : z_mcw 31 := rfl
set_option maxRecDepth 20000 in
theorem z_mcw32 : z_mcw 32 := rfl
set_option maxRecDepth 20000 in
theorem z_mcw33 : z_mcw 33 := rfl
set_option maxRecDepth 20000 in
theorem z_mcw34 : z_mcw 34 := rfl
set_option maxRecDepth 20000 in
theorem z_mcw35 : z_mcw 35 := rfl
set_option maxRecDepth 20000 in
theorem z_mcw36 : z_mcw 36 := rfl
set_option maxRecDepth 20000 in
theorem z_mcw37 : z_mcw 37 := rfl
set_option maxRecDepth 20000 in
theorem z_mcw38 : z_mcw 38 := rfl
set_option maxRecDepth 20000 in
theorem z_mcw39 : z_mcw 39 := rfl
set_option maxRecDepth 20000 in
theorem z_mcw40 : z_mcw 40 := rfl
set_option maxRecDepth 20000 in
theorem z_mcw41 : z_mcw 41 := rfl
set_option maxRecDepth 20000 in
theorem z_mcw42 : z_mcw 42 := rfl
set_option maxRecDepth 20000 in
theorem z_mcw43 : z_mcw 43 := rfl
set_option maxRecDepth 20000 in
theorem z_mcw44 : z_mcw 44 := rfl
set_option maxRecDepth 20000 in
theorem z_mcw45 : z_mcw 45 := rfl
set_option maxRecDepth 20000 in
theorem z_mcw46 : z_mcw 46 := rfl
set_option maxRecDepth 20000 in
theorem z_mcw47 : z_mcw 47 := rfl
set_option maxRecDepth 20000 in
theorem z_mcw48 : z_mcw 48 := rfl
set_option maxRecDepth 20000 in
theorem z_mcw49 : z_mcw 49 := rfl
set_option maxRecDepth 20000 in
theorem z_mcw50 : z_mcw 50 := rfl
set_option maxRecDepth 20000 in
theorem z_mcw51 : z_mcw 51 := rfl
set_option maxRecDepth 20000 in
theorem z_mcw52 : z_mcw 52 := rfl
set_option maxRecDepth 20000 in
theorem z_mcw53 : z_mcw 53 := rfl
set_option maxRecDepth 20000 in
theorem z_mcw54 : z_mcw 54 := rfl
set_option maxRecDepth 20000 in
theorem z_mcw55 : z_mcw 55 := rfl
set_option maxRecDepth 20000 in
theorem z_mcw56 : z_mcw 56 := rfl
set_option maxRecDepth 20000 in
theorem z_mcw57 : z_mcw 57 := rfl
set_option maxRecDepth 20000 in
theorem z_mcw58 : z_mcw 58 := rfl
set_option maxRecDepth 20000 in
theorem z_mcw59 : z_mcw 59 := rfl
set_option maxRecDepth 20000 in
theorem z_mcw60 : z_mcw 60 := rfl
set_option maxRecDepth 20000 in
theorem z_mcw61 : z_mcw 61 := rfl
set_option maxRecDepth 20000 in
theorem z_mcw62 : z_mcw 62 := rfl
set_option maxRecDepth 20000 in
theorem z_mcw63 : z_mcw 63 := rfl
set_option maxRecDepth 20000 in
theorem z_mcw64 : z_mcw 64 := rfl
set_option maxRecDepth 20000 in
theorem z_mcw65 : z_mcw 65 := rfl
set_option maxRecDepth 20000 in
theorem z_mcw66 : z_mcw 66 := rfl
set_option maxRecDepth 20000 in
theorem z_mcw67 : z_mcw 67 := rfl
set_option maxRecDepth 20000 in
theorem z_mcw68 : z_mcw 68 := rfl
set_option maxRecDepth 20000 in
theorem z_mcw69 : z_mcw 69 := rfl
set_option maxRecDepth 20000 in
theorem z_mcw70 : z_mcw 70 := rfl
set_option maxRecDepth 20000 in
theorem z_mcw71 : z_mcw 71 := rfl
set_option maxRecDepth 20000 in
theorem z_mcw72 : z_mcw 72 := rfl
set_option maxRecDepth 20000 in
theorem z_mcw73 : z_mcw 73 := rfl
set_option maxRecDepth 20000 in
theorem z_mcw74 : z_mcw 74 := rfl
set_option maxRecDepth 20000 in
theorem z_mcw75 : z_mcw 75 := rfl
set_option maxRecDepth 20000 in
theorem z_mcw76 : z_mcw 76 := rfl
set_option maxRecDepth 20000 in
theorem z_mcw77 : z_mcw 77 := rfl
set_option maxRecDepth 20000 in
theorem z_mcw78 : z_mcw 78 := rfl
set_option maxRecDepth 20000 in
theorem z_mcw79 : z_mcw 79 := rfl
set_option maxRecDepth 20000 in
theorem z_mcw80 : z_mcw 80 := rfl
set_option maxRecDepth 20000 in
theorem z_mcw81 : z_mcw 81 := rfl
set_option maxRecDepth 20000 in
theorem z_mcw82 : z_mcw 82 := rfl
set_option maxRecDepth 20000 in
theorem z_mcw83 : z_mcw 83 := rfl
set_option maxRecDepth 20000 in
theorem z_mcw84 : z_mcw 84 := rfl
set_option maxRecDepth 20000 in
theorem z_mcw85 : z_mcw 85 := rfl
set_option maxRecDepth 20000 in
theorem z_mcw86 : z_mcw 86 := rfl
set_option maxRecDepth 20000 in
theorem z_mcw87 : z_mcw 87 := rfl
set_option maxRecDepth 20000 in
theorem z_mcw88 : z_mcw 88 := rfl
set_option maxRecDepth 20000 in
theorem z_mcw89 : z_mcw 89 := rfl
set_option maxRecDepth 20000 in
theorem z_mcw90 : z_mcw 90 := rfl
set_option maxRecDepth 20000 in
theorem z_mcw91 : z_mcw 91 := rfl
set_option maxRecDepth 20000 in
theorem z_mcw92 : z_mcw 92 := rfl
set_option maxRecDepth 20000 in
theorem z_mcw93 : z_mcw 93 := rfl
set_option maxRecDepth 20000 in
theorem z_mcw94 : z_mcw 94 := rfl
set_option maxRecDepth 20000 in
theorem z_mcw95 : z_mcw 95 := rfl
set_option maxRecDepth 20000 in
theorem z_mcw96 : z_mcw 96 := rfl
set_option maxRecDepth 20000 in
theorem z_mcw97 : z_mcw 97 := rfl
set_option maxRecDepth 20000 in
theorem z_mcw98 : z_mcw 98 := rfl
set_option maxRecDepth 20000 in
theorem z_mcw99 : z_mcw 99 := rfl
set_option maxRecDepth 20000 in
theorem z_mcw100 : z_mcw 100 := rfl
set_option maxRecDepth 20000 in
theorem z_mcw101 : z_mcw 101 := rfl
set_option maxRecDepth 20000 in
theorem z_mcw102 : z_mcw 102 := rfl
set_option maxRecDepth 20000 in
theorem z_mcw103 : z_mcw 103 := rfl
set_option maxRecDepth 20000 in
theorem z_mcw104 : z_mcw 104 := rfl
set_option maxRecDepth 20000 in
theorem z_mcw105 : z_mcw 105 := rfl
set_option maxRecDepth 20000 in
theorem z_mcw106 : z_mcw 106 := rfl
set_option maxRecDepth 20000 in
theorem z_mcw107 : z_mcw 107 := rfl
set_option maxRecDepth 20000 in
theorem z_mcw108 : z_mcw 108 := rfl
set_option maxRecDepth 20000 in
theorem z_mcw109 : z_mcw 109 := rfl
set_option maxRecDepth 20000 in
theorem z_mcw110 : z_mcw 110 := rfl
set_option maxRecDepth 20000 in
theorem z_mcw111 : z_mcw 111 := rfl
set_option maxRecDepth 20000 in
theorem z_mcw112 : z_mcw 112 := rfl
set_option maxRecDepth 20000 in
theorem z_mcw113 : z_mcw 113 := rfl
set_option maxRecDepth 20000 in
theorem z_mcw114 : z_mcw 114 := rfl
set_option maxRecDepth 20000 in
theorem z_mcw115 : z_mcw 115 := rfl
set_option maxRecDepth 20000 in
theorem z_mcw116 : z_mcw 116 := rfl
set_option maxRecDepth 20000 in
theorem z_mcw117 : z_mcw 117 := rfl
set_option maxRecDepth 20000 in
theorem z_mcw118 : z_mcw 118 := rfl
set_option maxRecDepth 20000 in
theorem z_mcw119 : z_mcw 119 := rfl
set_option maxRecDepth 20000 in
theorem z_mcw120 : z_mcw 120 := rfl
set_option maxRecDepth 20000 in
theorem z_mcw121 : z_mcw 121 := rfl
set_option maxRecDepth 20000 in
theorem z_mcw122 : z_mcw 122 := rfl
set_option maxRecDepth 20000 in
theorem z_mcw123 : z_mcw 123 := rfl
set_option maxRecDepth 20000 in
theorem z_mcw124 : z_mcw 124 := rfl
set_option maxRecDepth 20000 in
theorem z_mcw125 : z_mcw 125 := rfl
set_option maxRecDepth 20000 in
theorem z_mcw126 : z_mcw 126 := rfl
set_option maxRecDepth 20000 in
theorem z_mcw127 : z_mcw 127 := rfl
set_option maxRecDepth 20000 in
theorem z_mcw128 : z_mcw 128 := rfl
set_option maxRecDepth 20000 in
theorem z_mcw129 : z_mcw 129 := rfl
set_option maxRecDepth 20000 in
theorem z_mcw130 : z_mcw 130 := rfl
set_option maxRecDepth 20000 in
theorem z_mcw131 : z_mcw 131 := rfl
set_option maxRecDepth 20000 in
theorem z_mcw132 : z_mcw 132 := rfl
set_option maxRecDepth 20000 in
theorem z_mcw133 : z_mcw 133 := rfl
set_option maxRecDepth 20000 in
theorem z_mcw134 : z_mcw 134 := rfl
set_option maxRecDepth 20000 in
theorem z_mcw135 : z_mcw 135 := rfl
set_option maxRecDepth 20000 in
theorem z_mcw136 : z_mcw 136 := rfl
set_option maxRecDepth 20000 in
theorem z_mcw137 : z_mcw 137 := rfl
set_option maxRecDepth 20000 in
theorem z_mcw138 : z_mcw 138 := rfl
set_option maxRecDepth 20000 in
theorem z_mcw139 : z_mcw 139 := rfl
set_option maxRecDepth 20000 in
theorem z_mcw140 : z_mcw 140 := rfl
set_option maxRecDepth 20000 in
theorem z_mcw141 : z_mcw 141 := rfl
set_option maxRecDepth 20000 in
theorem z_mcw142 : z_mcw 142 := rfl
set_option maxRecDepth 20000 in
theorem z_mcw143 : z_mcw 143 := rfl
set_option maxRecDepth 20000 in
theorem z_mcw144 : z_mcw 144 := rfl
set_option maxRecDepth 20000 in
theorem z_mcw145 : z_mcw 145 := rfl
set_option maxRecDepth 20000 in
theorem z_mcw146 : z_mcw 146 := rfl
set_option maxRecDepth 20000 in
theorem z_mcw147 : z_mcw 147 := rfl
set_option maxRecDepth 20000 in
theorem z_mcw148 : z_mcw 148 := rfl
set_option maxRecDepth 20000 in
theorem z_mcw149 : z_mcw 149 := rfl
set_option maxRecDepth 20000 in
theorem z_mcw150 : z_mcw 150 := rfl
set_option maxRecDepth 20000 in
theorem z_mcw151 : z_mcw 151 := rfl
set_option maxRecDepth 20000 in
theorem z_mcw152 : z_mcw 152 := rfl
set_option maxRecDepth 20000 in
theorem z_mcw153 : z_mcw 153 := rfl
set_option maxRecDepth 20000 in
theorem z_mcw154 : z_mcw 154 := rfl
set_option maxRecDepth 20000 in
theorem z_mcw155 : z_mcw 155 := rfl
set_option maxRecDepth 20000 in
theorem z_mcw156 : z_mcw 156 := rfl
set_option maxRecDepth 20000 in
theorem z_mcw157 : z_mcw 157 := rfl
set_option maxRecDepth 20000 in
theorem z_mcw158 : z_mcw 158 := rfl
set_option maxRecDepth 20000 in
theorem z_mcw159 : z_mcw 159 := rfl
set_option maxRecDepth 20000 in
theorem z_mcw160 : z_mcw 160 := rfl
set_option maxRecDepth 20000 in
theorem z_mcw161 : z_mcw 161 := rfl
set_option maxRecDepth 20000 in
theorem z_mcw162 : z_mcw 162 := rfl
set_option maxRecDepth 20000 in
theorem z_mcw163 : z_mcw 163 := rfl
set_option maxRecDepth 20000 in
theorem z_mcw164 : z_mcw 164 := rfl
set_option maxRecDepth 20000 in
theorem z_mcw165 : z_mcw 165 := rfl
set_option maxRecDepth 20000 in
theorem z_mcw166 : z_mcw 166 := rfl
set_option maxRecDepth 20000 in
theorem z_mcw167 : z_mcw 167 := rfl
set_option maxRecDepth 20000 in
theorem z_mcw168 : z_mcw 168 := rfl
set_option maxRecDepth 20000 in
theorem z_mcw169 : z_mcw 169 := rfl
set_option maxRecDepth 20000 in
theorem z_mcw170 : z_mcw 170 := rfl
set_option maxRecDepth 20000 in
theorem z_mcw171 : z_mcw 171 := rfl
set_option maxRecDepth 20000 in
theorem z_mcw172 : z_mcw 172 := rfl
set_option maxRecDepth 20000 in
theorem z_mcw173 : z_mcw 173 := rfl
set_option maxRecDepth 20000 in
theorem z_mcw174 : z_mcw 174 := rfl
set_option maxRecDepth 20000 in
theorem z_mcw175 : z_mcw 175 := rfl
set_option maxRecDepth 20000 in
theorem z_mcw176 : z_mcw 176 := rfl
set_option maxRecDepth 20000 in
theorem z_mcw177 : z_mcw 177 := rfl
set_option maxRecDepth 20000 in
theorem z_mcw178 : z_mcw 178 := rfl
set_option maxRecDepth 20000 in
theorem z_mcw179 : z_mcw 179 := rfl
set_option maxRecDepth 20000 in
theorem z_mcw180 : z_mcw 180 := rfl
set_option maxRecDepth 20000 in
theorem z_mcw181 : z_mcw 181 := rfl
set_option maxRecDepth 20000 in
theorem z_mcw182 : z_mcw 182 := rfl
set_option maxRecDepth 20000 in
theorem z_mcw183 : z_mcw 183 := rfl
set_option maxRecDepth 20000 in
theorem z_mcw184 : z_mcw 184 := rfl
set_option maxRecDepth 20000 in
theorem z_mcw185 : z_mcw 185 := rfl
set_option maxRecDepth 20000 in
theorem z_mcw186 : z_mcw 186 := rfl
set_option maxRecDepth 20000 in
theorem z_mcw187 : z_mcw 187 := rfl
set_option maxRecDepth 20000 in
theorem z_mcw188 : z_mcw 188 := rfl
set_option maxRecDepth 20000 in
theorem z_mcw189 : z_mcw 189 := rfl
set_option maxRecDepth 20000 in
theorem z_mcw190 : z_mcw 190 := rfl
set_option maxRecDepth 20000 in
theorem z_mcw191 : z_mcw 191 := rfl
set_option maxRecDepth 20000 in
theorem z_mcw192 : z_mcw 192 := rfl
set_option maxRecDepth 20000 in
theorem z_mcw193 : z_mcw 193 := rfl
set_option maxRecDepth 20000 in
theorem z_mcw194 : z_mcw 194 := rfl
set_option maxRecDepth 20000 in
theorem z_mcw195 : z_mcw 195 := rfl
set_option maxRecDepth 20000 in
theorem z_mcw196 : z_mcw 196 := rfl
set_option maxRecDepth 20000 in
theorem z_mcw197 : z_mcw 197 := rfl
set_option maxRecDepth 20000 in
theorem z_mcw198 : z_mcw 198 := rfl
set_option maxRecDepth 20000 in
theorem z_mcw199 : z_mcw 199 := rfl
set_option maxRecDepth 20000 in
theorem z_mcw200 : z_mcw 200 := rfl
set_option maxRecDepth 20000 in
theorem z_mcw201 : z_mcw 201 := rfl
set_option maxRecDepth 20000 in
theorem z_mcw202 : z_mcw 202 := rfl
set_option maxRecDepth 20000 in
theorem z_mcw203 : z_mcw 203 := rfl
set_option maxRecDepth 20000 in
theorem z_mcw204 : z_mcw 204 := rfl
set_option maxRecDepth 20000 in
theorem z_mcw205 : z_mcw 205 := rfl
set_option maxRecDepth 20000 in
theorem z_mcw206 : z_mcw 206 := rfl
set_option maxRecDepth 20000 in
theorem z_mcw207 : z_mcw 207 := rfl
set_option maxRecDepth 20000 in
theorem z_mcw208 : z_mcw 208 := rfl
set_option maxRecDepth 20000 in
theorem z_mcw209 : z_mcw 209 := rfl
set_option maxRecDepth 20000 in
theorem z_mcw210 : z_mcw 210 := rfl
set_option maxRecDepth 20000 in
theorem z_mcw211 : z_mcw 211 := rfl
set_option maxRecDepth 20000 in
theorem z_mcw212 : z_mcw 212 := rfl
set_option maxRecDepth 20000 in
theorem z_mcw213 : z_mcw 213 := rfl
set_option maxRecDepth 20000 in
theorem z_mcw214 : z_mcw 214 := rfl
set_option maxRecDepth 20000 in
theorem z_mcw215 : z_mcw 215 := rfl
set_option maxRecDepth 20000 in
theorem z_mcw216 : z_mcw 216 := rfl
set_option maxRecDepth 20000 in
theorem z_mcw217 : z_mcw 217 := rfl
set_option maxRecDepth 20000 in
theorem z_mcw218 : z_mcw 218 := rfl
set_option maxRecDepth 20000 in
theorem z_mcw219 : z_mcw 219 := rfl
set_option maxRecDepth 20000 in
theorem z_mcw220 : z_mcw 220 := rfl
set_option maxRecDepth 20000 in
theorem z_mcw221 : z_mcw 221 := rfl
set_option maxRecDepth 20000 in
theorem z_mcw222 : z_mcw 222 := rfl
set_option maxRecDepth 20000 in
theorem z_mcw223 : z_mcw 223 := rfl
set_option maxRecDepth 20000 in
theorem z_mcw224 : z_mcw 224 := rfl
set_option maxRecDepth 20000 in
theorem z_mcw225 : z_mcw 225 := rfl
set_option maxRecDepth 20000 in
theorem z_mcw226 : z_mcw 226 := rfl
set_option maxRecDepth 20000 in
theorem z_mcw227 : z_mcw 227 := rfl
set_option maxRecDepth 20000 in
theorem z_mcw228 : z_mcw 228 := rfl
set_option maxRecDepth 20000 in
theorem z_mcw229 : z_mcw 229 := rfl
set_option maxRecDepth 20000 in
theorem z_mcw230 : z_mcw 230 := rfl
set_option maxRecDepth 20000 in
theorem z_mcw231 : z_mcw 231 := rfl
set_option maxRecDepth 20000 in
theorem z_mcw232 : z_mcw 232 := rfl
set_option maxRecDepth 20000 in
theorem z_mcw233 : z_mcw 233 := rfl
set_option maxRecDepth 20000 in
theorem z_mcw234 : z_mcw 234 := rfl
set_option maxRecDepth 20000 in
theorem z_mcw235 : z_mcw 235 := rfl
set_option maxRecDepth 20000 in
theorem z_mcw236 : z_mcw 236 := rfl
set_option maxRecDepth 20000 in
theorem z_mcw237 : z_mcw 237 := rfl
set_option maxRecDepth 20000 in
theorem z_mcw238 : z_mcw 238 := rfl
set_option maxRecDepth 20000 in
theorem z_mcw239 : z_mcw 239 := rfl
set_option maxRecDepth 20000 in
theorem z_mcw240 : z_mcw 240 := rfl
set_option maxRecDepth 20000 in
theorem z_mcw241 : z_mcw 241 := rfl
set_option maxRecDepth 20000 in
theorem z_mcw242 : z_mcw 242 := rfl
set_option maxRecDepth 20000 in
theorem z_mcw243 : z_mcw 243 := rfl
set_option maxRecDepth 20000 in
theorem z_mcw244 : z_mcw 244 := rfl
set_option maxRecDepth 20000 in
theorem z_mcw245 : z_mcw 245 := rfl
set_option maxRecDepth 20000 in
theorem z_mcw246 : z_mcw 246 := rfl
set_option maxRecDepth 20000 in
theorem z_mcw247 : z_mcw 247 := rfl
set_option maxRecDepth 20000 in
theorem z_mcw248 : z_mcw 248 := rfl
set_option maxRecDepth 20000 in
theorem z_mcw249 : z_mcw 249 := rfl
theorem z_mck0 : (List.range' 0 10).all z_mck = true := by decide +kernel
theorem z_mck10 : (List.range' 10 10).all z_mck = true := by decide +kernel
theorem z_mck20 : (List.range' 20 10).all z_mck = true := by decide +kernel
theorem z_mck30 : (List.range' 30 10).all z_mck = true := by decide +kernel
theorem z_mck40 : (List.range' 40 10).all z_mck = true := by decide +kernel
theorem z_mck50 : (List.range' 50 10).all z_mck = true := by decide +kernel
theorem z_mck60 : (List.range' 60 10).all z_mck = true := by decide +kernel
theorem z_mck70 : (List.range' 70 10).all z_mck = true := by decide +kernel
theorem z_mck80 : (List.range' 80 10).all z_mck = true := by decide +kernel
theorem z_mck90 : (List.range' 90 10).all z_mck = true := by decide +kernel
theorem z_mck100 : (List.range' 100 10).all z_mck = true := by decide +kernel
theorem z_mck110 : (List.range' 110 10).all z_mck = true := by decide +kernel
theorem z_mck120 : (List.range' 120 10).all z_mck = true := by decide +kernel
theorem z_mck130 : (List.range' 130 10).all z_mck = true := by decide +kernel
theorem z_mck140 : (List.range' 140 10).all z_mck = true := by decide +kernel
theorem z_mck150 : (List.range' 150 10).all z_mck = true := by decide +kernel
theorem z_mck160 : (List.range' 160 10).all z_mck = true := by decide +kernel
theorem z_mck170 : (List.range' 170 10).all z_mck = true := by decide +kernel
theorem z_mck180 : (List.range' 180 10).all z_mck = true := by decide +kernel
theorem z_mck190 : (List.range' 190 10).all z_mck = true := by decide +kernel
theorem z_mck200 : (List.range' 200 10).all z_mck = true := by decide +kernel
theorem z_mck210 : (List.range' 210 10).all z_mck = true := by decide +kernel
theorem z_mck220 : (List.range' 220 10).all z_mck = true := by decide +kernel
theorem z_mck230 : (List.range' 230 10).all z_mck = true := by decide +kernel
theorem z_mck240 : (List.range' 240 10).all z_mck = true := by decide +kernel
theorem z_mckA (x : Nat) (hx : x < 250) : z_mck x = true := by
  have h : ∀ s : Nat, (List.range' s 10).all z_mck = true → s ≤ x → x < s + 10 → z_mck x = true := fun s h1 h2 h3 => List.all_eq_true.mp h1 x (List.mem_range'_1.mpr ⟨h2, h3⟩)
  rcases (show (0 ≤ x ∧ x < 0 + 10) ∨ (10 ≤ x ∧ x < 10 + 10) ∨ (20 ≤ x ∧ x < 20 + 10) ∨ (30 ≤ x ∧ x < 30 + 10) ∨ (40 ≤ x ∧ x < 40 + 10) ∨ (50 ≤ x ∧ x < 50 + 10) ∨ (60 ≤ x ∧ x < 60 + 10) ∨ (70 ≤ x ∧ x < 70 + 10) ∨ (80 ≤ x ∧ x < 80 + 10) ∨ (90 ≤ x ∧ x < 90 + 10) ∨ (100 ≤ x ∧ x < 100 + 10) ∨ (110 ≤ x ∧ x < 110 + 10) ∨ (120 ≤ x ∧ x < 120 + 10) ∨ (130 ≤ x ∧ x < 130 + 10) ∨ (140 ≤ x ∧ x < 140 + 10) ∨ (150 ≤ x ∧ x < 150 + 10) ∨ (160 ≤ x ∧ x < 160 + 10) ∨ (170 ≤ x ∧ x < 170 + 10) ∨ (180 ≤ x ∧ x < 180 + 10) ∨ (190 ≤ x ∧ x < 190 + 10) ∨ (200 ≤ x ∧ x < 200 + 10) ∨ (210 ≤ x ∧ x < 210 + 10) ∨ (220 ≤ x ∧ x < 220 + 10) ∨ (230 ≤ x ∧ x < 230 + 10) ∨ (240 ≤ x ∧ x < 240 + 10) by omega) with q | q | q | q | q | q | q | q | q | q | q | q | q | q | q | q | q | q | q | q | q | q | q | q | q
  · exact h 0 z_mck0 q.1 q.2
  · exact h 10 z_mck10 q.1 q.2
  · exact h 20 z_mck20 q.1 q.2
  · exact h 30 z_mck30 q.1 q.2
  · exact h 40 z_mck40 q.1 q.2
  · exact h 50 z_mck50 q.1 q.2
  · exact h 60 z_mck60 q.1 q.2
  · exact h 70 z_mck70 q.1 q.2
  · exact h 80 z_mck80 q.1 q.2
  · exact h 90 z_mck90 q.1 q.2
  · exact h 100 z_mck100 q.1 q.2
  · exact h 110 z_mck110 q.1 q.2
  · exact h 120 z_mck120 q.1 q.2
  · exact h 130 z_mck130 q.1 q.2
  · exact h 140 z_mck140 q.1 q.2
  · exact h 150 z_mck150 q.1 q.2
  · exact h 160 z_mck160 q.1 q.2
  · exact h 170 z_mck170 q.1 q.2
  · exact h 180 z_mck180 q.1 q.2
  · exact h 190 z_mck190 q.1 q.2
  · exact h 200 z_mck200 q.1 q.2
  · exact h 210 z_mck210 q.1 q.2
  · exact h 220 z_mck220 q.1 q.2
  · exact h 230 z_mck230 q.1 q.2
  · exact h 240 z_mck240 q.1 q.2
theorem z_ckkX0 : ∀ (k : Nat) (L : z_Pg), pgX0[k]? = some L → L.all (z_eck (0 + k)) = true := by
  intro k L h
  unfold pgX0 at h
  rcases k with _ | k
  · cases h; exact ckX0_init
  rw [List.getElem?_cons_succ] at h
  rcases k with _ | k
  · cases h; exact ckX0_clear
  rw [List.getElem?_cons_succ] at h
  rcases k with _ | k
  · cases h; exact ckX0_hasPart
  rw [List.getElem?_cons_succ] at h
  rcases k with _ | k
  · cases h; exact ckX0_hasReader
  rw [List.getElem?_cons_succ] at h
  rcases k with _ | k
  · cases h; exact ckX0_hasWant
  rw [List.getElem?_cons_succ] at h
  rcases k with _ | k
  · cases h; exact ckX0_ofPart
  rw [List.getElem?_cons_succ] at h
  rcases k with _ | k
  · cases h; exact ckX0_ofReader
  rw [List.getElem?_cons_succ] at h
  rcases k with _ | k
  · cases h; exact ckX0_ofWant
  rw [List.getElem?_cons_succ] at h
  rcases k with _ | k
  · cases h; exact ckX0_addPart
  rw [List.getElem?_cons_succ] at h
  rcases k with _ | k
  · cases h; exact ckX0_addReader
  rw [List.getElem?_cons_succ] at h
  rcases k with _ | k
  · cases h; exact ckX0_addWant
  rw [List.getElem?_cons_succ] at h
  rcases k with _ | k
  · cases h; exact ckX0_forbid
  rw [List.getElem?_cons_succ] at h
  rcases k with _ | k
  · cases h; exact ckX0_cover
  rw [List.getElem?_cons_succ] at h
  rcases k with _ | k
  · cases h; exact ckX0_wantOf
  rw [List.getElem?_cons_succ] at h
  rcases k with _ | k
  · cases h; exact ckX0_worthAt
  rw [List.getElem?_cons_succ] at h
  rcases k with _ | k
  · cases h; exact ckX0_coveredFrom
  rw [List.getElem?_cons_succ] at h
  rcases k with _ | k
  · cases h; exact ckX0_comesAfter
  rw [List.getElem?_cons_succ] at h
  rcases k with _ | k
  · cases h; exact ckX0_latestBegin
  rw [List.getElem?_cons_succ] at h
  cases h
theorem z_ckkX1 : ∀ (k : Nat) (L : z_Pg), pgX1[k]? = some L → L.all (z_eck (18 + k)) = true := by
  intro k L h
  unfold pgX1 at h
  rcases k with _ | k
  · cases h; exact ckX1_init
  rw [List.getElem?_cons_succ] at h
  rcases k with _ | k
  · cases h; exact ckX1_take
  rw [List.getElem?_cons_succ] at h
  rcases k with _ | k
  · cases h; exact ckX1_look
  rw [List.getElem?_cons_succ] at h
  rcases k with _ | k
  · cases h; exact ckX1_takeSign
  rw [List.getElem?_cons_succ] at h
  rcases k with _ | k
  · cases h; exact ckX1_figure
  rw [List.getElem?_cons_succ] at h
  rcases k with _ | k
  · cases h; exact ckX1_takeFigure
  rw [List.getElem?_cons_succ] at h
  rcases k with _ | k
  · cases h; exact ckX1_takeMinute
  rw [List.getElem?_cons_succ] at h
  rcases k with _ | k
  · cases h; exact ckX1_takeLast
  rw [List.getElem?_cons_succ] at h
  rcases k with _ | k
  · cases h; exact ckX1_takePart
  rw [List.getElem?_cons_succ] at h
  rcases k with _ | k
  · cases h; exact ckX1_takeReader
  rw [List.getElem?_cons_succ] at h
  rcases k with _ | k
  · cases h; exact ckX1_takeWant
  rw [List.getElem?_cons_succ] at h
  rcases k with _ | k
  · cases h; exact ckX1_takeNot
  rw [List.getElem?_cons_succ] at h
  rcases k with _ | k
  · cases h; exact ckX1_takeCushion
  rw [List.getElem?_cons_succ] at h
  cases h
theorem z_ckkX2 : ∀ (k : Nat) (L : z_Pg), pgX2[k]? = some L → L.all (z_eck (31 + k)) = true := by
  intro k L h
  unfold pgX2 at h
  rcases k with _ | k
  · cases h; exact ckX2_init
  rw [List.getElem?_cons_succ] at h
  rcases k with _ | k
  · cases h; exact ckX2_clear
  rw [List.getElem?_cons_succ] at h
  rcases k with _ | k
  · cases h; exact ckX2_become
  rw [List.getElem?_cons_succ] at h
  rcases k with _ | k
  · cases h; exact ckX2_isBegunAhead
  rw [List.getElem?_cons_succ] at h
  rcases k with _ | k
  · cases h; exact ckX2_begunAhead
  rw [List.getElem?_cons_succ] at h
  rcases k with _ | k
  · cases h; exact ckX2_isReadIn
  rw [List.getElem?_cons_succ] at h
  rcases k with _ | k
  · cases h; exact ckX2_lossOf
  rw [List.getElem?_cons_succ] at h
  rcases k with _ | k
  · cases h; exact ckX2_lossOfAll
  rw [List.getElem?_cons_succ] at h
  rcases k with _ | k
  · cases h; exact ckX2_lossBy
  rw [List.getElem?_cons_succ] at h
  rcases k with _ | k
  · cases h; exact ckX2_firstWrong
  rw [List.getElem?_cons_succ] at h
  rcases k with _ | k
  · cases h; exact ckX2_firstWrongOf
  rw [List.getElem?_cons_succ] at h
  rcases k with _ | k
  · cases h; exact ckX2_isCrowded
  rw [List.getElem?_cons_succ] at h
  rcases k with _ | k
  · cases h; exact ckX2_isInOrder
  rw [List.getElem?_cons_succ] at h
  cases h
theorem z_ckkX3 : ∀ (k : Nat) (L : z_Pg), pgX3[k]? = some L → L.all (z_eck (44 + k)) = true := by
  intro k L h
  unfold pgX3 at h
  rcases k with _ | k
  · cases h; exact ckX3_init
  rw [List.getElem?_cons_succ] at h
  rcases k with _ | k
  · cases h; exact ckX3_go
  rw [List.getElem?_cons_succ] at h
  rcases k with _ | k
  · cases h; exact ckX3_pick
  rw [List.getElem?_cons_succ] at h
  rcases k with _ | k
  · cases h; exact ckX3_pickByCard
  rw [List.getElem?_cons_succ] at h
  rcases k with _ | k
  · cases h; exact ckX3_pickNext
  rw [List.getElem?_cons_succ] at h
  rcases k with _ | k
  · cases h; exact ckX3_pickDear
  rw [List.getElem?_cons_succ] at h
  rcases k with _ | k
  · cases h; exact ckX3_pickShort
  rw [List.getElem?_cons_succ] at h
  rcases k with _ | k
  · cases h; exact ckX3_firstOf
  rw [List.getElem?_cons_succ] at h
  rcases k with _ | k
  · cases h; exact ckX3_mayBegin
  rw [List.getElem?_cons_succ] at h
  rcases k with _ | k
  · cases h; exact ckX3_isThrough
  rw [List.getElem?_cons_succ] at h
  rcases k with _ | k
  · cases h; exact ckX3_freeCopy
  rw [List.getElem?_cons_succ] at h
  rcases k with _ | k
  · cases h; exact ckX3_begin
  rw [List.getElem?_cons_succ] at h
  rcases k with _ | k
  · cases h; exact ckX3_letGo
  rw [List.getElem?_cons_succ] at h
  cases h
theorem z_ckkX4 : ∀ (k : Nat) (L : z_Pg), pgX4[k]? = some L → L.all (z_eck (57 + k)) = true := by
  intro k L h
  unfold pgX4 at h
  rcases k with _ | k
  · cases h; exact ckX4_init
  rw [List.getElem?_cons_succ] at h
  rcases k with _ | k
  · cases h; exact ckX4_isCard
  rw [List.getElem?_cons_succ] at h
  rcases k with _ | k
  · cases h; exact ckX4_isOf
  rw [List.getElem?_cons_succ] at h
  rcases k with _ | k
  · cases h; exact ckX4_beginCard
  rw [List.getElem?_cons_succ] at h
  rcases k with _ | k
  · cases h; exact ckX4_nextCard
  rw [List.getElem?_cons_succ] at h
  rcases k with _ | k
  · cases h; exact ckX4_swap
  rw [List.getElem?_cons_succ] at h
  cases h
theorem z_ckkX5 : ∀ (k : Nat) (L : z_Pg), pgX5[k]? = some L → L.all (z_eck (63 + k)) = true := by
  intro k L h
  unfold pgX5 at h
  rcases k with _ | k
  · cases h; exact ckX5_init
  rw [List.getElem?_cons_succ] at h
  rcases k with _ | k
  · cases h; exact ckX5_start
  rw [List.getElem?_cons_succ] at h
  rcases k with _ | k
  · cases h; exact ckX5_keep
  rw [List.getElem?_cons_succ] at h
  rcases k with _ | k
  · cases h; exact ckX5_add
  rw [List.getElem?_cons_succ] at h
  rcases k with _ | k
  · cases h; exact ckX5_go
  rw [List.getElem?_cons_succ] at h
  rcases k with _ | k
  · cases h; exact ckX5_grow
  rw [List.getElem?_cons_succ] at h
  rcases k with _ | k
  · cases h; exact ckX5_weigh
  rw [List.getElem?_cons_succ] at h
  rcases k with _ | k
  · cases h; exact ckX5_hope
  rw [List.getElem?_cons_succ] at h
  rcases k with _ | k
  · cases h; exact ckX5_worst
  rw [List.getElem?_cons_succ] at h
  rcases k with _ | k
  · cases h; exact ckX5_isNext
  rw [List.getElem?_cons_succ] at h
  rcases k with _ | k
  · cases h; exact ckX5_earliest
  rw [List.getElem?_cons_succ] at h
  rcases k with _ | k
  · cases h; exact ckX5_firstCopy
  rw [List.getElem?_cons_succ] at h
  rcases k with _ | k
  · cases h; exact ckX5_place
  rw [List.getElem?_cons_succ] at h
  rcases k with _ | k
  · cases h; exact ckX5_takeBack
  rw [List.getElem?_cons_succ] at h
  rcases k with _ | k
  · cases h; exact ckX5_miss
  rw [List.getElem?_cons_succ] at h
  cases h
theorem z_ckkX6 : ∀ (k : Nat) (L : z_Pg), pgX6[k]? = some L → L.all (z_eck (78 + k)) = true := by
  intro k L h
  unfold pgX6 at h
  rcases k with _ | k
  · cases h; exact ckX6_init
  rw [List.getElem?_cons_succ] at h
  rcases k with _ | k
  · cases h; exact ckX6_has
  rw [List.getElem?_cons_succ] at h
  rcases k with _ | k
  · cases h; exact ckX6_isMissing
  rw [List.getElem?_cons_succ] at h
  rcases k with _ | k
  · cases h; exact ckX6_lackAt
  rw [List.getElem?_cons_succ] at h
  rcases k with _ | k
  · cases h; exact ckX6_spans
  rw [List.getElem?_cons_succ] at h
  rcases k with _ | k
  · cases h; exact ckX6_begin
  rw [List.getElem?_cons_succ] at h
  rcases k with _ | k
  · cases h; exact ckX6_there
  rw [List.getElem?_cons_succ] at h
  rcases k with _ | k
  · cases h; exact ckX6_digestOn
  rw [List.getElem?_cons_succ] at h
  cases h
theorem z_ckkX7 : ∀ (k : Nat) (L : z_Pg), pgX7[k]? = some L → L.all (z_eck (86 + k)) = true := by
  intro k L h
  unfold pgX7 at h
  rcases k with _ | k
  · cases h; exact ckX7_init
  rw [List.getElem?_cons_succ] at h
  rcases k with _ | k
  · cases h; exact ckX7_row
  rw [List.getElem?_cons_succ] at h
  rcases k with _ | k
  · cases h; exact ckX7_lay
  rw [List.getElem?_cons_succ] at h
  rcases k with _ | k
  · cases h; exact ckX7_at
  rw [List.getElem?_cons_succ] at h
  rcases k with _ | k
  · cases h; exact ckX7_tear
  rw [List.getElem?_cons_succ] at h
  rcases k with _ | k
  · cases h; exact ckX7_copy
  rw [List.getElem?_cons_succ] at h
  rcases k with _ | k
  · cases h; exact ckX7_mean
  rw [List.getElem?_cons_succ] at h
  rcases k with _ | k
  · cases h; exact ckX7_text
  rw [List.getElem?_cons_succ] at h
  rcases k with _ | k
  · cases h; exact ckX7_put
  rw [List.getElem?_cons_succ] at h
  rcases k with _ | k
  · cases h; exact ckX7_fault
  rw [List.getElem?_cons_succ] at h
  rcases k with _ | k
  · cases h; exact ckX7_house
  rw [List.getElem?_cons_succ] at h
  rcases k with _ | k
  · cases h; exact ckX7_part
  rw [List.getElem?_cons_succ] at h
  rcases k with _ | k
  · cases h; exact ckX7_reader
  rw [List.getElem?_cons_succ] at h
  rcases k with _ | k
  · cases h; exact ckX7_want
  rw [List.getElem?_cons_succ] at h
  rcases k with _ | k
  · cases h; exact ckX7_copies
  rw [List.getElem?_cons_succ] at h
  rcases k with _ | k
  · cases h; exact ckX7_post
  rw [List.getElem?_cons_succ] at h
  rcases k with _ | k
  · cases h; exact ckX7_late
  rw [List.getElem?_cons_succ] at h
  rcases k with _ | k
  · cases h; exact ckX7_read
  rw [List.getElem?_cons_succ] at h
  rcases k with _ | k
  · cases h; exact ckX7_judge
  rw [List.getElem?_cons_succ] at h
  rcases k with _ | k
  · cases h; exact ckX7_missed
  rw [List.getElem?_cons_succ] at h
  rcases k with _ | k
  · cases h; exact ckX7_who
  rw [List.getElem?_cons_succ] at h
  rcases k with _ | k
  · cases h; exact ckX7_can
  rw [List.getElem?_cons_succ] at h
  rcases k with _ | k
  · cases h; exact ckX7_image
  rw [List.getElem?_cons_succ] at h
  rcases k with _ | k
  · cases h; exact ckX7_on
  rw [List.getElem?_cons_succ] at h
  rcases k with _ | k
  · cases h; exact ckX7_rule
  rw [List.getElem?_cons_succ] at h
  rcases k with _ | k
  · cases h; exact ckX7_mark
  rw [List.getElem?_cons_succ] at h
  rcases k with _ | k
  · cases h; exact ckX7_run
  rw [List.getElem?_cons_succ] at h
  rcases k with _ | k
  · cases h; exact ckX7_best
  rw [List.getElem?_cons_succ] at h
  rcases k with _ | k
  · cases h; exact ckX7_least
  rw [List.getElem?_cons_succ] at h
  rcases k with _ | k
  · cases h; exact ckX7_mend
  rw [List.getElem?_cons_succ] at h
  rcases k with _ | k
  · cases h; exact ckX7_soon
  rw [List.getElem?_cons_succ] at h
  rcases k with _ | k
  · cases h; exact ckX7_even
  rw [List.getElem?_cons_succ] at h
  rcases k with _ | k
  · cases h; exact ckX7_bound
  rw [List.getElem?_cons_succ] at h
  rcases k with _ | k
  · cases h; exact ckX7_quarrel
  rw [List.getElem?_cons_succ] at h
  rcases k with _ | k
  · cases h; exact ckX7_twice
  rw [List.getElem?_cons_succ] at h
  rcases k with _ | k
  · cases h; exact ckX7_asked
  rw [List.getElem?_cons_succ] at h
  rcases k with _ | k
  · cases h; exact ckX7_count
  rw [List.getElem?_cons_succ] at h
  rcases k with _ | k
  · cases h; exact ckX7_finding
  rw [List.getElem?_cons_succ] at h
  rcases k with _ | k
  · cases h; exact ckX7_findings
  rw [List.getElem?_cons_succ] at h
  rcases k with _ | k
  · cases h; exact ckX7_digest
  rw [List.getElem?_cons_succ] at h
  rcases k with _ | k
  · cases h; exact ckX7_found
  rw [List.getElem?_cons_succ] at h
  rcases k with _ | k
  · cases h; exact ckX7_isBeginning
  rw [List.getElem?_cons_succ] at h
  rcases k with _ | k
  · cases h; exact ckX7_ofWant
  rw [List.getElem?_cons_succ] at h
  rcases k with _ | k
  · cases h; exact ckX7_lackOfCard
  rw [List.getElem?_cons_succ] at h
  rcases k with _ | k
  · cases h; exact ckX7_rulesThere
  rw [List.getElem?_cons_succ] at h
  rcases k with _ | k
  · cases h; exact ckX7_searchAll
  rw [List.getElem?_cons_succ] at h
  rcases k with _ | k
  · cases h; exact ckX7_canAllHaveAll
  rw [List.getElem?_cons_succ] at h
  rcases k with _ | k
  · cases h; exact ckX7_keepAhead
  rw [List.getElem?_cons_succ] at h
  rcases k with _ | k
  · cases h; exact ckX7_digestOfHouse
  rw [List.getElem?_cons_succ] at h
  cases h
theorem z_ckkX8 : ∀ (k : Nat) (L : z_Pg), pgX8[k]? = some L → L.all (z_eck (135 + k)) = true := by
  intro k L h
  unfold pgX8 at h
  rcases k with _ | k
  · cases h; exact ckX8_init
  rw [List.getElem?_cons_succ] at h
  rcases k with _ | k
  · cases h; exact ckX8_in
  rw [List.getElem?_cons_succ] at h
  rcases k with _ | k
  · cases h; exact ckX8_has
  rw [List.getElem?_cons_succ] at h
  rcases k with _ | k
  · cases h; exact ckX8_bits
  rw [List.getElem?_cons_succ] at h
  rcases k with _ | k
  · cases h; exact ckX8_greater
  rw [List.getElem?_cons_succ] at h
  rcases k with _ | k
  · cases h; exact ckX8_meets
  rw [List.getElem?_cons_succ] at h
  rcases k with _ | k
  · cases h; exact ckX8_finding
  rw [List.getElem?_cons_succ] at h
  rcases k with _ | k
  · cases h; exact ckX8_findings
  rw [List.getElem?_cons_succ] at h
  rcases k with _ | k
  · cases h; exact ckX8_tells
  rw [List.getElem?_cons_succ] at h
  rcases k with _ | k
  · cases h; exact ckX8_asked
  rw [List.getElem?_cons_succ] at h
  rcases k with _ | k
  · cases h; exact ckX8_isRow
  rw [List.getElem?_cons_succ] at h
  rcases k with _ | k
  · cases h; exact ckX8_rowAt
  rw [List.getElem?_cons_succ] at h
  rcases k with _ | k
  · cases h; exact ckX8_row
  rw [List.getElem?_cons_succ] at h
  rcases k with _ | k
  · cases h; exact ckX8_lay
  rw [List.getElem?_cons_succ] at h
  rcases k with _ | k
  · cases h; exact ckX8_at
  rw [List.getElem?_cons_succ] at h
  rcases k with _ | k
  · cases h; exact ckX8_tear
  rw [List.getElem?_cons_succ] at h
  rcases k with _ | k
  · cases h; exact ckX8_copy
  rw [List.getElem?_cons_succ] at h
  rcases k with _ | k
  · cases h; exact ckX8_mean
  rw [List.getElem?_cons_succ] at h
  rcases k with _ | k
  · cases h; exact ckX8_isText
  rw [List.getElem?_cons_succ] at h
  rcases k with _ | k
  · cases h; exact ckX8_text
  rw [List.getElem?_cons_succ] at h
  rcases k with _ | k
  · cases h; exact ckX8_put
  rw [List.getElem?_cons_succ] at h
  rcases k with _ | k
  · cases h; exact ckX8_byteAt
  rw [List.getElem?_cons_succ] at h
  rcases k with _ | k
  · cases h; exact ckX8_sign
  rw [List.getElem?_cons_succ] at h
  rcases k with _ | k
  · cases h; exact ckX8_figure
  rw [List.getElem?_cons_succ] at h
  rcases k with _ | k
  · cases h; exact ckX8_minute
  rw [List.getElem?_cons_succ] at h
  rcases k with _ | k
  · cases h; exact ckX8_readsLast
  rw [List.getElem?_cons_succ] at h
  rcases k with _ | k
  · cases h; exact ckX8_readsPart
  rw [List.getElem?_cons_succ] at h
  rcases k with _ | k
  · cases h; exact ckX8_readsReader
  rw [List.getElem?_cons_succ] at h
  rcases k with _ | k
  · cases h; exact ckX8_readsWant
  rw [List.getElem?_cons_succ] at h
  rcases k with _ | k
  · cases h; exact ckX8_readsNot
  rw [List.getElem?_cons_succ] at h
  rcases k with _ | k
  · cases h; exact ckX8_readsCushion
  rw [List.getElem?_cons_succ] at h
  rcases k with _ | k
  · cases h; exact ckX8_readsItem
  rw [List.getElem?_cons_succ] at h
  rcases k with _ | k
  · cases h; exact ckX8_faultOf
  rw [List.getElem?_cons_succ] at h
  rcases k with _ | k
  · cases h; exact ckX8_fault
  rw [List.getElem?_cons_succ] at h
  rcases k with _ | k
  · cases h; exact ckX8_house
  rw [List.getElem?_cons_succ] at h
  rcases k with _ | k
  · cases h; exact ckX8_isPart
  rw [List.getElem?_cons_succ] at h
  rcases k with _ | k
  · cases h; exact ckX8_isReader
  rw [List.getElem?_cons_succ] at h
  rcases k with _ | k
  · cases h; exact ckX8_isWant
  rw [List.getElem?_cons_succ] at h
  rcases k with _ | k
  · cases h; exact ckX8_readerOf
  rw [List.getElem?_cons_succ] at h
  rcases k with _ | k
  · cases h; exact ckX8_partOf
  rw [List.getElem?_cons_succ] at h
  rcases k with _ | k
  · cases h; exact ckX8_minutesOf
  rw [List.getElem?_cons_succ] at h
  rcases k with _ | k
  · cases h; exact ckX8_copiesOf
  rw [List.getElem?_cons_succ] at h
  rcases k with _ | k
  · cases h; exact ckX8_comesAt
  rw [List.getElem?_cons_succ] at h
  rcases k with _ | k
  · cases h; exact ckX8_from
  rw [List.getElem?_cons_succ] at h
  rcases k with _ | k
  · cases h; exact ckX8_till
  rw [List.getElem?_cons_succ] at h
  rcases k with _ | k
  · cases h; exact ckX8_isInOrder
  rw [List.getElem?_cons_succ] at h
  rcases k with _ | k
  · cases h; exact ckX8_isNotAfter
  rw [List.getElem?_cons_succ] at h
  rcases k with _ | k
  · cases h; exact ckX8_isUnder
  rw [List.getElem?_cons_succ] at h
  rcases k with _ | k
  · cases h; exact ckX8_part
  rw [List.getElem?_cons_succ] at h
  rcases k with _ | k
  · cases h; exact ckX8_readerTells
  rw [List.getElem?_cons_succ] at h
  rcases k with _ | k
  · cases h; exact ckX8_reader
  rw [List.getElem?_cons_succ] at h
  rcases k with _ | k
  · cases h; exact ckX8_wantTells
  rw [List.getElem?_cons_succ] at h
  rcases k with _ | k
  · cases h; exact ckX8_want
  rw [List.getElem?_cons_succ] at h
  rcases k with _ | k
  · cases h; exact ckX8_copies
  rw [List.getElem?_cons_succ] at h
  rcases k with _ | k
  · cases h; exact ckX8_post
  rw [List.getElem?_cons_succ] at h
  rcases k with _ | k
  · cases h; exact ckX8_late
  rw [List.getElem?_cons_succ] at h
  rcases k with _ | k
  · cases h; exact ckX8_isRead
  rw [List.getElem?_cons_succ] at h
  rcases k with _ | k
  · cases h; exact ckX8_endOf
  rw [List.getElem?_cons_succ] at h
  rcases k with _ | k
  · cases h; exact ckX8_isReading
  rw [List.getElem?_cons_succ] at h
  rcases k with _ | k
  · cases h; exact ckX8_read
  rw [List.getElem?_cons_succ] at h
  rcases k with _ | k
  · cases h; exact ckX8_readingMany
  rw [List.getElem?_cons_succ] at h
  rcases k with _ | k
  · cases h; exact ckX8_doesRead
  rw [List.getElem?_cons_succ] at h
  rcases k with _ | k
  · cases h; exact ckX8_isDue
  rw [List.getElem?_cons_succ] at h
  rcases k with _ | k
  · cases h; exact ckX8_isSpoilt
  rw [List.getElem?_cons_succ] at h
  rcases k with _ | k
  · cases h; exact ckX8_isWell
  rw [List.getElem?_cons_succ] at h
  rcases k with _ | k
  · cases h; exact ckX8_firstBad
  rw [List.getElem?_cons_succ] at h
  rcases k with _ | k
  · cases h; exact ckX8_judge
  rw [List.getElem?_cons_succ] at h
  rcases k with _ | k
  · cases h; exact ckX8_worthAt
  rw [List.getElem?_cons_succ] at h
  rcases k with _ | k
  · cases h; exact ckX8_missedOf
  rw [List.getElem?_cons_succ] at h
  rcases k with _ | k
  · cases h; exact ckX8_missed
  rw [List.getElem?_cons_succ] at h
  rcases k with _ | k
  · cases h; exact ckX8_who
  rw [List.getElem?_cons_succ] at h
  rcases k with _ | k
  · cases h; exact ckX8_can
  rw [List.getElem?_cons_succ] at h
  rcases k with _ | k
  · cases h; exact ckX8_image
  rw [List.getElem?_cons_succ] at h
  rcases k with _ | k
  · cases h; exact ckX8_on
  rw [List.getElem?_cons_succ] at h
  rcases k with _ | k
  · cases h; exact ckX8_isRule
  rw [List.getElem?_cons_succ] at h
  rcases k with _ | k
  · cases h; exact ckX8_rule
  rw [List.getElem?_cons_succ] at h
  rcases k with _ | k
  · cases h; exact ckX8_markOf
  rw [List.getElem?_cons_succ] at h
  rcases k with _ | k
  · cases h; exact ckX8_mark
  rw [List.getElem?_cons_succ] at h
  rcases k with _ | k
  · cases h; exact ckX8_hasAll
  rw [List.getElem?_cons_succ] at h
  rcases k with _ | k
  · cases h; exact ckX8_takenMany
  rw [List.getElem?_cons_succ] at h
  rcases k with _ | k
  · cases h; exact ckX8_may
  rw [List.getElem?_cons_succ] at h
  rcases k with _ | k
  · cases h; exact ckX8_firstOf
  rw [List.getElem?_cons_succ] at h
  rcases k with _ | k
  · cases h; exact ckX8_waitsSince
  rw [List.getElem?_cons_succ] at h
  rcases k with _ | k
  · cases h; exact ckX8_chosen
  rw [List.getElem?_cons_succ] at h
  rcases k with _ | k
  · cases h; exact ckX8_runs
  rw [List.getElem?_cons_succ] at h
  rcases k with _ | k
  · cases h; exact ckX8_run
  rw [List.getElem?_cons_succ] at h
  rcases k with _ | k
  · cases h; exact ckX8_keep
  rw [List.getElem?_cons_succ] at h
  rcases k with _ | k
  · cases h; exact ckX8_back
  rw [List.getElem?_cons_succ] at h
  rcases k with _ | k
  · cases h; exact ckX8_layCard
  rw [List.getElem?_cons_succ] at h
  rcases k with _ | k
  · cases h; exact ckX8_best
  rw [List.getElem?_cons_succ] at h
  rcases k with _ | k
  · cases h; exact ckX8_copyEnd
  rw [List.getElem?_cons_succ] at h
  rcases k with _ | k
  · cases h; exact ckX8_freeCopy
  rw [List.getElem?_cons_succ] at h
  rcases k with _ | k
  · cases h; exact ckX8_isNext
  rw [List.getElem?_cons_succ] at h
  rcases k with _ | k
  · cases h; exact ckX8_letsAll
  rw [List.getElem?_cons_succ] at h
  rcases k with _ | k
  · cases h; exact ckX8_places
  rw [List.getElem?_cons_succ] at h
  rcases k with _ | k
  · cases h; exact ckX8_missedLooked
  rw [List.getElem?_cons_succ] at h
  rcases k with _ | k
  · cases h; exact ckX8_worst
  rw [List.getElem?_cons_succ] at h
  rcases k with _ | k
  · cases h; exact ckX8_lastEnd
  rw [List.getElem?_cons_succ] at h
  rcases k with _ | k
  · cases h; exact ckX8_visit
  rw [List.getElem?_cons_succ] at h
  rcases k with _ | k
  · cases h; exact ckX8_search
  rw [List.getElem?_cons_succ] at h
  rcases k with _ | k
  · cases h; exact ckX8_begins
  rw [List.getElem?_cons_succ] at h
  rcases k with _ | k
  · cases h; exact ckX8_allWants
  rw [List.getElem?_cons_succ] at h
  rcases k with _ | k
  · cases h; exact ckX8_least
  rw [List.getElem?_cons_succ] at h
  rcases k with _ | k
  · cases h; exact ckX8_mend
  rw [List.getElem?_cons_succ] at h
  rcases k with _ | k
  · cases h; exact ckX8_soon
  rw [List.getElem?_cons_succ] at h
  rcases k with _ | k
  · cases h; exact ckX8_even
  rw [List.getElem?_cons_succ] at h
  rcases k with _ | k
  · cases h; exact ckX8_bound
  rw [List.getElem?_cons_succ] at h
  rcases k with _ | k
  · cases h; exact ckX8_canAll
  rw [List.getElem?_cons_succ] at h
  rcases k with _ | k
  · cases h; exact ckX8_quarrel
  rw [List.getElem?_cons_succ] at h
  rcases k with _ | k
  · cases h; exact ckX8_twice
  rw [List.getElem?_cons_succ] at h
  rcases k with _ | k
  · cases h; exact ckX8_counted
  rw [List.getElem?_cons_succ] at h
  rcases k with _ | k
  · cases h; exact ckX8_count
  rw [List.getElem?_cons_succ] at h
  rcases k with _ | k
  · cases h; exact ckX8_mix
  rw [List.getElem?_cons_succ] at h
  rcases k with _ | k
  · cases h; exact ckX8_mixHouse
  rw [List.getElem?_cons_succ] at h
  rcases k with _ | k
  · cases h; exact ckX8_digest
  rw [List.getElem?_cons_succ] at h
  cases h
theorem z_ckkL : ∀ (k : Nat) (L : z_Pg), pgL[k]? = some L → L.all (z_eck (250 + k)) = true := by
  intro k L h
  unfold pgL at h
  rcases k with _ | k
  · cases h; exact ckL_law
  rw [List.getElem?_cons_succ] at h
  cases h
