theorem ch0 {w : Cond} (h : w ∈ k2_sels lw_privs) : w ∈ lw_tbl := List.mem_append_left _ h
theorem ch1 {w : Cond} (h : w ∈ tables_1_1) : w ∈ lw_tbl := List.mem_append_right _ (List.mem_append_left _ h)
theorem ch2 {w : Cond} (h : w ∈ tables_1_2) : w ∈ lw_tbl := List.mem_append_right _ (List.mem_append_right _ (List.mem_append_left _ h))
theorem ch3 {w : Cond} (h : w ∈ tables_1_3) : w ∈ lw_tbl := List.mem_append_right _ (List.mem_append_right _ (List.mem_append_right _ (List.mem_append_left _ h)))
theorem ch4 {w : Cond} (h : w ∈ tables_1_4) : w ∈ lw_tbl := List.mem_append_right _ (List.mem_append_right _ (List.mem_append_right _ (List.mem_append_right _ (List.mem_append_left _ h))))
theorem ch5 {w : Cond} (h : w ∈ tables_1_5) : w ∈ lw_tbl := List.mem_append_right _ (List.mem_append_right _ (List.mem_append_right _ (List.mem_append_right _ (List.mem_append_right _ (List.mem_append_left _ h)))))
theorem ch6 {w : Cond} (h : w ∈ tables_1_6) : w ∈ lw_tbl := List.mem_append_right _ (List.mem_append_right _ (List.mem_append_right _ (List.mem_append_right _ (List.mem_append_right _ (List.mem_append_right _ (List.mem_append_left _ h))))))
theorem ch7 {w : Cond} (h : w ∈ tables_1_7) : w ∈ lw_tbl := List.mem_append_right _ (List.mem_append_right _ (List.mem_append_right _ (List.mem_append_right _ (List.mem_append_right _ (List.mem_append_right _ (List.mem_append_right _ (List.mem_append_left _ h)))))))
theorem ch8 {w : Cond} (h : w ∈ tables_1_8) : w ∈ lw_tbl := List.mem_append_right _ (List.mem_append_right _ (List.mem_append_right _ (List.mem_append_right _ (List.mem_append_right _ (List.mem_append_right _ (List.mem_append_right _ (List.mem_append_right _ (h))))))))
abbrev mX0_init : MI := (yX0_init, cX0_init, 1, none)
theorem msX0_init : aMs mX0_init 0 := ⟨gd_tbl (ch2 (List.mem_of_getElem? (i := 109) rfl)) rfl, gd_tbl (ch1 (List.mem_of_getElem? (i := 11) rfl)) rfl, by decide +kernel, by decide⟩
theorem iiX0_init : Cond.instanceMethod yX0_init ∈ lw_gd := gd_tbl (ch2 (List.mem_of_getElem? (i := 108) rfl)) rfl
abbrev mX0_run : MI := (yX0_run, cX0_run, 7, some .int)
theorem msX0_run : aMs mX0_run 3 := ⟨gd_tbl (ch5 (List.mem_of_getElem? (i := 152) rfl)) rfl, gd_tbl (ch1 (List.mem_of_getElem? (i := 11) rfl)) rfl, by decide +kernel, by decide⟩
theorem mvX0_run : aMv mX0_run := ⟨gd_tbl (ch5 (List.mem_of_getElem? (i := 150) rfl)) rfl, gd_tbl (ch5 (List.mem_of_getElem? (i := 151) rfl)) rfl⟩
abbrev mX0_draw : MI := (yX0_draw, cX0_draw, 2, some .int)
theorem msX0_draw : aMs mX0_draw 1 := ⟨gd_tbl (ch5 (List.mem_of_getElem? (i := 157) rfl)) rfl, gd_tbl (ch1 (List.mem_of_getElem? (i := 11) rfl)) rfl, by decide +kernel, by decide⟩
theorem mvX0_draw : aMv mX0_draw := ⟨gd_tbl (ch5 (List.mem_of_getElem? (i := 156) rfl)) rfl, gd_tbl (ch0 (List.mem_of_getElem? (i := 27) rfl)) rfl⟩
abbrev mX1_init : MI := (yX1_init, cX1_init, 1, none)
theorem msX1_init : aMs mX1_init 0 := ⟨gd_tbl (ch1 (List.mem_of_getElem? (i := 170) rfl)) rfl, gd_tbl (ch1 (List.mem_of_getElem? (i := 5) rfl)) rfl, by decide +kernel, by decide⟩
theorem iiX1_init : Cond.instanceMethod yX1_init ∈ lw_gd := gd_tbl (ch1 (List.mem_of_getElem? (i := 169) rfl)) rfl
abbrev mX1_copyFrom : MI := (yX1_copyFrom, cX1_copyFrom, 2, none)
theorem msX1_copyFrom : aMs mX1_copyFrom 1 := ⟨gd_tbl (ch5 (List.mem_of_getElem? (i := 181) rfl)) rfl, gd_tbl (ch1 (List.mem_of_getElem? (i := 5) rfl)) rfl, by decide +kernel, by decide⟩
theorem mvX1_copyFrom : aMv mX1_copyFrom := ⟨gd_tbl (ch5 (List.mem_of_getElem? (i := 179) rfl)) rfl, gd_tbl (ch5 (List.mem_of_getElem? (i := 180) rfl)) rfl⟩
abbrev mX1_add : MI := (yX1_add, cX1_add, 4, some .int)
theorem msX1_add : aMs mX1_add 3 := ⟨gd_tbl (ch5 (List.mem_of_getElem? (i := 75) rfl)) rfl, gd_tbl (ch1 (List.mem_of_getElem? (i := 5) rfl)) rfl, by decide +kernel, by decide⟩
theorem mvX1_add : aMv mX1_add := ⟨gd_tbl (ch5 (List.mem_of_getElem? (i := 73) rfl)) rfl, gd_tbl (ch5 (List.mem_of_getElem? (i := 74) rfl)) rfl⟩
abbrev mX1_latest : MI := (yX1_latest, cX1_latest, 3, some .int)
theorem msX1_latest : aMs mX1_latest 0 := ⟨gd_tbl (ch5 (List.mem_of_getElem? (i := 96) rfl)) rfl, gd_tbl (ch1 (List.mem_of_getElem? (i := 5) rfl)) rfl, by decide +kernel, by decide⟩
theorem mvX1_latest : aMv mX1_latest := ⟨gd_tbl (ch5 (List.mem_of_getElem? (i := 94) rfl)) rfl, gd_tbl (ch5 (List.mem_of_getElem? (i := 95) rfl)) rfl⟩
abbrev mX1_agree : MI := (yX1_agree, cX1_agree, 4, some .boolean)
theorem msX1_agree : aMs mX1_agree 2 := ⟨gd_tbl (ch5 (List.mem_of_getElem? (i := 101) rfl)) rfl, gd_tbl (ch1 (List.mem_of_getElem? (i := 5) rfl)) rfl, by decide +kernel, by decide⟩
theorem mvX1_agree : aMv mX1_agree := ⟨gd_tbl (ch5 (List.mem_of_getElem? (i := 99) rfl)) rfl, gd_tbl (ch5 (List.mem_of_getElem? (i := 100) rfl)) rfl⟩
abbrev mX2_init : MI := (yX2_init, cX2_init, 1, none)
theorem msX2_init : aMs mX2_init 0 := ⟨gd_tbl (ch2 (List.mem_of_getElem? (i := 20) rfl)) rfl, gd_tbl (ch1 (List.mem_of_getElem? (i := 8) rfl)) rfl, by decide +kernel, by decide⟩
theorem iiX2_init : Cond.instanceMethod yX2_init ∈ lw_gd := gd_tbl (ch2 (List.mem_of_getElem? (i := 19) rfl)) rfl
abbrev mX2_keep : MI := (yX2_keep, cX2_keep, 4, none)
theorem msX2_keep : aMs mX2_keep 3 := ⟨gd_tbl (ch5 (List.mem_of_getElem? (i := 176) rfl)) rfl, gd_tbl (ch1 (List.mem_of_getElem? (i := 8) rfl)) rfl, by decide +kernel, by decide⟩
theorem mvX2_keep : aMv mX2_keep := ⟨gd_tbl (ch5 (List.mem_of_getElem? (i := 174) rfl)) rfl, gd_tbl (ch5 (List.mem_of_getElem? (i := 175) rfl)) rfl⟩
abbrev mX2_giveBack : MI := (yX2_giveBack, cX2_giveBack, 4, none)
theorem msX2_giveBack : aMs mX2_giveBack 3 := ⟨gd_tbl (ch5 (List.mem_of_getElem? (i := 199) rfl)) rfl, gd_tbl (ch1 (List.mem_of_getElem? (i := 8) rfl)) rfl, by decide +kernel, by decide⟩
theorem mvX2_giveBack : aMv mX2_giveBack := ⟨gd_tbl (ch5 (List.mem_of_getElem? (i := 197) rfl)) rfl, gd_tbl (ch5 (List.mem_of_getElem? (i := 198) rfl)) rfl⟩
abbrev mX3_init : MI := (yX3_init, cX3_init, 2, none)
theorem msX3_init : aMs mX3_init 0 := ⟨gd_tbl (ch1 (List.mem_of_getElem? (i := 190) rfl)) rfl, gd_tbl (ch1 (List.mem_of_getElem? (i := 6) rfl)) rfl, by decide +kernel, by decide⟩
theorem iiX3_init : Cond.instanceMethod yX3_init ∈ lw_gd := gd_tbl (ch1 (List.mem_of_getElem? (i := 189) rfl)) rfl
abbrev mX3_copyFrom : MI := (yX3_copyFrom, cX3_copyFrom, 3, none)
theorem msX3_copyFrom : aMs mX3_copyFrom 1 := ⟨gd_tbl (ch5 (List.mem_of_getElem? (i := 186) rfl)) rfl, gd_tbl (ch1 (List.mem_of_getElem? (i := 6) rfl)) rfl, by decide +kernel, by decide⟩
theorem mvX3_copyFrom : aMv mX3_copyFrom := ⟨gd_tbl (ch5 (List.mem_of_getElem? (i := 184) rfl)) rfl, gd_tbl (ch5 (List.mem_of_getElem? (i := 185) rfl)) rfl⟩
abbrev mX3_has : MI := (yX3_has, cX3_has, 2, some .boolean)
theorem msX3_has : aMs mX3_has 1 := ⟨gd_tbl (ch4 (List.mem_of_getElem? (i := 180) rfl)) rfl, gd_tbl (ch1 (List.mem_of_getElem? (i := 6) rfl)) rfl, by decide +kernel, by decide⟩
theorem mvX3_has : aMv mX3_has := ⟨gd_tbl (ch4 (List.mem_of_getElem? (i := 178) rfl)) rfl, gd_tbl (ch4 (List.mem_of_getElem? (i := 179) rfl)) rfl⟩
abbrev mX3_numbered : MI := (yX3_numbered, cX3_numbered, 2, some (.object "YardYear$Text"))
theorem msX3_numbered : aMs mX3_numbered 1 := ⟨gd_tbl (ch4 (List.mem_of_getElem? (i := 184) rfl)) rfl, gd_tbl (ch1 (List.mem_of_getElem? (i := 6) rfl)) rfl, by decide +kernel, by decide⟩
theorem mvX3_numbered : aMv mX3_numbered := ⟨gd_tbl (ch4 (List.mem_of_getElem? (i := 182) rfl)) rfl, gd_tbl (ch4 (List.mem_of_getElem? (i := 183) rfl)) rfl⟩
abbrev mX3_next : MI := (yX3_next, cX3_next, 1, some (.object "YardYear$Text"))
theorem msX3_next : aMs mX3_next 0 := ⟨gd_tbl (ch3 (List.mem_of_getElem? (i := 126) rfl)) rfl, gd_tbl (ch1 (List.mem_of_getElem? (i := 6) rfl)) rfl, by decide +kernel, by decide⟩
theorem mvX3_next : aMv mX3_next := ⟨gd_tbl (ch3 (List.mem_of_getElem? (i := 124) rfl)) rfl, gd_tbl (ch3 (List.mem_of_getElem? (i := 125) rfl)) rfl⟩
abbrev mX4_init : MI := (yX4_init, cX4_init, 1, none)
theorem msX4_init : aMs mX4_init 0 := ⟨gd_tbl (ch2 (List.mem_of_getElem? (i := 86) rfl)) rfl, gd_tbl (ch1 (List.mem_of_getElem? (i := 10) rfl)) rfl, by decide +kernel, by decide⟩
theorem iiX4_init : Cond.instanceMethod yX4_init ∈ lw_gd := gd_tbl (ch2 (List.mem_of_getElem? (i := 85) rfl)) rfl
abbrev mX4_fewestDays : MI := (yX4_fewestDays, cX4_fewestDays, 4, some .int)
theorem msX4_fewestDays : aMs mX4_fewestDays 1 := ⟨gd_tbl (ch5 (List.mem_of_getElem? (i := 32) rfl)) rfl, gd_tbl (ch1 (List.mem_of_getElem? (i := 10) rfl)) rfl, by decide +kernel, by decide⟩
theorem mvX4_fewestDays : aMv mX4_fewestDays := ⟨gd_tbl (ch5 (List.mem_of_getElem? (i := 30) rfl)) rfl, gd_tbl (ch5 (List.mem_of_getElem? (i := 31) rfl)) rfl⟩
abbrev mX4_fits : MI := (yX4_fits, cX4_fits, 5, some .boolean)
theorem msX4_fits : aMs mX4_fits 2 := ⟨gd_tbl (ch5 (List.mem_of_getElem? (i := 38) rfl)) rfl, gd_tbl (ch1 (List.mem_of_getElem? (i := 10) rfl)) rfl, by decide +kernel, by decide⟩
theorem mvX4_fits : aMv mX4_fits := ⟨gd_tbl (ch5 (List.mem_of_getElem? (i := 37) rfl)) rfl, gd_tbl (ch0 (List.mem_of_getElem? (i := 23) rfl)) rfl⟩
abbrev mX5_init : MI := (yX5_init, cX5_init, 1, none)
theorem msX5_init : aMs mX5_init 0 := ⟨gd_tbl (ch2 (List.mem_of_getElem? (i := 46) rfl)) rfl, gd_tbl (ch1 (List.mem_of_getElem? (i := 9) rfl)) rfl, by decide +kernel, by decide⟩
theorem iiX5_init : Cond.instanceMethod yX5_init ∈ lw_gd := gd_tbl (ch2 (List.mem_of_getElem? (i := 45) rfl)) rfl
abbrev mX5_begin : MI := (yX5_begin, cX5_begin, 2, none)
theorem msX5_begin : aMs mX5_begin 1 := ⟨gd_tbl (ch4 (List.mem_of_getElem? (i := 233) rfl)) rfl, gd_tbl (ch1 (List.mem_of_getElem? (i := 9) rfl)) rfl, by decide +kernel, by decide⟩
theorem mvX5_begin : aMv mX5_begin := ⟨gd_tbl (ch4 (List.mem_of_getElem? (i := 232) rfl)) rfl, gd_tbl (ch0 (List.mem_of_getElem? (i := 20) rfl)) rfl⟩
abbrev mX5_cellBehind : MI := (yX5_cellBehind, cX5_cellBehind, 5, some .int)
theorem msX5_cellBehind : aMs mX5_cellBehind 3 := ⟨gd_tbl (ch4 (List.mem_of_getElem? (i := 229) rfl)) rfl, gd_tbl (ch1 (List.mem_of_getElem? (i := 9) rfl)) rfl, by decide +kernel, by decide⟩
theorem mvX5_cellBehind : aMv mX5_cellBehind := ⟨gd_tbl (ch4 (List.mem_of_getElem? (i := 227) rfl)) rfl, gd_tbl (ch4 (List.mem_of_getElem? (i := 228) rfl)) rfl⟩
abbrev mX5_firstIndoors : MI := (yX5_firstIndoors, cX5_firstIndoors, 3, some .int)
theorem msX5_firstIndoors : aMs mX5_firstIndoors 1 := ⟨gd_tbl (ch5 (List.mem_of_getElem? (i := 3) rfl)) rfl, gd_tbl (ch1 (List.mem_of_getElem? (i := 9) rfl)) rfl, by decide +kernel, by decide⟩
theorem mvX5_firstIndoors : aMv mX5_firstIndoors := ⟨gd_tbl (ch5 (List.mem_of_getElem? (i := 1) rfl)) rfl, gd_tbl (ch5 (List.mem_of_getElem? (i := 2) rfl)) rfl⟩
abbrev mX5_findWays : MI := (yX5_findWays, cX5_findWays, 13, some .boolean)
theorem msX5_findWays : aMs mX5_findWays 4 := ⟨gd_tbl (ch5 (List.mem_of_getElem? (i := 16) rfl)) rfl, gd_tbl (ch1 (List.mem_of_getElem? (i := 9) rfl)) rfl, by decide +kernel, by decide⟩
theorem mvX5_findWays : aMv mX5_findWays := ⟨gd_tbl (ch5 (List.mem_of_getElem? (i := 14) rfl)) rfl, gd_tbl (ch5 (List.mem_of_getElem? (i := 15) rfl)) rfl⟩
abbrev mX5_listOpenWalls : MI := (yX5_listOpenWalls, cX5_listOpenWalls, 4, some .int)
theorem msX5_listOpenWalls : aMs mX5_listOpenWalls 1 := ⟨gd_tbl (ch5 (List.mem_of_getElem? (i := 20) rfl)) rfl, gd_tbl (ch1 (List.mem_of_getElem? (i := 9) rfl)) rfl, by decide +kernel, by decide⟩
theorem mvX5_listOpenWalls : aMv mX5_listOpenWalls := ⟨gd_tbl (ch5 (List.mem_of_getElem? (i := 19) rfl)) rfl, gd_tbl (ch0 (List.mem_of_getElem? (i := 21) rfl)) rfl⟩
abbrev mX5_yearIn : MI := (yX5_yearIn, cX5_yearIn, 5, some .int)
theorem msX5_yearIn : aMs mX5_yearIn 3 := ⟨gd_tbl (ch5 (List.mem_of_getElem? (i := 24) rfl)) rfl, gd_tbl (ch1 (List.mem_of_getElem? (i := 9) rfl)) rfl, by decide +kernel, by decide⟩
theorem mvX5_yearIn : aMv mX5_yearIn := ⟨gd_tbl (ch5 (List.mem_of_getElem? (i := 23) rfl)) rfl, gd_tbl (ch0 (List.mem_of_getElem? (i := 22) rfl)) rfl⟩
abbrev mX5_meeting : MI := (yX5_meeting, cX5_meeting, 8, some .int)
theorem msX5_meeting : aMs mX5_meeting 3 := ⟨gd_tbl (ch5 (List.mem_of_getElem? (i := 46) rfl)) rfl, gd_tbl (ch1 (List.mem_of_getElem? (i := 9) rfl)) rfl, by decide +kernel, by decide⟩
theorem mvX5_meeting : aMv mX5_meeting := ⟨gd_tbl (ch5 (List.mem_of_getElem? (i := 44) rfl)) rfl, gd_tbl (ch5 (List.mem_of_getElem? (i := 45) rfl)) rfl⟩
abbrev mX5_findMeet : MI := (yX5_findMeet, cX5_findMeet, 7, some .boolean)
theorem msX5_findMeet : aMs mX5_findMeet 4 := ⟨gd_tbl (ch5 (List.mem_of_getElem? (i := 61) rfl)) rfl, gd_tbl (ch1 (List.mem_of_getElem? (i := 9) rfl)) rfl, by decide +kernel, by decide⟩
theorem mvX5_findMeet : aMv mX5_findMeet := ⟨gd_tbl (ch5 (List.mem_of_getElem? (i := 59) rfl)) rfl, gd_tbl (ch5 (List.mem_of_getElem? (i := 60) rfl)) rfl⟩
abbrev mX5_yearBeside : MI := (yX5_yearBeside, cX5_yearBeside, 8, some .int)
theorem msX5_yearBeside : aMs mX5_yearBeside 5 := ⟨gd_tbl (ch5 (List.mem_of_getElem? (i := 66) rfl)) rfl, gd_tbl (ch1 (List.mem_of_getElem? (i := 9) rfl)) rfl, by decide +kernel, by decide⟩
theorem mvX5_yearBeside : aMv mX5_yearBeside := ⟨gd_tbl (ch5 (List.mem_of_getElem? (i := 65) rfl)) rfl, gd_tbl (ch0 (List.mem_of_getElem? (i := 24) rfl)) rfl⟩
abbrev mX5_hiddenCell : MI := (yX5_hiddenCell, cX5_hiddenCell, 6, some .int)
theorem msX5_hiddenCell : aMs mX5_hiddenCell 3 := ⟨gd_tbl (ch5 (List.mem_of_getElem? (i := 87) rfl)) rfl, gd_tbl (ch1 (List.mem_of_getElem? (i := 9) rfl)) rfl, by decide +kernel, by decide⟩
theorem mvX5_hiddenCell : aMv mX5_hiddenCell := ⟨gd_tbl (ch5 (List.mem_of_getElem? (i := 85) rfl)) rfl, gd_tbl (ch5 (List.mem_of_getElem? (i := 86) rfl)) rfl⟩
abbrev mX5_agrees : MI := (yX5_agrees, cX5_agrees, 6, some .boolean)
theorem msX5_agrees : aMs mX5_agrees 3 := ⟨gd_tbl (ch5 (List.mem_of_getElem? (i := 92) rfl)) rfl, gd_tbl (ch1 (List.mem_of_getElem? (i := 9) rfl)) rfl, by decide +kernel, by decide⟩
theorem mvX5_agrees : aMv mX5_agrees := ⟨gd_tbl (ch5 (List.mem_of_getElem? (i := 91) rfl)) rfl, gd_tbl (ch0 (List.mem_of_getElem? (i := 25) rfl)) rfl⟩
abbrev mX5_findSpade : MI := (yX5_findSpade, cX5_findSpade, 7, some .boolean)
theorem msX5_findSpade : aMs mX5_findSpade 3 := ⟨gd_tbl (ch5 (List.mem_of_getElem? (i := 110) rfl)) rfl, gd_tbl (ch1 (List.mem_of_getElem? (i := 9) rfl)) rfl, by decide +kernel, by decide⟩
theorem mvX5_findSpade : aMv mX5_findSpade := ⟨gd_tbl (ch5 (List.mem_of_getElem? (i := 108) rfl)) rfl, gd_tbl (ch5 (List.mem_of_getElem? (i := 109) rfl)) rfl⟩
abbrev mX5_seeBehind : MI := (yX5_seeBehind, cX5_seeBehind, 5, none)
theorem msX5_seeBehind : aMs mX5_seeBehind 3 := ⟨gd_tbl (ch5 (List.mem_of_getElem? (i := 114) rfl)) rfl, gd_tbl (ch1 (List.mem_of_getElem? (i := 9) rfl)) rfl, by decide +kernel, by decide⟩
theorem mvX5_seeBehind : aMv mX5_seeBehind := ⟨gd_tbl (ch5 (List.mem_of_getElem? (i := 113) rfl)) rfl, gd_tbl (ch0 (List.mem_of_getElem? (i := 26) rfl)) rfl⟩
abbrev mX5_movedBy : MI := (yX5_movedBy, cX5_movedBy, 6, some .int)
theorem msX5_movedBy : aMs mX5_movedBy 3 := ⟨gd_tbl (ch5 (List.mem_of_getElem? (i := 124) rfl)) rfl, gd_tbl (ch1 (List.mem_of_getElem? (i := 9) rfl)) rfl, by decide +kernel, by decide⟩
theorem mvX5_movedBy : aMv mX5_movedBy := ⟨gd_tbl (ch5 (List.mem_of_getElem? (i := 122) rfl)) rfl, gd_tbl (ch5 (List.mem_of_getElem? (i := 123) rfl)) rfl⟩
abbrev mX5_chanceOf : MI := (yX5_chanceOf, cX5_chanceOf, 9, some .long)
theorem msX5_chanceOf : aMs mX5_chanceOf 4 := ⟨gd_tbl (ch5 (List.mem_of_getElem? (i := 132) rfl)) rfl, gd_tbl (ch1 (List.mem_of_getElem? (i := 9) rfl)) rfl, by decide +kernel, by decide⟩
theorem mvX5_chanceOf : aMv mX5_chanceOf := ⟨gd_tbl (ch5 (List.mem_of_getElem? (i := 130) rfl)) rfl, gd_tbl (ch5 (List.mem_of_getElem? (i := 131) rfl)) rfl⟩
abbrev mX5_yearsRound : MI := (yX5_yearsRound, cX5_yearsRound, 6, some .int)
theorem msX5_yearsRound : aMs mX5_yearsRound 2 := ⟨gd_tbl (ch5 (List.mem_of_getElem? (i := 142) rfl)) rfl, gd_tbl (ch1 (List.mem_of_getElem? (i := 9) rfl)) rfl, by decide +kernel, by decide⟩
theorem mvX5_yearsRound : aMv mX5_yearsRound := ⟨gd_tbl (ch5 (List.mem_of_getElem? (i := 140) rfl)) rfl, gd_tbl (ch5 (List.mem_of_getElem? (i := 141) rfl)) rfl⟩
abbrev mX6_init : MI := (yX6_init, cX6_init, 2, none)
theorem msX6_init : aMs mX6_init 0 := ⟨gd_tbl (ch1 (List.mem_of_getElem? (i := 114) rfl)) rfl, gd_tbl (ch1 (List.mem_of_getElem? (i := 4) rfl)) rfl, by decide +kernel, by decide⟩
theorem iiX6_init : Cond.instanceMethod yX6_init ∈ lw_gd := gd_tbl (ch1 (List.mem_of_getElem? (i := 113) rfl)) rfl
abbrev mX6_copyFrom : MI := (yX6_copyFrom, cX6_copyFrom, 3, none)
theorem msX6_copyFrom : aMs mX6_copyFrom 1 := ⟨gd_tbl (ch4 (List.mem_of_getElem? (i := 95) rfl)) rfl, gd_tbl (ch1 (List.mem_of_getElem? (i := 4) rfl)) rfl, by decide +kernel, by decide⟩
theorem mvX6_copyFrom : aMv mX6_copyFrom := ⟨gd_tbl (ch4 (List.mem_of_getElem? (i := 93) rfl)) rfl, gd_tbl (ch4 (List.mem_of_getElem? (i := 94) rfl)) rfl⟩
abbrev mX6_keep : MI := (yX6_keep, cX6_keep, 3, none)
theorem msX6_keep : aMs mX6_keep 2 := ⟨gd_tbl (ch4 (List.mem_of_getElem? (i := 125) rfl)) rfl, gd_tbl (ch1 (List.mem_of_getElem? (i := 4) rfl)) rfl, by decide +kernel, by decide⟩
theorem mvX6_keep : aMv mX6_keep := ⟨gd_tbl (ch4 (List.mem_of_getElem? (i := 123) rfl)) rfl, gd_tbl (ch4 (List.mem_of_getElem? (i := 124) rfl)) rfl⟩
abbrev mX6_dropOldest : MI := (yX6_dropOldest, cX6_dropOldest, 3, none)
theorem msX6_dropOldest : aMs mX6_dropOldest 0 := ⟨gd_tbl (ch4 (List.mem_of_getElem? (i := 129) rfl)) rfl, gd_tbl (ch1 (List.mem_of_getElem? (i := 4) rfl)) rfl, by decide +kernel, by decide⟩
theorem mvX6_dropOldest : aMv mX6_dropOldest := ⟨gd_tbl (ch4 (List.mem_of_getElem? (i := 128) rfl)) rfl, gd_tbl (ch0 (List.mem_of_getElem? (i := 18) rfl)) rfl⟩
abbrev mX6_takeBack : MI := (yX6_takeBack, cX6_takeBack, 2, some .int)
theorem msX6_takeBack : aMs mX6_takeBack 1 := ⟨gd_tbl (ch4 (List.mem_of_getElem? (i := 221) rfl)) rfl, gd_tbl (ch1 (List.mem_of_getElem? (i := 4) rfl)) rfl, by decide +kernel, by decide⟩
theorem mvX6_takeBack : aMv mX6_takeBack := ⟨gd_tbl (ch4 (List.mem_of_getElem? (i := 219) rfl)) rfl, gd_tbl (ch4 (List.mem_of_getElem? (i := 220) rfl)) rfl⟩
abbrev mX7_init : MI := (yX7_init, cX7_init, 1, none)
theorem msX7_init : aMs mX7_init 0 := ⟨gd_tbl (ch2 (List.mem_of_getElem? (i := 125) rfl)) rfl, gd_tbl (ch1 (List.mem_of_getElem? (i := 12) rfl)) rfl, by decide +kernel, by decide⟩
theorem iiX7_init : Cond.instanceMethod yX7_init ∈ lw_gd := gd_tbl (ch2 (List.mem_of_getElem? (i := 124) rfl)) rfl
abbrev mX7_append : MI := (yX7_append, cX7_append, 3, none)
theorem msX7_append : aMs mX7_append 1 := ⟨gd_tbl (ch3 (List.mem_of_getElem? (i := 98) rfl)) rfl, gd_tbl (ch1 (List.mem_of_getElem? (i := 12) rfl)) rfl, by decide +kernel, by decide⟩
theorem mvX7_append : aMv mX7_append := ⟨gd_tbl (ch3 (List.mem_of_getElem? (i := 96) rfl)) rfl, gd_tbl (ch3 (List.mem_of_getElem? (i := 97) rfl)) rfl⟩
abbrev mX7_read : MI := (yX7_read, cX7_read, 4, some .int)
theorem msX7_read : aMs mX7_read 2 := ⟨gd_tbl (ch3 (List.mem_of_getElem? (i := 130) rfl)) rfl, gd_tbl (ch1 (List.mem_of_getElem? (i := 12) rfl)) rfl, by decide +kernel, by decide⟩
theorem mvX7_read : aMv mX7_read := ⟨gd_tbl (ch3 (List.mem_of_getElem? (i := 128) rfl)) rfl, gd_tbl (ch3 (List.mem_of_getElem? (i := 129) rfl)) rfl⟩
abbrev mX7_readClause : MI := (yX7_readClause, cX7_readClause, 3, some .boolean)
theorem msX7_readClause : aMs mX7_readClause 0 := ⟨gd_tbl (ch3 (List.mem_of_getElem? (i := 143) rfl)) rfl, gd_tbl (ch1 (List.mem_of_getElem? (i := 12) rfl)) rfl, by decide +kernel, by decide⟩
theorem mvX7_readClause : aMv mX7_readClause := ⟨gd_tbl (ch3 (List.mem_of_getElem? (i := 142) rfl)) rfl, gd_tbl (ch0 (List.mem_of_getElem? (i := 5) rfl)) rfl⟩
abbrev mX7_readActs : MI := (yX7_readActs, cX7_readActs, 3, some .boolean)
theorem msX7_readActs : aMs mX7_readActs 2 := ⟨gd_tbl (ch3 (List.mem_of_getElem? (i := 205) rfl)) rfl, gd_tbl (ch1 (List.mem_of_getElem? (i := 12) rfl)) rfl, by decide +kernel, by decide⟩
theorem mvX7_readActs : aMv mX7_readActs := ⟨gd_tbl (ch3 (List.mem_of_getElem? (i := 204) rfl)) rfl, gd_tbl (ch0 (List.mem_of_getElem? (i := 7) rfl)) rfl⟩
abbrev mX7_readWholeSum : MI := (yX7_readWholeSum, cX7_readWholeSum, 3, some .boolean)
theorem msX7_readWholeSum : aMs mX7_readWholeSum 2 := ⟨gd_tbl (ch3 (List.mem_of_getElem? (i := 209) rfl)) rfl, gd_tbl (ch1 (List.mem_of_getElem? (i := 12) rfl)) rfl, by decide +kernel, by decide⟩
theorem mvX7_readWholeSum : aMv mX7_readWholeSum := ⟨gd_tbl (ch3 (List.mem_of_getElem? (i := 208) rfl)) rfl, gd_tbl (ch0 (List.mem_of_getElem? (i := 8) rfl)) rfl⟩
abbrev mX7_readTest : MI := (yX7_readTest, cX7_readTest, 5, some .boolean)
theorem msX7_readTest : aMs mX7_readTest 1 := ⟨gd_tbl (ch4 (List.mem_of_getElem? (i := 63) rfl)) rfl, gd_tbl (ch1 (List.mem_of_getElem? (i := 12) rfl)) rfl, by decide +kernel, by decide⟩
theorem mvX7_readTest : aMv mX7_readTest := ⟨gd_tbl (ch4 (List.mem_of_getElem? (i := 62) rfl)) rfl, gd_tbl (ch0 (List.mem_of_getElem? (i := 15) rfl)) rfl⟩
abbrev mX7_readPlain : MI := (yX7_readPlain, cX7_readPlain, 4, some .boolean)
theorem msX7_readPlain : aMs mX7_readPlain 1 := ⟨gd_tbl (ch4 (List.mem_of_getElem? (i := 67) rfl)) rfl, gd_tbl (ch1 (List.mem_of_getElem? (i := 12) rfl)) rfl, by decide +kernel, by decide⟩
theorem mvX7_readPlain : aMv mX7_readPlain := ⟨gd_tbl (ch4 (List.mem_of_getElem? (i := 66) rfl)) rfl, gd_tbl (ch0 (List.mem_of_getElem? (i := 16) rfl)) rfl⟩
abbrev mX7_readSum : MI := (yX7_readSum, cX7_readSum, 5, some .boolean)
theorem msX7_readSum : aMs mX7_readSum 1 := ⟨gd_tbl (ch3 (List.mem_of_getElem? (i := 213) rfl)) rfl, gd_tbl (ch1 (List.mem_of_getElem? (i := 12) rfl)) rfl, by decide +kernel, by decide⟩
theorem mvX7_readSum : aMv mX7_readSum := ⟨gd_tbl (ch3 (List.mem_of_getElem? (i := 212) rfl)) rfl, gd_tbl (ch0 (List.mem_of_getElem? (i := 9) rfl)) rfl⟩
abbrev mX7_readPart : MI := (yX7_readPart, cX7_readPart, 3, some .boolean)
theorem msX7_readPart : aMs mX7_readPart 1 := ⟨gd_tbl (ch3 (List.mem_of_getElem? (i := 217) rfl)) rfl, gd_tbl (ch1 (List.mem_of_getElem? (i := 12) rfl)) rfl, by decide +kernel, by decide⟩
theorem mvX7_readPart : aMv mX7_readPart := ⟨gd_tbl (ch3 (List.mem_of_getElem? (i := 216) rfl)) rfl, gd_tbl (ch0 (List.mem_of_getElem? (i := 10) rfl)) rfl⟩
abbrev mX7_placeOf : MI := (yX7_placeOf, cX7_placeOf, 2, some .int)
theorem msX7_placeOf : aMs mX7_placeOf 1 := ⟨gd_tbl (ch3 (List.mem_of_getElem? (i := 231) rfl)) rfl, gd_tbl (ch1 (List.mem_of_getElem? (i := 12) rfl)) rfl, by decide +kernel, by decide⟩
theorem mvX7_placeOf : aMv mX7_placeOf := ⟨gd_tbl (ch3 (List.mem_of_getElem? (i := 230) rfl)) rfl, gd_tbl (ch0 (List.mem_of_getElem? (i := 12) rfl)) rfl⟩
abbrev mX7_advance : MI := (yX7_advance, cX7_advance, 3, none)
theorem msX7_advance : aMs mX7_advance 0 := ⟨gd_tbl (ch3 (List.mem_of_getElem? (i := 139) rfl)) rfl, gd_tbl (ch1 (List.mem_of_getElem? (i := 12) rfl)) rfl, by decide +kernel, by decide⟩
theorem mvX7_advance : aMv mX7_advance := ⟨gd_tbl (ch3 (List.mem_of_getElem? (i := 138) rfl)) rfl, gd_tbl (ch0 (List.mem_of_getElem? (i := 4) rfl)) rfl⟩
abbrev mX7_isSign : MI := (yX7_isSign, cX7_isSign, 2, some .boolean)
theorem msX7_isSign : aMs mX7_isSign 1 := ⟨gd_tbl (ch3 (List.mem_of_getElem? (i := 221) rfl)) rfl, gd_tbl (ch1 (List.mem_of_getElem? (i := 12) rfl)) rfl, by decide +kernel, by decide⟩
theorem mvX7_isSign : aMv mX7_isSign := ⟨gd_tbl (ch3 (List.mem_of_getElem? (i := 220) rfl)) rfl, gd_tbl (ch0 (List.mem_of_getElem? (i := 11) rfl)) rfl⟩
abbrev mX7_signIn : MI := (yX7_signIn, cX7_signIn, 2, some .int)
theorem msX7_signIn : aMs mX7_signIn 1 := ⟨gd_tbl (ch3 (List.mem_of_getElem? (i := 236) rfl)) rfl, gd_tbl (ch1 (List.mem_of_getElem? (i := 12) rfl)) rfl, by decide +kernel, by decide⟩
theorem mvX7_signIn : aMv mX7_signIn := ⟨gd_tbl (ch3 (List.mem_of_getElem? (i := 235) rfl)) rfl, gd_tbl (ch0 (List.mem_of_getElem? (i := 13) rfl)) rfl⟩
abbrev mX7_isWord : MI := (yX7_isWord, cX7_isWord, 2, some .boolean)
theorem msX7_isWord : aMs mX7_isWord 1 := ⟨gd_tbl (ch4 (List.mem_of_getElem? (i := 57) rfl)) rfl, gd_tbl (ch1 (List.mem_of_getElem? (i := 12) rfl)) rfl, by decide +kernel, by decide⟩
theorem mvX7_isWord : aMv mX7_isWord := ⟨gd_tbl (ch4 (List.mem_of_getElem? (i := 56) rfl)) rfl, gd_tbl (ch0 (List.mem_of_getElem? (i := 14) rfl)) rfl⟩
abbrev mX7_wordIn : MI := (yX7_wordIn, cX7_wordIn, 6, some .int)
theorem msX7_wordIn : aMs mX7_wordIn 1 := ⟨gd_tbl (ch3 (List.mem_of_getElem? (i := 149) rfl)) rfl, gd_tbl (ch1 (List.mem_of_getElem? (i := 12) rfl)) rfl, by decide +kernel, by decide⟩
theorem mvX7_wordIn : aMv mX7_wordIn := ⟨gd_tbl (ch3 (List.mem_of_getElem? (i := 148) rfl)) rfl, gd_tbl (ch0 (List.mem_of_getElem? (i := 6) rfl)) rfl⟩
abbrev mX8_init : MI := (yX8_init, cX8_init, 1, none)
theorem msX8_init : aMs mX8_init 0 := ⟨gd_tbl (ch1 (List.mem_of_getElem? (i := 33) rfl)) rfl, gd_tbl (ch1 (List.mem_of_getElem? (i := 2) rfl)) rfl, by decide +kernel, by decide⟩
theorem iiX8_init : Cond.instanceMethod yX8_init ∈ lw_gd := gd_tbl (ch1 (List.mem_of_getElem? (i := 32) rfl)) rfl
abbrev mX8_layDown : MI := (yX8_layDown, cX8_layDown, 4, some .int)
theorem msX8_layDown : aMs mX8_layDown 3 := ⟨gd_tbl (ch4 (List.mem_of_getElem? (i := 110) rfl)) rfl, gd_tbl (ch1 (List.mem_of_getElem? (i := 2) rfl)) rfl, by decide +kernel, by decide⟩
theorem mvX8_layDown : aMv mX8_layDown := ⟨gd_tbl (ch4 (List.mem_of_getElem? (i := 108) rfl)) rfl, gd_tbl (ch4 (List.mem_of_getElem? (i := 109) rfl)) rfl⟩
abbrev mX8_purchase : MI := (yX8_purchase, cX8_purchase, 2, some .int)
theorem msX8_purchase : aMs mX8_purchase 1 := ⟨gd_tbl (ch4 (List.mem_of_getElem? (i := 137) rfl)) rfl, gd_tbl (ch1 (List.mem_of_getElem? (i := 2) rfl)) rfl, by decide +kernel, by decide⟩
theorem mvX8_purchase : aMv mX8_purchase := ⟨gd_tbl (ch4 (List.mem_of_getElem? (i := 135) rfl)) rfl, gd_tbl (ch4 (List.mem_of_getElem? (i := 136) rfl)) rfl⟩
abbrev mX8_takeUp : MI := (yX8_takeUp, cX8_takeUp, 3, some .int)
theorem msX8_takeUp : aMs mX8_takeUp 1 := ⟨gd_tbl (ch4 (List.mem_of_getElem? (i := 141) rfl)) rfl, gd_tbl (ch1 (List.mem_of_getElem? (i := 2) rfl)) rfl, by decide +kernel, by decide⟩
theorem mvX8_takeUp : aMv mX8_takeUp := ⟨gd_tbl (ch4 (List.mem_of_getElem? (i := 139) rfl)) rfl, gd_tbl (ch4 (List.mem_of_getElem? (i := 140) rfl)) rfl⟩
abbrev mX8_bringYear : MI := (yX8_bringYear, cX8_bringYear, 1, some .int)
theorem msX8_bringYear : aMs mX8_bringYear 0 := ⟨gd_tbl (ch4 (List.mem_of_getElem? (i := 150) rfl)) rfl, gd_tbl (ch1 (List.mem_of_getElem? (i := 2) rfl)) rfl, by decide +kernel, by decide⟩
theorem mvX8_bringYear : aMv mX8_bringYear := ⟨gd_tbl (ch4 (List.mem_of_getElem? (i := 148) rfl)) rfl, gd_tbl (ch4 (List.mem_of_getElem? (i := 149) rfl)) rfl⟩
abbrev mX8_beginOrders : MI := (yX8_beginOrders, cX8_beginOrders, 1, none)
theorem msX8_beginOrders : aMs mX8_beginOrders 0 := ⟨gd_tbl (ch4 (List.mem_of_getElem? (i := 84) rfl)) rfl, gd_tbl (ch1 (List.mem_of_getElem? (i := 2) rfl)) rfl, by decide +kernel, by decide⟩
theorem mvX8_beginOrders : aMv mX8_beginOrders := ⟨gd_tbl (ch4 (List.mem_of_getElem? (i := 82) rfl)) rfl, gd_tbl (ch4 (List.mem_of_getElem? (i := 83) rfl)) rfl⟩
abbrev mX8_giveUpOrders : MI := (yX8_giveUpOrders, cX8_giveUpOrders, 2, none)
theorem msX8_giveUpOrders : aMs mX8_giveUpOrders 1 := ⟨gd_tbl (ch4 (List.mem_of_getElem? (i := 164) rfl)) rfl, gd_tbl (ch1 (List.mem_of_getElem? (i := 2) rfl)) rfl, by decide +kernel, by decide⟩
theorem mvX8_giveUpOrders : aMv mX8_giveUpOrders := ⟨gd_tbl (ch4 (List.mem_of_getElem? (i := 162) rfl)) rfl, gd_tbl (ch4 (List.mem_of_getElem? (i := 163) rfl)) rfl⟩
abbrev mX8_obey : MI := (yX8_obey, cX8_obey, 5, some .int)
theorem msX8_obey : aMs mX8_obey 2 := ⟨gd_tbl (ch4 (List.mem_of_getElem? (i := 100) rfl)) rfl, gd_tbl (ch1 (List.mem_of_getElem? (i := 2) rfl)) rfl, by decide +kernel, by decide⟩
theorem mvX8_obey : aMv mX8_obey := ⟨gd_tbl (ch4 (List.mem_of_getElem? (i := 98) rfl)) rfl, gd_tbl (ch4 (List.mem_of_getElem? (i := 99) rfl)) rfl⟩
abbrev mX8_tell : MI := (yX8_tell, cX8_tell, 2, none)
theorem msX8_tell : aMs mX8_tell 0 := ⟨gd_tbl (ch4 (List.mem_of_getElem? (i := 104) rfl)) rfl, gd_tbl (ch1 (List.mem_of_getElem? (i := 2) rfl)) rfl, by decide +kernel, by decide⟩
theorem mvX8_tell : aMv mX8_tell := ⟨gd_tbl (ch4 (List.mem_of_getElem? (i := 103) rfl)) rfl, gd_tbl (ch0 (List.mem_of_getElem? (i := 17) rfl)) rfl⟩
abbrev mX9_init : MI := (yX9_init, cX9_init, 1, none)
theorem msX9_init : aMs mX9_init 0 := ⟨gd_tbl (ch1 (List.mem_of_getElem? (i := 197) rfl)) rfl, gd_tbl (ch1 (List.mem_of_getElem? (i := 7) rfl)) rfl, by decide +kernel, by decide⟩
theorem iiX9_init : Cond.instanceMethod yX9_init ∈ lw_gd := gd_tbl (ch1 (List.mem_of_getElem? (i := 196) rfl)) rfl
abbrev mX9_copyFrom : MI := (yX9_copyFrom, cX9_copyFrom, 2, none)
theorem msX9_copyFrom : aMs mX9_copyFrom 1 := ⟨gd_tbl (ch5 (List.mem_of_getElem? (i := 190) rfl)) rfl, gd_tbl (ch1 (List.mem_of_getElem? (i := 7) rfl)) rfl, by decide +kernel, by decide⟩
theorem mvX9_copyFrom : aMv mX9_copyFrom := ⟨gd_tbl (ch5 (List.mem_of_getElem? (i := 188) rfl)) rfl, gd_tbl (ch5 (List.mem_of_getElem? (i := 189) rfl)) rfl⟩
abbrev mX9_clear : MI := (yX9_clear, cX9_clear, 1, none)
theorem msX9_clear : aMs mX9_clear 0 := ⟨gd_tbl (ch3 (List.mem_of_getElem? (i := 135) rfl)) rfl, gd_tbl (ch1 (List.mem_of_getElem? (i := 7) rfl)) rfl, by decide +kernel, by decide⟩
theorem mvX9_clear : aMv mX9_clear := ⟨gd_tbl (ch3 (List.mem_of_getElem? (i := 133) rfl)) rfl, gd_tbl (ch3 (List.mem_of_getElem? (i := 134) rfl)) rfl⟩
abbrev mX9_open : MI := (yX9_open, cX9_open, 2, none)
theorem msX9_open : aMs mX9_open 1 := ⟨gd_tbl (ch3 (List.mem_of_getElem? (i := 201) rfl)) rfl, gd_tbl (ch1 (List.mem_of_getElem? (i := 7) rfl)) rfl, by decide +kernel, by decide⟩
theorem mvX9_open : aMv mX9_open := ⟨gd_tbl (ch3 (List.mem_of_getElem? (i := 199) rfl)) rfl, gd_tbl (ch3 (List.mem_of_getElem? (i := 200) rfl)) rfl⟩
abbrev mX9_emit : MI := (yX9_emit, cX9_emit, 3, some .int)
theorem msX9_emit : aMs mX9_emit 2 := ⟨gd_tbl (ch3 (List.mem_of_getElem? (i := 225) rfl)) rfl, gd_tbl (ch1 (List.mem_of_getElem? (i := 7) rfl)) rfl, by decide +kernel, by decide⟩
theorem mvX9_emit : aMv mX9_emit := ⟨gd_tbl (ch3 (List.mem_of_getElem? (i := 223) rfl)) rfl, gd_tbl (ch3 (List.mem_of_getElem? (i := 224) rfl)) rfl⟩
abbrev mX9_land : MI := (yX9_land, cX9_land, 2, none)
theorem msX9_land : aMs mX9_land 1 := ⟨gd_tbl (ch4 (List.mem_of_getElem? (i := 73) rfl)) rfl, gd_tbl (ch1 (List.mem_of_getElem? (i := 7) rfl)) rfl, by decide +kernel, by decide⟩
theorem mvX9_land : aMv mX9_land := ⟨gd_tbl (ch4 (List.mem_of_getElem? (i := 71) rfl)) rfl, gd_tbl (ch4 (List.mem_of_getElem? (i := 72) rfl)) rfl⟩
abbrev mX9_has : MI := (yX9_has, cX9_has, 3, some .boolean)
theorem msX9_has : aMs mX9_has 1 := ⟨gd_tbl (ch3 (List.mem_of_getElem? (i := 68) rfl)) rfl, gd_tbl (ch1 (List.mem_of_getElem? (i := 7) rfl)) rfl, by decide +kernel, by decide⟩
theorem mvX9_has : aMv mX9_has := ⟨gd_tbl (ch3 (List.mem_of_getElem? (i := 66) rfl)) rfl, gd_tbl (ch3 (List.mem_of_getElem? (i := 67) rfl)) rfl⟩
abbrev mX9_holds : MI := (yX9_holds, cX9_holds, 4, some .boolean)
theorem msX9_holds : aMs mX9_holds 2 := ⟨gd_tbl (ch3 (List.mem_of_getElem? (i := 72) rfl)) rfl, gd_tbl (ch1 (List.mem_of_getElem? (i := 7) rfl)) rfl, by decide +kernel, by decide⟩
theorem mvX9_holds : aMv mX9_holds := ⟨gd_tbl (ch3 (List.mem_of_getElem? (i := 70) rfl)) rfl, gd_tbl (ch3 (List.mem_of_getElem? (i := 71) rfl)) rfl⟩
abbrev mX9_last : MI := (yX9_last, cX9_last, 5, some .int)
theorem msX9_last : aMs mX9_last 2 := ⟨gd_tbl (ch3 (List.mem_of_getElem? (i := 33) rfl)) rfl, gd_tbl (ch1 (List.mem_of_getElem? (i := 7) rfl)) rfl, by decide +kernel, by decide⟩
theorem mvX9_last : aMv mX9_last := ⟨gd_tbl (ch3 (List.mem_of_getElem? (i := 31) rfl)) rfl, gd_tbl (ch3 (List.mem_of_getElem? (i := 32) rfl)) rfl⟩
abbrev mX9_value : MI := (yX9_value, cX9_value, 9, some .int)
theorem msX9_value : aMs mX9_value 2 := ⟨gd_tbl (ch3 (List.mem_of_getElem? (i := 40) rfl)) rfl, gd_tbl (ch1 (List.mem_of_getElem? (i := 7) rfl)) rfl, by decide +kernel, by decide⟩
theorem mvX9_value : aMv mX9_value := ⟨gd_tbl (ch3 (List.mem_of_getElem? (i := 38) rfl)) rfl, gd_tbl (ch3 (List.mem_of_getElem? (i := 39) rfl)) rfl⟩
abbrev mX9_combine : MI := (yX9_combine, cX9_combine, 9, some .boolean)
theorem msX9_combine : aMs mX9_combine 2 := ⟨gd_tbl (ch3 (List.mem_of_getElem? (i := 45) rfl)) rfl, gd_tbl (ch1 (List.mem_of_getElem? (i := 7) rfl)) rfl, by decide +kernel, by decide⟩
theorem mvX9_combine : aMv mX9_combine := ⟨gd_tbl (ch3 (List.mem_of_getElem? (i := 44) rfl)) rfl, gd_tbl (ch0 (List.mem_of_getElem? (i := 3) rfl)) rfl⟩
abbrev mX10_init : MI := (yX10_init, cX10_init, 1, none)
theorem msX10_init : aMs mX10_init 0 := ⟨gd_tbl (ch1 (List.mem_of_getElem? (i := 39) rfl)) rfl, gd_tbl (ch1 (List.mem_of_getElem? (i := 3) rfl)) rfl, by decide +kernel, by decide⟩
theorem iiX10_init : Cond.instanceMethod yX10_init ∈ lw_gd := gd_tbl (ch1 (List.mem_of_getElem? (i := 38) rfl)) rfl
abbrev mX10_copyFrom : MI := (yX10_copyFrom, cX10_copyFrom, 2, none)
theorem msX10_copyFrom : aMs mX10_copyFrom 1 := ⟨gd_tbl (ch4 (List.mem_of_getElem? (i := 88) rfl)) rfl, gd_tbl (ch1 (List.mem_of_getElem? (i := 3) rfl)) rfl, by decide +kernel, by decide⟩
theorem mvX10_copyFrom : aMv mX10_copyFrom := ⟨gd_tbl (ch4 (List.mem_of_getElem? (i := 86) rfl)) rfl, gd_tbl (ch4 (List.mem_of_getElem? (i := 87) rfl)) rfl⟩
abbrev mX10_hasPlot : MI := (yX10_hasPlot, cX10_hasPlot, 2, some .boolean)
theorem msX10_hasPlot : aMs mX10_hasPlot 1 := ⟨gd_tbl (ch3 (List.mem_of_getElem? (i := 21) rfl)) rfl, gd_tbl (ch1 (List.mem_of_getElem? (i := 3) rfl)) rfl, by decide +kernel, by decide⟩
theorem mvX10_hasPlot : aMv mX10_hasPlot := ⟨gd_tbl (ch3 (List.mem_of_getElem? (i := 19) rfl)) rfl, gd_tbl (ch3 (List.mem_of_getElem? (i := 20) rfl)) rfl⟩
abbrev mX10_plotIn : MI := (yX10_plotIn, cX10_plotIn, 3, some .int)
theorem msX10_plotIn : aMs mX10_plotIn 1 := ⟨gd_tbl (ch2 (List.mem_of_getElem? (i := 236) rfl)) rfl, gd_tbl (ch1 (List.mem_of_getElem? (i := 3) rfl)) rfl, by decide +kernel, by decide⟩
theorem mvX10_plotIn : aMv mX10_plotIn := ⟨gd_tbl (ch2 (List.mem_of_getElem? (i := 234) rfl)) rfl, gd_tbl (ch2 (List.mem_of_getElem? (i := 235) rfl)) rfl⟩
abbrev mX10_walls : MI := (yX10_walls, cX10_walls, 3, some .int)
theorem msX10_walls : aMs mX10_walls 0 := ⟨gd_tbl (ch5 (List.mem_of_getElem? (i := 207) rfl)) rfl, gd_tbl (ch1 (List.mem_of_getElem? (i := 3) rfl)) rfl, by decide +kernel, by decide⟩
theorem mvX10_walls : aMv mX10_walls := ⟨gd_tbl (ch5 (List.mem_of_getElem? (i := 205) rfl)) rfl, gd_tbl (ch5 (List.mem_of_getElem? (i := 206) rfl)) rfl⟩
abbrev mX10_purchases : MI := (yX10_purchases, cX10_purchases, 3, some .int)
theorem msX10_purchases : aMs mX10_purchases 0 := ⟨gd_tbl (ch5 (List.mem_of_getElem? (i := 211) rfl)) rfl, gd_tbl (ch1 (List.mem_of_getElem? (i := 3) rfl)) rfl, by decide +kernel, by decide⟩
theorem mvX10_purchases : aMv mX10_purchases := ⟨gd_tbl (ch5 (List.mem_of_getElem? (i := 209) rfl)) rfl, gd_tbl (ch5 (List.mem_of_getElem? (i := 210) rfl)) rfl⟩
abbrev mX10_fact : MI := (yX10_fact, cX10_fact, 3, some .int)
theorem msX10_fact : aMs mX10_fact 2 := ⟨gd_tbl (ch3 (List.mem_of_getElem? (i := 0) rfl)) rfl, gd_tbl (ch1 (List.mem_of_getElem? (i := 3) rfl)) rfl, by decide +kernel, by decide⟩
theorem mvX10_fact : aMv mX10_fact := ⟨gd_tbl (ch2 (List.mem_of_getElem? (i := 238) rfl)) rfl, gd_tbl (ch2 (List.mem_of_getElem? (i := 239) rfl)) rfl⟩
abbrev mX10_mayWrite : MI := (yX10_mayWrite, cX10_mayWrite, 4, some .boolean)
theorem msX10_mayWrite : aMs mX10_mayWrite 3 := ⟨gd_tbl (ch2 (List.mem_of_getElem? (i := 232) rfl)) rfl, gd_tbl (ch1 (List.mem_of_getElem? (i := 3) rfl)) rfl, by decide +kernel, by decide⟩
theorem mvX10_mayWrite : aMv mX10_mayWrite := ⟨gd_tbl (ch2 (List.mem_of_getElem? (i := 230) rfl)) rfl, gd_tbl (ch2 (List.mem_of_getElem? (i := 231) rfl)) rfl⟩
abbrev mX10_write : MI := (yX10_write, cX10_write, 4, none)
theorem msX10_write : aMs mX10_write 3 := ⟨gd_tbl (ch3 (List.mem_of_getElem? (i := 4) rfl)) rfl, gd_tbl (ch1 (List.mem_of_getElem? (i := 3) rfl)) rfl, by decide +kernel, by decide⟩
theorem mvX10_write : aMv mX10_write := ⟨gd_tbl (ch3 (List.mem_of_getElem? (i := 2) rfl)) rfl, gd_tbl (ch3 (List.mem_of_getElem? (i := 3) rfl)) rfl⟩
abbrev mX10_writeCell : MI := (yX10_writeCell, cX10_writeCell, 4, some .boolean)
theorem msX10_writeCell : aMs mX10_writeCell 3 := ⟨gd_tbl (ch3 (List.mem_of_getElem? (i := 110) rfl)) rfl, gd_tbl (ch1 (List.mem_of_getElem? (i := 3) rfl)) rfl, by decide +kernel, by decide⟩
theorem mvX10_writeCell : aMv mX10_writeCell := ⟨gd_tbl (ch3 (List.mem_of_getElem? (i := 108) rfl)) rfl, gd_tbl (ch3 (List.mem_of_getElem? (i := 109) rfl)) rfl⟩
abbrev mX10_tell : MI := (yX10_tell, cX10_tell, 4, none)
theorem msX10_tell : aMs mX10_tell 3 := ⟨gd_tbl (ch3 (List.mem_of_getElem? (i := 29) rfl)) rfl, gd_tbl (ch1 (List.mem_of_getElem? (i := 3) rfl)) rfl, by decide +kernel, by decide⟩
theorem mvX10_tell : aMv mX10_tell := ⟨gd_tbl (ch3 (List.mem_of_getElem? (i := 28) rfl)) rfl, gd_tbl (ch0 (List.mem_of_getElem? (i := 2) rfl)) rfl⟩
abbrev mX10_movesOf : MI := (yX10_movesOf, cX10_movesOf, 3, some .int)
theorem msX10_movesOf : aMs mX10_movesOf 1 := ⟨gd_tbl (ch3 (List.mem_of_getElem? (i := 25) rfl)) rfl, gd_tbl (ch1 (List.mem_of_getElem? (i := 3) rfl)) rfl, by decide +kernel, by decide⟩
theorem mvX10_movesOf : aMv mX10_movesOf := ⟨gd_tbl (ch3 (List.mem_of_getElem? (i := 23) rfl)) rfl, gd_tbl (ch3 (List.mem_of_getElem? (i := 24) rfl)) rfl⟩
abbrev mX10_digsOf : MI := (yX10_digsOf, cX10_digsOf, 4, some .int)
theorem msX10_digsOf : aMs mX10_digsOf 1 := ⟨gd_tbl (ch3 (List.mem_of_getElem? (i := 56) rfl)) rfl, gd_tbl (ch1 (List.mem_of_getElem? (i := 3) rfl)) rfl, by decide +kernel, by decide⟩
theorem mvX10_digsOf : aMv mX10_digsOf := ⟨gd_tbl (ch3 (List.mem_of_getElem? (i := 54) rfl)) rfl, gd_tbl (ch3 (List.mem_of_getElem? (i := 55) rfl)) rfl⟩
abbrev mX10_mayGo : MI := (yX10_mayGo, cX10_mayGo, 3, some .boolean)
theorem msX10_mayGo : aMs mX10_mayGo 2 := ⟨gd_tbl (ch3 (List.mem_of_getElem? (i := 64) rfl)) rfl, gd_tbl (ch1 (List.mem_of_getElem? (i := 3) rfl)) rfl, by decide +kernel, by decide⟩
theorem mvX10_mayGo : aMv mX10_mayGo := ⟨gd_tbl (ch3 (List.mem_of_getElem? (i := 62) rfl)) rfl, gd_tbl (ch3 (List.mem_of_getElem? (i := 63) rfl)) rfl⟩
abbrev mX10_isBarred : MI := (yX10_isBarred, cX10_isBarred, 3, some .boolean)
theorem msX10_isBarred : aMs mX10_isBarred 2 := ⟨gd_tbl (ch3 (List.mem_of_getElem? (i := 83) rfl)) rfl, gd_tbl (ch1 (List.mem_of_getElem? (i := 3) rfl)) rfl, by decide +kernel, by decide⟩
theorem mvX10_isBarred : aMv mX10_isBarred := ⟨gd_tbl (ch3 (List.mem_of_getElem? (i := 81) rfl)) rfl, gd_tbl (ch3 (List.mem_of_getElem? (i := 82) rfl)) rfl⟩
abbrev mX10_isFreeGrass : MI := (yX10_isFreeGrass, cX10_isFreeGrass, 2, some .boolean)
theorem msX10_isFreeGrass : aMs mX10_isFreeGrass 1 := ⟨gd_tbl (ch4 (List.mem_of_getElem? (i := 120) rfl)) rfl, gd_tbl (ch1 (List.mem_of_getElem? (i := 3) rfl)) rfl, by decide +kernel, by decide⟩
theorem mvX10_isFreeGrass : aMv mX10_isFreeGrass := ⟨gd_tbl (ch4 (List.mem_of_getElem? (i := 118) rfl)) rfl, gd_tbl (ch4 (List.mem_of_getElem? (i := 119) rfl)) rfl⟩
abbrev mX10_isOpenTo : MI := (yX10_isOpenTo, cX10_isOpenTo, 3, some .boolean)
theorem msX10_isOpenTo : aMs mX10_isOpenTo 2 := ⟨gd_tbl (ch4 (List.mem_of_getElem? (i := 116) rfl)) rfl, gd_tbl (ch1 (List.mem_of_getElem? (i := 3) rfl)) rfl, by decide +kernel, by decide⟩
theorem mvX10_isOpenTo : aMv mX10_isOpenTo := ⟨gd_tbl (ch4 (List.mem_of_getElem? (i := 114) rfl)) rfl, gd_tbl (ch4 (List.mem_of_getElem? (i := 115) rfl)) rfl⟩
abbrev mX10_isAnyInWall : MI := (yX10_isAnyInWall, cX10_isAnyInWall, 2, some .boolean)
theorem msX10_isAnyInWall : aMs mX10_isAnyInWall 0 := ⟨gd_tbl (ch5 (List.mem_of_getElem? (i := 7) rfl)) rfl, gd_tbl (ch1 (List.mem_of_getElem? (i := 3) rfl)) rfl, by decide +kernel, by decide⟩
theorem mvX10_isAnyInWall : aMv mX10_isAnyInWall := ⟨gd_tbl (ch5 (List.mem_of_getElem? (i := 5) rfl)) rfl, gd_tbl (ch5 (List.mem_of_getElem? (i := 6) rfl)) rfl⟩
abbrev mX10_areBeside : MI := (yX10_areBeside, cX10_areBeside, 4, some .boolean)
theorem msX10_areBeside : aMs mX10_areBeside 2 := ⟨gd_tbl (ch5 (List.mem_of_getElem? (i := 50) rfl)) rfl, gd_tbl (ch1 (List.mem_of_getElem? (i := 3) rfl)) rfl, by decide +kernel, by decide⟩
theorem mvX10_areBeside : aMv mX10_areBeside := ⟨gd_tbl (ch5 (List.mem_of_getElem? (i := 48) rfl)) rfl, gd_tbl (ch5 (List.mem_of_getElem? (i := 49) rfl)) rfl⟩
abbrev mX10_add : MI := (yX10_add, cX10_add, 4, none)
theorem msX10_add : aMs mX10_add 3 := ⟨gd_tbl (ch4 (List.mem_of_getElem? (i := 133) rfl)) rfl, gd_tbl (ch1 (List.mem_of_getElem? (i := 3) rfl)) rfl, by decide +kernel, by decide⟩
theorem mvX10_add : aMv mX10_add := ⟨gd_tbl (ch4 (List.mem_of_getElem? (i := 131) rfl)) rfl, gd_tbl (ch4 (List.mem_of_getElem? (i := 132) rfl)) rfl⟩
abbrev mX10_remove : MI := (yX10_remove, cX10_remove, 3, none)
theorem msX10_remove : aMs mX10_remove 1 := ⟨gd_tbl (ch4 (List.mem_of_getElem? (i := 146) rfl)) rfl, gd_tbl (ch1 (List.mem_of_getElem? (i := 3) rfl)) rfl, by decide +kernel, by decide⟩
theorem mvX10_remove : aMv mX10_remove := ⟨gd_tbl (ch4 (List.mem_of_getElem? (i := 144) rfl)) rfl, gd_tbl (ch4 (List.mem_of_getElem? (i := 145) rfl)) rfl⟩
abbrev mX10_turnYear : MI := (yX10_turnYear, cX10_turnYear, 5, none)
theorem msX10_turnYear : aMs mX10_turnYear 0 := ⟨gd_tbl (ch4 (List.mem_of_getElem? (i := 154) rfl)) rfl, gd_tbl (ch1 (List.mem_of_getElem? (i := 3) rfl)) rfl, by decide +kernel, by decide⟩
theorem mvX10_turnYear : aMv mX10_turnYear := ⟨gd_tbl (ch4 (List.mem_of_getElem? (i := 152) rfl)) rfl, gd_tbl (ch4 (List.mem_of_getElem? (i := 153) rfl)) rfl⟩
abbrev mX10_age : MI := (yX10_age, cX10_age, 2, none)
theorem msX10_age : aMs mX10_age 0 := ⟨gd_tbl (ch4 (List.mem_of_getElem? (i := 160) rfl)) rfl, gd_tbl (ch1 (List.mem_of_getElem? (i := 3) rfl)) rfl, by decide +kernel, by decide⟩
theorem mvX10_age : aMv mX10_age := ⟨gd_tbl (ch4 (List.mem_of_getElem? (i := 158) rfl)) rfl, gd_tbl (ch4 (List.mem_of_getElem? (i := 159) rfl)) rfl⟩
abbrev mX11_init : MI := (yX11_init, cX11_init, 1, none)
theorem msX11_init : aMs mX11_init 0 := ⟨gd_tbl (ch1 (List.mem_of_getElem? (i := 25) rfl)) rfl, gd_tbl (ch1 (List.mem_of_getElem? (i := 1) rfl)) rfl, by decide +kernel, by decide⟩
theorem iiX11_init : Cond.instanceMethod yX11_init ∈ lw_gd := gd_tbl (ch1 (List.mem_of_getElem? (i := 24) rfl)) rfl
abbrev mX11_put : MI := (yX11_put, cX11_put, 5, some .int)
theorem msX11_put : aMs mX11_put 3 := ⟨gd_tbl (ch2 (List.mem_of_getElem? (i := 212) rfl)) rfl, gd_tbl (ch1 (List.mem_of_getElem? (i := 1) rfl)) rfl, by decide +kernel, by decide⟩
theorem mvX11_put : aMv mX11_put := ⟨gd_tbl (ch2 (List.mem_of_getElem? (i := 210) rfl)) rfl, gd_tbl (ch2 (List.mem_of_getElem? (i := 211) rfl)) rfl⟩
abbrev mX11_at : MI := (yX11_at, cX11_at, 3, some .int)
theorem msX11_at : aMs mX11_at 2 := ⟨gd_tbl (ch3 (List.mem_of_getElem? (i := 12) rfl)) rfl, gd_tbl (ch1 (List.mem_of_getElem? (i := 1) rfl)) rfl, by decide +kernel, by decide⟩
theorem mvX11_at : aMv mX11_at := ⟨gd_tbl (ch3 (List.mem_of_getElem? (i := 10) rfl)) rfl, gd_tbl (ch3 (List.mem_of_getElem? (i := 11) rfl)) rfl⟩
abbrev mX11_of : MI := (yX11_of, cX11_of, 3, some .int)
theorem msX11_of : aMs mX11_of 2 := ⟨gd_tbl (ch3 (List.mem_of_getElem? (i := 17) rfl)) rfl, gd_tbl (ch1 (List.mem_of_getElem? (i := 1) rfl)) rfl, by decide +kernel, by decide⟩
theorem mvX11_of : aMv mX11_of := ⟨gd_tbl (ch3 (List.mem_of_getElem? (i := 15) rfl)) rfl, gd_tbl (ch3 (List.mem_of_getElem? (i := 16) rfl)) rfl⟩
abbrev mX11_goes : MI := (yX11_goes, cX11_goes, 3, some .int)
theorem msX11_goes : aMs mX11_goes 2 := ⟨gd_tbl (ch3 (List.mem_of_getElem? (i := 60) rfl)) rfl, gd_tbl (ch1 (List.mem_of_getElem? (i := 1) rfl)) rfl, by decide +kernel, by decide⟩
theorem mvX11_goes : aMv mX11_goes := ⟨gd_tbl (ch3 (List.mem_of_getElem? (i := 58) rfl)) rfl, gd_tbl (ch3 (List.mem_of_getElem? (i := 59) rfl)) rfl⟩
abbrev mX11_barred : MI := (yX11_barred, cX11_barred, 3, some .int)
theorem msX11_barred : aMs mX11_barred 2 := ⟨gd_tbl (ch3 (List.mem_of_getElem? (i := 76) rfl)) rfl, gd_tbl (ch1 (List.mem_of_getElem? (i := 1) rfl)) rfl, by decide +kernel, by decide⟩
theorem mvX11_barred : aMv mX11_barred := ⟨gd_tbl (ch3 (List.mem_of_getElem? (i := 74) rfl)) rfl, gd_tbl (ch3 (List.mem_of_getElem? (i := 75) rfl)) rfl⟩
abbrev mX11_terms : MI := (yX11_terms, cX11_terms, 4, some .int)
theorem msX11_terms : aMs mX11_terms 2 := ⟨gd_tbl (ch3 (List.mem_of_getElem? (i := 87) rfl)) rfl, gd_tbl (ch1 (List.mem_of_getElem? (i := 1) rfl)) rfl, by decide +kernel, by decide⟩
theorem mvX11_terms : aMv mX11_terms := ⟨gd_tbl (ch3 (List.mem_of_getElem? (i := 85) rfl)) rfl, gd_tbl (ch3 (List.mem_of_getElem? (i := 86) rfl)) rfl⟩
abbrev mX11_feed : MI := (yX11_feed, cX11_feed, 6, some .int)
theorem msX11_feed : aMs mX11_feed 5 := ⟨gd_tbl (ch3 (List.mem_of_getElem? (i := 94) rfl)) rfl, gd_tbl (ch1 (List.mem_of_getElem? (i := 1) rfl)) rfl, by decide +kernel, by decide⟩
theorem mvX11_feed : aMv mX11_feed := ⟨gd_tbl (ch3 (List.mem_of_getElem? (i := 92) rfl)) rfl, gd_tbl (ch3 (List.mem_of_getElem? (i := 93) rfl)) rfl⟩
abbrev mX11_end : MI := (yX11_end, cX11_end, 2, some .int)
theorem msX11_end : aMs mX11_end 1 := ⟨gd_tbl (ch3 (List.mem_of_getElem? (i := 102) rfl)) rfl, gd_tbl (ch1 (List.mem_of_getElem? (i := 1) rfl)) rfl, by decide +kernel, by decide⟩
theorem mvX11_end : aMv mX11_end := ⟨gd_tbl (ch3 (List.mem_of_getElem? (i := 100) rfl)) rfl, gd_tbl (ch3 (List.mem_of_getElem? (i := 101) rfl)) rfl⟩
abbrev mX11_row : MI := (yX11_row, cX11_row, 4, some .int)
theorem msX11_row : aMs mX11_row 0 := ⟨gd_tbl (ch3 (List.mem_of_getElem? (i := 106) rfl)) rfl, gd_tbl (ch1 (List.mem_of_getElem? (i := 1) rfl)) rfl, by decide +kernel, by decide⟩
theorem mvX11_row : aMv mX11_row := ⟨gd_tbl (ch3 (List.mem_of_getElem? (i := 104) rfl)) rfl, gd_tbl (ch3 (List.mem_of_getElem? (i := 105) rfl)) rfl⟩
abbrev mX11_moles : MI := (yX11_moles, cX11_moles, 1, some .int)
theorem msX11_moles : aMs mX11_moles 0 := ⟨gd_tbl (ch3 (List.mem_of_getElem? (i := 118) rfl)) rfl, gd_tbl (ch1 (List.mem_of_getElem? (i := 1) rfl)) rfl, by decide +kernel, by decide⟩
theorem mvX11_moles : aMv mX11_moles := ⟨gd_tbl (ch3 (List.mem_of_getElem? (i := 116) rfl)) rfl, gd_tbl (ch3 (List.mem_of_getElem? (i := 117) rfl)) rfl⟩
abbrev mX11_law : MI := (yX11_law, cX11_law, 2, some .int)
theorem msX11_law : aMs mX11_law 0 := ⟨gd_tbl (ch3 (List.mem_of_getElem? (i := 122) rfl)) rfl, gd_tbl (ch1 (List.mem_of_getElem? (i := 1) rfl)) rfl, by decide +kernel, by decide⟩
theorem mvX11_law : aMv mX11_law := ⟨gd_tbl (ch3 (List.mem_of_getElem? (i := 120) rfl)) rfl, gd_tbl (ch3 (List.mem_of_getElem? (i := 121) rfl)) rfl⟩
abbrev mX11_orders : MI := (yX11_orders, cX11_orders, 5, some .int)
theorem msX11_orders : aMs mX11_orders 0 := ⟨gd_tbl (ch4 (List.mem_of_getElem? (i := 80) rfl)) rfl, gd_tbl (ch1 (List.mem_of_getElem? (i := 1) rfl)) rfl, by decide +kernel, by decide⟩
theorem mvX11_orders : aMv mX11_orders := ⟨gd_tbl (ch4 (List.mem_of_getElem? (i := 78) rfl)) rfl, gd_tbl (ch4 (List.mem_of_getElem? (i := 79) rfl)) rfl⟩
abbrev mX11_fault : MI := (yX11_fault, cX11_fault, 1, some .int)
theorem msX11_fault : aMs mX11_fault 0 := ⟨gd_tbl (ch4 (List.mem_of_getElem? (i := 168) rfl)) rfl, gd_tbl (ch1 (List.mem_of_getElem? (i := 1) rfl)) rfl, by decide +kernel, by decide⟩
theorem mvX11_fault : aMv mX11_fault := ⟨gd_tbl (ch4 (List.mem_of_getElem? (i := 166) rfl)) rfl, gd_tbl (ch4 (List.mem_of_getElem? (i := 167) rfl)) rfl⟩
abbrev mX11_stopped : MI := (yX11_stopped, cX11_stopped, 1, some .int)
theorem msX11_stopped : aMs mX11_stopped 0 := ⟨gd_tbl (ch4 (List.mem_of_getElem? (i := 172) rfl)) rfl, gd_tbl (ch1 (List.mem_of_getElem? (i := 1) rfl)) rfl, by decide +kernel, by decide⟩
theorem mvX11_stopped : aMv mX11_stopped := ⟨gd_tbl (ch4 (List.mem_of_getElem? (i := 170) rfl)) rfl, gd_tbl (ch4 (List.mem_of_getElem? (i := 171) rfl)) rfl⟩
abbrev mX11_force : MI := (yX11_force, cX11_force, 3, some .int)
theorem msX11_force : aMs mX11_force 1 := ⟨gd_tbl (ch4 (List.mem_of_getElem? (i := 176) rfl)) rfl, gd_tbl (ch1 (List.mem_of_getElem? (i := 1) rfl)) rfl, by decide +kernel, by decide⟩
theorem mvX11_force : aMv mX11_force := ⟨gd_tbl (ch4 (List.mem_of_getElem? (i := 174) rfl)) rfl, gd_tbl (ch4 (List.mem_of_getElem? (i := 175) rfl)) rfl⟩
abbrev mX11_bury : MI := (yX11_bury, cX11_bury, 4, some .int)
theorem msX11_bury : aMs mX11_bury 3 := ⟨gd_tbl (ch4 (List.mem_of_getElem? (i := 189) rfl)) rfl, gd_tbl (ch1 (List.mem_of_getElem? (i := 1) rfl)) rfl, by decide +kernel, by decide⟩
theorem mvX11_bury : aMv mX11_bury := ⟨gd_tbl (ch4 (List.mem_of_getElem? (i := 187) rfl)) rfl, gd_tbl (ch4 (List.mem_of_getElem? (i := 188) rfl)) rfl⟩
abbrev mX11_buy : MI := (yX11_buy, cX11_buy, 2, some .int)
theorem msX11_buy : aMs mX11_buy 1 := ⟨gd_tbl (ch4 (List.mem_of_getElem? (i := 198) rfl)) rfl, gd_tbl (ch1 (List.mem_of_getElem? (i := 1) rfl)) rfl, by decide +kernel, by decide⟩
theorem mvX11_buy : aMv mX11_buy := ⟨gd_tbl (ch4 (List.mem_of_getElem? (i := 196) rfl)) rfl, gd_tbl (ch4 (List.mem_of_getElem? (i := 197) rfl)) rfl⟩
abbrev mX11_raise : MI := (yX11_raise, cX11_raise, 2, some .int)
theorem msX11_raise : aMs mX11_raise 1 := ⟨gd_tbl (ch4 (List.mem_of_getElem? (i := 203) rfl)) rfl, gd_tbl (ch1 (List.mem_of_getElem? (i := 1) rfl)) rfl, by decide +kernel, by decide⟩
theorem mvX11_raise : aMv mX11_raise := ⟨gd_tbl (ch4 (List.mem_of_getElem? (i := 201) rfl)) rfl, gd_tbl (ch4 (List.mem_of_getElem? (i := 202) rfl)) rfl⟩
abbrev mX11_pass : MI := (yX11_pass, cX11_pass, 1, some .int)
theorem msX11_pass : aMs mX11_pass 0 := ⟨gd_tbl (ch4 (List.mem_of_getElem? (i := 208) rfl)) rfl, gd_tbl (ch1 (List.mem_of_getElem? (i := 1) rfl)) rfl, by decide +kernel, by decide⟩
theorem mvX11_pass : aMv mX11_pass := ⟨gd_tbl (ch4 (List.mem_of_getElem? (i := 206) rfl)) rfl, gd_tbl (ch4 (List.mem_of_getElem? (i := 207) rfl)) rfl⟩
abbrev mX11_blocked : MI := (yX11_blocked, cX11_blocked, 1, some .int)
theorem msX11_blocked : aMs mX11_blocked 0 := ⟨gd_tbl (ch4 (List.mem_of_getElem? (i := 213) rfl)) rfl, gd_tbl (ch1 (List.mem_of_getElem? (i := 1) rfl)) rfl, by decide +kernel, by decide⟩
theorem mvX11_blocked : aMv mX11_blocked := ⟨gd_tbl (ch4 (List.mem_of_getElem? (i := 211) rfl)) rfl, gd_tbl (ch4 (List.mem_of_getElem? (i := 212) rfl)) rfl⟩
abbrev mX11_undo : MI := (yX11_undo, cX11_undo, 1, some .int)
theorem msX11_undo : aMs mX11_undo 0 := ⟨gd_tbl (ch4 (List.mem_of_getElem? (i := 217) rfl)) rfl, gd_tbl (ch1 (List.mem_of_getElem? (i := 1) rfl)) rfl, by decide +kernel, by decide⟩
theorem mvX11_undo : aMv mX11_undo := ⟨gd_tbl (ch4 (List.mem_of_getElem? (i := 215) rfl)) rfl, gd_tbl (ch4 (List.mem_of_getElem? (i := 216) rfl)) rfl⟩
abbrev mX11_where : MI := (yX11_where, cX11_where, 3, some .int)
theorem msX11_where : aMs mX11_where 2 := ⟨gd_tbl (ch4 (List.mem_of_getElem? (i := 225) rfl)) rfl, gd_tbl (ch1 (List.mem_of_getElem? (i := 1) rfl)) rfl, by decide +kernel, by decide⟩
theorem mvX11_where : aMv mX11_where := ⟨gd_tbl (ch4 (List.mem_of_getElem? (i := 223) rfl)) rfl, gd_tbl (ch4 (List.mem_of_getElem? (i := 224) rfl)) rfl⟩
abbrev mX11_indoors : MI := (yX11_indoors, cX11_indoors, 1, some .int)
theorem msX11_indoors : aMs mX11_indoors 0 := ⟨gd_tbl (ch4 (List.mem_of_getElem? (i := 239) rfl)) rfl, gd_tbl (ch1 (List.mem_of_getElem? (i := 1) rfl)) rfl, by decide +kernel, by decide⟩
theorem mvX11_indoors : aMv mX11_indoors := ⟨gd_tbl (ch4 (List.mem_of_getElem? (i := 237) rfl)) rfl, gd_tbl (ch4 (List.mem_of_getElem? (i := 238) rfl)) rfl⟩
abbrev mX11_ways : MI := (yX11_ways, cX11_ways, 5, some .long)
theorem msX11_ways : aMs mX11_ways 4 := ⟨gd_tbl (ch5 (List.mem_of_getElem? (i := 11) rfl)) rfl, gd_tbl (ch1 (List.mem_of_getElem? (i := 1) rfl)) rfl, by decide +kernel, by decide⟩
theorem mvX11_ways : aMv mX11_ways := ⟨gd_tbl (ch5 (List.mem_of_getElem? (i := 9) rfl)) rfl, gd_tbl (ch5 (List.mem_of_getElem? (i := 10) rfl)) rfl⟩
abbrev mX11_packed : MI := (yX11_packed, cX11_packed, 3, some .int)
theorem msX11_packed : aMs mX11_packed 1 := ⟨gd_tbl (ch5 (List.mem_of_getElem? (i := 28) rfl)) rfl, gd_tbl (ch1 (List.mem_of_getElem? (i := 1) rfl)) rfl, by decide +kernel, by decide⟩
theorem mvX11_packed : aMv mX11_packed := ⟨gd_tbl (ch5 (List.mem_of_getElem? (i := 26) rfl)) rfl, gd_tbl (ch5 (List.mem_of_getElem? (i := 27) rfl)) rfl⟩
abbrev mX11_meets : MI := (yX11_meets, cX11_meets, 3, some .int)
theorem msX11_meets : aMs mX11_meets 2 := ⟨gd_tbl (ch5 (List.mem_of_getElem? (i := 42) rfl)) rfl, gd_tbl (ch1 (List.mem_of_getElem? (i := 1) rfl)) rfl, by decide +kernel, by decide⟩
theorem mvX11_meets : aMv mX11_meets := ⟨gd_tbl (ch5 (List.mem_of_getElem? (i := 40) rfl)) rfl, gd_tbl (ch5 (List.mem_of_getElem? (i := 41) rfl)) rfl⟩
abbrev mX11_meet : MI := (yX11_meet, cX11_meet, 5, some .int)
theorem msX11_meet : aMs mX11_meet 4 := ⟨gd_tbl (ch5 (List.mem_of_getElem? (i := 57) rfl)) rfl, gd_tbl (ch1 (List.mem_of_getElem? (i := 1) rfl)) rfl, by decide +kernel, by decide⟩
theorem mvX11_meet : aMv mX11_meet := ⟨gd_tbl (ch5 (List.mem_of_getElem? (i := 55) rfl)) rfl, gd_tbl (ch5 (List.mem_of_getElem? (i := 56) rfl)) rfl⟩
abbrev mX11_find : MI := (yX11_find, cX11_find, 4, some .int)
theorem msX11_find : aMs mX11_find 3 := ⟨gd_tbl (ch5 (List.mem_of_getElem? (i := 71) rfl)) rfl, gd_tbl (ch1 (List.mem_of_getElem? (i := 1) rfl)) rfl, by decide +kernel, by decide⟩
theorem mvX11_find : aMv mX11_find := ⟨gd_tbl (ch5 (List.mem_of_getElem? (i := 69) rfl)) rfl, gd_tbl (ch5 (List.mem_of_getElem? (i := 70) rfl)) rfl⟩
abbrev mX11_forget : MI := (yX11_forget, cX11_forget, 2, some .int)
theorem msX11_forget : aMs mX11_forget 0 := ⟨gd_tbl (ch5 (List.mem_of_getElem? (i := 79) rfl)) rfl, gd_tbl (ch1 (List.mem_of_getElem? (i := 1) rfl)) rfl, by decide +kernel, by decide⟩
theorem mvX11_forget : aMv mX11_forget := ⟨gd_tbl (ch5 (List.mem_of_getElem? (i := 77) rfl)) rfl, gd_tbl (ch5 (List.mem_of_getElem? (i := 78) rfl)) rfl⟩
abbrev mX11_hidden : MI := (yX11_hidden, cX11_hidden, 2, some .int)
theorem msX11_hidden : aMs mX11_hidden 1 := ⟨gd_tbl (ch5 (List.mem_of_getElem? (i := 83) rfl)) rfl, gd_tbl (ch1 (List.mem_of_getElem? (i := 1) rfl)) rfl, by decide +kernel, by decide⟩
theorem mvX11_hidden : aMv mX11_hidden := ⟨gd_tbl (ch5 (List.mem_of_getElem? (i := 81) rfl)) rfl, gd_tbl (ch5 (List.mem_of_getElem? (i := 82) rfl)) rfl⟩
abbrev mX11_spade : MI := (yX11_spade, cX11_spade, 3, some .int)
theorem msX11_spade : aMs mX11_spade 2 := ⟨gd_tbl (ch5 (List.mem_of_getElem? (i := 106) rfl)) rfl, gd_tbl (ch1 (List.mem_of_getElem? (i := 1) rfl)) rfl, by decide +kernel, by decide⟩
theorem mvX11_spade : aMv mX11_spade := ⟨gd_tbl (ch5 (List.mem_of_getElem? (i := 104) rfl)) rfl, gd_tbl (ch5 (List.mem_of_getElem? (i := 105) rfl)) rfl⟩
abbrev mX11_compare : MI := (yX11_compare, cX11_compare, 3, some .int)
theorem msX11_compare : aMs mX11_compare 2 := ⟨gd_tbl (ch5 (List.mem_of_getElem? (i := 120) rfl)) rfl, gd_tbl (ch1 (List.mem_of_getElem? (i := 1) rfl)) rfl, by decide +kernel, by decide⟩
theorem mvX11_compare : aMv mX11_compare := ⟨gd_tbl (ch5 (List.mem_of_getElem? (i := 118) rfl)) rfl, gd_tbl (ch5 (List.mem_of_getElem? (i := 119) rfl)) rfl⟩
abbrev mX11_arrives : MI := (yX11_arrives, cX11_arrives, 4, some .long)
theorem msX11_arrives : aMs mX11_arrives 3 := ⟨gd_tbl (ch5 (List.mem_of_getElem? (i := 128) rfl)) rfl, gd_tbl (ch1 (List.mem_of_getElem? (i := 1) rfl)) rfl, by decide +kernel, by decide⟩
theorem mvX11_arrives : aMv mX11_arrives := ⟨gd_tbl (ch5 (List.mem_of_getElem? (i := 126) rfl)) rfl, gd_tbl (ch5 (List.mem_of_getElem? (i := 127) rfl)) rfl⟩
abbrev mX11_round : MI := (yX11_round, cX11_round, 2, some .int)
theorem msX11_round : aMs mX11_round 1 := ⟨gd_tbl (ch5 (List.mem_of_getElem? (i := 138) rfl)) rfl, gd_tbl (ch1 (List.mem_of_getElem? (i := 1) rfl)) rfl, by decide +kernel, by decide⟩
theorem mvX11_round : aMv mX11_round := ⟨gd_tbl (ch5 (List.mem_of_getElem? (i := 136) rfl)) rfl, gd_tbl (ch5 (List.mem_of_getElem? (i := 137) rfl)) rfl⟩
abbrev mX11_centuries : MI := (yX11_centuries, cX11_centuries, 3, some .int)
theorem msX11_centuries : aMs mX11_centuries 2 := ⟨gd_tbl (ch5 (List.mem_of_getElem? (i := 147) rfl)) rfl, gd_tbl (ch1 (List.mem_of_getElem? (i := 1) rfl)) rfl, by decide +kernel, by decide⟩
theorem mvX11_centuries : aMv mX11_centuries := ⟨gd_tbl (ch5 (List.mem_of_getElem? (i := 145) rfl)) rfl, gd_tbl (ch5 (List.mem_of_getElem? (i := 146) rfl)) rfl⟩
abbrev mX11_drawn : MI := (yX11_drawn, cX11_drawn, 4, some .int)
theorem msX11_drawn : aMs mX11_drawn 2 := ⟨gd_tbl (ch5 (List.mem_of_getElem? (i := 168) rfl)) rfl, gd_tbl (ch1 (List.mem_of_getElem? (i := 1) rfl)) rfl, by decide +kernel, by decide⟩
theorem mvX11_drawn : aMv mX11_drawn := ⟨gd_tbl (ch5 (List.mem_of_getElem? (i := 166) rfl)) rfl, gd_tbl (ch5 (List.mem_of_getElem? (i := 167) rfl)) rfl⟩
abbrev mX11_image : MI := (yX11_image, cX11_image, 2, some .int)
theorem msX11_image : aMs mX11_image 1 := ⟨gd_tbl (ch5 (List.mem_of_getElem? (i := 172) rfl)) rfl, gd_tbl (ch1 (List.mem_of_getElem? (i := 1) rfl)) rfl, by decide +kernel, by decide⟩
theorem mvX11_image : aMv mX11_image := ⟨gd_tbl (ch5 (List.mem_of_getElem? (i := 170) rfl)) rfl, gd_tbl (ch5 (List.mem_of_getElem? (i := 171) rfl)) rfl⟩
abbrev mX11_back : MI := (yX11_back, cX11_back, 2, some .int)
theorem msX11_back : aMs mX11_back 1 := ⟨gd_tbl (ch5 (List.mem_of_getElem? (i := 195) rfl)) rfl, gd_tbl (ch1 (List.mem_of_getElem? (i := 1) rfl)) rfl, by decide +kernel, by decide⟩
theorem mvX11_back : aMv mX11_back := ⟨gd_tbl (ch5 (List.mem_of_getElem? (i := 193) rfl)) rfl, gd_tbl (ch5 (List.mem_of_getElem? (i := 194) rfl)) rfl⟩
abbrev mX11_count : MI := (yX11_count, cX11_count, 2, some .int)
theorem msX11_count : aMs mX11_count 1 := ⟨gd_tbl (ch5 (List.mem_of_getElem? (i := 203) rfl)) rfl, gd_tbl (ch1 (List.mem_of_getElem? (i := 1) rfl)) rfl, by decide +kernel, by decide⟩
theorem mvX11_count : aMv mX11_count := ⟨gd_tbl (ch5 (List.mem_of_getElem? (i := 201) rfl)) rfl, gd_tbl (ch5 (List.mem_of_getElem? (i := 202) rfl)) rfl⟩
abbrev mX11_status : MI := (yX11_status, cX11_status, 1, some .int)
theorem msX11_status : aMs mX11_status 0 := ⟨gd_tbl (ch5 (List.mem_of_getElem? (i := 215) rfl)) rfl, gd_tbl (ch1 (List.mem_of_getElem? (i := 1) rfl)) rfl, by decide +kernel, by decide⟩
theorem mvX11_status : aMv mX11_status := ⟨gd_tbl (ch5 (List.mem_of_getElem? (i := 213) rfl)) rfl, gd_tbl (ch5 (List.mem_of_getElem? (i := 214) rfl)) rfl⟩
abbrev mX11_granted : MI := (yX11_granted, cX11_granted, 2, some .int)
theorem msX11_granted : aMs mX11_granted 1 := ⟨gd_tbl (ch3 (List.mem_of_getElem? (i := 8) rfl)) rfl, gd_tbl (ch1 (List.mem_of_getElem? (i := 1) rfl)) rfl, by decide +kernel, by decide⟩
theorem mvX11_granted : aMv mX11_granted := ⟨gd_tbl (ch3 (List.mem_of_getElem? (i := 7) rfl)) rfl, gd_tbl (ch0 (List.mem_of_getElem? (i := 1) rfl)) rfl⟩
abbrev mX11_refused : MI := (yX11_refused, cX11_refused, 2, some .int)
theorem msX11_refused : aMs mX11_refused 1 := ⟨gd_tbl (ch2 (List.mem_of_getElem? (i := 228) rfl)) rfl, gd_tbl (ch1 (List.mem_of_getElem? (i := 1) rfl)) rfl, by decide +kernel, by decide⟩
theorem mvX11_refused : aMv mX11_refused := ⟨gd_tbl (ch2 (List.mem_of_getElem? (i := 227) rfl)) rfl, gd_tbl (ch0 (List.mem_of_getElem? (i := 0) rfl)) rfl⟩
abbrev mX11_answered : MI := (yX11_answered, cX11_answered, 2, some .int)
theorem msX11_answered : aMs mX11_answered 1 := ⟨gd_tbl (ch4 (List.mem_of_getElem? (i := 194) rfl)) rfl, gd_tbl (ch1 (List.mem_of_getElem? (i := 1) rfl)) rfl, by decide +kernel, by decide⟩
theorem mvX11_answered : aMv mX11_answered := ⟨gd_tbl (ch4 (List.mem_of_getElem? (i := 193) rfl)) rfl, gd_tbl (ch0 (List.mem_of_getElem? (i := 19) rfl)) rfl⟩
abbrev mX11_isWithin : MI := (yX11_isWithin, cX11_isWithin, 3, some .boolean)
theorem msX11_isWithin : aMs mX11_isWithin 3 := ⟨gd_tbl (ch2 (List.mem_of_getElem? (i := 221) rfl)) rfl, gd_tbl (ch1 (List.mem_of_getElem? (i := 1) rfl)) rfl, by decide +kernel, by decide⟩
theorem stX11_isWithin : Cond.static yX11_isWithin ∈ lw_gd := gd_tbl (ch2 (List.mem_of_getElem? (i := 220) rfl)) rfl
abbrev mX11_isCell : MI := (yX11_isCell, cX11_isCell, 1, some .boolean)
theorem msX11_isCell : aMs mX11_isCell 1 := ⟨gd_tbl (ch2 (List.mem_of_getElem? (i := 215) rfl)) rfl, gd_tbl (ch1 (List.mem_of_getElem? (i := 1) rfl)) rfl, by decide +kernel, by decide⟩
theorem stX11_isCell : Cond.static yX11_isCell ∈ lw_gd := gd_tbl (ch2 (List.mem_of_getElem? (i := 214) rfl)) rfl
abbrev mX11_isFamily : MI := (yX11_isFamily, cX11_isFamily, 1, some .boolean)
theorem msX11_isFamily : aMs mX11_isFamily 1 := ⟨gd_tbl (ch3 (List.mem_of_getElem? (i := 79) rfl)) rfl, gd_tbl (ch1 (List.mem_of_getElem? (i := 1) rfl)) rfl, by decide +kernel, by decide⟩
theorem stX11_isFamily : Cond.static yX11_isFamily ∈ lw_gd := gd_tbl (ch3 (List.mem_of_getElem? (i := 78) rfl)) rfl
abbrev mX11_isYesNo : MI := (yX11_isYesNo, cX11_isYesNo, 1, some .boolean)
theorem msX11_isYesNo : aMs mX11_isYesNo 1 := ⟨gd_tbl (ch2 (List.mem_of_getElem? (i := 224) rfl)) rfl, gd_tbl (ch1 (List.mem_of_getElem? (i := 1) rfl)) rfl, by decide +kernel, by decide⟩
theorem stX11_isYesNo : Cond.static yX11_isYesNo ∈ lw_gd := gd_tbl (ch2 (List.mem_of_getElem? (i := 223) rfl)) rfl
abbrev mX11_isFact : MI := (yX11_isFact, cX11_isFact, 2, some .boolean)
theorem msX11_isFact : aMs mX11_isFact 2 := ⟨gd_tbl (ch2 (List.mem_of_getElem? (i := 218) rfl)) rfl, gd_tbl (ch1 (List.mem_of_getElem? (i := 1) rfl)) rfl, by decide +kernel, by decide⟩
theorem stX11_isFact : Cond.static yX11_isFact ∈ lw_gd := gd_tbl (ch2 (List.mem_of_getElem? (i := 217) rfl)) rfl
abbrev mX11_isTerm : MI := (yX11_isTerm, cX11_isTerm, 2, some .boolean)
theorem msX11_isTerm : aMs mX11_isTerm 2 := ⟨gd_tbl (ch3 (List.mem_of_getElem? (i := 90) rfl)) rfl, gd_tbl (ch1 (List.mem_of_getElem? (i := 1) rfl)) rfl, by decide +kernel, by decide⟩
theorem stX11_isTerm : Cond.static yX11_isTerm ∈ lw_gd := gd_tbl (ch3 (List.mem_of_getElem? (i := 89) rfl)) rfl
abbrev mX12_init : MI := (yX12_init, cX12_init, 1, none)
theorem msX12_init : aMs mX12_init 0 := ⟨gd_tbl (ch5 (List.mem_of_getElem? (i := 220) rfl)) rfl, gd_tbl (ch1 (List.mem_of_getElem? (i := 13) rfl)) rfl, by decide +kernel, by decide⟩
theorem iiX12_init : Cond.instanceMethod yX12_init ∈ lw_gd := gd_tbl (ch5 (List.mem_of_getElem? (i := 219) rfl)) rfl
abbrev mX12_in : MI := (yX12_in, cX12_in, 6, some .boolean)
theorem msX12_in : aMs mX12_in 3 := ⟨gd_tbl (ch6 (List.mem_of_getElem? (i := 207) rfl)) rfl, gd_tbl (ch1 (List.mem_of_getElem? (i := 13) rfl)) rfl, by decide +kernel, by decide⟩
theorem stX12_in : Cond.static yX12_in ∈ lw_gd := gd_tbl (ch6 (List.mem_of_getElem? (i := 206) rfl)) rfl
abbrev mX12_within : MI := (yX12_within, cX12_within, 4, some .int)
theorem msX12_within : aMs mX12_within 3 := ⟨gd_tbl (ch7 (List.mem_of_getElem? (i := 41) rfl)) rfl, gd_tbl (ch1 (List.mem_of_getElem? (i := 13) rfl)) rfl, by decide +kernel, by decide⟩
theorem stX12_within : Cond.static yX12_within ∈ lw_gd := gd_tbl (ch7 (List.mem_of_getElem? (i := 40) rfl)) rfl
abbrev mX12_tell : MI := (yX12_tell, cX12_tell, 2, some .int)
theorem msX12_tell : aMs mX12_tell 1 := ⟨gd_tbl (ch6 (List.mem_of_getElem? (i := 196) rfl)) rfl, gd_tbl (ch1 (List.mem_of_getElem? (i := 13) rfl)) rfl, by decide +kernel, by decide⟩
theorem mvX12_tell : aMv mX12_tell := ⟨gd_tbl (ch6 (List.mem_of_getElem? (i := 195) rfl)) rfl, gd_tbl (ch0 (List.mem_of_getElem? (i := 28) rfl)) rfl⟩
abbrev mX12_change : MI := (yX12_change, cX12_change, 4, some .int)
theorem msX12_change : aMs mX12_change 2 := ⟨gd_tbl (ch6 (List.mem_of_getElem? (i := 239) rfl)) rfl, gd_tbl (ch1 (List.mem_of_getElem? (i := 13) rfl)) rfl, by decide +kernel, by decide⟩
theorem mvX12_change : aMv mX12_change := ⟨gd_tbl (ch6 (List.mem_of_getElem? (i := 238) rfl)) rfl, gd_tbl (ch0 (List.mem_of_getElem? (i := 32) rfl)) rfl⟩
abbrev mX12_keepAll : MI := (yX12_keepAll, cX12_keepAll, 3, none)
theorem msX12_keepAll : aMs mX12_keepAll 1 := ⟨gd_tbl (ch8 (List.mem_of_getElem? (i := 5) rfl)) rfl, gd_tbl (ch1 (List.mem_of_getElem? (i := 13) rfl)) rfl, by decide +kernel, by decide⟩
theorem mvX12_keepAll : aMv mX12_keepAll := ⟨gd_tbl (ch8 (List.mem_of_getElem? (i := 4) rfl)) rfl, gd_tbl (ch0 (List.mem_of_getElem? (i := 72) rfl)) rfl⟩
abbrev mX12_putBack : MI := (yX12_putBack, cX12_putBack, 3, none)
theorem msX12_putBack : aMs mX12_putBack 1 := ⟨gd_tbl (ch6 (List.mem_of_getElem? (i := 200) rfl)) rfl, gd_tbl (ch1 (List.mem_of_getElem? (i := 13) rfl)) rfl, by decide +kernel, by decide⟩
theorem mvX12_putBack : aMv mX12_putBack := ⟨gd_tbl (ch6 (List.mem_of_getElem? (i := 199) rfl)) rfl, gd_tbl (ch0 (List.mem_of_getElem? (i := 29) rfl)) rfl⟩
abbrev mX12_remember : MI := (yX12_remember, cX12_remember, 3, none)
theorem msX12_remember : aMs mX12_remember 1 := ⟨gd_tbl (ch8 (List.mem_of_getElem? (i := 1) rfl)) rfl, gd_tbl (ch1 (List.mem_of_getElem? (i := 13) rfl)) rfl, by decide +kernel, by decide⟩
theorem mvX12_remember : aMv mX12_remember := ⟨gd_tbl (ch8 (List.mem_of_getElem? (i := 0) rfl)) rfl, gd_tbl (ch0 (List.mem_of_getElem? (i := 71) rfl)) rfl⟩
abbrev mX12_undo : MI := (yX12_undo, cX12_undo, 1, some .int)
theorem msX12_undo : aMs mX12_undo 0 := ⟨gd_tbl (ch6 (List.mem_of_getElem? (i := 192) rfl)) rfl, gd_tbl (ch1 (List.mem_of_getElem? (i := 13) rfl)) rfl, by decide +kernel, by decide⟩
theorem mvX12_undo : aMv mX12_undo := ⟨gd_tbl (ch6 (List.mem_of_getElem? (i := 190) rfl)) rfl, gd_tbl (ch6 (List.mem_of_getElem? (i := 191) rfl)) rfl⟩
abbrev mX12_image : MI := (yX12_image, cX12_image, 3, some .int)
theorem msX12_image : aMs mX12_image 1 := ⟨gd_tbl (ch6 (List.mem_of_getElem? (i := 204) rfl)) rfl, gd_tbl (ch1 (List.mem_of_getElem? (i := 13) rfl)) rfl, by decide +kernel, by decide⟩
theorem mvX12_image : aMv mX12_image := ⟨gd_tbl (ch6 (List.mem_of_getElem? (i := 202) rfl)) rfl, gd_tbl (ch6 (List.mem_of_getElem? (i := 203) rfl)) rfl⟩
abbrev mX12_back : MI := (yX12_back, cX12_back, 3, some .int)
theorem msX12_back : aMs mX12_back 1 := ⟨gd_tbl (ch6 (List.mem_of_getElem? (i := 211) rfl)) rfl, gd_tbl (ch1 (List.mem_of_getElem? (i := 13) rfl)) rfl, by decide +kernel, by decide⟩
theorem mvX12_back : aMv mX12_back := ⟨gd_tbl (ch6 (List.mem_of_getElem? (i := 209) rfl)) rfl, gd_tbl (ch6 (List.mem_of_getElem? (i := 210) rfl)) rfl⟩
abbrev mX12_term : MI := (yX12_term, cX12_term, 2, some .int)
theorem msX12_term : aMs mX12_term 1 := ⟨gd_tbl (ch7 (List.mem_of_getElem? (i := 24) rfl)) rfl, gd_tbl (ch1 (List.mem_of_getElem? (i := 13) rfl)) rfl, by decide +kernel, by decide⟩
theorem mvX12_term : aMv mX12_term := ⟨gd_tbl (ch7 (List.mem_of_getElem? (i := 23) rfl)) rfl, gd_tbl (ch0 (List.mem_of_getElem? (i := 36) rfl)) rfl⟩
abbrev mX12_isCell : MI := (yX12_isCell, cX12_isCell, 1, some .boolean)
theorem msX12_isCell : aMs mX12_isCell 1 := ⟨gd_tbl (ch6 (List.mem_of_getElem? (i := 218) rfl)) rfl, gd_tbl (ch1 (List.mem_of_getElem? (i := 13) rfl)) rfl, by decide +kernel, by decide⟩
theorem stX12_isCell : Cond.static yX12_isCell ∈ lw_gd := gd_tbl (ch6 (List.mem_of_getElem? (i := 217) rfl)) rfl
abbrev mX12_isPlot : MI := (yX12_isPlot, cX12_isPlot, 2, some .boolean)
theorem msX12_isPlot : aMs mX12_isPlot 1 := ⟨gd_tbl (ch7 (List.mem_of_getElem? (i := 11) rfl)) rfl, gd_tbl (ch1 (List.mem_of_getElem? (i := 13) rfl)) rfl, by decide +kernel, by decide⟩
theorem mvX12_isPlot : aMv mX12_isPlot := ⟨gd_tbl (ch7 (List.mem_of_getElem? (i := 10) rfl)) rfl, gd_tbl (ch0 (List.mem_of_getElem? (i := 33) rfl)) rfl⟩
abbrev mX12_plotIn : MI := (yX12_plotIn, cX12_plotIn, 4, some .int)
theorem msX12_plotIn : aMs mX12_plotIn 1 := ⟨gd_tbl (ch6 (List.mem_of_getElem? (i := 231) rfl)) rfl, gd_tbl (ch1 (List.mem_of_getElem? (i := 13) rfl)) rfl, by decide +kernel, by decide⟩
theorem mvX12_plotIn : aMv mX12_plotIn := ⟨gd_tbl (ch6 (List.mem_of_getElem? (i := 230) rfl)) rfl, gd_tbl (ch0 (List.mem_of_getElem? (i := 30) rfl)) rfl⟩
abbrev mX12_isSolid : MI := (yX12_isSolid, cX12_isSolid, 1, some .boolean)
theorem msX12_isSolid : aMs mX12_isSolid 1 := ⟨gd_tbl (ch6 (List.mem_of_getElem? (i := 227) rfl)) rfl, gd_tbl (ch1 (List.mem_of_getElem? (i := 13) rfl)) rfl, by decide +kernel, by decide⟩
theorem stX12_isSolid : Cond.static yX12_isSolid ∈ lw_gd := gd_tbl (ch6 (List.mem_of_getElem? (i := 226) rfl)) rfl
abbrev mX12_canBe : MI := (yX12_canBe, cX12_canBe, 2, some .boolean)
theorem msX12_canBe : aMs mX12_canBe 2 := ⟨gd_tbl (ch6 (List.mem_of_getElem? (i := 222) rfl)) rfl, gd_tbl (ch1 (List.mem_of_getElem? (i := 13) rfl)) rfl, by decide +kernel, by decide⟩
theorem stX12_canBe : Cond.static yX12_canBe ∈ lw_gd := gd_tbl (ch6 (List.mem_of_getElem? (i := 221) rfl)) rfl
abbrev mX12_setKind : MI := (yX12_setKind, cX12_setKind, 3, none)
theorem msX12_setKind : aMs mX12_setKind 2 := ⟨gd_tbl (ch6 (List.mem_of_getElem? (i := 235) rfl)) rfl, gd_tbl (ch1 (List.mem_of_getElem? (i := 13) rfl)) rfl, by decide +kernel, by decide⟩
theorem mvX12_setKind : aMv mX12_setKind := ⟨gd_tbl (ch6 (List.mem_of_getElem? (i := 234) rfl)) rfl, gd_tbl (ch0 (List.mem_of_getElem? (i := 31) rfl)) rfl⟩
abbrev mX12_put : MI := (yX12_put, cX12_put, 5, some .int)
theorem msX12_put : aMs mX12_put 3 := ⟨gd_tbl (ch6 (List.mem_of_getElem? (i := 215) rfl)) rfl, gd_tbl (ch1 (List.mem_of_getElem? (i := 13) rfl)) rfl, by decide +kernel, by decide⟩
theorem mvX12_put : aMv mX12_put := ⟨gd_tbl (ch6 (List.mem_of_getElem? (i := 213) rfl)) rfl, gd_tbl (ch6 (List.mem_of_getElem? (i := 214) rfl)) rfl⟩
abbrev mX12_at : MI := (yX12_at, cX12_at, 3, some .int)
theorem msX12_at : aMs mX12_at 2 := ⟨gd_tbl (ch7 (List.mem_of_getElem? (i := 3) rfl)) rfl, gd_tbl (ch1 (List.mem_of_getElem? (i := 13) rfl)) rfl, by decide +kernel, by decide⟩
theorem mvX12_at : aMv mX12_at := ⟨gd_tbl (ch7 (List.mem_of_getElem? (i := 1) rfl)) rfl, gd_tbl (ch7 (List.mem_of_getElem? (i := 2) rfl)) rfl⟩
abbrev mX12_of : MI := (yX12_of, cX12_of, 3, some .int)
theorem msX12_of : aMs mX12_of 2 := ⟨gd_tbl (ch7 (List.mem_of_getElem? (i := 7) rfl)) rfl, gd_tbl (ch1 (List.mem_of_getElem? (i := 13) rfl)) rfl, by decide +kernel, by decide⟩
theorem mvX12_of : aMv mX12_of := ⟨gd_tbl (ch7 (List.mem_of_getElem? (i := 5) rfl)) rfl, gd_tbl (ch7 (List.mem_of_getElem? (i := 6) rfl)) rfl⟩
abbrev mX12_terms : MI := (yX12_terms, cX12_terms, 4, some .int)
theorem msX12_terms : aMs mX12_terms 2 := ⟨gd_tbl (ch7 (List.mem_of_getElem? (i := 51) rfl)) rfl, gd_tbl (ch1 (List.mem_of_getElem? (i := 13) rfl)) rfl, by decide +kernel, by decide⟩
theorem mvX12_terms : aMv mX12_terms := ⟨gd_tbl (ch7 (List.mem_of_getElem? (i := 49) rfl)) rfl, gd_tbl (ch7 (List.mem_of_getElem? (i := 50) rfl)) rfl⟩
abbrev mX12_row : MI := (yX12_row, cX12_row, 5, some .int)
theorem msX12_row : aMs mX12_row 0 := ⟨gd_tbl (ch7 (List.mem_of_getElem? (i := 58) rfl)) rfl, gd_tbl (ch1 (List.mem_of_getElem? (i := 13) rfl)) rfl, by decide +kernel, by decide⟩
theorem mvX12_row : aMv mX12_row := ⟨gd_tbl (ch7 (List.mem_of_getElem? (i := 56) rfl)) rfl, gd_tbl (ch7 (List.mem_of_getElem? (i := 57) rfl)) rfl⟩
abbrev mX12_moles : MI := (yX12_moles, cX12_moles, 1, some .int)
theorem msX12_moles : aMs mX12_moles 0 := ⟨gd_tbl (ch7 (List.mem_of_getElem? (i := 62) rfl)) rfl, gd_tbl (ch1 (List.mem_of_getElem? (i := 13) rfl)) rfl, by decide +kernel, by decide⟩
theorem mvX12_moles : aMv mX12_moles := ⟨gd_tbl (ch7 (List.mem_of_getElem? (i := 60) rfl)) rfl, gd_tbl (ch7 (List.mem_of_getElem? (i := 61) rfl)) rfl⟩
abbrev mX12_four : MI := (yX12_four, cX12_four, 3, none)
theorem msX12_four : aMs mX12_four 1 := ⟨gd_tbl (ch7 (List.mem_of_getElem? (i := 70) rfl)) rfl, gd_tbl (ch1 (List.mem_of_getElem? (i := 13) rfl)) rfl, by decide +kernel, by decide⟩
theorem mvX12_four : aMv mX12_four := ⟨gd_tbl (ch7 (List.mem_of_getElem? (i := 69) rfl)) rfl, gd_tbl (ch0 (List.mem_of_getElem? (i := 41) rfl)) rfl⟩
abbrev mX12_feed : MI := (yX12_feed, cX12_feed, 6, some .int)
theorem msX12_feed : aMs mX12_feed 5 := ⟨gd_tbl (ch7 (List.mem_of_getElem? (i := 66) rfl)) rfl, gd_tbl (ch1 (List.mem_of_getElem? (i := 13) rfl)) rfl, by decide +kernel, by decide⟩
theorem mvX12_feed : aMv mX12_feed := ⟨gd_tbl (ch7 (List.mem_of_getElem? (i := 64) rfl)) rfl, gd_tbl (ch7 (List.mem_of_getElem? (i := 65) rfl)) rfl⟩
abbrev mX12_end : MI := (yX12_end, cX12_end, 2, some .int)
theorem msX12_end : aMs mX12_end 1 := ⟨gd_tbl (ch7 (List.mem_of_getElem? (i := 74) rfl)) rfl, gd_tbl (ch1 (List.mem_of_getElem? (i := 13) rfl)) rfl, by decide +kernel, by decide⟩
theorem mvX12_end : aMv mX12_end := ⟨gd_tbl (ch7 (List.mem_of_getElem? (i := 72) rfl)) rfl, gd_tbl (ch7 (List.mem_of_getElem? (i := 73) rfl)) rfl⟩
abbrev mX12_isSmall : MI := (yX12_isSmall, cX12_isSmall, 1, some .boolean)
theorem msX12_isSmall : aMs mX12_isSmall 1 := ⟨gd_tbl (ch7 (List.mem_of_getElem? (i := 97) rfl)) rfl, gd_tbl (ch1 (List.mem_of_getElem? (i := 13) rfl)) rfl, by decide +kernel, by decide⟩
theorem stX12_isSmall : Cond.static yX12_isSmall ∈ lw_gd := gd_tbl (ch7 (List.mem_of_getElem? (i := 96) rfl)) rfl
abbrev mX12_isDigit : MI := (yX12_isDigit, cX12_isDigit, 1, some .boolean)
theorem msX12_isDigit : aMs mX12_isDigit 1 := ⟨gd_tbl (ch7 (List.mem_of_getElem? (i := 100) rfl)) rfl, gd_tbl (ch1 (List.mem_of_getElem? (i := 13) rfl)) rfl, by decide +kernel, by decide⟩
theorem stX12_isDigit : Cond.static yX12_isDigit ∈ lw_gd := gd_tbl (ch7 (List.mem_of_getElem? (i := 99) rfl)) rfl
abbrev mX12_begin : MI := (yX12_begin, cX12_begin, 1, none)
theorem msX12_begin : aMs mX12_begin 0 := ⟨gd_tbl (ch7 (List.mem_of_getElem? (i := 90) rfl)) rfl, gd_tbl (ch1 (List.mem_of_getElem? (i := 13) rfl)) rfl, by decide +kernel, by decide⟩
theorem mvX12_begin : aMv mX12_begin := ⟨gd_tbl (ch7 (List.mem_of_getElem? (i := 89) rfl)) rfl, gd_tbl (ch0 (List.mem_of_getElem? (i := 43) rfl)) rfl⟩
abbrev mX12_next : MI := (yX12_next, cX12_next, 1, none)
theorem msX12_next : aMs mX12_next 0 := ⟨gd_tbl (ch7 (List.mem_of_getElem? (i := 94) rfl)) rfl, gd_tbl (ch1 (List.mem_of_getElem? (i := 13) rfl)) rfl, by decide +kernel, by decide⟩
theorem mvX12_next : aMv mX12_next := ⟨gd_tbl (ch7 (List.mem_of_getElem? (i := 93) rfl)) rfl, gd_tbl (ch0 (List.mem_of_getElem? (i := 44) rfl)) rfl⟩
abbrev mX12_isWord : MI := (yX12_isWord, cX12_isWord, 3, some .boolean)
theorem msX12_isWord : aMs mX12_isWord 1 := ⟨gd_tbl (ch7 (List.mem_of_getElem? (i := 112) rfl)) rfl, gd_tbl (ch1 (List.mem_of_getElem? (i := 13) rfl)) rfl, by decide +kernel, by decide⟩
theorem mvX12_isWord : aMv mX12_isWord := ⟨gd_tbl (ch7 (List.mem_of_getElem? (i := 111) rfl)) rfl, gd_tbl (ch0 (List.mem_of_getElem? (i := 46) rfl)) rfl⟩
abbrev mX12_isSign : MI := (yX12_isSign, cX12_isSign, 2, some .boolean)
theorem msX12_isSign : aMs mX12_isSign 1 := ⟨gd_tbl (ch7 (List.mem_of_getElem? (i := 133) rfl)) rfl, gd_tbl (ch1 (List.mem_of_getElem? (i := 13) rfl)) rfl, by decide +kernel, by decide⟩
theorem mvX12_isSign : aMv mX12_isSign := ⟨gd_tbl (ch7 (List.mem_of_getElem? (i := 132) rfl)) rfl, gd_tbl (ch0 (List.mem_of_getElem? (i := 51) rfl)) rfl⟩
abbrev mX12_must : MI := (yX12_must, cX12_must, 2, none)
theorem msX12_must : aMs mX12_must 1 := ⟨gd_tbl (ch7 (List.mem_of_getElem? (i := 116) rfl)) rfl, gd_tbl (ch1 (List.mem_of_getElem? (i := 13) rfl)) rfl, by decide +kernel, by decide⟩
theorem mvX12_must : aMv mX12_must := ⟨gd_tbl (ch7 (List.mem_of_getElem? (i := 115) rfl)) rfl, gd_tbl (ch0 (List.mem_of_getElem? (i := 47) rfl)) rfl⟩
abbrev mX12_number : MI := (yX12_number, cX12_number, 6, some .int)
theorem msX12_number : aMs mX12_number 2 := ⟨gd_tbl (ch7 (List.mem_of_getElem? (i := 162) rfl)) rfl, gd_tbl (ch1 (List.mem_of_getElem? (i := 13) rfl)) rfl, by decide +kernel, by decide⟩
theorem mvX12_number : aMv mX12_number := ⟨gd_tbl (ch7 (List.mem_of_getElem? (i := 161) rfl)) rfl, gd_tbl (ch0 (List.mem_of_getElem? (i := 58) rfl)) rfl⟩
abbrev mX12_fault : MI := (yX12_fault, cX12_fault, 1, some .int)
theorem msX12_fault : aMs mX12_fault 0 := ⟨gd_tbl (ch7 (List.mem_of_getElem? (i := 78) rfl)) rfl, gd_tbl (ch1 (List.mem_of_getElem? (i := 13) rfl)) rfl, by decide +kernel, by decide⟩
theorem mvX12_fault : aMv mX12_fault := ⟨gd_tbl (ch7 (List.mem_of_getElem? (i := 76) rfl)) rfl, gd_tbl (ch7 (List.mem_of_getElem? (i := 77) rfl)) rfl⟩
abbrev mX12_emit : MI := (yX12_emit, cX12_emit, 3, none)
theorem msX12_emit : aMs mX12_emit 2 := ⟨gd_tbl (ch7 (List.mem_of_getElem? (i := 158) rfl)) rfl, gd_tbl (ch1 (List.mem_of_getElem? (i := 13) rfl)) rfl, by decide +kernel, by decide⟩
theorem mvX12_emit : aMv mX12_emit := ⟨gd_tbl (ch7 (List.mem_of_getElem? (i := 157) rfl)) rfl, gd_tbl (ch0 (List.mem_of_getElem? (i := 57) rfl)) rfl⟩
abbrev mX12_push : MI := (yX12_push, cX12_push, 3, none)
theorem msX12_push : aMs mX12_push 2 := ⟨gd_tbl (ch7 (List.mem_of_getElem? (i := 129) rfl)) rfl, gd_tbl (ch1 (List.mem_of_getElem? (i := 13) rfl)) rfl, by decide +kernel, by decide⟩
theorem mvX12_push : aMv mX12_push := ⟨gd_tbl (ch7 (List.mem_of_getElem? (i := 128) rfl)) rfl, gd_tbl (ch0 (List.mem_of_getElem? (i := 50) rfl)) rfl⟩
abbrev mX12_binds : MI := (yX12_binds, cX12_binds, 1, some .int)
theorem msX12_binds : aMs mX12_binds 1 := ⟨gd_tbl (ch7 (List.mem_of_getElem? (i := 169) rfl)) rfl, gd_tbl (ch1 (List.mem_of_getElem? (i := 13) rfl)) rfl, by decide +kernel, by decide⟩
theorem stX12_binds : Cond.static yX12_binds ∈ lw_gd := gd_tbl (ch7 (List.mem_of_getElem? (i := 168) rfl)) rfl
abbrev mX12_settle : MI := (yX12_settle, cX12_settle, 2, none)
theorem msX12_settle : aMs mX12_settle 1 := ⟨gd_tbl (ch7 (List.mem_of_getElem? (i := 173) rfl)) rfl, gd_tbl (ch1 (List.mem_of_getElem? (i := 13) rfl)) rfl, by decide +kernel, by decide⟩
theorem mvX12_settle : aMv mX12_settle := ⟨gd_tbl (ch7 (List.mem_of_getElem? (i := 172) rfl)) rfl, gd_tbl (ch0 (List.mem_of_getElem? (i := 60) rfl)) rfl⟩
abbrev mX12_inner : MI := (yX12_inner, cX12_inner, 3, some .int)
theorem msX12_inner : aMs mX12_inner 0 := ⟨gd_tbl (ch7 (List.mem_of_getElem? (i := 177) rfl)) rfl, gd_tbl (ch1 (List.mem_of_getElem? (i := 13) rfl)) rfl, by decide +kernel, by decide⟩
theorem mvX12_inner : aMv mX12_inner := ⟨gd_tbl (ch7 (List.mem_of_getElem? (i := 176) rfl)) rfl, gd_tbl (ch0 (List.mem_of_getElem? (i := 61) rfl)) rfl⟩
abbrev mX12_isCompared : MI := (yX12_isCompared, cX12_isCompared, 2, some .boolean)
theorem msX12_isCompared : aMs mX12_isCompared 0 := ⟨gd_tbl (ch7 (List.mem_of_getElem? (i := 181) rfl)) rfl, gd_tbl (ch1 (List.mem_of_getElem? (i := 13) rfl)) rfl, by decide +kernel, by decide⟩
theorem mvX12_isCompared : aMv mX12_isCompared := ⟨gd_tbl (ch7 (List.mem_of_getElem? (i := 180) rfl)) rfl, gd_tbl (ch0 (List.mem_of_getElem? (i := 62) rfl)) rfl⟩
abbrev mX12_partAt : MI := (yX12_partAt, cX12_partAt, 3, some .int)
theorem msX12_partAt : aMs mX12_partAt 0 := ⟨gd_tbl (ch7 (List.mem_of_getElem? (i := 149) rfl)) rfl, gd_tbl (ch1 (List.mem_of_getElem? (i := 13) rfl)) rfl, by decide +kernel, by decide⟩
theorem mvX12_partAt : aMv mX12_partAt := ⟨gd_tbl (ch7 (List.mem_of_getElem? (i := 148) rfl)) rfl, gd_tbl (ch0 (List.mem_of_getElem? (i := 55) rfl)) rfl⟩
abbrev mX12_orderPartAt : MI := (yX12_orderPartAt, cX12_orderPartAt, 3, some .int)
theorem msX12_orderPartAt : aMs mX12_orderPartAt 0 := ⟨gd_tbl (ch7 (List.mem_of_getElem? (i := 145) rfl)) rfl, gd_tbl (ch1 (List.mem_of_getElem? (i := 13) rfl)) rfl, by decide +kernel, by decide⟩
theorem mvX12_orderPartAt : aMv mX12_orderPartAt := ⟨gd_tbl (ch7 (List.mem_of_getElem? (i := 144) rfl)) rfl, gd_tbl (ch0 (List.mem_of_getElem? (i := 54) rfl)) rfl⟩
abbrev mX12_openBracket : MI := (yX12_openBracket, cX12_openBracket, 2, none)
theorem msX12_openBracket : aMs mX12_openBracket 1 := ⟨gd_tbl (ch7 (List.mem_of_getElem? (i := 137) rfl)) rfl, gd_tbl (ch1 (List.mem_of_getElem? (i := 13) rfl)) rfl, by decide +kernel, by decide⟩
theorem mvX12_openBracket : aMv mX12_openBracket := ⟨gd_tbl (ch7 (List.mem_of_getElem? (i := 136) rfl)) rfl, gd_tbl (ch0 (List.mem_of_getElem? (i := 52) rfl)) rfl⟩
abbrev mX12_leaf : MI := (yX12_leaf, cX12_leaf, 4, none)
theorem msX12_leaf : aMs mX12_leaf 3 := ⟨gd_tbl (ch7 (List.mem_of_getElem? (i := 154) rfl)) rfl, gd_tbl (ch1 (List.mem_of_getElem? (i := 13) rfl)) rfl, by decide +kernel, by decide⟩
theorem mvX12_leaf : aMv mX12_leaf := ⟨gd_tbl (ch7 (List.mem_of_getElem? (i := 153) rfl)) rfl, gd_tbl (ch0 (List.mem_of_getElem? (i := 56) rfl)) rfl⟩
abbrev mX12_readPart : MI := (yX12_readPart, cX12_readPart, 4, some .int)
theorem msX12_readPart : aMs mX12_readPart 0 := ⟨gd_tbl (ch7 (List.mem_of_getElem? (i := 141) rfl)) rfl, gd_tbl (ch1 (List.mem_of_getElem? (i := 13) rfl)) rfl, by decide +kernel, by decide⟩
theorem mvX12_readPart : aMv mX12_readPart := ⟨gd_tbl (ch7 (List.mem_of_getElem? (i := 140) rfl)) rfl, gd_tbl (ch0 (List.mem_of_getElem? (i := 53) rfl)) rfl⟩
abbrev mX12_readPlain : MI := (yX12_readPlain, cX12_readPlain, 1, some .int)
theorem msX12_readPlain : aMs mX12_readPlain 0 := ⟨gd_tbl (ch7 (List.mem_of_getElem? (i := 124) rfl)) rfl, gd_tbl (ch1 (List.mem_of_getElem? (i := 13) rfl)) rfl, by decide +kernel, by decide⟩
theorem mvX12_readPlain : aMv mX12_readPlain := ⟨gd_tbl (ch7 (List.mem_of_getElem? (i := 123) rfl)) rfl, gd_tbl (ch0 (List.mem_of_getElem? (i := 49) rfl)) rfl⟩
abbrev mX12_behindSum : MI := (yX12_behindSum, cX12_behindSum, 4, some .int)
theorem msX12_behindSum : aMs mX12_behindSum 1 := ⟨gd_tbl (ch7 (List.mem_of_getElem? (i := 166) rfl)) rfl, gd_tbl (ch1 (List.mem_of_getElem? (i := 13) rfl)) rfl, by decide +kernel, by decide⟩
theorem mvX12_behindSum : aMv mX12_behindSum := ⟨gd_tbl (ch7 (List.mem_of_getElem? (i := 165) rfl)) rfl, gd_tbl (ch0 (List.mem_of_getElem? (i := 59) rfl)) rfl⟩
abbrev mX12_behindTest : MI := (yX12_behindTest, cX12_behindTest, 2, some .int)
theorem msX12_behindTest : aMs mX12_behindTest 0 := ⟨gd_tbl (ch7 (List.mem_of_getElem? (i := 189) rfl)) rfl, gd_tbl (ch1 (List.mem_of_getElem? (i := 13) rfl)) rfl, by decide +kernel, by decide⟩
theorem mvX12_behindTest : aMv mX12_behindTest := ⟨gd_tbl (ch7 (List.mem_of_getElem? (i := 188) rfl)) rfl, gd_tbl (ch0 (List.mem_of_getElem? (i := 63) rfl)) rfl⟩
abbrev mX12_readExpression : MI := (yX12_readExpression, cX12_readExpression, 3, none)
theorem msX12_readExpression : aMs mX12_readExpression 1 := ⟨gd_tbl (ch7 (List.mem_of_getElem? (i := 120) rfl)) rfl, gd_tbl (ch1 (List.mem_of_getElem? (i := 13) rfl)) rfl, by decide +kernel, by decide⟩
theorem mvX12_readExpression : aMv mX12_readExpression := ⟨gd_tbl (ch7 (List.mem_of_getElem? (i := 119) rfl)) rfl, gd_tbl (ch0 (List.mem_of_getElem? (i := 48) rfl)) rfl⟩
abbrev mX12_beginText : MI := (yX12_beginText, cX12_beginText, 2, none)
theorem msX12_beginText : aMs mX12_beginText 1 := ⟨gd_tbl (ch7 (List.mem_of_getElem? (i := 86) rfl)) rfl, gd_tbl (ch1 (List.mem_of_getElem? (i := 13) rfl)) rfl, by decide +kernel, by decide⟩
theorem mvX12_beginText : aMv mX12_beginText := ⟨gd_tbl (ch7 (List.mem_of_getElem? (i := 85) rfl)) rfl, gd_tbl (ch0 (List.mem_of_getElem? (i := 42) rfl)) rfl⟩
abbrev mX12_endText : MI := (yX12_endText, cX12_endText, 1, none)
theorem msX12_endText : aMs mX12_endText 0 := ⟨gd_tbl (ch7 (List.mem_of_getElem? (i := 196) rfl)) rfl, gd_tbl (ch1 (List.mem_of_getElem? (i := 13) rfl)) rfl, by decide +kernel, by decide⟩
theorem mvX12_endText : aMv mX12_endText := ⟨gd_tbl (ch7 (List.mem_of_getElem? (i := 195) rfl)) rfl, gd_tbl (ch0 (List.mem_of_getElem? (i := 64) rfl)) rfl⟩
abbrev mX12_readLaw : MI := (yX12_readLaw, cX12_readLaw, 4, none)
theorem msX12_readLaw : aMs mX12_readLaw 0 := ⟨gd_tbl (ch7 (List.mem_of_getElem? (i := 108) rfl)) rfl, gd_tbl (ch1 (List.mem_of_getElem? (i := 13) rfl)) rfl, by decide +kernel, by decide⟩
theorem mvX12_readLaw : aMv mX12_readLaw := ⟨gd_tbl (ch7 (List.mem_of_getElem? (i := 107) rfl)) rfl, gd_tbl (ch0 (List.mem_of_getElem? (i := 45) rfl)) rfl⟩
abbrev mX12_law : MI := (yX12_law, cX12_law, 3, some .int)
theorem msX12_law : aMs mX12_law 0 := ⟨gd_tbl (ch7 (List.mem_of_getElem? (i := 82) rfl)) rfl, gd_tbl (ch1 (List.mem_of_getElem? (i := 13) rfl)) rfl, by decide +kernel, by decide⟩
theorem mvX12_law : aMv mX12_law := ⟨gd_tbl (ch7 (List.mem_of_getElem? (i := 80) rfl)) rfl, gd_tbl (ch7 (List.mem_of_getElem? (i := 81) rfl)) rfl⟩
abbrev mX12_isLaw : MI := (yX12_isLaw, cX12_isLaw, 2, some .boolean)
theorem msX12_isLaw : aMs mX12_isLaw 1 := ⟨gd_tbl (ch7 (List.mem_of_getElem? (i := 204) rfl)) rfl, gd_tbl (ch1 (List.mem_of_getElem? (i := 13) rfl)) rfl, by decide +kernel, by decide⟩
theorem mvX12_isLaw : aMv mX12_isLaw := ⟨gd_tbl (ch7 (List.mem_of_getElem? (i := 203) rfl)) rfl, gd_tbl (ch0 (List.mem_of_getElem? (i := 65) rfl)) rfl⟩
abbrev mX12_force : MI := (yX12_force, cX12_force, 2, some .int)
theorem msX12_force : aMs mX12_force 1 := ⟨gd_tbl (ch7 (List.mem_of_getElem? (i := 200) rfl)) rfl, gd_tbl (ch1 (List.mem_of_getElem? (i := 13) rfl)) rfl, by decide +kernel, by decide⟩
theorem mvX12_force : aMv mX12_force := ⟨gd_tbl (ch7 (List.mem_of_getElem? (i := 198) rfl)) rfl, gd_tbl (ch7 (List.mem_of_getElem? (i := 199) rfl)) rfl⟩
abbrev mX12_reckon : MI := (yX12_reckon, cX12_reckon, 6, some .long)
theorem msX12_reckon : aMs mX12_reckon 3 := ⟨gd_tbl (ch7 (List.mem_of_getElem? (i := 36) rfl)) rfl, gd_tbl (ch1 (List.mem_of_getElem? (i := 13) rfl)) rfl, by decide +kernel, by decide⟩
theorem mvX12_reckon : aMv mX12_reckon := ⟨gd_tbl (ch7 (List.mem_of_getElem? (i := 35) rfl)) rfl, gd_tbl (ch0 (List.mem_of_getElem? (i := 39) rfl)) rfl⟩
abbrev mX12_reckonAll : MI := (yX12_reckonAll, cX12_reckonAll, 7, none)
theorem msX12_reckonAll : aMs mX12_reckonAll 2 := ⟨gd_tbl (ch7 (List.mem_of_getElem? (i := 32) rfl)) rfl, gd_tbl (ch1 (List.mem_of_getElem? (i := 13) rfl)) rfl, by decide +kernel, by decide⟩
theorem mvX12_reckonAll : aMv mX12_reckonAll := ⟨gd_tbl (ch7 (List.mem_of_getElem? (i := 31) rfl)) rfl, gd_tbl (ch0 (List.mem_of_getElem? (i := 38) rfl)) rfl⟩
abbrev mX12_isSo : MI := (yX12_isSo, cX12_isSo, 2, some .boolean)
theorem msX12_isSo : aMs mX12_isSo 1 := ⟨gd_tbl (ch7 (List.mem_of_getElem? (i := 28) rfl)) rfl, gd_tbl (ch1 (List.mem_of_getElem? (i := 13) rfl)) rfl, by decide +kernel, by decide⟩
theorem mvX12_isSo : aMv mX12_isSo := ⟨gd_tbl (ch7 (List.mem_of_getElem? (i := 27) rfl)) rfl, gd_tbl (ch0 (List.mem_of_getElem? (i := 37) rfl)) rfl⟩
abbrev mX12_tells : MI := (yX12_tells, cX12_tells, 11, some .long)
theorem msX12_tells : aMs mX12_tells 5 := ⟨gd_tbl (ch7 (List.mem_of_getElem? (i := 19) rfl)) rfl, gd_tbl (ch1 (List.mem_of_getElem? (i := 13) rfl)) rfl, by decide +kernel, by decide⟩
theorem mvX12_tells : aMv mX12_tells := ⟨gd_tbl (ch7 (List.mem_of_getElem? (i := 18) rfl)) rfl, gd_tbl (ch0 (List.mem_of_getElem? (i := 35) rfl)) rfl⟩
abbrev mX12_tellsGoing : MI := (yX12_tellsGoing, cX12_tellsGoing, 3, some .boolean)
theorem msX12_tellsGoing : aMs mX12_tellsGoing 0 := ⟨gd_tbl (ch7 (List.mem_of_getElem? (i := 216) rfl)) rfl, gd_tbl (ch1 (List.mem_of_getElem? (i := 13) rfl)) rfl, by decide +kernel, by decide⟩
theorem mvX12_tellsGoing : aMv mX12_tellsGoing := ⟨gd_tbl (ch7 (List.mem_of_getElem? (i := 215) rfl)) rfl, gd_tbl (ch0 (List.mem_of_getElem? (i := 67) rfl)) rfl⟩
abbrev mX12_movesOf : MI := (yX12_movesOf, cX12_movesOf, 2, some .int)
theorem msX12_movesOf : aMs mX12_movesOf 1 := ⟨gd_tbl (ch7 (List.mem_of_getElem? (i := 15) rfl)) rfl, gd_tbl (ch1 (List.mem_of_getElem? (i := 13) rfl)) rfl, by decide +kernel, by decide⟩
theorem mvX12_movesOf : aMv mX12_movesOf := ⟨gd_tbl (ch7 (List.mem_of_getElem? (i := 14) rfl)) rfl, gd_tbl (ch0 (List.mem_of_getElem? (i := 34) rfl)) rfl⟩
abbrev mX12_digsOf : MI := (yX12_digsOf, cX12_digsOf, 2, some .int)
theorem msX12_digsOf : aMs mX12_digsOf 1 := ⟨gd_tbl (ch7 (List.mem_of_getElem? (i := 45) rfl)) rfl, gd_tbl (ch1 (List.mem_of_getElem? (i := 13) rfl)) rfl, by decide +kernel, by decide⟩
theorem mvX12_digsOf : aMv mX12_digsOf := ⟨gd_tbl (ch7 (List.mem_of_getElem? (i := 44) rfl)) rfl, gd_tbl (ch0 (List.mem_of_getElem? (i := 40) rfl)) rfl⟩
abbrev mX12_canGo : MI := (yX12_canGo, cX12_canGo, 4, some .boolean)
theorem msX12_canGo : aMs mX12_canGo 2 := ⟨gd_tbl (ch7 (List.mem_of_getElem? (i := 212) rfl)) rfl, gd_tbl (ch1 (List.mem_of_getElem? (i := 13) rfl)) rfl, by decide +kernel, by decide⟩
theorem mvX12_canGo : aMv mX12_canGo := ⟨gd_tbl (ch7 (List.mem_of_getElem? (i := 211) rfl)) rfl, gd_tbl (ch0 (List.mem_of_getElem? (i := 66) rfl)) rfl⟩
abbrev mX12_isBarred : MI := (yX12_isBarred, cX12_isBarred, 3, some .boolean)
theorem msX12_isBarred : aMs mX12_isBarred 2 := ⟨gd_tbl (ch7 (List.mem_of_getElem? (i := 225) rfl)) rfl, gd_tbl (ch1 (List.mem_of_getElem? (i := 13) rfl)) rfl, by decide +kernel, by decide⟩
theorem mvX12_isBarred : aMv mX12_isBarred := ⟨gd_tbl (ch7 (List.mem_of_getElem? (i := 224) rfl)) rfl, gd_tbl (ch0 (List.mem_of_getElem? (i := 68) rfl)) rfl⟩
abbrev mX12_goes : MI := (yX12_goes, cX12_goes, 3, some .int)
theorem msX12_goes : aMs mX12_goes 2 := ⟨gd_tbl (ch7 (List.mem_of_getElem? (i := 208) rfl)) rfl, gd_tbl (ch1 (List.mem_of_getElem? (i := 13) rfl)) rfl, by decide +kernel, by decide⟩
theorem mvX12_goes : aMv mX12_goes := ⟨gd_tbl (ch7 (List.mem_of_getElem? (i := 206) rfl)) rfl, gd_tbl (ch7 (List.mem_of_getElem? (i := 207) rfl)) rfl⟩
abbrev mX12_barred : MI := (yX12_barred, cX12_barred, 3, some .int)
theorem msX12_barred : aMs mX12_barred 2 := ⟨gd_tbl (ch7 (List.mem_of_getElem? (i := 220) rfl)) rfl, gd_tbl (ch1 (List.mem_of_getElem? (i := 13) rfl)) rfl, by decide +kernel, by decide⟩
theorem mvX12_barred : aMv mX12_barred := ⟨gd_tbl (ch7 (List.mem_of_getElem? (i := 218) rfl)) rfl, gd_tbl (ch7 (List.mem_of_getElem? (i := 219) rfl)) rfl⟩
abbrev mX12_canLie : MI := (yX12_canLie, cX12_canLie, 3, some .boolean)
theorem msX12_canLie : aMs mX12_canLie 2 := ⟨gd_tbl (ch7 (List.mem_of_getElem? (i := 237) rfl)) rfl, gd_tbl (ch1 (List.mem_of_getElem? (i := 13) rfl)) rfl, by decide +kernel, by decide⟩
theorem mvX12_canLie : aMv mX12_canLie := ⟨gd_tbl (ch7 (List.mem_of_getElem? (i := 236) rfl)) rfl, gd_tbl (ch0 (List.mem_of_getElem? (i := 70) rfl)) rfl⟩
abbrev mX12_lay : MI := (yX12_lay, cX12_lay, 5, none)
theorem msX12_lay : aMs mX12_lay 3 := ⟨gd_tbl (ch8 (List.mem_of_getElem? (i := 9) rfl)) rfl, gd_tbl (ch1 (List.mem_of_getElem? (i := 13) rfl)) rfl, by decide +kernel, by decide⟩
theorem mvX12_lay : aMv mX12_lay := ⟨gd_tbl (ch8 (List.mem_of_getElem? (i := 8) rfl)) rfl, gd_tbl (ch0 (List.mem_of_getElem? (i := 73) rfl)) rfl⟩
abbrev mX12_buryNow : MI := (yX12_buryNow, cX12_buryNow, 4, some .int)
theorem msX12_buryNow : aMs mX12_buryNow 3 := ⟨gd_tbl (ch7 (List.mem_of_getElem? (i := 233) rfl)) rfl, gd_tbl (ch1 (List.mem_of_getElem? (i := 13) rfl)) rfl, by decide +kernel, by decide⟩
theorem mvX12_buryNow : aMv mX12_buryNow := ⟨gd_tbl (ch7 (List.mem_of_getElem? (i := 232) rfl)) rfl, gd_tbl (ch0 (List.mem_of_getElem? (i := 69) rfl)) rfl⟩
abbrev mX12_bury : MI := (yX12_bury, cX12_bury, 4, some .int)
theorem msX12_bury : aMs mX12_bury 3 := ⟨gd_tbl (ch7 (List.mem_of_getElem? (i := 229) rfl)) rfl, gd_tbl (ch1 (List.mem_of_getElem? (i := 13) rfl)) rfl, by decide +kernel, by decide⟩
theorem mvX12_bury : aMv mX12_bury := ⟨gd_tbl (ch7 (List.mem_of_getElem? (i := 227) rfl)) rfl, gd_tbl (ch7 (List.mem_of_getElem? (i := 228) rfl)) rfl⟩
abbrev mX12_buyNow : MI := (yX12_buyNow, cX12_buyNow, 2, some .int)
theorem msX12_buyNow : aMs mX12_buyNow 1 := ⟨gd_tbl (ch8 (List.mem_of_getElem? (i := 17) rfl)) rfl, gd_tbl (ch1 (List.mem_of_getElem? (i := 13) rfl)) rfl, by decide +kernel, by decide⟩
theorem mvX12_buyNow : aMv mX12_buyNow := ⟨gd_tbl (ch8 (List.mem_of_getElem? (i := 16) rfl)) rfl, gd_tbl (ch0 (List.mem_of_getElem? (i := 74) rfl)) rfl⟩
abbrev mX12_buy : MI := (yX12_buy, cX12_buy, 2, some .int)
theorem msX12_buy : aMs mX12_buy 1 := ⟨gd_tbl (ch8 (List.mem_of_getElem? (i := 13) rfl)) rfl, gd_tbl (ch1 (List.mem_of_getElem? (i := 13) rfl)) rfl, by decide +kernel, by decide⟩
theorem mvX12_buy : aMv mX12_buy := ⟨gd_tbl (ch8 (List.mem_of_getElem? (i := 11) rfl)) rfl, gd_tbl (ch8 (List.mem_of_getElem? (i := 12) rfl)) rfl⟩
abbrev mX12_raiseNow : MI := (yX12_raiseNow, cX12_raiseNow, 4, some .int)
theorem msX12_raiseNow : aMs mX12_raiseNow 1 := ⟨gd_tbl (ch8 (List.mem_of_getElem? (i := 25) rfl)) rfl, gd_tbl (ch1 (List.mem_of_getElem? (i := 13) rfl)) rfl, by decide +kernel, by decide⟩
theorem mvX12_raiseNow : aMv mX12_raiseNow := ⟨gd_tbl (ch8 (List.mem_of_getElem? (i := 24) rfl)) rfl, gd_tbl (ch0 (List.mem_of_getElem? (i := 75) rfl)) rfl⟩
abbrev mX12_raise : MI := (yX12_raise, cX12_raise, 2, some .int)
theorem msX12_raise : aMs mX12_raise 1 := ⟨gd_tbl (ch8 (List.mem_of_getElem? (i := 21) rfl)) rfl, gd_tbl (ch1 (List.mem_of_getElem? (i := 13) rfl)) rfl, by decide +kernel, by decide⟩
theorem mvX12_raise : aMv mX12_raise := ⟨gd_tbl (ch8 (List.mem_of_getElem? (i := 19) rfl)) rfl, gd_tbl (ch8 (List.mem_of_getElem? (i := 20) rfl)) rfl⟩
abbrev mX12_move : MI := (yX12_move, cX12_move, 5, none)
theorem msX12_move : aMs mX12_move 1 := ⟨gd_tbl (ch8 (List.mem_of_getElem? (i := 41) rfl)) rfl, gd_tbl (ch1 (List.mem_of_getElem? (i := 13) rfl)) rfl, by decide +kernel, by decide⟩
theorem mvX12_move : aMv mX12_move := ⟨gd_tbl (ch8 (List.mem_of_getElem? (i := 40) rfl)) rfl, gd_tbl (ch0 (List.mem_of_getElem? (i := 78) rfl)) rfl⟩
abbrev mX12_age : MI := (yX12_age, cX12_age, 2, none)
theorem msX12_age : aMs mX12_age 0 := ⟨gd_tbl (ch8 (List.mem_of_getElem? (i := 45) rfl)) rfl, gd_tbl (ch1 (List.mem_of_getElem? (i := 13) rfl)) rfl, by decide +kernel, by decide⟩
theorem mvX12_age : aMv mX12_age := ⟨gd_tbl (ch8 (List.mem_of_getElem? (i := 44) rfl)) rfl, gd_tbl (ch0 (List.mem_of_getElem? (i := 79) rfl)) rfl⟩
abbrev mX12_passIt : MI := (yX12_passIt, cX12_passIt, 3, some .int)
theorem msX12_passIt : aMs mX12_passIt 0 := ⟨gd_tbl (ch8 (List.mem_of_getElem? (i := 37) rfl)) rfl, gd_tbl (ch1 (List.mem_of_getElem? (i := 13) rfl)) rfl, by decide +kernel, by decide⟩
theorem mvX12_passIt : aMv mX12_passIt := ⟨gd_tbl (ch8 (List.mem_of_getElem? (i := 36) rfl)) rfl, gd_tbl (ch0 (List.mem_of_getElem? (i := 77) rfl)) rfl⟩
abbrev mX12_passNow : MI := (yX12_passNow, cX12_passNow, 2, some .int)
theorem msX12_passNow : aMs mX12_passNow 0 := ⟨gd_tbl (ch8 (List.mem_of_getElem? (i := 33) rfl)) rfl, gd_tbl (ch1 (List.mem_of_getElem? (i := 13) rfl)) rfl, by decide +kernel, by decide⟩
theorem mvX12_passNow : aMv mX12_passNow := ⟨gd_tbl (ch8 (List.mem_of_getElem? (i := 32) rfl)) rfl, gd_tbl (ch0 (List.mem_of_getElem? (i := 76) rfl)) rfl⟩
abbrev mX12_pass : MI := (yX12_pass, cX12_pass, 1, some .int)
theorem msX12_pass : aMs mX12_pass 0 := ⟨gd_tbl (ch8 (List.mem_of_getElem? (i := 29) rfl)) rfl, gd_tbl (ch1 (List.mem_of_getElem? (i := 13) rfl)) rfl, by decide +kernel, by decide⟩
theorem mvX12_pass : aMv mX12_pass := ⟨gd_tbl (ch8 (List.mem_of_getElem? (i := 27) rfl)) rfl, gd_tbl (ch8 (List.mem_of_getElem? (i := 28) rfl)) rfl⟩
abbrev mX12_blocked : MI := (yX12_blocked, cX12_blocked, 1, some .int)
theorem msX12_blocked : aMs mX12_blocked 0 := ⟨gd_tbl (ch8 (List.mem_of_getElem? (i := 49) rfl)) rfl, gd_tbl (ch1 (List.mem_of_getElem? (i := 13) rfl)) rfl, by decide +kernel, by decide⟩
theorem mvX12_blocked : aMv mX12_blocked := ⟨gd_tbl (ch8 (List.mem_of_getElem? (i := 47) rfl)) rfl, gd_tbl (ch8 (List.mem_of_getElem? (i := 48) rfl)) rfl⟩
abbrev mX12_where : MI := (yX12_where, cX12_where, 4, some .int)
theorem msX12_where : aMs mX12_where 2 := ⟨gd_tbl (ch8 (List.mem_of_getElem? (i := 53) rfl)) rfl, gd_tbl (ch1 (List.mem_of_getElem? (i := 13) rfl)) rfl, by decide +kernel, by decide⟩
theorem mvX12_where : aMv mX12_where := ⟨gd_tbl (ch8 (List.mem_of_getElem? (i := 51) rfl)) rfl, gd_tbl (ch8 (List.mem_of_getElem? (i := 52) rfl)) rfl⟩
abbrev mX12_isIndoors : MI := (yX12_isIndoors, cX12_isIndoors, 3, some .boolean)
theorem msX12_isIndoors : aMs mX12_isIndoors 0 := ⟨gd_tbl (ch8 (List.mem_of_getElem? (i := 62) rfl)) rfl, gd_tbl (ch1 (List.mem_of_getElem? (i := 13) rfl)) rfl, by decide +kernel, by decide⟩
theorem mvX12_isIndoors : aMv mX12_isIndoors := ⟨gd_tbl (ch8 (List.mem_of_getElem? (i := 61) rfl)) rfl, gd_tbl (ch0 (List.mem_of_getElem? (i := 80) rfl)) rfl⟩
abbrev mX12_indoors : MI := (yX12_indoors, cX12_indoors, 2, some .int)
theorem msX12_indoors : aMs mX12_indoors 0 := ⟨gd_tbl (ch8 (List.mem_of_getElem? (i := 58) rfl)) rfl, gd_tbl (ch1 (List.mem_of_getElem? (i := 13) rfl)) rfl, by decide +kernel, by decide⟩
theorem mvX12_indoors : aMv mX12_indoors := ⟨gd_tbl (ch8 (List.mem_of_getElem? (i := 56) rfl)) rfl, gd_tbl (ch8 (List.mem_of_getElem? (i := 57) rfl)) rfl⟩
abbrev mX12_yearIn : MI := (yX12_yearIn, cX12_yearIn, 5, some .int)
theorem msX12_yearIn : aMs mX12_yearIn 3 := ⟨gd_tbl (ch8 (List.mem_of_getElem? (i := 72) rfl)) rfl, gd_tbl (ch1 (List.mem_of_getElem? (i := 13) rfl)) rfl, by decide +kernel, by decide⟩
theorem mvX12_yearIn : aMv mX12_yearIn := ⟨gd_tbl (ch8 (List.mem_of_getElem? (i := 71) rfl)) rfl, gd_tbl (ch0 (List.mem_of_getElem? (i := 81) rfl)) rfl⟩
abbrev mX12_ways : MI := (yX12_ways, cX12_ways, 14, some .long)
theorem msX12_ways : aMs mX12_ways 4 := ⟨gd_tbl (ch8 (List.mem_of_getElem? (i := 66) rfl)) rfl, gd_tbl (ch1 (List.mem_of_getElem? (i := 13) rfl)) rfl, by decide +kernel, by decide⟩
theorem mvX12_ways : aMv mX12_ways := ⟨gd_tbl (ch8 (List.mem_of_getElem? (i := 64) rfl)) rfl, gd_tbl (ch8 (List.mem_of_getElem? (i := 65) rfl)) rfl⟩
abbrev mX12_round : MI := (yX12_round, cX12_round, 4, some .int)
theorem msX12_round : aMs mX12_round 1 := ⟨gd_tbl (ch8 (List.mem_of_getElem? (i := 76) rfl)) rfl, gd_tbl (ch1 (List.mem_of_getElem? (i := 13) rfl)) rfl, by decide +kernel, by decide⟩
theorem mvX12_round : aMv mX12_round := ⟨gd_tbl (ch8 (List.mem_of_getElem? (i := 74) rfl)) rfl, gd_tbl (ch8 (List.mem_of_getElem? (i := 75) rfl)) rfl⟩
abbrev mX12_compare : MI := (yX12_compare, cX12_compare, 6, some .int)
theorem msX12_compare : aMs mX12_compare 2 := ⟨gd_tbl (ch8 (List.mem_of_getElem? (i := 80) rfl)) rfl, gd_tbl (ch1 (List.mem_of_getElem? (i := 13) rfl)) rfl, by decide +kernel, by decide⟩
theorem mvX12_compare : aMv mX12_compare := ⟨gd_tbl (ch8 (List.mem_of_getElem? (i := 78) rfl)) rfl, gd_tbl (ch8 (List.mem_of_getElem? (i := 79) rfl)) rfl⟩
abbrev mX12_arrives : MI := (yX12_arrives, cX12_arrives, 9, some .long)
theorem msX12_arrives : aMs mX12_arrives 3 := ⟨gd_tbl (ch8 (List.mem_of_getElem? (i := 85) rfl)) rfl, gd_tbl (ch1 (List.mem_of_getElem? (i := 13) rfl)) rfl, by decide +kernel, by decide⟩
theorem mvX12_arrives : aMv mX12_arrives := ⟨gd_tbl (ch8 (List.mem_of_getElem? (i := 83) rfl)) rfl, gd_tbl (ch8 (List.mem_of_getElem? (i := 84) rfl)) rfl⟩
abbrev mX12_isPacked : MI := (yX12_isPacked, cX12_isPacked, 4, some .boolean)
theorem msX12_isPacked : aMs mX12_isPacked 1 := ⟨gd_tbl (ch8 (List.mem_of_getElem? (i := 95) rfl)) rfl, gd_tbl (ch1 (List.mem_of_getElem? (i := 13) rfl)) rfl, by decide +kernel, by decide⟩
theorem mvX12_isPacked : aMv mX12_isPacked := ⟨gd_tbl (ch8 (List.mem_of_getElem? (i := 94) rfl)) rfl, gd_tbl (ch0 (List.mem_of_getElem? (i := 82) rfl)) rfl⟩
abbrev mX12_packed : MI := (yX12_packed, cX12_packed, 4, some .int)
theorem msX12_packed : aMs mX12_packed 1 := ⟨gd_tbl (ch8 (List.mem_of_getElem? (i := 91) rfl)) rfl, gd_tbl (ch1 (List.mem_of_getElem? (i := 13) rfl)) rfl, by decide +kernel, by decide⟩
theorem mvX12_packed : aMv mX12_packed := ⟨gd_tbl (ch8 (List.mem_of_getElem? (i := 89) rfl)) rfl, gd_tbl (ch8 (List.mem_of_getElem? (i := 90) rfl)) rfl⟩
abbrev mX12_areBeside : MI := (yX12_areBeside, cX12_areBeside, 4, some .boolean)
theorem msX12_areBeside : aMs mX12_areBeside 2 := ⟨gd_tbl (ch8 (List.mem_of_getElem? (i := 107) rfl)) rfl, gd_tbl (ch1 (List.mem_of_getElem? (i := 13) rfl)) rfl, by decide +kernel, by decide⟩
theorem mvX12_areBeside : aMv mX12_areBeside := ⟨gd_tbl (ch8 (List.mem_of_getElem? (i := 106) rfl)) rfl, gd_tbl (ch0 (List.mem_of_getElem? (i := 84) rfl)) rfl⟩
abbrev mX12_noteBeside : MI := (yX12_noteBeside, cX12_noteBeside, 3, none)
theorem msX12_noteBeside : aMs mX12_noteBeside 0 := ⟨gd_tbl (ch8 (List.mem_of_getElem? (i := 103) rfl)) rfl, gd_tbl (ch1 (List.mem_of_getElem? (i := 13) rfl)) rfl, by decide +kernel, by decide⟩
theorem mvX12_noteBeside : aMv mX12_noteBeside := ⟨gd_tbl (ch8 (List.mem_of_getElem? (i := 102) rfl)) rfl, gd_tbl (ch0 (List.mem_of_getElem? (i := 83) rfl)) rfl⟩
abbrev mX12_meets : MI := (yX12_meets, cX12_meets, 8, some .int)
theorem msX12_meets : aMs mX12_meets 2 := ⟨gd_tbl (ch8 (List.mem_of_getElem? (i := 99) rfl)) rfl, gd_tbl (ch1 (List.mem_of_getElem? (i := 13) rfl)) rfl, by decide +kernel, by decide⟩
theorem mvX12_meets : aMv mX12_meets := ⟨gd_tbl (ch8 (List.mem_of_getElem? (i := 97) rfl)) rfl, gd_tbl (ch8 (List.mem_of_getElem? (i := 98) rfl)) rfl⟩
abbrev mX12_meet : MI := (yX12_meet, cX12_meet, 9, some .int)
theorem msX12_meet : aMs mX12_meet 4 := ⟨gd_tbl (ch8 (List.mem_of_getElem? (i := 111) rfl)) rfl, gd_tbl (ch1 (List.mem_of_getElem? (i := 13) rfl)) rfl, by decide +kernel, by decide⟩
theorem mvX12_meet : aMv mX12_meet := ⟨gd_tbl (ch8 (List.mem_of_getElem? (i := 109) rfl)) rfl, gd_tbl (ch8 (List.mem_of_getElem? (i := 110) rfl)) rfl⟩
abbrev mX12_find : MI := (yX12_find, cX12_find, 5, some .int)
theorem msX12_find : aMs mX12_find 3 := ⟨gd_tbl (ch8 (List.mem_of_getElem? (i := 115) rfl)) rfl, gd_tbl (ch1 (List.mem_of_getElem? (i := 13) rfl)) rfl, by decide +kernel, by decide⟩
theorem mvX12_find : aMv mX12_find := ⟨gd_tbl (ch8 (List.mem_of_getElem? (i := 113) rfl)) rfl, gd_tbl (ch8 (List.mem_of_getElem? (i := 114) rfl)) rfl⟩
abbrev mX12_forget : MI := (yX12_forget, cX12_forget, 2, some .int)
theorem msX12_forget : aMs mX12_forget 0 := ⟨gd_tbl (ch8 (List.mem_of_getElem? (i := 119) rfl)) rfl, gd_tbl (ch1 (List.mem_of_getElem? (i := 13) rfl)) rfl, by decide +kernel, by decide⟩
theorem mvX12_forget : aMv mX12_forget := ⟨gd_tbl (ch8 (List.mem_of_getElem? (i := 117) rfl)) rfl, gd_tbl (ch8 (List.mem_of_getElem? (i := 118) rfl)) rfl⟩
abbrev mX12_isAsFound : MI := (yX12_isAsFound, cX12_isAsFound, 5, some .boolean)
theorem msX12_isAsFound : aMs mX12_isAsFound 1 := ⟨gd_tbl (ch8 (List.mem_of_getElem? (i := 131) rfl)) rfl, gd_tbl (ch1 (List.mem_of_getElem? (i := 13) rfl)) rfl, by decide +kernel, by decide⟩
theorem mvX12_isAsFound : aMv mX12_isAsFound := ⟨gd_tbl (ch8 (List.mem_of_getElem? (i := 130) rfl)) rfl, gd_tbl (ch0 (List.mem_of_getElem? (i := 86) rfl)) rfl⟩
abbrev mX12_isHidden : MI := (yX12_isHidden, cX12_isHidden, 5, some .boolean)
theorem msX12_isHidden : aMs mX12_isHidden 1 := ⟨gd_tbl (ch8 (List.mem_of_getElem? (i := 127) rfl)) rfl, gd_tbl (ch1 (List.mem_of_getElem? (i := 13) rfl)) rfl, by decide +kernel, by decide⟩
theorem mvX12_isHidden : aMv mX12_isHidden := ⟨gd_tbl (ch8 (List.mem_of_getElem? (i := 126) rfl)) rfl, gd_tbl (ch0 (List.mem_of_getElem? (i := 85) rfl)) rfl⟩
abbrev mX12_hidden : MI := (yX12_hidden, cX12_hidden, 5, some .int)
theorem msX12_hidden : aMs mX12_hidden 1 := ⟨gd_tbl (ch8 (List.mem_of_getElem? (i := 123) rfl)) rfl, gd_tbl (ch1 (List.mem_of_getElem? (i := 13) rfl)) rfl, by decide +kernel, by decide⟩
theorem mvX12_hidden : aMv mX12_hidden := ⟨gd_tbl (ch8 (List.mem_of_getElem? (i := 121) rfl)) rfl, gd_tbl (ch8 (List.mem_of_getElem? (i := 122) rfl)) rfl⟩
abbrev mX12_spade : MI := (yX12_spade, cX12_spade, 8, some .int)
theorem msX12_spade : aMs mX12_spade 2 := ⟨gd_tbl (ch8 (List.mem_of_getElem? (i := 135) rfl)) rfl, gd_tbl (ch1 (List.mem_of_getElem? (i := 13) rfl)) rfl, by decide +kernel, by decide⟩
theorem mvX12_spade : aMv mX12_spade := ⟨gd_tbl (ch8 (List.mem_of_getElem? (i := 133) rfl)) rfl, gd_tbl (ch8 (List.mem_of_getElem? (i := 134) rfl)) rfl⟩
abbrev mX12_readSum : MI := (yX12_readSum, cX12_readSum, 2, none)
theorem msX12_readSum : aMs mX12_readSum 1 := ⟨gd_tbl (ch8 (List.mem_of_getElem? (i := 147) rfl)) rfl, gd_tbl (ch1 (List.mem_of_getElem? (i := 13) rfl)) rfl, by decide +kernel, by decide⟩
theorem mvX12_readSum : aMv mX12_readSum := ⟨gd_tbl (ch8 (List.mem_of_getElem? (i := 146) rfl)) rfl, gd_tbl (ch0 (List.mem_of_getElem? (i := 88) rfl)) rfl⟩
abbrev mX12_readOrder : MI := (yX12_readOrder, cX12_readOrder, 4, none)
theorem msX12_readOrder : aMs mX12_readOrder 0 := ⟨gd_tbl (ch8 (List.mem_of_getElem? (i := 143) rfl)) rfl, gd_tbl (ch1 (List.mem_of_getElem? (i := 13) rfl)) rfl, by decide +kernel, by decide⟩
theorem mvX12_readOrder : aMv mX12_readOrder := ⟨gd_tbl (ch8 (List.mem_of_getElem? (i := 142) rfl)) rfl, gd_tbl (ch0 (List.mem_of_getElem? (i := 87) rfl)) rfl⟩
abbrev mX12_sumOf : MI := (yX12_sumOf, cX12_sumOf, 2, some .int)
theorem msX12_sumOf : aMs mX12_sumOf 1 := ⟨gd_tbl (ch8 (List.mem_of_getElem? (i := 156) rfl)) rfl, gd_tbl (ch1 (List.mem_of_getElem? (i := 13) rfl)) rfl, by decide +kernel, by decide⟩
theorem mvX12_sumOf : aMv mX12_sumOf := ⟨gd_tbl (ch8 (List.mem_of_getElem? (i := 155) rfl)) rfl, gd_tbl (ch0 (List.mem_of_getElem? (i := 90) rfl)) rfl⟩
abbrev mX12_act : MI := (yX12_act, cX12_act, 4, some .int)
theorem msX12_act : aMs mX12_act 3 := ⟨gd_tbl (ch8 (List.mem_of_getElem? (i := 160) rfl)) rfl, gd_tbl (ch1 (List.mem_of_getElem? (i := 13) rfl)) rfl, by decide +kernel, by decide⟩
theorem mvX12_act : aMv mX12_act := ⟨gd_tbl (ch8 (List.mem_of_getElem? (i := 159) rfl)) rfl, gd_tbl (ch0 (List.mem_of_getElem? (i := 91) rfl)) rfl⟩
abbrev mX12_run : MI := (yX12_run, cX12_run, 5, some .int)
theorem msX12_run : aMs mX12_run 1 := ⟨gd_tbl (ch8 (List.mem_of_getElem? (i := 152) rfl)) rfl, gd_tbl (ch1 (List.mem_of_getElem? (i := 13) rfl)) rfl, by decide +kernel, by decide⟩
theorem mvX12_run : aMv mX12_run := ⟨gd_tbl (ch8 (List.mem_of_getElem? (i := 151) rfl)) rfl, gd_tbl (ch0 (List.mem_of_getElem? (i := 89) rfl)) rfl⟩
abbrev mX12_orders : MI := (yX12_orders, cX12_orders, 6, some .int)
theorem msX12_orders : aMs mX12_orders 0 := ⟨gd_tbl (ch8 (List.mem_of_getElem? (i := 139) rfl)) rfl, gd_tbl (ch1 (List.mem_of_getElem? (i := 13) rfl)) rfl, by decide +kernel, by decide⟩
theorem mvX12_orders : aMv mX12_orders := ⟨gd_tbl (ch8 (List.mem_of_getElem? (i := 137) rfl)) rfl, gd_tbl (ch8 (List.mem_of_getElem? (i := 138) rfl)) rfl⟩
abbrev mX12_giveBack : MI := (yX12_giveBack, cX12_giveBack, 3, none)
theorem msX12_giveBack : aMs mX12_giveBack 1 := ⟨gd_tbl (ch8 (List.mem_of_getElem? (i := 164) rfl)) rfl, gd_tbl (ch1 (List.mem_of_getElem? (i := 13) rfl)) rfl, by decide +kernel, by decide⟩
theorem mvX12_giveBack : aMv mX12_giveBack := ⟨gd_tbl (ch8 (List.mem_of_getElem? (i := 163) rfl)) rfl, gd_tbl (ch0 (List.mem_of_getElem? (i := 92) rfl)) rfl⟩
abbrev mX12_stopped : MI := (yX12_stopped, cX12_stopped, 1, some .int)
theorem msX12_stopped : aMs mX12_stopped 0 := ⟨gd_tbl (ch8 (List.mem_of_getElem? (i := 168) rfl)) rfl, gd_tbl (ch1 (List.mem_of_getElem? (i := 13) rfl)) rfl, by decide +kernel, by decide⟩
theorem mvX12_stopped : aMv mX12_stopped := ⟨gd_tbl (ch8 (List.mem_of_getElem? (i := 166) rfl)) rfl, gd_tbl (ch8 (List.mem_of_getElem? (i := 167) rfl)) rfl⟩
abbrev mX12_draw : MI := (yX12_draw, cX12_draw, 2, some .int)
theorem msX12_draw : aMs mX12_draw 1 := ⟨gd_tbl (ch8 (List.mem_of_getElem? (i := 176) rfl)) rfl, gd_tbl (ch1 (List.mem_of_getElem? (i := 13) rfl)) rfl, by decide +kernel, by decide⟩
theorem mvX12_draw : aMv mX12_draw := ⟨gd_tbl (ch8 (List.mem_of_getElem? (i := 175) rfl)) rfl, gd_tbl (ch0 (List.mem_of_getElem? (i := 93) rfl)) rfl⟩
abbrev mX12_centuries : MI := (yX12_centuries, cX12_centuries, 6, some .int)
theorem msX12_centuries : aMs mX12_centuries 2 := ⟨gd_tbl (ch8 (List.mem_of_getElem? (i := 172) rfl)) rfl, gd_tbl (ch1 (List.mem_of_getElem? (i := 13) rfl)) rfl, by decide +kernel, by decide⟩
theorem mvX12_centuries : aMv mX12_centuries := ⟨gd_tbl (ch8 (List.mem_of_getElem? (i := 170) rfl)) rfl, gd_tbl (ch8 (List.mem_of_getElem? (i := 171) rfl)) rfl⟩
abbrev mX12_drawn : MI := (yX12_drawn, cX12_drawn, 3, some .int)
theorem msX12_drawn : aMs mX12_drawn 2 := ⟨gd_tbl (ch8 (List.mem_of_getElem? (i := 183) rfl)) rfl, gd_tbl (ch1 (List.mem_of_getElem? (i := 13) rfl)) rfl, by decide +kernel, by decide⟩
theorem mvX12_drawn : aMv mX12_drawn := ⟨gd_tbl (ch8 (List.mem_of_getElem? (i := 181) rfl)) rfl, gd_tbl (ch8 (List.mem_of_getElem? (i := 182) rfl)) rfl⟩
abbrev mX12_cellsOf : MI := (yX12_cellsOf, cX12_cellsOf, 4, some .int)
theorem msX12_cellsOf : aMs mX12_cellsOf 1 := ⟨gd_tbl (ch8 (List.mem_of_getElem? (i := 191) rfl)) rfl, gd_tbl (ch1 (List.mem_of_getElem? (i := 13) rfl)) rfl, by decide +kernel, by decide⟩
theorem mvX12_cellsOf : aMv mX12_cellsOf := ⟨gd_tbl (ch8 (List.mem_of_getElem? (i := 190) rfl)) rfl, gd_tbl (ch0 (List.mem_of_getElem? (i := 94) rfl)) rfl⟩
abbrev mX12_count : MI := (yX12_count, cX12_count, 2, some .int)
theorem msX12_count : aMs mX12_count 1 := ⟨gd_tbl (ch8 (List.mem_of_getElem? (i := 187) rfl)) rfl, gd_tbl (ch1 (List.mem_of_getElem? (i := 13) rfl)) rfl, by decide +kernel, by decide⟩
theorem mvX12_count : aMv mX12_count := ⟨gd_tbl (ch8 (List.mem_of_getElem? (i := 185) rfl)) rfl, gd_tbl (ch8 (List.mem_of_getElem? (i := 186) rfl)) rfl⟩
abbrev mX12_status : MI := (yX12_status, cX12_status, 1, some .int)
theorem msX12_status : aMs mX12_status 0 := ⟨gd_tbl (ch8 (List.mem_of_getElem? (i := 197) rfl)) rfl, gd_tbl (ch1 (List.mem_of_getElem? (i := 13) rfl)) rfl, by decide +kernel, by decide⟩
theorem mvX12_status : aMv mX12_status := ⟨gd_tbl (ch8 (List.mem_of_getElem? (i := 195) rfl)) rfl, gd_tbl (ch8 (List.mem_of_getElem? (i := 196) rfl)) rfl⟩
abbrev mJ11_isValidCodePoint_9a6ad : MI := (yJ11_isValidCodePoint_9a6ad, cJ11_isValidCodePoint_9a6ad, 2, some .boolean)
theorem msJ11_isValidCodePoint_9a6ad : aMs mJ11_isValidCodePoint_9a6ad 1 := ⟨gd_tbl (ch4 (List.mem_of_getElem? (i := 43) rfl)) rfl, gd_tbl (ch1 (List.mem_of_getElem? (i := 19) rfl)) rfl, by decide +kernel, by decide⟩
theorem stJ11_isValidCodePoint_9a6ad : Cond.static yJ11_isValidCodePoint_9a6ad ∈ lw_gd := gd_tbl (ch4 (List.mem_of_getElem? (i := 42) rfl)) rfl
abbrev mJ11_highSurrogate_5068e : MI := (yJ11_highSurrogate_5068e, cJ11_highSurrogate_5068e, 1, some .char)
theorem msJ11_highSurrogate_5068e : aMs mJ11_highSurrogate_5068e 1 := ⟨gd_tbl (ch4 (List.mem_of_getElem? (i := 46) rfl)) rfl, gd_tbl (ch1 (List.mem_of_getElem? (i := 19) rfl)) rfl, by decide +kernel, by decide⟩
theorem stJ11_highSurrogate_5068e : Cond.static yJ11_highSurrogate_5068e ∈ lw_gd := gd_tbl (ch4 (List.mem_of_getElem? (i := 45) rfl)) rfl
abbrev mJ11_lowSurrogate_5068e : MI := (yJ11_lowSurrogate_5068e, cJ11_lowSurrogate_5068e, 1, some .char)
theorem msJ11_lowSurrogate_5068e : aMs mJ11_lowSurrogate_5068e 1 := ⟨gd_tbl (ch4 (List.mem_of_getElem? (i := 50) rfl)) rfl, gd_tbl (ch1 (List.mem_of_getElem? (i := 19) rfl)) rfl, by decide +kernel, by decide⟩
theorem stJ11_lowSurrogate_5068e : Cond.static yJ11_lowSurrogate_5068e ∈ lw_gd := gd_tbl (ch4 (List.mem_of_getElem? (i := 49) rfl)) rfl
abbrev mJ9_floorMod_7cf53 : MI := (yJ9_floorMod_7cf53, cJ9_floorMod_7cf53, 3, some .int)
theorem msJ9_floorMod_7cf53 : aMs mJ9_floorMod_7cf53 2 := ⟨gd_tbl (ch5 (List.mem_of_getElem? (i := 53) rfl)) rfl, gd_tbl (ch1 (List.mem_of_getElem? (i := 14) rfl)) rfl, by decide +kernel, by decide⟩
theorem stJ9_floorMod_7cf53 : Cond.static yJ9_floorMod_7cf53 ∈ lw_gd := gd_tbl (ch5 (List.mem_of_getElem? (i := 52) rfl)) rfl
abbrev mJ9_max_7cf53 : MI := (yJ9_max_7cf53, cJ9_max_7cf53, 2, some .int)
theorem msJ9_max_7cf53 : aMs mJ9_max_7cf53 2 := ⟨gd_tbl (ch3 (List.mem_of_getElem? (i := 52) rfl)) rfl, gd_tbl (ch1 (List.mem_of_getElem? (i := 14) rfl)) rfl, by decide +kernel, by decide⟩
theorem stJ9_max_7cf53 : Cond.static yJ9_max_7cf53 ∈ lw_gd := gd_tbl (ch3 (List.mem_of_getElem? (i := 51) rfl)) rfl
abbrev mJ9_min_7cf53 : MI := (yJ9_min_7cf53, cJ9_min_7cf53, 2, some .int)
theorem msJ9_min_7cf53 : aMs mJ9_min_7cf53 2 := ⟨gd_tbl (ch3 (List.mem_of_getElem? (i := 36) rfl)) rfl, gd_tbl (ch1 (List.mem_of_getElem? (i := 14) rfl)) rfl, by decide +kernel, by decide⟩
theorem stJ9_min_7cf53 : Cond.static yJ9_min_7cf53 ∈ lw_gd := gd_tbl (ch3 (List.mem_of_getElem? (i := 35) rfl)) rfl
abbrev mJ0_length_8abf5 : MI := (yJ0_length_8abf5, cJ0_length_8abf5, 1, some .int)
theorem msJ0_length_8abf5 : aMs mJ0_length_8abf5 0 := ⟨gd_tbl (ch3 (List.mem_of_getElem? (i := 153) rfl)) rfl, gd_tbl (ch1 (List.mem_of_getElem? (i := 15) rfl)) rfl, by decide +kernel, by decide⟩
theorem mvJ0_length_8abf5 : aMv mJ0_length_8abf5 := ⟨gd_tbl (ch3 (List.mem_of_getElem? (i := 151) rfl)) rfl, gd_tbl (ch3 (List.mem_of_getElem? (i := 152) rfl)) rfl⟩
abbrev mJ0_charAt_5068e : MI := (yJ0_charAt_5068e, cJ0_charAt_5068e, 2, some .char)
theorem msJ0_charAt_5068e : aMs mJ0_charAt_5068e 1 := ⟨gd_tbl (ch3 (List.mem_of_getElem? (i := 163) rfl)) rfl, gd_tbl (ch1 (List.mem_of_getElem? (i := 15) rfl)) rfl, by decide +kernel, by decide⟩
theorem mvJ0_charAt_5068e : aMv mJ0_charAt_5068e := ⟨gd_tbl (ch3 (List.mem_of_getElem? (i := 161) rfl)) rfl, gd_tbl (ch3 (List.mem_of_getElem? (i := 162) rfl)) rfl⟩
abbrev mJ0_indexOf_0f7a4 : MI := (yJ0_indexOf_0f7a4, cJ0_indexOf_0f7a4, 2, some .int)
theorem msJ0_indexOf_0f7a4 : aMs mJ0_indexOf_0f7a4 1 := ⟨gd_tbl (ch4 (List.mem_of_getElem? (i := 0) rfl)) rfl, gd_tbl (ch1 (List.mem_of_getElem? (i := 15) rfl)) rfl, by decide +kernel, by decide⟩
theorem mvJ0_indexOf_0f7a4 : aMv mJ0_indexOf_0f7a4 := ⟨gd_tbl (ch3 (List.mem_of_getElem? (i := 238) rfl)) rfl, gd_tbl (ch3 (List.mem_of_getElem? (i := 239) rfl)) rfl⟩
abbrev mJ0_indexOf_7cf53 : MI := (yJ0_indexOf_7cf53, cJ0_indexOf_7cf53, 3, some .int)
theorem msJ0_indexOf_7cf53 : aMs mJ0_indexOf_7cf53 2 := ⟨gd_tbl (ch4 (List.mem_of_getElem? (i := 4) rfl)) rfl, gd_tbl (ch1 (List.mem_of_getElem? (i := 15) rfl)) rfl, by decide +kernel, by decide⟩
theorem mvJ0_indexOf_7cf53 : aMv mJ0_indexOf_7cf53 := ⟨gd_tbl (ch4 (List.mem_of_getElem? (i := 2) rfl)) rfl, gd_tbl (ch4 (List.mem_of_getElem? (i := 3) rfl)) rfl⟩
abbrev mJ0_coder_7d493 : MI := (yJ0_coder_7d493, cJ0_coder_7d493, 1, some .byte)
theorem msJ0_coder_7d493 : aMs mJ0_coder_7d493 0 := ⟨gd_tbl (ch3 (List.mem_of_getElem? (i := 157) rfl)) rfl, gd_tbl (ch1 (List.mem_of_getElem? (i := 15) rfl)) rfl, by decide +kernel, by decide⟩
theorem mvJ0_coder_7d493 : aMv mJ0_coder_7d493 := ⟨gd_tbl (ch3 (List.mem_of_getElem? (i := 155) rfl)) rfl, gd_tbl (ch3 (List.mem_of_getElem? (i := 156) rfl)) rfl⟩
abbrev mJ0_isLatin1_aae02 : MI := (yJ0_isLatin1_aae02, cJ0_isLatin1_aae02, 1, some .boolean)
theorem msJ0_isLatin1_aae02 : aMs mJ0_isLatin1_aae02 0 := ⟨gd_tbl (ch3 (List.mem_of_getElem? (i := 167) rfl)) rfl, gd_tbl (ch1 (List.mem_of_getElem? (i := 15) rfl)) rfl, by decide +kernel, by decide⟩
theorem mvJ0_isLatin1_aae02 : aMv mJ0_isLatin1_aae02 := ⟨gd_tbl (ch3 (List.mem_of_getElem? (i := 165) rfl)) rfl, gd_tbl (ch3 (List.mem_of_getElem? (i := 166) rfl)) rfl⟩
abbrev mJ0_checkIndex_df160 : MI := (yJ0_checkIndex_df160, cJ0_checkIndex_df160, 2, none)
theorem msJ0_checkIndex_df160 : aMs mJ0_checkIndex_df160 2 := ⟨gd_tbl (ch3 (List.mem_of_getElem? (i := 173) rfl)) rfl, gd_tbl (ch1 (List.mem_of_getElem? (i := 15) rfl)) rfl, by decide +kernel, by decide⟩
theorem stJ0_checkIndex_df160 : Cond.static yJ0_checkIndex_df160 ∈ lw_gd := gd_tbl (ch3 (List.mem_of_getElem? (i := 172) rfl)) rfl
abbrev mJ0_checkBoundsBeginEnd_23922 : MI := (yJ0_checkBoundsBeginEnd_23922, cJ0_checkBoundsBeginEnd_23922, 3, none)
theorem msJ0_checkBoundsBeginEnd_23922 : aMs mJ0_checkBoundsBeginEnd_23922 3 := ⟨gd_tbl (ch4 (List.mem_of_getElem? (i := 31) rfl)) rfl, gd_tbl (ch1 (List.mem_of_getElem? (i := 15) rfl)) rfl, by decide +kernel, by decide⟩
theorem stJ0_checkBoundsBeginEnd_23922 : Cond.static yJ0_checkBoundsBeginEnd_23922 ∈ lw_gd := gd_tbl (ch4 (List.mem_of_getElem? (i := 30) rfl)) rfl
abbrev mJ1_charAt_3b067 : MI := (yJ1_charAt_3b067, cJ1_charAt_3b067, 2, some .char)
theorem msJ1_charAt_3b067 : aMs mJ1_charAt_3b067 2 := ⟨gd_tbl (ch3 (List.mem_of_getElem? (i := 170) rfl)) rfl, gd_tbl (ch1 (List.mem_of_getElem? (i := 16) rfl)) rfl, by decide +kernel, by decide⟩
theorem stJ1_charAt_3b067 : Cond.static yJ1_charAt_3b067 ∈ lw_gd := gd_tbl (ch3 (List.mem_of_getElem? (i := 169) rfl)) rfl
abbrev mJ1_canEncode_9a6ad : MI := (yJ1_canEncode_9a6ad, cJ1_canEncode_9a6ad, 1, some .boolean)
theorem msJ1_canEncode_9a6ad : aMs mJ1_canEncode_9a6ad 1 := ⟨gd_tbl (ch4 (List.mem_of_getElem? (i := 11) rfl)) rfl, gd_tbl (ch1 (List.mem_of_getElem? (i := 16) rfl)) rfl, by decide +kernel, by decide⟩
theorem stJ1_canEncode_9a6ad : Cond.static yJ1_canEncode_9a6ad ∈ lw_gd := gd_tbl (ch4 (List.mem_of_getElem? (i := 10) rfl)) rfl
abbrev mJ1_indexOf_4cfef : MI := (yJ1_indexOf_4cfef, cJ1_indexOf_4cfef, 4, some .int)
theorem msJ1_indexOf_4cfef : aMs mJ1_indexOf_4cfef 4 := ⟨gd_tbl (ch4 (List.mem_of_getElem? (i := 8) rfl)) rfl, gd_tbl (ch1 (List.mem_of_getElem? (i := 16) rfl)) rfl, by decide +kernel, by decide⟩
theorem stJ1_indexOf_4cfef : Cond.static yJ1_indexOf_4cfef ∈ lw_gd := gd_tbl (ch4 (List.mem_of_getElem? (i := 7) rfl)) rfl
abbrev mJ1_indexOfChar_4cfef : MI := (yJ1_indexOfChar_4cfef, cJ1_indexOfChar_4cfef, 6, some .int)
theorem msJ1_indexOfChar_4cfef : aMs mJ1_indexOfChar_4cfef 4 := ⟨gd_tbl (ch4 (List.mem_of_getElem? (i := 16) rfl)) rfl, gd_tbl (ch1 (List.mem_of_getElem? (i := 16) rfl)) rfl, by decide +kernel, by decide⟩
theorem stJ1_indexOfChar_4cfef : Cond.static yJ1_indexOfChar_4cfef ∈ lw_gd := gd_tbl (ch4 (List.mem_of_getElem? (i := 15) rfl)) rfl
abbrev mJ2_getChar_3b067 : MI := (yJ2_getChar_3b067, cJ2_getChar_3b067, 2, some .char)
theorem msJ2_getChar_3b067 : aMs mJ2_getChar_3b067 2 := ⟨gd_tbl (ch3 (List.mem_of_getElem? (i := 191) rfl)) rfl, gd_tbl (ch1 (List.mem_of_getElem? (i := 18) rfl)) rfl, by decide +kernel, by decide⟩
theorem stJ2_getChar_3b067 : Cond.static yJ2_getChar_3b067 ∈ lw_gd := gd_tbl (ch3 (List.mem_of_getElem? (i := 190) rfl)) rfl
abbrev mJ2_length_9d52b : MI := (yJ2_length_9d52b, cJ2_length_9d52b, 1, some .int)
theorem msJ2_length_9d52b : aMs mJ2_length_9d52b 1 := ⟨gd_tbl (ch3 (List.mem_of_getElem? (i := 187) rfl)) rfl, gd_tbl (ch1 (List.mem_of_getElem? (i := 18) rfl)) rfl, by decide +kernel, by decide⟩
theorem stJ2_length_9d52b : Cond.static yJ2_length_9d52b ∈ lw_gd := gd_tbl (ch3 (List.mem_of_getElem? (i := 186) rfl)) rfl
abbrev mJ2_indexOf_4cfef : MI := (yJ2_indexOf_4cfef, cJ2_indexOf_4cfef, 4, some .int)
theorem msJ2_indexOf_4cfef : aMs mJ2_indexOf_4cfef 4 := ⟨gd_tbl (ch4 (List.mem_of_getElem? (i := 19) rfl)) rfl, gd_tbl (ch1 (List.mem_of_getElem? (i := 18) rfl)) rfl, by decide +kernel, by decide⟩
theorem stJ2_indexOf_4cfef : Cond.static yJ2_indexOf_4cfef ∈ lw_gd := gd_tbl (ch4 (List.mem_of_getElem? (i := 18) rfl)) rfl
abbrev mJ2_indexOfChar_4cfef : MI := (yJ2_indexOfChar_4cfef, cJ2_indexOfChar_4cfef, 4, some .int)
theorem msJ2_indexOfChar_4cfef : aMs mJ2_indexOfChar_4cfef 4 := ⟨gd_tbl (ch4 (List.mem_of_getElem? (i := 25) rfl)) rfl, gd_tbl (ch1 (List.mem_of_getElem? (i := 18) rfl)) rfl, by decide +kernel, by decide⟩
theorem stJ2_indexOfChar_4cfef : Cond.static yJ2_indexOfChar_4cfef ∈ lw_gd := gd_tbl (ch4 (List.mem_of_getElem? (i := 24) rfl)) rfl
abbrev mJ2_indexOfCharUnsafe_4cfef : MI := (yJ2_indexOfCharUnsafe_4cfef, cJ2_indexOfCharUnsafe_4cfef, 5, some .int)
theorem msJ2_indexOfCharUnsafe_4cfef : aMs mJ2_indexOfCharUnsafe_4cfef 4 := ⟨gd_tbl (ch4 (List.mem_of_getElem? (i := 37) rfl)) rfl, gd_tbl (ch1 (List.mem_of_getElem? (i := 18) rfl)) rfl, by decide +kernel, by decide⟩
theorem stJ2_indexOfCharUnsafe_4cfef : Cond.static yJ2_indexOfCharUnsafe_4cfef ∈ lw_gd := gd_tbl (ch4 (List.mem_of_getElem? (i := 36) rfl)) rfl
abbrev mJ2_indexOfSupplementary_4cfef : MI := (yJ2_indexOfSupplementary_4cfef, cJ2_indexOfSupplementary_4cfef, 7, some .int)
theorem msJ2_indexOfSupplementary_4cfef : aMs mJ2_indexOfSupplementary_4cfef 4 := ⟨gd_tbl (ch4 (List.mem_of_getElem? (i := 40) rfl)) rfl, gd_tbl (ch1 (List.mem_of_getElem? (i := 18) rfl)) rfl, by decide +kernel, by decide⟩
theorem stJ2_indexOfSupplementary_4cfef : Cond.static yJ2_indexOfSupplementary_4cfef ∈ lw_gd := gd_tbl (ch4 (List.mem_of_getElem? (i := 39) rfl)) rfl
abbrev mJ2_charAt_3b067 : MI := (yJ2_charAt_3b067, cJ2_charAt_3b067, 2, some .char)
theorem msJ2_charAt_3b067 : aMs mJ2_charAt_3b067 2 := ⟨gd_tbl (ch3 (List.mem_of_getElem? (i := 181) rfl)) rfl, gd_tbl (ch1 (List.mem_of_getElem? (i := 18) rfl)) rfl, by decide +kernel, by decide⟩
theorem stJ2_charAt_3b067 : Cond.static yJ2_charAt_3b067 ∈ lw_gd := gd_tbl (ch3 (List.mem_of_getElem? (i := 180) rfl)) rfl
abbrev mJ2_checkIndex_2214a : MI := (yJ2_checkIndex_2214a, cJ2_checkIndex_2214a, 2, none)
theorem msJ2_checkIndex_2214a : aMs mJ2_checkIndex_2214a 2 := ⟨gd_tbl (ch3 (List.mem_of_getElem? (i := 184) rfl)) rfl, gd_tbl (ch1 (List.mem_of_getElem? (i := 18) rfl)) rfl, by decide +kernel, by decide⟩
theorem stJ2_checkIndex_2214a : Cond.static yJ2_checkIndex_2214a ∈ lw_gd := gd_tbl (ch3 (List.mem_of_getElem? (i := 183) rfl)) rfl
abbrev mJ2_checkBoundsBeginEnd_d044e : MI := (yJ2_checkBoundsBeginEnd_d044e, cJ2_checkBoundsBeginEnd_d044e, 3, none)
theorem msJ2_checkBoundsBeginEnd_d044e : aMs mJ2_checkBoundsBeginEnd_d044e 3 := ⟨gd_tbl (ch4 (List.mem_of_getElem? (i := 28) rfl)) rfl, gd_tbl (ch1 (List.mem_of_getElem? (i := 18) rfl)) rfl, by decide +kernel, by decide⟩
theorem stJ2_checkBoundsBeginEnd_d044e : Cond.static yJ2_checkBoundsBeginEnd_d044e ∈ lw_gd := gd_tbl (ch4 (List.mem_of_getElem? (i := 27) rfl)) rfl
abbrev mJ3_checkIndex_8e157 : MI := (yJ3_checkIndex_8e157, cJ3_checkIndex_8e157, 3, some .int)
theorem msJ3_checkIndex_8e157 : aMs mJ3_checkIndex_8e157 3 := ⟨gd_tbl (ch3 (List.mem_of_getElem? (i := 178) rfl)) rfl, gd_tbl (ch1 (List.mem_of_getElem? (i := 17) rfl)) rfl, by decide +kernel, by decide⟩
theorem stJ3_checkIndex_8e157 : Cond.static yJ3_checkIndex_8e157 ∈ lw_gd := gd_tbl (ch3 (List.mem_of_getElem? (i := 177) rfl)) rfl
abbrev mJ3_checkFromToIndex_8c36e : MI := (yJ3_checkFromToIndex_8c36e, cJ3_checkFromToIndex_8c36e, 4, some .int)
theorem msJ3_checkFromToIndex_8c36e : aMs mJ3_checkFromToIndex_8c36e 4 := ⟨gd_tbl (ch4 (List.mem_of_getElem? (i := 34) rfl)) rfl, gd_tbl (ch1 (List.mem_of_getElem? (i := 17) rfl)) rfl, by decide +kernel, by decide⟩
theorem stJ3_checkFromToIndex_8c36e : Cond.static yJ3_checkFromToIndex_8c36e ∈ lw_gd := gd_tbl (ch4 (List.mem_of_getElem? (i := 33) rfl)) rfl
theorem lkL_9 : aLk RL 9 yX11_init := Or.inl (gd_tbl (ch1 (List.mem_of_getElem? (i := 23) rfl)) rfl)
theorem lkX11_13 : aLk RX11 13 yX8_init := Or.inr ⟨"YardYear", ch1 (List.mem_of_getElem? (i := 31) rfl)⟩
theorem lkX8_11 : aLk RX8 11 yX10_init := Or.inl (gd_tbl (ch1 (List.mem_of_getElem? (i := 37) rfl)) rfl)
theorem flX10_9 : aFl RX10 9 10 13 0 := ⟨RX10, TX10, ck10, by decide, Or.inl (gd_tbl (ch1 (List.mem_of_getElem? (i := 41) rfl)) rfl)⟩
theorem flX8_61 : aFl RX8 61 10 13 0 := ⟨RX10, TX10, ck10, by decide, Or.inr ⟨"YardYear", ch1 (List.mem_of_getElem? (i := 42) rfl)⟩⟩
theorem flX5_74 : aFl RX5 74 10 13 0 := ⟨RX10, TX10, ck10, by decide, Or.inr ⟨"YardYear", ch1 (List.mem_of_getElem? (i := 43) rfl)⟩⟩
theorem flX10_15 : aFl RX10 15 10 13 1 := ⟨RX10, TX10, ck10, by decide, Or.inl (gd_tbl (ch1 (List.mem_of_getElem? (i := 44) rfl)) rfl)⟩
theorem flX8_67 : aFl RX8 67 10 13 1 := ⟨RX10, TX10, ck10, by decide, Or.inr ⟨"YardYear", ch1 (List.mem_of_getElem? (i := 45) rfl)⟩⟩
theorem flX5_60 : aFl RX5 60 10 13 1 := ⟨RX10, TX10, ck10, by decide, Or.inr ⟨"YardYear", ch1 (List.mem_of_getElem? (i := 46) rfl)⟩⟩
theorem flX10_18 : aFl RX10 18 10 13 2 := ⟨RX10, TX10, ck10, by decide, Or.inl (gd_tbl (ch1 (List.mem_of_getElem? (i := 47) rfl)) rfl)⟩
theorem flX8_64 : aFl RX8 64 10 13 2 := ⟨RX10, TX10, ck10, by decide, Or.inr ⟨"YardYear", ch1 (List.mem_of_getElem? (i := 48) rfl)⟩⟩
theorem flX5_57 : aFl RX5 57 10 13 2 := ⟨RX10, TX10, ck10, by decide, Or.inr ⟨"YardYear", ch1 (List.mem_of_getElem? (i := 49) rfl)⟩⟩
theorem flX10_21 : aFl RX10 21 10 13 3 := ⟨RX10, TX10, ck10, by decide, Or.inl (gd_tbl (ch1 (List.mem_of_getElem? (i := 50) rfl)) rfl)⟩
theorem flX5_46 : aFl RX5 46 10 13 3 := ⟨RX10, TX10, ck10, by decide, Or.inr ⟨"YardYear", ch1 (List.mem_of_getElem? (i := 51) rfl)⟩⟩
theorem flX8_73 : aFl RX8 73 10 13 3 := ⟨RX10, TX10, ck10, by decide, Or.inr ⟨"YardYear", ch1 (List.mem_of_getElem? (i := 52) rfl)⟩⟩
theorem flX11_125 : aFl RX11 125 10 13 3 := ⟨RX10, TX10, ck10, by decide, Or.inr ⟨"YardYear", ch1 (List.mem_of_getElem? (i := 53) rfl)⟩⟩
theorem flX10_24 : aFl RX10 24 10 13 4 := ⟨RX10, TX10, ck10, by decide, Or.inl (gd_tbl (ch1 (List.mem_of_getElem? (i := 54) rfl)) rfl)⟩
theorem flX11_128 : aFl RX11 128 10 13 4 := ⟨RX10, TX10, ck10, by decide, Or.inr ⟨"YardYear", ch1 (List.mem_of_getElem? (i := 55) rfl)⟩⟩
theorem flX10_27 : aFl RX10 27 10 13 5 := ⟨RX10, TX10, ck10, by decide, Or.inl (gd_tbl (ch1 (List.mem_of_getElem? (i := 56) rfl)) rfl)⟩
theorem flX11_131 : aFl RX11 131 10 13 5 := ⟨RX10, TX10, ck10, by decide, Or.inr ⟨"YardYear", ch1 (List.mem_of_getElem? (i := 57) rfl)⟩⟩
theorem flX10_30 : aFl RX10 30 10 13 6 := ⟨RX10, TX10, ck10, by decide, Or.inl (gd_tbl (ch1 (List.mem_of_getElem? (i := 58) rfl)) rfl)⟩
theorem flX11_134 : aFl RX11 134 10 13 6 := ⟨RX10, TX10, ck10, by decide, Or.inr ⟨"YardYear", ch1 (List.mem_of_getElem? (i := 59) rfl)⟩⟩
theorem flX10_33 : aFl RX10 33 10 13 7 := ⟨RX10, TX10, ck10, by decide, Or.inl (gd_tbl (ch1 (List.mem_of_getElem? (i := 60) rfl)) rfl)⟩
theorem flX4_34 : aFl RX4 34 10 13 7 := ⟨RX10, TX10, ck10, by decide, Or.inr ⟨"YardYear", ch1 (List.mem_of_getElem? (i := 61) rfl)⟩⟩
theorem flX0_30 : aFl RX0 30 10 13 7 := ⟨RX10, TX10, ck10, by decide, Or.inr ⟨"YardYear", ch1 (List.mem_of_getElem? (i := 62) rfl)⟩⟩
theorem flX8_80 : aFl RX8 80 10 13 7 := ⟨RX10, TX10, ck10, by decide, Or.inr ⟨"YardYear", ch1 (List.mem_of_getElem? (i := 63) rfl)⟩⟩
theorem flX11_155 : aFl RX11 155 10 13 7 := ⟨RX10, TX10, ck10, by decide, Or.inr ⟨"YardYear", ch1 (List.mem_of_getElem? (i := 64) rfl)⟩⟩
theorem flX5_139 : aFl RX5 139 10 13 7 := ⟨RX10, TX10, ck10, by decide, Or.inr ⟨"YardYear", ch1 (List.mem_of_getElem? (i := 65) rfl)⟩⟩
theorem flX10_36 : aFl RX10 36 10 13 8 := ⟨RX10, TX10, ck10, by decide, Or.inl (gd_tbl (ch1 (List.mem_of_getElem? (i := 66) rfl)) rfl)⟩
theorem flX5_36 : aFl RX5 36 10 13 9 := ⟨RX10, TX10, ck10, by decide, Or.inr ⟨"YardYear", ch1 (List.mem_of_getElem? (i := 67) rfl)⟩⟩
theorem flX0_22 : aFl RX0 22 10 13 9 := ⟨RX10, TX10, ck10, by decide, Or.inr ⟨"YardYear", ch1 (List.mem_of_getElem? (i := 68) rfl)⟩⟩
theorem flX10_69 : aFl RX10 69 10 13 9 := ⟨RX10, TX10, ck10, by decide, Or.inl (gd_tbl (ch1 (List.mem_of_getElem? (i := 69) rfl)) rfl)⟩
theorem flX11_223 : aFl RX11 223 10 13 9 := ⟨RX10, TX10, ck10, by decide, Or.inr ⟨"YardYear", ch1 (List.mem_of_getElem? (i := 70) rfl)⟩⟩
theorem flX4_21 : aFl RX4 21 10 13 10 := ⟨RX10, TX10, ck10, by decide, Or.inr ⟨"YardYear", ch1 (List.mem_of_getElem? (i := 71) rfl)⟩⟩
theorem flX8_50 : aFl RX8 50 10 13 10 := ⟨RX10, TX10, ck10, by decide, Or.inr ⟨"YardYear", ch1 (List.mem_of_getElem? (i := 72) rfl)⟩⟩
theorem flX10_45 : aFl RX10 45 10 13 10 := ⟨RX10, TX10, ck10, by decide, Or.inl (gd_tbl (ch1 (List.mem_of_getElem? (i := 73) rfl)) rfl)⟩
theorem flX0_52 : aFl RX0 52 10 13 10 := ⟨RX10, TX10, ck10, by decide, Or.inr ⟨"YardYear", ch1 (List.mem_of_getElem? (i := 74) rfl)⟩⟩
theorem flX5_77 : aFl RX5 77 10 13 10 := ⟨RX10, TX10, ck10, by decide, Or.inr ⟨"YardYear", ch1 (List.mem_of_getElem? (i := 75) rfl)⟩⟩
theorem flX11_300 : aFl RX11 300 10 13 10 := ⟨RX10, TX10, ck10, by decide, Or.inr ⟨"YardYear", ch1 (List.mem_of_getElem? (i := 76) rfl)⟩⟩
theorem flX8_92 : aFl RX8 92 10 13 11 := ⟨RX10, TX10, ck10, by decide, Or.inr ⟨"YardYear", ch1 (List.mem_of_getElem? (i := 77) rfl)⟩⟩
theorem flX5_134 : aFl RX5 134 10 13 11 := ⟨RX10, TX10, ck10, by decide, Or.inr ⟨"YardYear", ch1 (List.mem_of_getElem? (i := 78) rfl)⟩⟩
theorem flX10_108 : aFl RX10 108 10 13 11 := ⟨RX10, TX10, ck10, by decide, Or.inl (gd_tbl (ch1 (List.mem_of_getElem? (i := 79) rfl)) rfl)⟩
theorem flX8_86 : aFl RX8 86 10 13 12 := ⟨RX10, TX10, ck10, by decide, Or.inr ⟨"YardYear", ch1 (List.mem_of_getElem? (i := 80) rfl)⟩⟩
theorem flX10_111 : aFl RX10 111 10 13 12 := ⟨RX10, TX10, ck10, by decide, Or.inl (gd_tbl (ch1 (List.mem_of_getElem? (i := 81) rfl)) rfl)⟩
theorem lkX8_20 : aLk RX8 20 yX6_init := Or.inl (gd_tbl (ch1 (List.mem_of_getElem? (i := 112) rfl)) rfl)
theorem lkX6_21 : aLk RX6 21 yX10_init := Or.inl (gd_tbl (ch1 (List.mem_of_getElem? (i := 118) rfl)) rfl)
theorem flX6_11 : aFl RX6 11 6 3 0 := ⟨RX6, TX6, ck6, by decide, Or.inl (gd_tbl (ch1 (List.mem_of_getElem? (i := 119) rfl)) rfl)⟩
theorem flX6_17 : aFl RX6 17 6 3 1 := ⟨RX6, TX6, ck6, by decide, Or.inl (gd_tbl (ch1 (List.mem_of_getElem? (i := 120) rfl)) rfl)⟩
theorem flX6_22 : aFl RX6 22 6 3 2 := ⟨RX6, TX6, ck6, by decide, Or.inl (gd_tbl (ch1 (List.mem_of_getElem? (i := 121) rfl)) rfl)⟩
theorem flX11_107 : aFl RX11 107 6 3 2 := ⟨RX6, TX6, ck6, by decide, Or.inr ⟨"YardYear", ch1 (List.mem_of_getElem? (i := 122) rfl)⟩⟩
theorem flX8_12 : aFl RX8 12 8 10 0 := ⟨RX8, TX8, ck8, by decide, Or.inl (gd_tbl (ch1 (List.mem_of_getElem? (i := 130) rfl)) rfl)⟩
theorem flX11_18 : aFl RX11 18 8 10 0 := ⟨RX8, TX8, ck8, by decide, Or.inr ⟨"YardYear", ch1 (List.mem_of_getElem? (i := 131) rfl)⟩⟩
theorem flX8_21 : aFl RX8 21 8 10 1 := ⟨RX8, TX8, ck8, by decide, Or.inl (gd_tbl (ch1 (List.mem_of_getElem? (i := 132) rfl)) rfl)⟩
theorem flX11_23 : aFl RX11 23 8 10 1 := ⟨RX8, TX8, ck8, by decide, Or.inr ⟨"YardYear", ch1 (List.mem_of_getElem? (i := 133) rfl)⟩⟩
theorem flX8_25 : aFl RX8 25 8 10 2 := ⟨RX8, TX8, ck8, by decide, Or.inl (gd_tbl (ch1 (List.mem_of_getElem? (i := 134) rfl)) rfl)⟩
theorem flX8_28 : aFl RX8 28 8 10 3 := ⟨RX8, TX8, ck8, by decide, Or.inl (gd_tbl (ch1 (List.mem_of_getElem? (i := 135) rfl)) rfl)⟩
theorem flX8_31 : aFl RX8 31 8 10 4 := ⟨RX8, TX8, ck8, by decide, Or.inl (gd_tbl (ch1 (List.mem_of_getElem? (i := 136) rfl)) rfl)⟩
theorem flX8_105 : aFl RX8 105 8 10 5 := ⟨RX8, TX8, ck8, by decide, Or.inl (gd_tbl (ch1 (List.mem_of_getElem? (i := 137) rfl)) rfl)⟩
theorem flX8_89 : aFl RX8 89 8 10 6 := ⟨RX8, TX8, ck8, by decide, Or.inl (gd_tbl (ch1 (List.mem_of_getElem? (i := 138) rfl)) rfl)⟩
theorem flX11_246 : aFl RX11 246 8 10 6 := ⟨RX8, TX8, ck8, by decide, Or.inr ⟨"YardYear", ch1 (List.mem_of_getElem? (i := 139) rfl)⟩⟩
theorem flX8_95 : aFl RX8 95 8 10 7 := ⟨RX8, TX8, ck8, by decide, Or.inl (gd_tbl (ch1 (List.mem_of_getElem? (i := 140) rfl)) rfl)⟩
theorem flX8_108 : aFl RX8 108 8 10 8 := ⟨RX8, TX8, ck8, by decide, Or.inl (gd_tbl (ch1 (List.mem_of_getElem? (i := 141) rfl)) rfl)⟩
theorem flX11_210 : aFl RX11 210 8 10 8 := ⟨RX8, TX8, ck8, by decide, Or.inr ⟨"YardYear", ch1 (List.mem_of_getElem? (i := 142) rfl)⟩⟩
theorem flX8_35 : aFl RX8 35 8 10 9 := ⟨RX8, TX8, ck8, by decide, Or.inl (gd_tbl (ch1 (List.mem_of_getElem? (i := 143) rfl)) rfl)⟩
theorem flX11_189 : aFl RX11 189 8 10 9 := ⟨RX8, TX8, ck8, by decide, Or.inr ⟨"YardYear", ch1 (List.mem_of_getElem? (i := 144) rfl)⟩⟩
theorem lkX11_30 : aLk RX11 30 yX1_init := Or.inr ⟨"YardYear", ch1 (List.mem_of_getElem? (i := 168) rfl)⟩
theorem flX1_21 : aFl RX1 21 1 4 0 := ⟨RX1, TX1, ck1, by decide, Or.inl (gd_tbl (ch1 (List.mem_of_getElem? (i := 172) rfl)) rfl)⟩
theorem flX11_297 : aFl RX11 297 1 4 0 := ⟨RX1, TX1, ck1, by decide, Or.inr ⟨"YardYear", ch1 (List.mem_of_getElem? (i := 173) rfl)⟩⟩
theorem flX1_9 : aFl RX1 9 1 4 1 := ⟨RX1, TX1, ck1, by decide, Or.inl (gd_tbl (ch1 (List.mem_of_getElem? (i := 174) rfl)) rfl)⟩
theorem flX1_15 : aFl RX1 15 1 4 2 := ⟨RX1, TX1, ck1, by decide, Or.inl (gd_tbl (ch1 (List.mem_of_getElem? (i := 175) rfl)) rfl)⟩
theorem flX1_18 : aFl RX1 18 1 4 3 := ⟨RX1, TX1, ck1, by decide, Or.inl (gd_tbl (ch1 (List.mem_of_getElem? (i := 176) rfl)) rfl)⟩
theorem lkX11_37 : aLk RX11 37 yX3_init := Or.inl (gd_tbl (ch1 (List.mem_of_getElem? (i := 188) rfl)) rfl)
theorem lkX3_21 : aLk RX3 21 yX9_init := Or.inr ⟨"YardYear", ch1 (List.mem_of_getElem? (i := 195) rfl)⟩
theorem flX9_37 : aFl RX9 37 9 10 0 := ⟨RX9, TX9, ck9, by decide, Or.inl (gd_tbl (ch1 (List.mem_of_getElem? (i := 199) rfl)) rfl)⟩
theorem flX7_61 : aFl RX7 61 9 10 0 := ⟨RX9, TX9, ck9, by decide, Or.inr ⟨"YardYear", ch1 (List.mem_of_getElem? (i := 200) rfl)⟩⟩
theorem flX11_195 : aFl RX11 195 9 10 0 := ⟨RX9, TX9, ck9, by decide, Or.inr ⟨"YardYear", ch1 (List.mem_of_getElem? (i := 201) rfl)⟩⟩
theorem flX9_9 : aFl RX9 9 9 10 1 := ⟨RX9, TX9, ck9, by decide, Or.inl (gd_tbl (ch1 (List.mem_of_getElem? (i := 202) rfl)) rfl)⟩
theorem flX8_130 : aFl RX8 130 9 10 1 := ⟨RX9, TX9, ck9, by decide, Or.inr ⟨"YardYear", ch1 (List.mem_of_getElem? (i := 203) rfl)⟩⟩
theorem flX9_15 : aFl RX9 15 9 10 2 := ⟨RX9, TX9, ck9, by decide, Or.inl (gd_tbl (ch1 (List.mem_of_getElem? (i := 204) rfl)) rfl)⟩
theorem flX7_122 : aFl RX7 122 9 10 2 := ⟨RX9, TX9, ck9, by decide, Or.inr ⟨"YardYear", ch1 (List.mem_of_getElem? (i := 205) rfl)⟩⟩
theorem flX11_200 : aFl RX11 200 9 10 2 := ⟨RX9, TX9, ck9, by decide, Or.inr ⟨"YardYear", ch1 (List.mem_of_getElem? (i := 206) rfl)⟩⟩
theorem flX9_18 : aFl RX9 18 9 10 3 := ⟨RX9, TX9, ck9, by decide, Or.inl (gd_tbl (ch1 (List.mem_of_getElem? (i := 207) rfl)) rfl)⟩
theorem flX7_87 : aFl RX7 87 9 10 3 := ⟨RX9, TX9, ck9, by decide, Or.inr ⟨"YardYear", ch1 (List.mem_of_getElem? (i := 208) rfl)⟩⟩
theorem flX8_123 : aFl RX8 123 9 10 3 := ⟨RX9, TX9, ck9, by decide, Or.inr ⟨"YardYear", ch1 (List.mem_of_getElem? (i := 209) rfl)⟩⟩
theorem flX9_21 : aFl RX9 21 9 10 4 := ⟨RX9, TX9, ck9, by decide, Or.inl (gd_tbl (ch1 (List.mem_of_getElem? (i := 210) rfl)) rfl)⟩
theorem flX7_114 : aFl RX7 114 9 10 4 := ⟨RX9, TX9, ck9, by decide, Or.inr ⟨"YardYear", ch1 (List.mem_of_getElem? (i := 211) rfl)⟩⟩
theorem flX8_126 : aFl RX8 126 9 10 4 := ⟨RX9, TX9, ck9, by decide, Or.inr ⟨"YardYear", ch1 (List.mem_of_getElem? (i := 212) rfl)⟩⟩
theorem flX9_24 : aFl RX9 24 9 10 5 := ⟨RX9, TX9, ck9, by decide, Or.inl (gd_tbl (ch1 (List.mem_of_getElem? (i := 213) rfl)) rfl)⟩
theorem flX7_100 : aFl RX7 100 9 10 5 := ⟨RX9, TX9, ck9, by decide, Or.inr ⟨"YardYear", ch1 (List.mem_of_getElem? (i := 214) rfl)⟩⟩
theorem flX8_114 : aFl RX8 114 9 10 5 := ⟨RX9, TX9, ck9, by decide, Or.inr ⟨"YardYear", ch1 (List.mem_of_getElem? (i := 215) rfl)⟩⟩
theorem flX9_27 : aFl RX9 27 9 10 6 := ⟨RX9, TX9, ck9, by decide, Or.inl (gd_tbl (ch1 (List.mem_of_getElem? (i := 216) rfl)) rfl)⟩
theorem flX9_30 : aFl RX9 30 9 10 7 := ⟨RX9, TX9, ck9, by decide, Or.inl (gd_tbl (ch1 (List.mem_of_getElem? (i := 217) rfl)) rfl)⟩
theorem flX9_41 : aFl RX9 41 9 10 8 := ⟨RX9, TX9, ck9, by decide, Or.inl (gd_tbl (ch1 (List.mem_of_getElem? (i := 218) rfl)) rfl)⟩
theorem flX7_103 : aFl RX7 103 9 10 8 := ⟨RX9, TX9, ck9, by decide, Or.inr ⟨"YardYear", ch1 (List.mem_of_getElem? (i := 219) rfl)⟩⟩
theorem flX9_33 : aFl RX9 33 9 10 9 := ⟨RX9, TX9, ck9, by decide, Or.inl (gd_tbl (ch1 (List.mem_of_getElem? (i := 220) rfl)) rfl)⟩
theorem flX3_11 : aFl RX3 11 3 3 0 := ⟨RX3, TX3, ck3, by decide, Or.inl (gd_tbl (ch2 (List.mem_of_getElem? (i := 3) rfl)) rfl)⟩
theorem flX3_22 : aFl RX3 22 3 3 1 := ⟨RX3, TX3, ck3, by decide, Or.inl (gd_tbl (ch2 (List.mem_of_getElem? (i := 4) rfl)) rfl)⟩
theorem flX11_182 : aFl RX11 182 3 3 1 := ⟨RX3, TX3, ck3, by decide, Or.inr ⟨"YardYear", ch2 (List.mem_of_getElem? (i := 5) rfl)⟩⟩
theorem flX3_17 : aFl RX3 17 3 3 2 := ⟨RX3, TX3, ck3, by decide, Or.inl (gd_tbl (ch2 (List.mem_of_getElem? (i := 6) rfl)) rfl)⟩
theorem flX11_216 : aFl RX11 216 3 3 2 := ⟨RX3, TX3, ck3, by decide, Or.inr ⟨"YardYear", ch2 (List.mem_of_getElem? (i := 7) rfl)⟩⟩
theorem lkX11_44 : aLk RX11 44 yX2_init := Or.inr ⟨"YardYear", ch2 (List.mem_of_getElem? (i := 18) rfl)⟩
theorem lkX2_9 : aLk RX2 9 yX10_init := Or.inl (gd_tbl (ch2 (List.mem_of_getElem? (i := 23) rfl)) rfl)
theorem lkX2_18 : aLk RX2 18 yX1_init := Or.inr ⟨"YardYear", ch2 (List.mem_of_getElem? (i := 25) rfl)⟩
theorem lkX2_25 : aLk RX2 25 yX3_init := Or.inl (gd_tbl (ch2 (List.mem_of_getElem? (i := 27) rfl)) rfl)
theorem flX2_10 : aFl RX2 10 2 4 0 := ⟨RX2, TX2, ck2, by decide, Or.inl (gd_tbl (ch2 (List.mem_of_getElem? (i := 28) rfl)) rfl)⟩
theorem flX2_19 : aFl RX2 19 2 4 1 := ⟨RX2, TX2, ck2, by decide, Or.inl (gd_tbl (ch2 (List.mem_of_getElem? (i := 29) rfl)) rfl)⟩
theorem flX2_26 : aFl RX2 26 2 4 2 := ⟨RX2, TX2, ck2, by decide, Or.inl (gd_tbl (ch2 (List.mem_of_getElem? (i := 30) rfl)) rfl)⟩
theorem flX2_40 : aFl RX2 40 2 4 3 := ⟨RX2, TX2, ck2, by decide, Or.inl (gd_tbl (ch2 (List.mem_of_getElem? (i := 31) rfl)) rfl)⟩
theorem flX11_334 : aFl RX11 334 2 4 3 := ⟨RX2, TX2, ck2, by decide, Or.inr ⟨"YardYear", ch2 (List.mem_of_getElem? (i := 32) rfl)⟩⟩
theorem lkX11_51 : aLk RX11 51 yX5_init := Or.inr ⟨"YardYear", ch2 (List.mem_of_getElem? (i := 44) rfl)⟩
theorem lkX5_11 : aLk RX5 11 yX10_init := Or.inl (gd_tbl (ch2 (List.mem_of_getElem? (i := 49) rfl)) rfl)
theorem flX5_12 : aFl RX5 12 5 9 0 := ⟨RX5, TX5, ck5, by decide, Or.inl (gd_tbl (ch2 (List.mem_of_getElem? (i := 50) rfl)) rfl)⟩
theorem flX5_18 : aFl RX5 18 5 9 1 := ⟨RX5, TX5, ck5, by decide, Or.inl (gd_tbl (ch2 (List.mem_of_getElem? (i := 51) rfl)) rfl)⟩
theorem flX5_21 : aFl RX5 21 5 9 2 := ⟨RX5, TX5, ck5, by decide, Or.inl (gd_tbl (ch2 (List.mem_of_getElem? (i := 52) rfl)) rfl)⟩
theorem flX5_25 : aFl RX5 25 5 9 3 := ⟨RX5, TX5, ck5, by decide, Or.inl (gd_tbl (ch2 (List.mem_of_getElem? (i := 53) rfl)) rfl)⟩
theorem flX5_28 : aFl RX5 28 5 9 4 := ⟨RX5, TX5, ck5, by decide, Or.inl (gd_tbl (ch2 (List.mem_of_getElem? (i := 54) rfl)) rfl)⟩
theorem flX5_63 : aFl RX5 63 5 9 5 := ⟨RX5, TX5, ck5, by decide, Or.inl (gd_tbl (ch2 (List.mem_of_getElem? (i := 55) rfl)) rfl)⟩
theorem flX11_269 : aFl RX11 269 5 9 5 := ⟨RX5, TX5, ck5, by decide, Or.inr ⟨"YardYear", ch2 (List.mem_of_getElem? (i := 56) rfl)⟩⟩
theorem flX5_71 : aFl RX5 71 5 9 6 := ⟨RX5, TX5, ck5, by decide, Or.inl (gd_tbl (ch2 (List.mem_of_getElem? (i := 57) rfl)) rfl)⟩
theorem flX11_273 : aFl RX11 273 5 9 6 := ⟨RX5, TX5, ck5, by decide, Or.inr ⟨"YardYear", ch2 (List.mem_of_getElem? (i := 58) rfl)⟩⟩
theorem flX5_85 : aFl RX5 85 5 9 7 := ⟨RX5, TX5, ck5, by decide, Or.inl (gd_tbl (ch2 (List.mem_of_getElem? (i := 59) rfl)) rfl)⟩
theorem flX11_288 : aFl RX11 288 5 9 7 := ⟨RX5, TX5, ck5, by decide, Or.inr ⟨"YardYear", ch2 (List.mem_of_getElem? (i := 60) rfl)⟩⟩
theorem flX5_95 : aFl RX5 95 5 9 8 := ⟨RX5, TX5, ck5, by decide, Or.inl (gd_tbl (ch2 (List.mem_of_getElem? (i := 61) rfl)) rfl)⟩
theorem flX11_291 : aFl RX11 291 5 9 8 := ⟨RX5, TX5, ck5, by decide, Or.inr ⟨"YardYear", ch2 (List.mem_of_getElem? (i := 62) rfl)⟩⟩
theorem lkX11_58 : aLk RX11 58 yX4_init := Or.inr ⟨"YardYear", ch2 (List.mem_of_getElem? (i := 84) rfl)⟩
theorem flX4_9 : aFl RX4 9 4 5 0 := ⟨RX4, TX4, ck4, by decide, Or.inl (gd_tbl (ch2 (List.mem_of_getElem? (i := 88) rfl)) rfl)⟩
theorem flX4_15 : aFl RX4 15 4 5 1 := ⟨RX4, TX4, ck4, by decide, Or.inl (gd_tbl (ch2 (List.mem_of_getElem? (i := 89) rfl)) rfl)⟩
theorem flX4_18 : aFl RX4 18 4 5 2 := ⟨RX4, TX4, ck4, by decide, Or.inl (gd_tbl (ch2 (List.mem_of_getElem? (i := 90) rfl)) rfl)⟩
theorem flX11_279 : aFl RX11 279 4 5 2 := ⟨RX4, TX4, ck4, by decide, Or.inr ⟨"YardYear", ch2 (List.mem_of_getElem? (i := 91) rfl)⟩⟩
theorem flX4_33 : aFl RX4 33 4 5 3 := ⟨RX4, TX4, ck4, by decide, Or.inl (gd_tbl (ch2 (List.mem_of_getElem? (i := 92) rfl)) rfl)⟩
theorem flX4_37 : aFl RX4 37 4 5 4 := ⟨RX4, TX4, ck4, by decide, Or.inl (gd_tbl (ch2 (List.mem_of_getElem? (i := 93) rfl)) rfl)⟩
theorem lkX11_65 : aLk RX11 65 yX0_init := Or.inr ⟨"YardYear", ch2 (List.mem_of_getElem? (i := 107) rfl)⟩
theorem lkX0_11 : aLk RX0 11 yX10_init := Or.inl (gd_tbl (ch2 (List.mem_of_getElem? (i := 112) rfl)) rfl)
theorem flX0_12 : aFl RX0 12 0 2 0 := ⟨RX0, TX0, ck0, by decide, Or.inl (gd_tbl (ch2 (List.mem_of_getElem? (i := 113) rfl)) rfl)⟩
theorem flX11_327 : aFl RX11 327 0 2 0 := ⟨RX0, TX0, ck0, by decide, Or.inr ⟨"YardYear", ch2 (List.mem_of_getElem? (i := 114) rfl)⟩⟩
theorem flX0_26 : aFl RX0 26 0 2 1 := ⟨RX0, TX0, ck0, by decide, Or.inl (gd_tbl (ch2 (List.mem_of_getElem? (i := 115) rfl)) rfl)⟩
theorem lkX11_72 : aLk RX11 72 yX7_init := Or.inr ⟨"YardYear", ch2 (List.mem_of_getElem? (i := 123) rfl)⟩
theorem lkX7_17 : aLk RX7 17 yX9_init := Or.inr ⟨"YardYear", ch2 (List.mem_of_getElem? (i := 128) rfl)⟩
theorem flX7_9 : aFl RX7 9 7 11 0 := ⟨RX7, TX7, ck7, by decide, Or.inl (gd_tbl (ch2 (List.mem_of_getElem? (i := 129) rfl)) rfl)⟩
theorem flX11_168 : aFl RX11 168 7 11 0 := ⟨RX7, TX7, ck7, by decide, Or.inr ⟨"YardYear", ch2 (List.mem_of_getElem? (i := 130) rfl)⟩⟩
theorem flX7_18 : aFl RX7 18 7 11 1 := ⟨RX7, TX7, ck7, by decide, Or.inl (gd_tbl (ch2 (List.mem_of_getElem? (i := 131) rfl)) rfl)⟩
theorem flX11_185 : aFl RX11 185 7 11 1 := ⟨RX7, TX7, ck7, by decide, Or.inr ⟨"YardYear", ch2 (List.mem_of_getElem? (i := 132) rfl)⟩⟩
theorem flX7_25 : aFl RX7 25 7 11 2 := ⟨RX7, TX7, ck7, by decide, Or.inl (gd_tbl (ch2 (List.mem_of_getElem? (i := 133) rfl)) rfl)⟩
theorem flX11_158 : aFl RX11 158 7 11 2 := ⟨RX7, TX7, ck7, by decide, Or.inr ⟨"YardYear", ch2 (List.mem_of_getElem? (i := 134) rfl)⟩⟩
theorem flX7_35 : aFl RX7 35 7 11 3 := ⟨RX7, TX7, ck7, by decide, Or.inl (gd_tbl (ch2 (List.mem_of_getElem? (i := 135) rfl)) rfl)⟩
theorem flX7_22 : aFl RX7 22 7 11 4 := ⟨RX7, TX7, ck7, by decide, Or.inl (gd_tbl (ch2 (List.mem_of_getElem? (i := 136) rfl)) rfl)⟩
theorem flX7_38 : aFl RX7 38 7 11 5 := ⟨RX7, TX7, ck7, by decide, Or.inl (gd_tbl (ch2 (List.mem_of_getElem? (i := 137) rfl)) rfl)⟩
theorem flX7_42 : aFl RX7 42 7 11 6 := ⟨RX7, TX7, ck7, by decide, Or.inl (gd_tbl (ch2 (List.mem_of_getElem? (i := 138) rfl)) rfl)⟩
theorem flX7_58 : aFl RX7 58 7 11 7 := ⟨RX7, TX7, ck7, by decide, Or.inl (gd_tbl (ch2 (List.mem_of_getElem? (i := 139) rfl)) rfl)⟩
theorem flX7_45 : aFl RX7 45 7 11 8 := ⟨RX7, TX7, ck7, by decide, Or.inl (gd_tbl (ch2 (List.mem_of_getElem? (i := 140) rfl)) rfl)⟩
theorem flX7_64 : aFl RX7 64 7 11 9 := ⟨RX7, TX7, ck7, by decide, Or.inl (gd_tbl (ch2 (List.mem_of_getElem? (i := 141) rfl)) rfl)⟩
theorem flX7_119 : aFl RX7 119 7 11 10 := ⟨RX7, TX7, ck7, by decide, Or.inl (gd_tbl (ch2 (List.mem_of_getElem? (i := 142) rfl)) rfl)⟩
theorem flX11_14 : aFl RX11 14 11 14 0 := ⟨RX11, TX11, ck11, by decide, Or.inl (gd_tbl (ch2 (List.mem_of_getElem? (i := 166) rfl)) rfl)⟩
theorem flX11_22 : aFl RX11 22 11 14 1 := ⟨RX11, TX11, ck11, by decide, Or.inl (gd_tbl (ch2 (List.mem_of_getElem? (i := 167) rfl)) rfl)⟩
theorem flX11_27 : aFl RX11 27 11 14 2 := ⟨RX11, TX11, ck11, by decide, Or.inl (gd_tbl (ch2 (List.mem_of_getElem? (i := 168) rfl)) rfl)⟩
theorem flX11_31 : aFl RX11 31 11 14 3 := ⟨RX11, TX11, ck11, by decide, Or.inl (gd_tbl (ch2 (List.mem_of_getElem? (i := 169) rfl)) rfl)⟩
theorem flX11_38 : aFl RX11 38 11 14 4 := ⟨RX11, TX11, ck11, by decide, Or.inl (gd_tbl (ch2 (List.mem_of_getElem? (i := 170) rfl)) rfl)⟩
theorem flX11_45 : aFl RX11 45 11 14 5 := ⟨RX11, TX11, ck11, by decide, Or.inl (gd_tbl (ch2 (List.mem_of_getElem? (i := 171) rfl)) rfl)⟩
theorem flX11_52 : aFl RX11 52 11 14 6 := ⟨RX11, TX11, ck11, by decide, Or.inl (gd_tbl (ch2 (List.mem_of_getElem? (i := 172) rfl)) rfl)⟩
theorem flX11_59 : aFl RX11 59 11 14 7 := ⟨RX11, TX11, ck11, by decide, Or.inl (gd_tbl (ch2 (List.mem_of_getElem? (i := 173) rfl)) rfl)⟩
theorem flX11_66 : aFl RX11 66 11 14 8 := ⟨RX11, TX11, ck11, by decide, Or.inl (gd_tbl (ch2 (List.mem_of_getElem? (i := 174) rfl)) rfl)⟩
theorem flX11_73 : aFl RX11 73 11 14 9 := ⟨RX11, TX11, ck11, by decide, Or.inl (gd_tbl (ch2 (List.mem_of_getElem? (i := 175) rfl)) rfl)⟩
theorem flX11_77 : aFl RX11 77 11 14 10 := ⟨RX11, TX11, ck11, by decide, Or.inl (gd_tbl (ch2 (List.mem_of_getElem? (i := 176) rfl)) rfl)⟩
theorem flX11_165 : aFl RX11 165 11 14 11 := ⟨RX11, TX11, ck11, by decide, Or.inl (gd_tbl (ch2 (List.mem_of_getElem? (i := 177) rfl)) rfl)⟩
theorem flX11_81 : aFl RX11 81 11 14 12 := ⟨RX11, TX11, ck11, by decide, Or.inl (gd_tbl (ch2 (List.mem_of_getElem? (i := 178) rfl)) rfl)⟩
theorem flX11_347 : aFl RX11 347 11 14 13 := ⟨RX11, TX11, ck11, by decide, Or.inl (gd_tbl (ch2 (List.mem_of_getElem? (i := 179) rfl)) rfl)⟩
theorem lkL_13 : aLk RL 13 yX11_put := Or.inl (gd_tbl (ch2 (List.mem_of_getElem? (i := 209) rfl)) rfl)
theorem lkX11_85 : aLk RX11 85 yX11_isCell := Or.inl (gd_tbl (ch2 (List.mem_of_getElem? (i := 213) rfl)) rfl)
theorem lkX11_89 : aLk RX11 89 yX11_isFact := Or.inl (gd_tbl (ch2 (List.mem_of_getElem? (i := 216) rfl)) rfl)
theorem lkX11_253 : aLk RX11 253 yX11_isWithin := Or.inl (gd_tbl (ch2 (List.mem_of_getElem? (i := 219) rfl)) rfl)
theorem lkX11_226 : aLk RX11 226 yX11_isYesNo := Or.inl (gd_tbl (ch2 (List.mem_of_getElem? (i := 222) rfl)) rfl)
theorem lkX11_93 : aLk RX11 93 yX11_refused := Or.inl (gd_tbl (ch2 (List.mem_of_getElem? (i := 225) rfl)) rfl)
theorem lkX11_97 : aLk RX11 97 yX10_mayWrite := Or.inl (gd_tbl (ch2 (List.mem_of_getElem? (i := 229) rfl)) rfl)
theorem lkX10_49 : aLk RX10 49 yX10_plotIn := Or.inl (gd_tbl (ch2 (List.mem_of_getElem? (i := 233) rfl)) rfl)
theorem lkX11_103 : aLk RX11 103 yX10_fact := Or.inl (gd_tbl (ch2 (List.mem_of_getElem? (i := 237) rfl)) rfl)
theorem lkX11_112 : aLk RX11 112 yX10_write := Or.inl (gd_tbl (ch3 (List.mem_of_getElem? (i := 1) rfl)) rfl)
theorem lkX11_116 : aLk RX11 116 yX11_granted := Or.inl (gd_tbl (ch3 (List.mem_of_getElem? (i := 5) rfl)) rfl)
theorem lkL_18 : aLk RL 18 yX11_at := Or.inl (gd_tbl (ch3 (List.mem_of_getElem? (i := 9) rfl)) rfl)
theorem lkX11_119 : aLk RX11 119 yX10_plotIn := Or.inl (gd_tbl (ch3 (List.mem_of_getElem? (i := 13) rfl)) rfl)
theorem lkL_23 : aLk RL 23 yX11_of := Or.inl (gd_tbl (ch3 (List.mem_of_getElem? (i := 14) rfl)) rfl)
theorem lkX11_122 : aLk RX11 122 yX10_hasPlot := Or.inl (gd_tbl (ch3 (List.mem_of_getElem? (i := 18) rfl)) rfl)
theorem lkX11_137 : aLk RX11 137 yX10_movesOf := Or.inl (gd_tbl (ch3 (List.mem_of_getElem? (i := 22) rfl)) rfl)
theorem lkX10_73 : aLk RX10 73 yX10_tell := Or.inl (gd_tbl (ch3 (List.mem_of_getElem? (i := 26) rfl)) rfl)
theorem lkX10_76 : aLk RX10 76 yX9_last := Or.inl (gd_tbl (ch3 (List.mem_of_getElem? (i := 30) rfl)) rfl)
theorem lkX9_54 : aLk RX9 54 yJ9_min_7cf53 := Or.inl (gd_tbl (ch3 (List.mem_of_getElem? (i := 34) rfl)) rfl)
theorem lmX9_54 : Cond.methodLink RX9 54 Lib.Math.min.name ∈ lw_gd := gd_tbl (ch3 (List.mem_of_getElem? (i := 34) rfl)) rfl
theorem lkX9_50 : aLk RX9 50 yX9_value := Or.inl (gd_tbl (ch3 (List.mem_of_getElem? (i := 37) rfl)) rfl)
theorem cnX9_60 : Cond.constant RX9 60 (Int32.ofInt (-2147483648)) ∈ lw_gd := gd_tbl (ch3 (List.mem_of_getElem? (i := 41) rfl)) rfl
theorem lkX9_61 : aLk RX9 61 yX9_combine := Or.inl (gd_tbl (ch3 (List.mem_of_getElem? (i := 42) rfl)) rfl)
theorem cnX9_65 : Cond.constantLong RX9 65 (Int64.ofInt (1000000000)) ∈ lw_gd := gd_tbl (ch3 (List.mem_of_getElem? (i := 46) rfl)) rfl
theorem cnX9_67 : Cond.constantLong RX9 67 (Int64.ofInt (-1000000000)) ∈ lw_gd := gd_tbl (ch3 (List.mem_of_getElem? (i := 47) rfl)) rfl
theorem cnX10_82 : Cond.constant RX10 82 (Int32.ofInt (-2147483648)) ∈ lw_gd := gd_tbl (ch3 (List.mem_of_getElem? (i := 48) rfl)) rfl
theorem lkX10_83 : aLk RX10 83 yJ9_min_7cf53 := Or.inl (gd_tbl (ch3 (List.mem_of_getElem? (i := 49) rfl)) rfl)
theorem lmX10_83 : Cond.methodLink RX10 83 Lib.Math.min.name ∈ lw_gd := gd_tbl (ch3 (List.mem_of_getElem? (i := 49) rfl)) rfl
theorem lkX10_89 : aLk RX10 89 yJ9_max_7cf53 := Or.inl (gd_tbl (ch3 (List.mem_of_getElem? (i := 50) rfl)) rfl)
theorem lmX10_89 : Cond.methodLink RX10 89 Lib.Math.max.name ∈ lw_gd := gd_tbl (ch3 (List.mem_of_getElem? (i := 50) rfl)) rfl
theorem lkX11_140 : aLk RX11 140 yX10_digsOf := Or.inl (gd_tbl (ch3 (List.mem_of_getElem? (i := 53) rfl)) rfl)
theorem lkL_27 : aLk RL 27 yX11_goes := Or.inl (gd_tbl (ch3 (List.mem_of_getElem? (i := 57) rfl)) rfl)
theorem lkX11_143 : aLk RX11 143 yX10_mayGo := Or.inl (gd_tbl (ch3 (List.mem_of_getElem? (i := 61) rfl)) rfl)
theorem lkX10_92 : aLk RX10 92 yX9_has := Or.inl (gd_tbl (ch3 (List.mem_of_getElem? (i := 65) rfl)) rfl)
theorem lkX10_95 : aLk RX10 95 yX9_holds := Or.inl (gd_tbl (ch3 (List.mem_of_getElem? (i := 69) rfl)) rfl)
theorem lkL_31 : aLk RL 31 yX11_barred := Or.inl (gd_tbl (ch3 (List.mem_of_getElem? (i := 73) rfl)) rfl)
theorem lkX11_146 : aLk RX11 146 yX11_isFamily := Or.inl (gd_tbl (ch3 (List.mem_of_getElem? (i := 77) rfl)) rfl)
theorem lkX11_149 : aLk RX11 149 yX10_isBarred := Or.inl (gd_tbl (ch3 (List.mem_of_getElem? (i := 80) rfl)) rfl)
theorem lkL_35 : aLk RL 35 yX11_terms := Or.inl (gd_tbl (ch3 (List.mem_of_getElem? (i := 84) rfl)) rfl)
theorem lkX11_152 : aLk RX11 152 yX11_isTerm := Or.inl (gd_tbl (ch3 (List.mem_of_getElem? (i := 88) rfl)) rfl)
theorem lkL_39 : aLk RL 39 yX11_feed := Or.inl (gd_tbl (ch3 (List.mem_of_getElem? (i := 91) rfl)) rfl)
theorem lkX11_161 : aLk RX11 161 yX7_append := Or.inl (gd_tbl (ch3 (List.mem_of_getElem? (i := 95) rfl)) rfl)
theorem lkL_44 : aLk RL 44 yX11_end := Or.inl (gd_tbl (ch3 (List.mem_of_getElem? (i := 99) rfl)) rfl)
theorem lkL_49 : aLk RL 49 yX11_row := Or.inl (gd_tbl (ch3 (List.mem_of_getElem? (i := 103) rfl)) rfl)
theorem lkX11_171 : aLk RX11 171 yX10_writeCell := Or.inl (gd_tbl (ch3 (List.mem_of_getElem? (i := 107) rfl)) rfl)
theorem lkX10_53 : aLk RX10 53 yX11_isCell := Or.inr ⟨"YardYear", ch3 (List.mem_of_getElem? (i := 111) rfl)⟩
theorem lkX10_57 : aLk RX10 57 yX11_isFact := Or.inr ⟨"YardYear", ch3 (List.mem_of_getElem? (i := 112) rfl)⟩
theorem lkX10_61 : aLk RX10 61 yX10_mayWrite := Or.inl (gd_tbl (ch3 (List.mem_of_getElem? (i := 113) rfl)) rfl)
theorem lkX10_65 : aLk RX10 65 yX10_write := Or.inl (gd_tbl (ch3 (List.mem_of_getElem? (i := 114) rfl)) rfl)
theorem lkL_54 : aLk RL 54 yX11_moles := Or.inl (gd_tbl (ch3 (List.mem_of_getElem? (i := 115) rfl)) rfl)
theorem lkL_58 : aLk RL 58 yX11_law := Or.inl (gd_tbl (ch3 (List.mem_of_getElem? (i := 119) rfl)) rfl)
theorem lkX11_174 : aLk RX11 174 yX3_next := Or.inl (gd_tbl (ch3 (List.mem_of_getElem? (i := 123) rfl)) rfl)
theorem lkX11_178 : aLk RX11 178 yX7_read := Or.inl (gd_tbl (ch3 (List.mem_of_getElem? (i := 127) rfl)) rfl)
theorem lkX7_29 : aLk RX7 29 yJ9_min_7cf53 := Or.inl (gd_tbl (ch3 (List.mem_of_getElem? (i := 131) rfl)) rfl)
theorem lmX7_29 : Cond.methodLink RX7 29 Lib.Math.min.name ∈ lw_gd := gd_tbl (ch3 (List.mem_of_getElem? (i := 131) rfl)) rfl
theorem lkX7_48 : aLk RX7 48 yX9_clear := Or.inl (gd_tbl (ch3 (List.mem_of_getElem? (i := 132) rfl)) rfl)
theorem lkX7_51 : aLk RX7 51 yX7_advance := Or.inl (gd_tbl (ch3 (List.mem_of_getElem? (i := 136) rfl)) rfl)
theorem lkX7_54 : aLk RX7 54 yX7_readClause := Or.inl (gd_tbl (ch3 (List.mem_of_getElem? (i := 140) rfl)) rfl)
theorem lkX7_75 : aLk RX7 75 yX7_wordIn := Or.inl (gd_tbl (ch3 (List.mem_of_getElem? (i := 146) rfl)) rfl)
theorem lkX7_164 : aLk RX7 164 yJ0_length_8abf5 := Or.inl (gd_tbl (ch3 (List.mem_of_getElem? (i := 150) rfl)) rfl)
theorem lkJ0_335 : aLk RJ0 335 yJ0_coder_7d493 := Or.inl (gd_tbl (ch3 (List.mem_of_getElem? (i := 154) rfl)) rfl)
theorem lkX7_167 : aLk RX7 167 yJ0_charAt_5068e := Or.inl (gd_tbl (ch3 (List.mem_of_getElem? (i := 160) rfl)) rfl)
theorem lkJ0_492 : aLk RJ0 492 yJ0_isLatin1_aae02 := Or.inl (gd_tbl (ch3 (List.mem_of_getElem? (i := 164) rfl)) rfl)
theorem lkJ0_495 : aLk RJ0 495 yJ1_charAt_3b067 := Or.inl (gd_tbl (ch3 (List.mem_of_getElem? (i := 168) rfl)) rfl)
theorem lkJ1_9 : aLk RJ1 9 yJ0_checkIndex_df160 := Or.inl (gd_tbl (ch3 (List.mem_of_getElem? (i := 171) rfl)) rfl)
theorem lkJ0_1059 : aLk RJ0 1059 yJ3_checkIndex_8e157 := Or.inl (gd_tbl (ch3 (List.mem_of_getElem? (i := 176) rfl)) rfl)
theorem lkJ0_498 : aLk RJ0 498 yJ2_charAt_3b067 := Or.inl (gd_tbl (ch3 (List.mem_of_getElem? (i := 179) rfl)) rfl)
theorem lkJ2_67 : aLk RJ2 67 yJ2_checkIndex_2214a := Or.inl (gd_tbl (ch3 (List.mem_of_getElem? (i := 182) rfl)) rfl)
theorem lkJ2_48 : aLk RJ2 48 yJ2_length_9d52b := Or.inl (gd_tbl (ch3 (List.mem_of_getElem? (i := 185) rfl)) rfl)
theorem lkJ2_414 : aLk RJ2 414 yJ0_checkIndex_df160 := Or.inl (gd_tbl (ch3 (List.mem_of_getElem? (i := 188) rfl)) rfl)
theorem lkJ2_71 : aLk RJ2 71 yJ2_getChar_3b067 := Or.inl (gd_tbl (ch3 (List.mem_of_getElem? (i := 189) rfl)) rfl)
theorem lkX7_79 : aLk RX7 79 yX9_open := Or.inl (gd_tbl (ch3 (List.mem_of_getElem? (i := 198) rfl)) rfl)
theorem lkX7_83 : aLk RX7 83 yX7_readActs := Or.inl (gd_tbl (ch3 (List.mem_of_getElem? (i := 202) rfl)) rfl)
theorem lkX7_90 : aLk RX7 90 yX7_readWholeSum := Or.inl (gd_tbl (ch3 (List.mem_of_getElem? (i := 206) rfl)) rfl)
theorem lkX7_124 : aLk RX7 124 yX7_readSum := Or.inl (gd_tbl (ch3 (List.mem_of_getElem? (i := 210) rfl)) rfl)
theorem lkX7_144 : aLk RX7 144 yX7_readPart := Or.inl (gd_tbl (ch3 (List.mem_of_getElem? (i := 214) rfl)) rfl)
theorem lkX7_67 : aLk RX7 67 yX7_isSign := Or.inl (gd_tbl (ch3 (List.mem_of_getElem? (i := 218) rfl)) rfl)
theorem lkX7_109 : aLk RX7 109 yX9_emit := Or.inl (gd_tbl (ch3 (List.mem_of_getElem? (i := 222) rfl)) rfl)
theorem lkX7_155 : aLk RX7 155 yX7_placeOf := Or.inl (gd_tbl (ch3 (List.mem_of_getElem? (i := 228) rfl)) rfl)
theorem lkX7_141 : aLk RX7 141 yX7_signIn := Or.inl (gd_tbl (ch3 (List.mem_of_getElem? (i := 233) rfl)) rfl)
theorem lkX7_159 : aLk RX7 159 yJ0_indexOf_0f7a4 := Or.inl (gd_tbl (ch3 (List.mem_of_getElem? (i := 237) rfl)) rfl)
theorem lkJ0_633 : aLk RJ0 633 yJ0_indexOf_7cf53 := Or.inl (gd_tbl (ch4 (List.mem_of_getElem? (i := 1) rfl)) rfl)
theorem lkJ0_505 : aLk RJ0 505 yJ0_length_8abf5 := Or.inl (gd_tbl (ch4 (List.mem_of_getElem? (i := 5) rfl)) rfl)
theorem lkJ0_637 : aLk RJ0 637 yJ1_indexOf_4cfef := Or.inl (gd_tbl (ch4 (List.mem_of_getElem? (i := 6) rfl)) rfl)
theorem lkJ1_88 : aLk RJ1 88 yJ1_canEncode_9a6ad := Or.inl (gd_tbl (ch4 (List.mem_of_getElem? (i := 9) rfl)) rfl)
theorem lkJ1_92 : aLk RJ1 92 yJ9_max_7cf53 := Or.inl (gd_tbl (ch4 (List.mem_of_getElem? (i := 12) rfl)) rfl)
theorem lmJ1_92 : Cond.methodLink RJ1 92 Lib.Math.max.name ∈ lw_gd := gd_tbl (ch4 (List.mem_of_getElem? (i := 12) rfl)) rfl
theorem lkJ1_38 : aLk RJ1 38 yJ9_min_7cf53 := Or.inl (gd_tbl (ch4 (List.mem_of_getElem? (i := 13) rfl)) rfl)
theorem lmJ1_38 : Cond.methodLink RJ1 38 Lib.Math.min.name ∈ lw_gd := gd_tbl (ch4 (List.mem_of_getElem? (i := 13) rfl)) rfl
theorem lkJ1_95 : aLk RJ1 95 yJ1_indexOfChar_4cfef := Or.inl (gd_tbl (ch4 (List.mem_of_getElem? (i := 14) rfl)) rfl)
theorem lkJ0_640 : aLk RJ0 640 yJ2_indexOf_4cfef := Or.inl (gd_tbl (ch4 (List.mem_of_getElem? (i := 17) rfl)) rfl)
theorem lkJ2_224 : aLk RJ2 224 yJ9_max_7cf53 := Or.inl (gd_tbl (ch4 (List.mem_of_getElem? (i := 20) rfl)) rfl)
theorem lmJ2_224 : Cond.methodLink RJ2 224 Lib.Math.max.name ∈ lw_gd := gd_tbl (ch4 (List.mem_of_getElem? (i := 20) rfl)) rfl
theorem lkJ2_183 : aLk RJ2 183 yJ9_min_7cf53 := Or.inl (gd_tbl (ch4 (List.mem_of_getElem? (i := 21) rfl)) rfl)
theorem lmJ2_183 : Cond.methodLink RJ2 183 Lib.Math.min.name ∈ lw_gd := gd_tbl (ch4 (List.mem_of_getElem? (i := 21) rfl)) rfl
theorem cnJ2_227 : Cond.constant RJ2 227 (Int32.ofInt (65536)) ∈ lw_gd := gd_tbl (ch4 (List.mem_of_getElem? (i := 22) rfl)) rfl
theorem lkJ2_228 : aLk RJ2 228 yJ2_indexOfChar_4cfef := Or.inl (gd_tbl (ch4 (List.mem_of_getElem? (i := 23) rfl)) rfl)
theorem lkJ2_96 : aLk RJ2 96 yJ2_checkBoundsBeginEnd_d044e := Or.inl (gd_tbl (ch4 (List.mem_of_getElem? (i := 26) rfl)) rfl)
theorem lkJ2_241 : aLk RJ2 241 yJ0_checkBoundsBeginEnd_23922 := Or.inl (gd_tbl (ch4 (List.mem_of_getElem? (i := 29) rfl)) rfl)
theorem lkJ0_1062 : aLk RJ0 1062 yJ3_checkFromToIndex_8c36e := Or.inl (gd_tbl (ch4 (List.mem_of_getElem? (i := 32) rfl)) rfl)
theorem lkJ2_244 : aLk RJ2 244 yJ2_indexOfCharUnsafe_4cfef := Or.inl (gd_tbl (ch4 (List.mem_of_getElem? (i := 35) rfl)) rfl)
theorem lkJ2_232 : aLk RJ2 232 yJ2_indexOfSupplementary_4cfef := Or.inl (gd_tbl (ch4 (List.mem_of_getElem? (i := 38) rfl)) rfl)
theorem lkJ2_164 : aLk RJ2 164 yJ11_isValidCodePoint_9a6ad := Or.inl (gd_tbl (ch4 (List.mem_of_getElem? (i := 41) rfl)) rfl)
theorem lkJ2_157 : aLk RJ2 157 yJ11_highSurrogate_5068e := Or.inl (gd_tbl (ch4 (List.mem_of_getElem? (i := 44) rfl)) rfl)
theorem cnJ11_110 : Cond.constant RJ11 110 (Int32.ofInt (55232)) ∈ lw_gd := gd_tbl (ch4 (List.mem_of_getElem? (i := 47) rfl)) rfl
theorem lkJ2_161 : aLk RJ2 161 yJ11_lowSurrogate_5068e := Or.inl (gd_tbl (ch4 (List.mem_of_getElem? (i := 48) rfl)) rfl)
theorem cnJ11_76 : Cond.constant RJ11 76 (Int32.ofInt (56320)) ∈ lw_gd := gd_tbl (ch4 (List.mem_of_getElem? (i := 51) rfl)) rfl
theorem lkX7_96 : aLk RX7 96 yX7_isWord := Or.inl (gd_tbl (ch4 (List.mem_of_getElem? (i := 54) rfl)) rfl)
theorem lkX7_106 : aLk RX7 106 yX7_readTest := Or.inl (gd_tbl (ch4 (List.mem_of_getElem? (i := 60) rfl)) rfl)
theorem lkX7_127 : aLk RX7 127 yX7_readPlain := Or.inl (gd_tbl (ch4 (List.mem_of_getElem? (i := 64) rfl)) rfl)
theorem lkX7_130 : aLk RX7 130 yX9_land := Or.inl (gd_tbl (ch4 (List.mem_of_getElem? (i := 70) rfl)) rfl)
theorem lkL_62 : aLk RL 62 yX11_orders := Or.inl (gd_tbl (ch4 (List.mem_of_getElem? (i := 77) rfl)) rfl)
theorem lkX11_192 : aLk RX11 192 yX8_beginOrders := Or.inl (gd_tbl (ch4 (List.mem_of_getElem? (i := 81) rfl)) rfl)
theorem lkX8_98 : aLk RX8 98 yX10_copyFrom := Or.inl (gd_tbl (ch4 (List.mem_of_getElem? (i := 85) rfl)) rfl)
theorem lmX10_39 : Cond.methodLink RX10 39 arraycopyName ∈ lw_gd := gd_tbl (ch4 (List.mem_of_getElem? (i := 89) rfl)) rfl
theorem lkX8_102 : aLk RX8 102 yX6_copyFrom := Or.inl (gd_tbl (ch4 (List.mem_of_getElem? (i := 92) rfl)) rfl)
theorem lkX6_26 : aLk RX6 26 yX10_copyFrom := Or.inl (gd_tbl (ch4 (List.mem_of_getElem? (i := 96) rfl)) rfl)
theorem lkX11_203 : aLk RX11 203 yX8_obey := Or.inl (gd_tbl (ch4 (List.mem_of_getElem? (i := 97) rfl)) rfl)
theorem lkX8_111 : aLk RX8 111 yX8_tell := Or.inl (gd_tbl (ch4 (List.mem_of_getElem? (i := 101) rfl)) rfl)
theorem lkX8_119 : aLk RX8 119 yX9_value := Or.inl (gd_tbl (ch4 (List.mem_of_getElem? (i := 105) rfl)) rfl)
theorem cnX8_129 : Cond.constant RX8 129 (Int32.ofInt (-2147483648)) ∈ lw_gd := gd_tbl (ch4 (List.mem_of_getElem? (i := 106) rfl)) rfl
theorem lkX8_133 : aLk RX8 133 yX8_layDown := Or.inl (gd_tbl (ch4 (List.mem_of_getElem? (i := 107) rfl)) rfl)
theorem lkX8_39 : aLk RX8 39 yX11_isFamily := Or.inr ⟨"YardYear", ch4 (List.mem_of_getElem? (i := 111) rfl)⟩
theorem lkX8_43 : aLk RX8 43 yX11_isCell := Or.inr ⟨"YardYear", ch4 (List.mem_of_getElem? (i := 112) rfl)⟩
theorem lkX8_46 : aLk RX8 46 yX10_isOpenTo := Or.inl (gd_tbl (ch4 (List.mem_of_getElem? (i := 113) rfl)) rfl)
theorem lkX10_99 : aLk RX10 99 yX10_isFreeGrass := Or.inl (gd_tbl (ch4 (List.mem_of_getElem? (i := 117) rfl)) rfl)
theorem lkX10_102 : aLk RX10 102 yX10_isBarred := Or.inl (gd_tbl (ch4 (List.mem_of_getElem? (i := 121) rfl)) rfl)
theorem lkX8_53 : aLk RX8 53 yX6_keep := Or.inl (gd_tbl (ch4 (List.mem_of_getElem? (i := 122) rfl)) rfl)
theorem lkX6_30 : aLk RX6 30 yX6_dropOldest := Or.inl (gd_tbl (ch4 (List.mem_of_getElem? (i := 126) rfl)) rfl)
theorem lkX8_57 : aLk RX8 57 yX10_add := Or.inl (gd_tbl (ch4 (List.mem_of_getElem? (i := 130) rfl)) rfl)
theorem lkX8_137 : aLk RX8 137 yX8_purchase := Or.inl (gd_tbl (ch4 (List.mem_of_getElem? (i := 134) rfl)) rfl)
theorem lkX8_141 : aLk RX8 141 yX8_takeUp := Or.inl (gd_tbl (ch4 (List.mem_of_getElem? (i := 138) rfl)) rfl)
theorem lkX8_70 : aLk RX8 70 yX10_hasPlot := Or.inl (gd_tbl (ch4 (List.mem_of_getElem? (i := 142) rfl)) rfl)
theorem lkX8_76 : aLk RX8 76 yX10_remove := Or.inl (gd_tbl (ch4 (List.mem_of_getElem? (i := 143) rfl)) rfl)
theorem lkX8_144 : aLk RX8 144 yX8_bringYear := Or.inl (gd_tbl (ch4 (List.mem_of_getElem? (i := 147) rfl)) rfl)
theorem lkX8_83 : aLk RX8 83 yX10_turnYear := Or.inl (gd_tbl (ch4 (List.mem_of_getElem? (i := 151) rfl)) rfl)
theorem lkX10_114 : aLk RX10 114 yX10_movesOf := Or.inl (gd_tbl (ch4 (List.mem_of_getElem? (i := 155) rfl)) rfl)
theorem lkX10_117 : aLk RX10 117 yX10_mayGo := Or.inl (gd_tbl (ch4 (List.mem_of_getElem? (i := 156) rfl)) rfl)
theorem lkX10_120 : aLk RX10 120 yX10_age := Or.inl (gd_tbl (ch4 (List.mem_of_getElem? (i := 157) rfl)) rfl)
theorem lkX11_207 : aLk RX11 207 yX8_giveUpOrders := Or.inl (gd_tbl (ch4 (List.mem_of_getElem? (i := 161) rfl)) rfl)
theorem lkL_66 : aLk RL 66 yX11_fault := Or.inl (gd_tbl (ch4 (List.mem_of_getElem? (i := 165) rfl)) rfl)
theorem lkL_70 : aLk RL 70 yX11_stopped := Or.inl (gd_tbl (ch4 (List.mem_of_getElem? (i := 169) rfl)) rfl)
theorem lkL_74 : aLk RL 74 yX11_force := Or.inl (gd_tbl (ch4 (List.mem_of_getElem? (i := 173) rfl)) rfl)
theorem lkX11_213 : aLk RX11 213 yX3_has := Or.inl (gd_tbl (ch4 (List.mem_of_getElem? (i := 177) rfl)) rfl)
theorem lkX11_219 : aLk RX11 219 yX3_numbered := Or.inl (gd_tbl (ch4 (List.mem_of_getElem? (i := 181) rfl)) rfl)
theorem lkX3_29 : aLk RX3 29 yX3_has := Or.inl (gd_tbl (ch4 (List.mem_of_getElem? (i := 185) rfl)) rfl)
theorem lkL_78 : aLk RL 78 yX11_bury := Or.inl (gd_tbl (ch4 (List.mem_of_getElem? (i := 186) rfl)) rfl)
theorem lkX11_229 : aLk RX11 229 yX8_layDown := Or.inl (gd_tbl (ch4 (List.mem_of_getElem? (i := 190) rfl)) rfl)
theorem lkX11_233 : aLk RX11 233 yX11_answered := Or.inl (gd_tbl (ch4 (List.mem_of_getElem? (i := 191) rfl)) rfl)
theorem lkL_82 : aLk RL 82 yX11_buy := Or.inl (gd_tbl (ch4 (List.mem_of_getElem? (i := 195) rfl)) rfl)
theorem lkX11_236 : aLk RX11 236 yX8_purchase := Or.inl (gd_tbl (ch4 (List.mem_of_getElem? (i := 199) rfl)) rfl)
theorem lkL_86 : aLk RL 86 yX11_raise := Or.inl (gd_tbl (ch4 (List.mem_of_getElem? (i := 200) rfl)) rfl)
theorem lkX11_239 : aLk RX11 239 yX8_takeUp := Or.inl (gd_tbl (ch4 (List.mem_of_getElem? (i := 204) rfl)) rfl)
theorem lkL_90 : aLk RL 90 yX11_pass := Or.inl (gd_tbl (ch4 (List.mem_of_getElem? (i := 205) rfl)) rfl)
theorem lkX11_242 : aLk RX11 242 yX8_bringYear := Or.inl (gd_tbl (ch4 (List.mem_of_getElem? (i := 209) rfl)) rfl)
theorem lkL_94 : aLk RL 94 yX11_blocked := Or.inl (gd_tbl (ch4 (List.mem_of_getElem? (i := 210) rfl)) rfl)
theorem lkL_98 : aLk RL 98 yX11_undo := Or.inl (gd_tbl (ch4 (List.mem_of_getElem? (i := 214) rfl)) rfl)
theorem lkX11_249 : aLk RX11 249 yX6_takeBack := Or.inl (gd_tbl (ch4 (List.mem_of_getElem? (i := 218) rfl)) rfl)
theorem lkL_102 : aLk RL 102 yX11_where := Or.inl (gd_tbl (ch4 (List.mem_of_getElem? (i := 222) rfl)) rfl)
theorem lkX11_256 : aLk RX11 256 yX5_cellBehind := Or.inl (gd_tbl (ch4 (List.mem_of_getElem? (i := 226) rfl)) rfl)
theorem lkX5_40 : aLk RX5 40 yX5_begin := Or.inl (gd_tbl (ch4 (List.mem_of_getElem? (i := 230) rfl)) rfl)
theorem lkX5_32 : aLk RX5 32 yX10_copyFrom := Or.inl (gd_tbl (ch4 (List.mem_of_getElem? (i := 234) rfl)) rfl)
theorem lkX5_43 : aLk RX5 43 yX10_turnYear := Or.inl (gd_tbl (ch4 (List.mem_of_getElem? (i := 235) rfl)) rfl)
theorem lkL_106 : aLk RL 106 yX11_indoors := Or.inl (gd_tbl (ch4 (List.mem_of_getElem? (i := 236) rfl)) rfl)
theorem lkX11_260 : aLk RX11 260 yX5_firstIndoors := Or.inl (gd_tbl (ch5 (List.mem_of_getElem? (i := 0) rfl)) rfl)
theorem lkX5_49 : aLk RX5 49 yX10_isAnyInWall := Or.inl (gd_tbl (ch5 (List.mem_of_getElem? (i := 4) rfl)) rfl)
theorem lkL_110 : aLk RL 110 yX11_ways := Or.inl (gd_tbl (ch5 (List.mem_of_getElem? (i := 8) rfl)) rfl)
theorem cnX11_263 : Cond.constantLong RX11 263 (Int64.ofInt (-1)) ∈ lw_gd := gd_tbl (ch5 (List.mem_of_getElem? (i := 12) rfl)) rfl
theorem lkX11_265 : aLk RX11 265 yX5_findWays := Or.inl (gd_tbl (ch5 (List.mem_of_getElem? (i := 13) rfl)) rfl)
theorem lkX5_53 : aLk RX5 53 yX5_listOpenWalls := Or.inl (gd_tbl (ch5 (List.mem_of_getElem? (i := 17) rfl)) rfl)
theorem lkX5_67 : aLk RX5 67 yX5_yearIn := Or.inl (gd_tbl (ch5 (List.mem_of_getElem? (i := 21) rfl)) rfl)
theorem lkL_115 : aLk RL 115 yX11_packed := Or.inl (gd_tbl (ch5 (List.mem_of_getElem? (i := 25) rfl)) rfl)
theorem lkX11_276 : aLk RX11 276 yX4_fewestDays := Or.inl (gd_tbl (ch5 (List.mem_of_getElem? (i := 29) rfl)) rfl)
theorem lkX4_27 : aLk RX4 27 yJ9_min_7cf53 := Or.inl (gd_tbl (ch5 (List.mem_of_getElem? (i := 33) rfl)) rfl)
theorem lmX4_27 : Cond.methodLink RX4 27 Lib.Math.min.name ∈ lw_gd := gd_tbl (ch5 (List.mem_of_getElem? (i := 33) rfl)) rfl
theorem lkX4_40 : aLk RX4 40 yX10_digsOf := Or.inl (gd_tbl (ch5 (List.mem_of_getElem? (i := 34) rfl)) rfl)
theorem lkX4_44 : aLk RX4 44 yX4_fits := Or.inl (gd_tbl (ch5 (List.mem_of_getElem? (i := 35) rfl)) rfl)
theorem lkL_119 : aLk RL 119 yX11_meets := Or.inl (gd_tbl (ch5 (List.mem_of_getElem? (i := 39) rfl)) rfl)
theorem lkX11_282 : aLk RX11 282 yX5_meeting := Or.inl (gd_tbl (ch5 (List.mem_of_getElem? (i := 43) rfl)) rfl)
theorem lkX5_81 : aLk RX5 81 yX10_areBeside := Or.inl (gd_tbl (ch5 (List.mem_of_getElem? (i := 47) rfl)) rfl)
theorem lkX10_105 : aLk RX10 105 yJ9_floorMod_7cf53 := Or.inl (gd_tbl (ch5 (List.mem_of_getElem? (i := 51) rfl)) rfl)
theorem lkL_123 : aLk RL 123 yX11_meet := Or.inl (gd_tbl (ch5 (List.mem_of_getElem? (i := 54) rfl)) rfl)
theorem lkX11_285 : aLk RX11 285 yX5_findMeet := Or.inl (gd_tbl (ch5 (List.mem_of_getElem? (i := 58) rfl)) rfl)
theorem lkX5_88 : aLk RX5 88 yX10_isOpenTo := Or.inl (gd_tbl (ch5 (List.mem_of_getElem? (i := 62) rfl)) rfl)
theorem lkX5_91 : aLk RX5 91 yX5_yearBeside := Or.inl (gd_tbl (ch5 (List.mem_of_getElem? (i := 63) rfl)) rfl)
theorem lkX5_98 : aLk RX5 98 yX10_add := Or.inl (gd_tbl (ch5 (List.mem_of_getElem? (i := 67) rfl)) rfl)
theorem lkL_128 : aLk RL 128 yX11_find := Or.inl (gd_tbl (ch5 (List.mem_of_getElem? (i := 68) rfl)) rfl)
theorem lkX11_294 : aLk RX11 294 yX1_add := Or.inl (gd_tbl (ch5 (List.mem_of_getElem? (i := 72) rfl)) rfl)
theorem lkL_132 : aLk RL 132 yX11_forget := Or.inl (gd_tbl (ch5 (List.mem_of_getElem? (i := 76) rfl)) rfl)
theorem lkL_136 : aLk RL 136 yX11_hidden := Or.inl (gd_tbl (ch5 (List.mem_of_getElem? (i := 80) rfl)) rfl)
theorem lkX11_303 : aLk RX11 303 yX5_hiddenCell := Or.inl (gd_tbl (ch5 (List.mem_of_getElem? (i := 84) rfl)) rfl)
theorem lkX5_102 : aLk RX5 102 yX10_isFreeGrass := Or.inl (gd_tbl (ch5 (List.mem_of_getElem? (i := 88) rfl)) rfl)
theorem lkX5_106 : aLk RX5 106 yX5_agrees := Or.inl (gd_tbl (ch5 (List.mem_of_getElem? (i := 89) rfl)) rfl)
theorem lkX5_110 : aLk RX5 110 yX1_latest := Or.inl (gd_tbl (ch5 (List.mem_of_getElem? (i := 93) rfl)) rfl)
theorem lkX1_31 : aLk RX1 31 yJ9_max_7cf53 := Or.inl (gd_tbl (ch5 (List.mem_of_getElem? (i := 97) rfl)) rfl)
theorem lmX1_31 : Cond.methodLink RX1 31 Lib.Math.max.name ∈ lw_gd := gd_tbl (ch5 (List.mem_of_getElem? (i := 97) rfl)) rfl
theorem lkX5_116 : aLk RX5 116 yX1_agree := Or.inl (gd_tbl (ch5 (List.mem_of_getElem? (i := 98) rfl)) rfl)
theorem lkX1_37 : aLk RX1 37 yX10_plotIn := Or.inl (gd_tbl (ch5 (List.mem_of_getElem? (i := 102) rfl)) rfl)
theorem lkL_140 : aLk RL 140 yX11_spade := Or.inl (gd_tbl (ch5 (List.mem_of_getElem? (i := 103) rfl)) rfl)
theorem lkX11_307 : aLk RX11 307 yX5_findSpade := Or.inl (gd_tbl (ch5 (List.mem_of_getElem? (i := 107) rfl)) rfl)
theorem lkX5_120 : aLk RX5 120 yX5_seeBehind := Or.inl (gd_tbl (ch5 (List.mem_of_getElem? (i := 111) rfl)) rfl)
theorem lkX5_130 : aLk RX5 130 yX10_plotIn := Or.inl (gd_tbl (ch5 (List.mem_of_getElem? (i := 115) rfl)) rfl)
theorem lkX5_124 : aLk RX5 124 yJ9_max_7cf53 := Or.inl (gd_tbl (ch5 (List.mem_of_getElem? (i := 116) rfl)) rfl)
theorem lmX5_124 : Cond.methodLink RX5 124 Lib.Math.max.name ∈ lw_gd := gd_tbl (ch5 (List.mem_of_getElem? (i := 116) rfl)) rfl
theorem lkL_144 : aLk RL 144 yX11_compare := Or.inl (gd_tbl (ch5 (List.mem_of_getElem? (i := 117) rfl)) rfl)
theorem lkX11_311 : aLk RX11 311 yX5_movedBy := Or.inl (gd_tbl (ch5 (List.mem_of_getElem? (i := 121) rfl)) rfl)
theorem lkL_148 : aLk RL 148 yX11_arrives := Or.inl (gd_tbl (ch5 (List.mem_of_getElem? (i := 125) rfl)) rfl)
theorem lkX11_315 : aLk RX11 315 yX5_chanceOf := Or.inl (gd_tbl (ch5 (List.mem_of_getElem? (i := 129) rfl)) rfl)
theorem cnX5_137 : Cond.constantLong RX5 137 (Int64.ofInt (1000000000000)) ∈ lw_gd := gd_tbl (ch5 (List.mem_of_getElem? (i := 133) rfl)) rfl
theorem cnX5_142 : Cond.constantLong RX5 142 (Int64.ofInt (10)) ∈ lw_gd := gd_tbl (ch5 (List.mem_of_getElem? (i := 134) rfl)) rfl
theorem lkL_153 : aLk RL 153 yX11_round := Or.inl (gd_tbl (ch5 (List.mem_of_getElem? (i := 135) rfl)) rfl)
theorem lkX11_319 : aLk RX11 319 yX5_yearsRound := Or.inl (gd_tbl (ch5 (List.mem_of_getElem? (i := 139) rfl)) rfl)
theorem lkX5_144 : aLk RX5 144 yJ9_floorMod_7cf53 := Or.inl (gd_tbl (ch5 (List.mem_of_getElem? (i := 143) rfl)) rfl)
theorem lkL_157 : aLk RL 157 yX11_centuries := Or.inl (gd_tbl (ch5 (List.mem_of_getElem? (i := 144) rfl)) rfl)
theorem cnX11_323 : Cond.constant RX11 323 (Int32.ofInt (1000000)) ∈ lw_gd := gd_tbl (ch5 (List.mem_of_getElem? (i := 148) rfl)) rfl
theorem lkX11_324 : aLk RX11 324 yX0_run := Or.inl (gd_tbl (ch5 (List.mem_of_getElem? (i := 149) rfl)) rfl)
theorem lkX0_18 : aLk RX0 18 yX10_copyFrom := Or.inl (gd_tbl (ch5 (List.mem_of_getElem? (i := 153) rfl)) rfl)
theorem lkX0_34 : aLk RX0 34 yX0_draw := Or.inl (gd_tbl (ch5 (List.mem_of_getElem? (i := 154) rfl)) rfl)
theorem cnX0_56 : Cond.constantLong RX0 56 (Int64.ofInt (1103)) ∈ lw_gd := gd_tbl (ch5 (List.mem_of_getElem? (i := 158) rfl)) rfl
theorem cnX0_58 : Cond.constantLong RX0 58 (Int64.ofInt (12345)) ∈ lw_gd := gd_tbl (ch5 (List.mem_of_getElem? (i := 159) rfl)) rfl
theorem cnX0_60 : Cond.constantLong RX0 60 (Int64.ofInt (1000003)) ∈ lw_gd := gd_tbl (ch5 (List.mem_of_getElem? (i := 160) rfl)) rfl
theorem lkX0_38 : aLk RX0 38 yX10_age := Or.inl (gd_tbl (ch5 (List.mem_of_getElem? (i := 161) rfl)) rfl)
theorem lkX0_41 : aLk RX0 41 yX10_turnYear := Or.inl (gd_tbl (ch5 (List.mem_of_getElem? (i := 162) rfl)) rfl)
theorem lkX0_44 : aLk RX0 44 yX10_isOpenTo := Or.inl (gd_tbl (ch5 (List.mem_of_getElem? (i := 163) rfl)) rfl)
theorem lkX0_48 : aLk RX0 48 yX10_add := Or.inl (gd_tbl (ch5 (List.mem_of_getElem? (i := 164) rfl)) rfl)
theorem lkL_161 : aLk RL 161 yX11_drawn := Or.inl (gd_tbl (ch5 (List.mem_of_getElem? (i := 165) rfl)) rfl)
theorem lkL_165 : aLk RL 165 yX11_image := Or.inl (gd_tbl (ch5 (List.mem_of_getElem? (i := 169) rfl)) rfl)
theorem lkX11_330 : aLk RX11 330 yX2_keep := Or.inl (gd_tbl (ch5 (List.mem_of_getElem? (i := 173) rfl)) rfl)
theorem lkX2_30 : aLk RX2 30 yX10_copyFrom := Or.inl (gd_tbl (ch5 (List.mem_of_getElem? (i := 177) rfl)) rfl)
theorem lkX2_34 : aLk RX2 34 yX1_copyFrom := Or.inl (gd_tbl (ch5 (List.mem_of_getElem? (i := 178) rfl)) rfl)
theorem lmX1_25 : Cond.methodLink RX1 25 arraycopyName ∈ lw_gd := gd_tbl (ch5 (List.mem_of_getElem? (i := 182) rfl)) rfl
theorem lkX2_37 : aLk RX2 37 yX3_copyFrom := Or.inl (gd_tbl (ch5 (List.mem_of_getElem? (i := 183) rfl)) rfl)
theorem lkX3_25 : aLk RX3 25 yX9_copyFrom := Or.inl (gd_tbl (ch5 (List.mem_of_getElem? (i := 187) rfl)) rfl)
theorem lmX9_44 : Cond.methodLink RX9 44 arraycopyName ∈ lw_gd := gd_tbl (ch5 (List.mem_of_getElem? (i := 191) rfl)) rfl
theorem lkL_169 : aLk RL 169 yX11_back := Or.inl (gd_tbl (ch5 (List.mem_of_getElem? (i := 192) rfl)) rfl)
theorem lkX11_338 : aLk RX11 338 yX2_giveBack := Or.inl (gd_tbl (ch5 (List.mem_of_getElem? (i := 196) rfl)) rfl)
theorem lkL_173 : aLk RL 173 yX11_count := Or.inl (gd_tbl (ch5 (List.mem_of_getElem? (i := 200) rfl)) rfl)
theorem lkX11_341 : aLk RX11 341 yX10_walls := Or.inl (gd_tbl (ch5 (List.mem_of_getElem? (i := 204) rfl)) rfl)
theorem lkX11_344 : aLk RX11 344 yX10_purchases := Or.inl (gd_tbl (ch5 (List.mem_of_getElem? (i := 208) rfl)) rfl)
theorem lkL_177 : aLk RL 177 yX11_status := Or.inl (gd_tbl (ch5 (List.mem_of_getElem? (i := 212) rfl)) rfl)
theorem lkL_12 : aLk RL 12 yX12_init := Or.inl (gd_tbl (ch5 (List.mem_of_getElem? (i := 218) rfl)) rfl)
theorem cnX12_57 : Cond.constantLong RX12 57 (Int64.ofInt (537076)) ∈ lw_gd := gd_tbl (ch5 (List.mem_of_getElem? (i := 222) rfl)) rfl
theorem cnX12_59 : Cond.constantLong RX12 59 (Int64.ofInt (103820)) ∈ lw_gd := gd_tbl (ch5 (List.mem_of_getElem? (i := 223) rfl)) rfl
theorem cnX12_61 : Cond.constantLong RX12 61 (Int64.ofInt (370116)) ∈ lw_gd := gd_tbl (ch5 (List.mem_of_getElem? (i := 224) rfl)) rfl
theorem cnX12_63 : Cond.constantLong RX12 63 (Int64.ofInt (17376357)) ∈ lw_gd := gd_tbl (ch5 (List.mem_of_getElem? (i := 225) rfl)) rfl
theorem cnX12_65 : Cond.constantLong RX12 65 (Int64.ofInt (83533076)) ∈ lw_gd := gd_tbl (ch5 (List.mem_of_getElem? (i := 226) rfl)) rfl
theorem cnX12_67 : Cond.constantLong RX12 67 (Int64.ofInt (202810777)) ∈ lw_gd := gd_tbl (ch5 (List.mem_of_getElem? (i := 227) rfl)) rfl
theorem cnX12_69 : Cond.constantLong RX12 69 (Int64.ofInt (20350348)) ∈ lw_gd := gd_tbl (ch5 (List.mem_of_getElem? (i := 228) rfl)) rfl
theorem cnX12_71 : Cond.constantLong RX12 71 (Int64.ofInt (26379859)) ∈ lw_gd := gd_tbl (ch5 (List.mem_of_getElem? (i := 229) rfl)) rfl
theorem cnX12_73 : Cond.constantLong RX12 73 (Int64.ofInt (824370)) ∈ lw_gd := gd_tbl (ch5 (List.mem_of_getElem? (i := 230) rfl)) rfl
theorem cnX12_75 : Cond.constantLong RX12 75 (Int64.ofInt (441828)) ∈ lw_gd := gd_tbl (ch5 (List.mem_of_getElem? (i := 231) rfl)) rfl
theorem cnX12_81 : Cond.constantLong RX12 81 (Int64.ofInt (17186451)) ∈ lw_gd := gd_tbl (ch5 (List.mem_of_getElem? (i := 232) rfl)) rfl
theorem cnX12_83 : Cond.constantLong RX12 83 (Int64.ofInt (146885)) ∈ lw_gd := gd_tbl (ch5 (List.mem_of_getElem? (i := 233) rfl)) rfl
theorem cnX12_85 : Cond.constantLong RX12 85 (Int64.ofInt (14145700)) ∈ lw_gd := gd_tbl (ch5 (List.mem_of_getElem? (i := 234) rfl)) rfl
theorem cnX12_87 : Cond.constantLong RX12 87 (Int64.ofInt (52)) ∈ lw_gd := gd_tbl (ch5 (List.mem_of_getElem? (i := 235) rfl)) rfl
theorem cnX12_92 : Cond.constantLong RX12 92 (Int64.ofInt (14145715)) ∈ lw_gd := gd_tbl (ch5 (List.mem_of_getElem? (i := 236) rfl)) rfl
theorem cnX12_94 : Cond.constantLong RX12 94 (Int64.ofInt (140531)) ∈ lw_gd := gd_tbl (ch5 (List.mem_of_getElem? (i := 237) rfl)) rfl
theorem cnX12_96 : Cond.constantLong RX12 96 (Int64.ofInt (244915)) ∈ lw_gd := gd_tbl (ch5 (List.mem_of_getElem? (i := 238) rfl)) rfl
theorem cnX12_98 : Cond.constantLong RX12 98 (Int64.ofInt (67155)) ∈ lw_gd := gd_tbl (ch5 (List.mem_of_getElem? (i := 239) rfl)) rfl
theorem cnX12_139 : Cond.constantLong RX12 139 (Int64.ofInt (87641)) ∈ lw_gd := gd_tbl (ch6 (List.mem_of_getElem? (i := 0) rfl)) rfl
theorem cnX12_141 : Cond.constantLong RX12 141 (Int64.ofInt (2745)) ∈ lw_gd := gd_tbl (ch6 (List.mem_of_getElem? (i := 1) rfl)) rfl
theorem cnX12_143 : Cond.constantLong RX12 143 (Int64.ofInt (18916965)) ∈ lw_gd := gd_tbl (ch6 (List.mem_of_getElem? (i := 2) rfl)) rfl
theorem cnX12_145 : Cond.constantLong RX12 145 (Int64.ofInt (525939)) ∈ lw_gd := gd_tbl (ch6 (List.mem_of_getElem? (i := 3) rfl)) rfl
theorem flX12_162 : aFl RX12 162 12 61 0 := ⟨RX12, TX12, ck12, by decide, Or.inl (gd_tbl (ch6 (List.mem_of_getElem? (i := 4) rfl)) rfl)⟩
theorem flX12_165 : aFl RX12 165 12 61 1 := ⟨RX12, TX12, ck12, by decide, Or.inl (gd_tbl (ch6 (List.mem_of_getElem? (i := 5) rfl)) rfl)⟩
theorem flX12_7 : aFl RX12 7 12 61 2 := ⟨RX12, TX12, ck12, by decide, Or.inl (gd_tbl (ch6 (List.mem_of_getElem? (i := 6) rfl)) rfl)⟩
theorem flX12_13 : aFl RX12 13 12 61 3 := ⟨RX12, TX12, ck12, by decide, Or.inl (gd_tbl (ch6 (List.mem_of_getElem? (i := 7) rfl)) rfl)⟩
theorem flX12_16 : aFl RX12 16 12 61 4 := ⟨RX12, TX12, ck12, by decide, Or.inl (gd_tbl (ch6 (List.mem_of_getElem? (i := 8) rfl)) rfl)⟩
theorem flX12_19 : aFl RX12 19 12 61 5 := ⟨RX12, TX12, ck12, by decide, Or.inl (gd_tbl (ch6 (List.mem_of_getElem? (i := 9) rfl)) rfl)⟩
theorem flX12_23 : aFl RX12 23 12 61 6 := ⟨RX12, TX12, ck12, by decide, Or.inl (gd_tbl (ch6 (List.mem_of_getElem? (i := 10) rfl)) rfl)⟩
theorem flX12_26 : aFl RX12 26 12 61 7 := ⟨RX12, TX12, ck12, by decide, Or.inl (gd_tbl (ch6 (List.mem_of_getElem? (i := 11) rfl)) rfl)⟩
theorem flX12_168 : aFl RX12 168 12 61 8 := ⟨RX12, TX12, ck12, by decide, Or.inl (gd_tbl (ch6 (List.mem_of_getElem? (i := 12) rfl)) rfl)⟩
theorem flX12_29 : aFl RX12 29 12 61 9 := ⟨RX12, TX12, ck12, by decide, Or.inl (gd_tbl (ch6 (List.mem_of_getElem? (i := 13) rfl)) rfl)⟩
theorem flX12_32 : aFl RX12 32 12 61 10 := ⟨RX12, TX12, ck12, by decide, Or.inl (gd_tbl (ch6 (List.mem_of_getElem? (i := 14) rfl)) rfl)⟩
theorem flX12_232 : aFl RX12 232 12 61 11 := ⟨RX12, TX12, ck12, by decide, Or.inl (gd_tbl (ch6 (List.mem_of_getElem? (i := 15) rfl)) rfl)⟩
theorem flX12_35 : aFl RX12 35 12 61 12 := ⟨RX12, TX12, ck12, by decide, Or.inl (gd_tbl (ch6 (List.mem_of_getElem? (i := 16) rfl)) rfl)⟩
theorem flX12_229 : aFl RX12 229 12 61 13 := ⟨RX12, TX12, ck12, by decide, Or.inl (gd_tbl (ch6 (List.mem_of_getElem? (i := 17) rfl)) rfl)⟩
theorem flX12_248 : aFl RX12 248 12 61 14 := ⟨RX12, TX12, ck12, by decide, Or.inl (gd_tbl (ch6 (List.mem_of_getElem? (i := 18) rfl)) rfl)⟩
theorem flX12_238 : aFl RX12 238 12 61 15 := ⟨RX12, TX12, ck12, by decide, Or.inl (gd_tbl (ch6 (List.mem_of_getElem? (i := 19) rfl)) rfl)⟩
theorem flX12_261 : aFl RX12 261 12 61 16 := ⟨RX12, TX12, ck12, by decide, Or.inl (gd_tbl (ch6 (List.mem_of_getElem? (i := 20) rfl)) rfl)⟩
theorem flX12_251 : aFl RX12 251 12 61 17 := ⟨RX12, TX12, ck12, by decide, Or.inl (gd_tbl (ch6 (List.mem_of_getElem? (i := 21) rfl)) rfl)⟩
theorem flX12_38 : aFl RX12 38 12 61 18 := ⟨RX12, TX12, ck12, by decide, Or.inl (gd_tbl (ch6 (List.mem_of_getElem? (i := 22) rfl)) rfl)⟩
theorem flX12_241 : aFl RX12 241 12 61 19 := ⟨RX12, TX12, ck12, by decide, Or.inl (gd_tbl (ch6 (List.mem_of_getElem? (i := 23) rfl)) rfl)⟩
theorem flX12_317 : aFl RX12 317 12 61 20 := ⟨RX12, TX12, ck12, by decide, Or.inl (gd_tbl (ch6 (List.mem_of_getElem? (i := 24) rfl)) rfl)⟩
theorem flX12_369 : aFl RX12 369 12 61 21 := ⟨RX12, TX12, ck12, by decide, Or.inl (gd_tbl (ch6 (List.mem_of_getElem? (i := 25) rfl)) rfl)⟩
theorem flX12_42 : aFl RX12 42 12 61 22 := ⟨RX12, TX12, ck12, by decide, Or.inl (gd_tbl (ch6 (List.mem_of_getElem? (i := 26) rfl)) rfl)⟩
theorem flX12_278 : aFl RX12 278 12 61 23 := ⟨RX12, TX12, ck12, by decide, Or.inl (gd_tbl (ch6 (List.mem_of_getElem? (i := 27) rfl)) rfl)⟩
theorem flX12_45 : aFl RX12 45 12 61 24 := ⟨RX12, TX12, ck12, by decide, Or.inl (gd_tbl (ch6 (List.mem_of_getElem? (i := 28) rfl)) rfl)⟩
theorem flX12_48 : aFl RX12 48 12 61 25 := ⟨RX12, TX12, ck12, by decide, Or.inl (gd_tbl (ch6 (List.mem_of_getElem? (i := 29) rfl)) rfl)⟩
theorem flX12_308 : aFl RX12 308 12 61 26 := ⟨RX12, TX12, ck12, by decide, Or.inl (gd_tbl (ch6 (List.mem_of_getElem? (i := 30) rfl)) rfl)⟩
theorem flX12_51 : aFl RX12 51 12 61 27 := ⟨RX12, TX12, ck12, by decide, Or.inl (gd_tbl (ch6 (List.mem_of_getElem? (i := 31) rfl)) rfl)⟩
theorem flX12_54 : aFl RX12 54 12 61 28 := ⟨RX12, TX12, ck12, by decide, Or.inl (gd_tbl (ch6 (List.mem_of_getElem? (i := 32) rfl)) rfl)⟩
theorem flX12_281 : aFl RX12 281 12 61 29 := ⟨RX12, TX12, ck12, by decide, Or.inl (gd_tbl (ch6 (List.mem_of_getElem? (i := 33) rfl)) rfl)⟩
theorem flX12_302 : aFl RX12 302 12 61 30 := ⟨RX12, TX12, ck12, by decide, Or.inl (gd_tbl (ch6 (List.mem_of_getElem? (i := 34) rfl)) rfl)⟩
theorem flX12_77 : aFl RX12 77 12 61 31 := ⟨RX12, TX12, ck12, by decide, Or.inl (gd_tbl (ch6 (List.mem_of_getElem? (i := 35) rfl)) rfl)⟩
theorem flX12_89 : aFl RX12 89 12 61 32 := ⟨RX12, TX12, ck12, by decide, Or.inl (gd_tbl (ch6 (List.mem_of_getElem? (i := 36) rfl)) rfl)⟩
theorem flX12_100 : aFl RX12 100 12 61 33 := ⟨RX12, TX12, ck12, by decide, Or.inl (gd_tbl (ch6 (List.mem_of_getElem? (i := 37) rfl)) rfl)⟩
theorem flX12_392 : aFl RX12 392 12 61 34 := ⟨RX12, TX12, ck12, by decide, Or.inl (gd_tbl (ch6 (List.mem_of_getElem? (i := 38) rfl)) rfl)⟩
theorem flX12_103 : aFl RX12 103 12 61 35 := ⟨RX12, TX12, ck12, by decide, Or.inl (gd_tbl (ch6 (List.mem_of_getElem? (i := 39) rfl)) rfl)⟩
theorem flX12_106 : aFl RX12 106 12 61 36 := ⟨RX12, TX12, ck12, by decide, Or.inl (gd_tbl (ch6 (List.mem_of_getElem? (i := 40) rfl)) rfl)⟩
theorem flX12_109 : aFl RX12 109 12 61 37 := ⟨RX12, TX12, ck12, by decide, Or.inl (gd_tbl (ch6 (List.mem_of_getElem? (i := 41) rfl)) rfl)⟩
theorem flX12_389 : aFl RX12 389 12 61 38 := ⟨RX12, TX12, ck12, by decide, Or.inl (gd_tbl (ch6 (List.mem_of_getElem? (i := 42) rfl)) rfl)⟩
theorem flX12_403 : aFl RX12 403 12 61 39 := ⟨RX12, TX12, ck12, by decide, Or.inl (gd_tbl (ch6 (List.mem_of_getElem? (i := 43) rfl)) rfl)⟩
theorem flX12_409 : aFl RX12 409 12 61 40 := ⟨RX12, TX12, ck12, by decide, Or.inl (gd_tbl (ch6 (List.mem_of_getElem? (i := 44) rfl)) rfl)⟩
theorem flX12_112 : aFl RX12 112 12 61 41 := ⟨RX12, TX12, ck12, by decide, Or.inl (gd_tbl (ch6 (List.mem_of_getElem? (i := 45) rfl)) rfl)⟩
theorem flX12_461 : aFl RX12 461 12 61 42 := ⟨RX12, TX12, ck12, by decide, Or.inl (gd_tbl (ch6 (List.mem_of_getElem? (i := 46) rfl)) rfl)⟩
theorem flX12_473 : aFl RX12 473 12 61 43 := ⟨RX12, TX12, ck12, by decide, Or.inl (gd_tbl (ch6 (List.mem_of_getElem? (i := 47) rfl)) rfl)⟩
theorem flX12_115 : aFl RX12 115 12 61 44 := ⟨RX12, TX12, ck12, by decide, Or.inl (gd_tbl (ch6 (List.mem_of_getElem? (i := 48) rfl)) rfl)⟩
theorem flX12_118 : aFl RX12 118 12 61 45 := ⟨RX12, TX12, ck12, by decide, Or.inl (gd_tbl (ch6 (List.mem_of_getElem? (i := 49) rfl)) rfl)⟩
theorem flX12_121 : aFl RX12 121 12 61 46 := ⟨RX12, TX12, ck12, by decide, Or.inl (gd_tbl (ch6 (List.mem_of_getElem? (i := 50) rfl)) rfl)⟩
theorem flX12_124 : aFl RX12 124 12 61 47 := ⟨RX12, TX12, ck12, by decide, Or.inl (gd_tbl (ch6 (List.mem_of_getElem? (i := 51) rfl)) rfl)⟩
theorem flX12_127 : aFl RX12 127 12 61 48 := ⟨RX12, TX12, ck12, by decide, Or.inl (gd_tbl (ch6 (List.mem_of_getElem? (i := 52) rfl)) rfl)⟩
theorem flX12_130 : aFl RX12 130 12 61 49 := ⟨RX12, TX12, ck12, by decide, Or.inl (gd_tbl (ch6 (List.mem_of_getElem? (i := 53) rfl)) rfl)⟩
theorem flX12_133 : aFl RX12 133 12 61 50 := ⟨RX12, TX12, ck12, by decide, Or.inl (gd_tbl (ch6 (List.mem_of_getElem? (i := 54) rfl)) rfl)⟩
theorem flX12_136 : aFl RX12 136 12 61 51 := ⟨RX12, TX12, ck12, by decide, Or.inl (gd_tbl (ch6 (List.mem_of_getElem? (i := 55) rfl)) rfl)⟩
theorem flX12_147 : aFl RX12 147 12 61 52 := ⟨RX12, TX12, ck12, by decide, Or.inl (gd_tbl (ch6 (List.mem_of_getElem? (i := 56) rfl)) rfl)⟩
theorem flX12_150 : aFl RX12 150 12 61 53 := ⟨RX12, TX12, ck12, by decide, Or.inl (gd_tbl (ch6 (List.mem_of_getElem? (i := 57) rfl)) rfl)⟩
theorem flX12_519 : aFl RX12 519 12 61 54 := ⟨RX12, TX12, ck12, by decide, Or.inl (gd_tbl (ch6 (List.mem_of_getElem? (i := 58) rfl)) rfl)⟩
theorem flX12_522 : aFl RX12 522 12 61 55 := ⟨RX12, TX12, ck12, by decide, Or.inl (gd_tbl (ch6 (List.mem_of_getElem? (i := 59) rfl)) rfl)⟩
theorem flX12_153 : aFl RX12 153 12 61 56 := ⟨RX12, TX12, ck12, by decide, Or.inl (gd_tbl (ch6 (List.mem_of_getElem? (i := 60) rfl)) rfl)⟩
theorem flX12_516 : aFl RX12 516 12 61 57 := ⟨RX12, TX12, ck12, by decide, Or.inl (gd_tbl (ch6 (List.mem_of_getElem? (i := 61) rfl)) rfl)⟩
theorem flX12_540 : aFl RX12 540 12 61 58 := ⟨RX12, TX12, ck12, by decide, Or.inl (gd_tbl (ch6 (List.mem_of_getElem? (i := 62) rfl)) rfl)⟩
theorem flX12_156 : aFl RX12 156 12 61 59 := ⟨RX12, TX12, ck12, by decide, Or.inl (gd_tbl (ch6 (List.mem_of_getElem? (i := 63) rfl)) rfl)⟩
theorem flX12_159 : aFl RX12 159 12 61 60 := ⟨RX12, TX12, ck12, by decide, Or.inl (gd_tbl (ch6 (List.mem_of_getElem? (i := 64) rfl)) rfl)⟩
theorem lkL_101 : aLk RL 101 yX12_undo := Or.inl (gd_tbl (ch6 (List.mem_of_getElem? (i := 189) rfl)) rfl)
theorem lkX12_175 : aLk RX12 175 yX12_tell := Or.inl (gd_tbl (ch6 (List.mem_of_getElem? (i := 193) rfl)) rfl)
theorem lkX12_179 : aLk RX12 179 yX12_putBack := Or.inl (gd_tbl (ch6 (List.mem_of_getElem? (i := 197) rfl)) rfl)
theorem lkL_168 : aLk RL 168 yX12_image := Or.inl (gd_tbl (ch6 (List.mem_of_getElem? (i := 201) rfl)) rfl)
theorem lkX12_182 : aLk RX12 182 yX12_in := Or.inl (gd_tbl (ch6 (List.mem_of_getElem? (i := 205) rfl)) rfl)
theorem lkL_172 : aLk RL 172 yX12_back := Or.inl (gd_tbl (ch6 (List.mem_of_getElem? (i := 208) rfl)) rfl)
theorem lkL_17 : aLk RL 17 yX12_put := Or.inl (gd_tbl (ch6 (List.mem_of_getElem? (i := 212) rfl)) rfl)
theorem lkX12_192 : aLk RX12 192 yX12_isCell := Or.inl (gd_tbl (ch6 (List.mem_of_getElem? (i := 216) rfl)) rfl)
theorem cnX12_186 : Cond.constantLong RX12 186 (Int64.ofInt (31)) ∈ lw_gd := gd_tbl (ch6 (List.mem_of_getElem? (i := 219) rfl)) rfl
theorem lkX12_196 : aLk RX12 196 yX12_canBe := Or.inl (gd_tbl (ch6 (List.mem_of_getElem? (i := 220) rfl)) rfl)
theorem cnX12_188 : Cond.constantLong RX12 188 (Int64.ofInt (3)) ∈ lw_gd := gd_tbl (ch6 (List.mem_of_getElem? (i := 223) rfl)) rfl
theorem cnX12_190 : Cond.constantLong RX12 190 (Int64.ofInt (99)) ∈ lw_gd := gd_tbl (ch6 (List.mem_of_getElem? (i := 224) rfl)) rfl
theorem lkX12_200 : aLk RX12 200 yX12_isSolid := Or.inl (gd_tbl (ch6 (List.mem_of_getElem? (i := 225) rfl)) rfl)
theorem lkX12_203 : aLk RX12 203 yX12_plotIn := Or.inl (gd_tbl (ch6 (List.mem_of_getElem? (i := 228) rfl)) rfl)
theorem lkX12_206 : aLk RX12 206 yX12_setKind := Or.inl (gd_tbl (ch6 (List.mem_of_getElem? (i := 232) rfl)) rfl)
theorem lkX12_210 : aLk RX12 210 yX12_change := Or.inl (gd_tbl (ch6 (List.mem_of_getElem? (i := 236) rfl)) rfl)
theorem lkL_22 : aLk RL 22 yX12_at := Or.inl (gd_tbl (ch7 (List.mem_of_getElem? (i := 0) rfl)) rfl)
theorem lkL_26 : aLk RL 26 yX12_of := Or.inl (gd_tbl (ch7 (List.mem_of_getElem? (i := 4) rfl)) rfl)
theorem lkX12_214 : aLk RX12 214 yX12_isPlot := Or.inl (gd_tbl (ch7 (List.mem_of_getElem? (i := 8) rfl)) rfl)
theorem lkX12_217 : aLk RX12 217 yX12_movesOf := Or.inl (gd_tbl (ch7 (List.mem_of_getElem? (i := 12) rfl)) rfl)
theorem lkX12_418 : aLk RX12 418 yX12_tells := Or.inl (gd_tbl (ch7 (List.mem_of_getElem? (i := 16) rfl)) rfl)
theorem cnX12_268 : Cond.constantLong RX12 268 (Int64.ofInt (-1)) ∈ lw_gd := gd_tbl (ch7 (List.mem_of_getElem? (i := 20) rfl)) rfl
theorem lkX12_412 : aLk RX12 412 yX12_term := Or.inl (gd_tbl (ch7 (List.mem_of_getElem? (i := 21) rfl)) rfl)
theorem lkX12_415 : aLk RX12 415 yX12_isSo := Or.inl (gd_tbl (ch7 (List.mem_of_getElem? (i := 25) rfl)) rfl)
theorem lkX12_406 : aLk RX12 406 yX12_reckonAll := Or.inl (gd_tbl (ch7 (List.mem_of_getElem? (i := 29) rfl)) rfl)
theorem lkX12_395 : aLk RX12 395 yX12_reckon := Or.inl (gd_tbl (ch7 (List.mem_of_getElem? (i := 33) rfl)) rfl)
theorem cnX12_399 : Cond.constantLong RX12 399 (Int64.ofInt (-1000000000)) ∈ lw_gd := gd_tbl (ch7 (List.mem_of_getElem? (i := 37) rfl)) rfl
theorem cnX12_401 : Cond.constantLong RX12 401 (Int64.ofInt (1000000000)) ∈ lw_gd := gd_tbl (ch7 (List.mem_of_getElem? (i := 38) rfl)) rfl
theorem lkX12_422 : aLk RX12 422 yX12_within := Or.inl (gd_tbl (ch7 (List.mem_of_getElem? (i := 39) rfl)) rfl)
theorem lkX12_220 : aLk RX12 220 yX12_digsOf := Or.inl (gd_tbl (ch7 (List.mem_of_getElem? (i := 42) rfl)) rfl)
theorem cnX12_426 : Cond.constantLong RX12 426 (Int64.ofInt (2)) ∈ lw_gd := gd_tbl (ch7 (List.mem_of_getElem? (i := 46) rfl)) rfl
theorem cnX12_428 : Cond.constantLong RX12 428 (Int64.ofInt (4)) ∈ lw_gd := gd_tbl (ch7 (List.mem_of_getElem? (i := 47) rfl)) rfl
theorem lkL_38 : aLk RL 38 yX12_terms := Or.inl (gd_tbl (ch7 (List.mem_of_getElem? (i := 48) rfl)) rfl)
theorem cnX12_223 : Cond.constantLong RX12 223 (Int64.ofInt (999)) ∈ lw_gd := gd_tbl (ch7 (List.mem_of_getElem? (i := 52) rfl)) rfl
theorem cnX12_225 : Cond.constantLong RX12 225 (Int64.ofInt (10)) ∈ lw_gd := gd_tbl (ch7 (List.mem_of_getElem? (i := 53) rfl)) rfl
theorem cnX12_227 : Cond.constantLong RX12 227 (Int64.ofInt (9)) ∈ lw_gd := gd_tbl (ch7 (List.mem_of_getElem? (i := 54) rfl)) rfl
theorem lkL_53 : aLk RL 53 yX12_row := Or.inl (gd_tbl (ch7 (List.mem_of_getElem? (i := 55) rfl)) rfl)
theorem lkL_57 : aLk RL 57 yX12_moles := Or.inl (gd_tbl (ch7 (List.mem_of_getElem? (i := 59) rfl)) rfl)
theorem lkL_43 : aLk RL 43 yX12_feed := Or.inl (gd_tbl (ch7 (List.mem_of_getElem? (i := 63) rfl)) rfl)
theorem lkX12_235 : aLk RX12 235 yX12_four := Or.inl (gd_tbl (ch7 (List.mem_of_getElem? (i := 67) rfl)) rfl)
theorem lkL_48 : aLk RL 48 yX12_end := Or.inl (gd_tbl (ch7 (List.mem_of_getElem? (i := 71) rfl)) rfl)
theorem lkL_69 : aLk RL 69 yX12_fault := Or.inl (gd_tbl (ch7 (List.mem_of_getElem? (i := 75) rfl)) rfl)
theorem lkL_61 : aLk RL 61 yX12_law := Or.inl (gd_tbl (ch7 (List.mem_of_getElem? (i := 79) rfl)) rfl)
theorem lkX12_377 : aLk RX12 377 yX12_beginText := Or.inl (gd_tbl (ch7 (List.mem_of_getElem? (i := 83) rfl)) rfl)
theorem lkX12_366 : aLk RX12 366 yX12_begin := Or.inl (gd_tbl (ch7 (List.mem_of_getElem? (i := 87) rfl)) rfl)
theorem lkX12_245 : aLk RX12 245 yX12_next := Or.inl (gd_tbl (ch7 (List.mem_of_getElem? (i := 91) rfl)) rfl)
theorem lkX12_255 : aLk RX12 255 yX12_isSmall := Or.inl (gd_tbl (ch7 (List.mem_of_getElem? (i := 95) rfl)) rfl)
theorem lkX12_258 : aLk RX12 258 yX12_isDigit := Or.inl (gd_tbl (ch7 (List.mem_of_getElem? (i := 98) rfl)) rfl)
theorem cnX12_264 : Cond.constantLong RX12 264 (Int64.ofInt (32)) ∈ lw_gd := gd_tbl (ch7 (List.mem_of_getElem? (i := 101) rfl)) rfl
theorem cnX12_266 : Cond.constantLong RX12 266 (Int64.ofInt (96)) ∈ lw_gd := gd_tbl (ch7 (List.mem_of_getElem? (i := 102) rfl)) rfl
theorem cnX12_270 : Cond.constantLong RX12 270 (Int64.ofInt (1000000)) ∈ lw_gd := gd_tbl (ch7 (List.mem_of_getElem? (i := 103) rfl)) rfl
theorem cnX12_272 : Cond.constantLong RX12 272 (Int64.ofInt (48)) ∈ lw_gd := gd_tbl (ch7 (List.mem_of_getElem? (i := 104) rfl)) rfl
theorem lkX12_380 : aLk RX12 380 yX12_readLaw := Or.inl (gd_tbl (ch7 (List.mem_of_getElem? (i := 105) rfl)) rfl)
theorem lkX12_298 : aLk RX12 298 yX12_isWord := Or.inl (gd_tbl (ch7 (List.mem_of_getElem? (i := 109) rfl)) rfl)
theorem lkX12_274 : aLk RX12 274 yX12_must := Or.inl (gd_tbl (ch7 (List.mem_of_getElem? (i := 113) rfl)) rfl)
theorem lkX12_372 : aLk RX12 372 yX12_readExpression := Or.inl (gd_tbl (ch7 (List.mem_of_getElem? (i := 117) rfl)) rfl)
theorem lkX12_356 : aLk RX12 356 yX12_readPlain := Or.inl (gd_tbl (ch7 (List.mem_of_getElem? (i := 121) rfl)) rfl)
theorem cnX12_337 : Cond.constantLong RX12 337 (Int64.ofInt (14836)) ∈ lw_gd := gd_tbl (ch7 (List.mem_of_getElem? (i := 125) rfl)) rfl
theorem lkX12_305 : aLk RX12 305 yX12_push := Or.inl (gd_tbl (ch7 (List.mem_of_getElem? (i := 126) rfl)) rfl)
theorem lkX12_311 : aLk RX12 311 yX12_isSign := Or.inl (gd_tbl (ch7 (List.mem_of_getElem? (i := 130) rfl)) rfl)
theorem lkX12_314 : aLk RX12 314 yX12_openBracket := Or.inl (gd_tbl (ch7 (List.mem_of_getElem? (i := 134) rfl)) rfl)
theorem lkX12_339 : aLk RX12 339 yX12_readPart := Or.inl (gd_tbl (ch7 (List.mem_of_getElem? (i := 138) rfl)) rfl)
theorem lkX12_320 : aLk RX12 320 yX12_orderPartAt := Or.inl (gd_tbl (ch7 (List.mem_of_getElem? (i := 142) rfl)) rfl)
theorem lkX12_324 : aLk RX12 324 yX12_partAt := Or.inl (gd_tbl (ch7 (List.mem_of_getElem? (i := 146) rfl)) rfl)
theorem cnX12_327 : Cond.constantLong RX12 327 (Int64.ofInt (1000)) ∈ lw_gd := gd_tbl (ch7 (List.mem_of_getElem? (i := 150) rfl)) rfl
theorem lkX12_329 : aLk RX12 329 yX12_leaf := Or.inl (gd_tbl (ch7 (List.mem_of_getElem? (i := 151) rfl)) rfl)
theorem lkX12_287 : aLk RX12 287 yX12_emit := Or.inl (gd_tbl (ch7 (List.mem_of_getElem? (i := 155) rfl)) rfl)
theorem lkX12_333 : aLk RX12 333 yX12_number := Or.inl (gd_tbl (ch7 (List.mem_of_getElem? (i := 159) rfl)) rfl)
theorem lkX12_359 : aLk RX12 359 yX12_behindSum := Or.inl (gd_tbl (ch7 (List.mem_of_getElem? (i := 163) rfl)) rfl)
theorem lkX12_284 : aLk RX12 284 yX12_binds := Or.inl (gd_tbl (ch7 (List.mem_of_getElem? (i := 167) rfl)) rfl)
theorem lkX12_342 : aLk RX12 342 yX12_settle := Or.inl (gd_tbl (ch7 (List.mem_of_getElem? (i := 170) rfl)) rfl)
theorem lkX12_345 : aLk RX12 345 yX12_inner := Or.inl (gd_tbl (ch7 (List.mem_of_getElem? (i := 174) rfl)) rfl)
theorem lkX12_348 : aLk RX12 348 yX12_isCompared := Or.inl (gd_tbl (ch7 (List.mem_of_getElem? (i := 178) rfl)) rfl)
theorem cnX12_290 : Cond.constantLong RX12 290 (Int64.ofInt (20)) ∈ lw_gd := gd_tbl (ch7 (List.mem_of_getElem? (i := 182) rfl)) rfl
theorem cnX12_292 : Cond.constantLong RX12 292 (Int64.ofInt (24)) ∈ lw_gd := gd_tbl (ch7 (List.mem_of_getElem? (i := 183) rfl)) rfl
theorem cnX12_294 : Cond.constantLong RX12 294 (Int64.ofInt (25)) ∈ lw_gd := gd_tbl (ch7 (List.mem_of_getElem? (i := 184) rfl)) rfl
theorem cnX12_296 : Cond.constantLong RX12 296 (Int64.ofInt (27)) ∈ lw_gd := gd_tbl (ch7 (List.mem_of_getElem? (i := 185) rfl)) rfl
theorem lkX12_363 : aLk RX12 363 yX12_behindTest := Or.inl (gd_tbl (ch7 (List.mem_of_getElem? (i := 186) rfl)) rfl)
theorem cnX12_352 : Cond.constantLong RX12 352 (Int64.ofInt (1476)) ∈ lw_gd := gd_tbl (ch7 (List.mem_of_getElem? (i := 190) rfl)) rfl
theorem cnX12_354 : Cond.constantLong RX12 354 (Int64.ofInt (498)) ∈ lw_gd := gd_tbl (ch7 (List.mem_of_getElem? (i := 191) rfl)) rfl
theorem cnX12_375 : Cond.constantLong RX12 375 (Int64.ofInt (294)) ∈ lw_gd := gd_tbl (ch7 (List.mem_of_getElem? (i := 192) rfl)) rfl
theorem lkX12_383 : aLk RX12 383 yX12_endText := Or.inl (gd_tbl (ch7 (List.mem_of_getElem? (i := 193) rfl)) rfl)
theorem lkL_77 : aLk RL 77 yX12_force := Or.inl (gd_tbl (ch7 (List.mem_of_getElem? (i := 197) rfl)) rfl)
theorem lkX12_386 : aLk RX12 386 yX12_isLaw := Or.inl (gd_tbl (ch7 (List.mem_of_getElem? (i := 201) rfl)) rfl)
theorem lkL_30 : aLk RL 30 yX12_goes := Or.inl (gd_tbl (ch7 (List.mem_of_getElem? (i := 205) rfl)) rfl)
theorem lkX12_433 : aLk RX12 433 yX12_canGo := Or.inl (gd_tbl (ch7 (List.mem_of_getElem? (i := 209) rfl)) rfl)
theorem lkX12_430 : aLk RX12 430 yX12_tellsGoing := Or.inl (gd_tbl (ch7 (List.mem_of_getElem? (i := 213) rfl)) rfl)
theorem lkL_34 : aLk RL 34 yX12_barred := Or.inl (gd_tbl (ch7 (List.mem_of_getElem? (i := 217) rfl)) rfl)
theorem cnX12_436 : Cond.constantLong RX12 436 (Int64.ofInt (5)) ∈ lw_gd := gd_tbl (ch7 (List.mem_of_getElem? (i := 221) rfl)) rfl
theorem lkX12_438 : aLk RX12 438 yX12_isBarred := Or.inl (gd_tbl (ch7 (List.mem_of_getElem? (i := 222) rfl)) rfl)
theorem lkL_81 : aLk RL 81 yX12_bury := Or.inl (gd_tbl (ch7 (List.mem_of_getElem? (i := 226) rfl)) rfl)
theorem lkX12_451 : aLk RX12 451 yX12_buryNow := Or.inl (gd_tbl (ch7 (List.mem_of_getElem? (i := 230) rfl)) rfl)
theorem lkX12_441 : aLk RX12 441 yX12_canLie := Or.inl (gd_tbl (ch7 (List.mem_of_getElem? (i := 234) rfl)) rfl)
theorem lkX12_444 : aLk RX12 444 yX12_remember := Or.inl (gd_tbl (ch7 (List.mem_of_getElem? (i := 238) rfl)) rfl)
theorem lkX12_171 : aLk RX12 171 yX12_keepAll := Or.inl (gd_tbl (ch8 (List.mem_of_getElem? (i := 2) rfl)) rfl)
theorem lkX12_447 : aLk RX12 447 yX12_lay := Or.inl (gd_tbl (ch8 (List.mem_of_getElem? (i := 6) rfl)) rfl)
theorem lkL_85 : aLk RL 85 yX12_buy := Or.inl (gd_tbl (ch8 (List.mem_of_getElem? (i := 10) rfl)) rfl)
theorem lkX12_455 : aLk RX12 455 yX12_buyNow := Or.inl (gd_tbl (ch8 (List.mem_of_getElem? (i := 14) rfl)) rfl)
theorem lkL_89 : aLk RL 89 yX12_raise := Or.inl (gd_tbl (ch8 (List.mem_of_getElem? (i := 18) rfl)) rfl)
theorem lkX12_458 : aLk RX12 458 yX12_raiseNow := Or.inl (gd_tbl (ch8 (List.mem_of_getElem? (i := 22) rfl)) rfl)
theorem lkL_93 : aLk RL 93 yX12_pass := Or.inl (gd_tbl (ch8 (List.mem_of_getElem? (i := 26) rfl)) rfl)
theorem lkX12_476 : aLk RX12 476 yX12_passNow := Or.inl (gd_tbl (ch8 (List.mem_of_getElem? (i := 30) rfl)) rfl)
theorem lkX12_470 : aLk RX12 470 yX12_passIt := Or.inl (gd_tbl (ch8 (List.mem_of_getElem? (i := 34) rfl)) rfl)
theorem lkX12_464 : aLk RX12 464 yX12_move := Or.inl (gd_tbl (ch8 (List.mem_of_getElem? (i := 38) rfl)) rfl)
theorem lkX12_467 : aLk RX12 467 yX12_age := Or.inl (gd_tbl (ch8 (List.mem_of_getElem? (i := 42) rfl)) rfl)
theorem lkL_97 : aLk RL 97 yX12_blocked := Or.inl (gd_tbl (ch8 (List.mem_of_getElem? (i := 46) rfl)) rfl)
theorem lkL_105 : aLk RL 105 yX12_where := Or.inl (gd_tbl (ch8 (List.mem_of_getElem? (i := 50) rfl)) rfl)
theorem cnX12_479 : Cond.constantLong RX12 479 (Int64.ofInt (100)) ∈ lw_gd := gd_tbl (ch8 (List.mem_of_getElem? (i := 54) rfl)) rfl
theorem lkL_109 : aLk RL 109 yX12_indoors := Or.inl (gd_tbl (ch8 (List.mem_of_getElem? (i := 55) rfl)) rfl)
theorem lkX12_481 : aLk RX12 481 yX12_isIndoors := Or.inl (gd_tbl (ch8 (List.mem_of_getElem? (i := 59) rfl)) rfl)
theorem lkL_114 : aLk RL 114 yX12_ways := Or.inl (gd_tbl (ch8 (List.mem_of_getElem? (i := 63) rfl)) rfl)
theorem cnX12_485 : Cond.constantLong RX12 485 (Int64.ofInt (30)) ∈ lw_gd := gd_tbl (ch8 (List.mem_of_getElem? (i := 67) rfl)) rfl
theorem cnX12_484 : Cond.constant RX12 484 (Int32.ofInt (100000000)) ∈ lw_gd := gd_tbl (ch8 (List.mem_of_getElem? (i := 68) rfl)) rfl
theorem lkX12_487 : aLk RX12 487 yX12_yearIn := Or.inl (gd_tbl (ch8 (List.mem_of_getElem? (i := 69) rfl)) rfl)
theorem lkL_156 : aLk RL 156 yX12_round := Or.inl (gd_tbl (ch8 (List.mem_of_getElem? (i := 73) rfl)) rfl)
theorem lkL_147 : aLk RL 147 yX12_compare := Or.inl (gd_tbl (ch8 (List.mem_of_getElem? (i := 77) rfl)) rfl)
theorem cnX12_490 : Cond.constantLong RX12 490 (Int64.ofInt (60)) ∈ lw_gd := gd_tbl (ch8 (List.mem_of_getElem? (i := 81) rfl)) rfl
theorem lkL_152 : aLk RL 152 yX12_arrives := Or.inl (gd_tbl (ch8 (List.mem_of_getElem? (i := 82) rfl)) rfl)
theorem cnX12_492 : Cond.constantLong RX12 492 (Int64.ofInt (40)) ∈ lw_gd := gd_tbl (ch8 (List.mem_of_getElem? (i := 86) rfl)) rfl
theorem cnX12_494 : Cond.constantLong RX12 494 (Int64.ofInt (1000000000000)) ∈ lw_gd := gd_tbl (ch8 (List.mem_of_getElem? (i := 87) rfl)) rfl
theorem lkL_118 : aLk RL 118 yX12_packed := Or.inl (gd_tbl (ch8 (List.mem_of_getElem? (i := 88) rfl)) rfl)
theorem lkX12_496 : aLk RX12 496 yX12_isPacked := Or.inl (gd_tbl (ch8 (List.mem_of_getElem? (i := 92) rfl)) rfl)
theorem lkL_122 : aLk RL 122 yX12_meets := Or.inl (gd_tbl (ch8 (List.mem_of_getElem? (i := 96) rfl)) rfl)
theorem lkX12_502 : aLk RX12 502 yX12_noteBeside := Or.inl (gd_tbl (ch8 (List.mem_of_getElem? (i := 100) rfl)) rfl)
theorem lkX12_499 : aLk RX12 499 yX12_areBeside := Or.inl (gd_tbl (ch8 (List.mem_of_getElem? (i := 104) rfl)) rfl)
theorem lkL_127 : aLk RL 127 yX12_meet := Or.inl (gd_tbl (ch8 (List.mem_of_getElem? (i := 108) rfl)) rfl)
theorem lkL_131 : aLk RL 131 yX12_find := Or.inl (gd_tbl (ch8 (List.mem_of_getElem? (i := 112) rfl)) rfl)
theorem lkL_135 : aLk RL 135 yX12_forget := Or.inl (gd_tbl (ch8 (List.mem_of_getElem? (i := 116) rfl)) rfl)
theorem lkL_139 : aLk RL 139 yX12_hidden := Or.inl (gd_tbl (ch8 (List.mem_of_getElem? (i := 120) rfl)) rfl)
theorem lkX12_508 : aLk RX12 508 yX12_isHidden := Or.inl (gd_tbl (ch8 (List.mem_of_getElem? (i := 124) rfl)) rfl)
theorem lkX12_505 : aLk RX12 505 yX12_isAsFound := Or.inl (gd_tbl (ch8 (List.mem_of_getElem? (i := 128) rfl)) rfl)
theorem lkL_143 : aLk RL 143 yX12_spade := Or.inl (gd_tbl (ch8 (List.mem_of_getElem? (i := 132) rfl)) rfl)
theorem lkL_65 : aLk RL 65 yX12_orders := Or.inl (gd_tbl (ch8 (List.mem_of_getElem? (i := 136) rfl)) rfl)
theorem lkX12_531 : aLk RX12 531 yX12_readOrder := Or.inl (gd_tbl (ch8 (List.mem_of_getElem? (i := 140) rfl)) rfl)
theorem lkX12_511 : aLk RX12 511 yX12_readSum := Or.inl (gd_tbl (ch8 (List.mem_of_getElem? (i := 144) rfl)) rfl)
theorem cnX12_514 : Cond.constantLong RX12 514 (Int64.ofInt (21279923)) ∈ lw_gd := gd_tbl (ch8 (List.mem_of_getElem? (i := 148) rfl)) rfl
theorem lkX12_534 : aLk RX12 534 yX12_run := Or.inl (gd_tbl (ch8 (List.mem_of_getElem? (i := 149) rfl)) rfl)
theorem lkX12_525 : aLk RX12 525 yX12_sumOf := Or.inl (gd_tbl (ch8 (List.mem_of_getElem? (i := 153) rfl)) rfl)
theorem lkX12_528 : aLk RX12 528 yX12_act := Or.inl (gd_tbl (ch8 (List.mem_of_getElem? (i := 157) rfl)) rfl)
theorem lkX12_537 : aLk RX12 537 yX12_giveBack := Or.inl (gd_tbl (ch8 (List.mem_of_getElem? (i := 161) rfl)) rfl)
theorem lkL_73 : aLk RL 73 yX12_stopped := Or.inl (gd_tbl (ch8 (List.mem_of_getElem? (i := 165) rfl)) rfl)
theorem lkL_160 : aLk RL 160 yX12_centuries := Or.inl (gd_tbl (ch8 (List.mem_of_getElem? (i := 169) rfl)) rfl)
theorem lkX12_549 : aLk RX12 549 yX12_draw := Or.inl (gd_tbl (ch8 (List.mem_of_getElem? (i := 173) rfl)) rfl)
theorem cnX12_543 : Cond.constantLong RX12 543 (Int64.ofInt (1103)) ∈ lw_gd := gd_tbl (ch8 (List.mem_of_getElem? (i := 177) rfl)) rfl
theorem cnX12_545 : Cond.constantLong RX12 545 (Int64.ofInt (12345)) ∈ lw_gd := gd_tbl (ch8 (List.mem_of_getElem? (i := 178) rfl)) rfl
theorem cnX12_547 : Cond.constantLong RX12 547 (Int64.ofInt (1000003)) ∈ lw_gd := gd_tbl (ch8 (List.mem_of_getElem? (i := 179) rfl)) rfl
theorem lkL_164 : aLk RL 164 yX12_drawn := Or.inl (gd_tbl (ch8 (List.mem_of_getElem? (i := 180) rfl)) rfl)
theorem lkL_176 : aLk RL 176 yX12_count := Or.inl (gd_tbl (ch8 (List.mem_of_getElem? (i := 184) rfl)) rfl)
theorem lkX12_552 : aLk RX12 552 yX12_cellsOf := Or.inl (gd_tbl (ch8 (List.mem_of_getElem? (i := 188) rfl)) rfl)
theorem cnX12_555 : Cond.constantLong RX12 555 (Int64.ofInt (13)) ∈ lw_gd := gd_tbl (ch8 (List.mem_of_getElem? (i := 192) rfl)) rfl
theorem cnX12_557 : Cond.constantLong RX12 557 (Int64.ofInt (16)) ∈ lw_gd := gd_tbl (ch8 (List.mem_of_getElem? (i := 193) rfl)) rfl
theorem lkL_180 : aLk RL 180 yX12_status := Or.inl (gd_tbl (ch8 (List.mem_of_getElem? (i := 194) rfl)) rfl)
theorem cM_max : Cond.code Lib.Math.max.name Lib.Math.max.code 2 (some .int) ∈ lw_gd := gd_tbl (ch3 (List.mem_of_getElem? (i := 52) rfl)) rfl
theorem sM_max : Cond.static Lib.Math.max.name ∈ lw_gd := gd_tbl (ch3 (List.mem_of_getElem? (i := 51) rfl)) rfl
theorem cM_min : Cond.code Lib.Math.min.name Lib.Math.min.code 2 (some .int) ∈ lw_gd := gd_tbl (ch3 (List.mem_of_getElem? (i := 36) rfl)) rfl
theorem sM_min : Cond.static Lib.Math.min.name ∈ lw_gd := gd_tbl (ch3 (List.mem_of_getElem? (i := 35) rfl)) rfl
theorem iM : Cond.initialized "java/lang/Math" ∈ lw_gd := gd_tbl (ch1 (List.mem_of_getElem? (i := 14) rfl)) rfl
theorem nC : Cond.native arraycopyName ∈ lw_gd := gd_tbl (ch4 (List.mem_of_getElem? (i := 91) rfl)) rfl
theorem sC : Cond.static arraycopyName ∈ lw_gd := gd_tbl (ch4 (List.mem_of_getElem? (i := 90) rfl)) rfl
theorem iC : Cond.initialized "java/lang/System" ∈ lw_gd := gd_tbl (ch1 (List.mem_of_getElem? (i := 20) rfl)) rfl
