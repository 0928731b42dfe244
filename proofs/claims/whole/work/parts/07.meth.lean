theorem in_X0 : Cond.initialized RX0 ∈ lw_g := lw_gm (List.mem_of_getElem? (i := 61) rfl) rfl
theorem in_X1 : Cond.initialized RX1 ∈ lw_g := lw_gm (List.mem_of_getElem? (i := 56) rfl) rfl
theorem in_X2 : Cond.initialized RX2 ∈ lw_g := lw_gm (List.mem_of_getElem? (i := 53) rfl) rfl
theorem in_X3 : Cond.initialized RX3 ∈ lw_g := lw_gm (List.mem_of_getElem? (i := 55) rfl) rfl
theorem in_X4 : Cond.initialized RX4 ∈ lw_g := lw_gm (List.mem_of_getElem? (i := 58) rfl) rfl
theorem in_X5 : Cond.initialized RX5 ∈ lw_g := lw_gm (List.mem_of_getElem? (i := 52) rfl) rfl
theorem in_X6 : Cond.initialized RX6 ∈ lw_g := lw_gm (List.mem_of_getElem? (i := 54) rfl) rfl
theorem in_X7 : Cond.initialized RX7 ∈ lw_g := lw_gm (List.mem_of_getElem? (i := 51) rfl) rfl
theorem in_X8 : Cond.initialized RX8 ∈ lw_g := lw_gm (List.mem_of_getElem? (i := 59) rfl) rfl
theorem in_J6 : Cond.initialized RJ6 ∈ lw_g := lw_gm (List.mem_of_getElem? (i := 62) rfl) rfl
theorem in_J9 : Cond.initialized RJ9 ∈ lw_g := lw_gm (List.mem_of_getElem? (i := 60) rfl) rfl
theorem in_J7 : Cond.initialized RJ7 ∈ lw_g := lw_gm (List.mem_of_getElem? (i := 57) rfl) rfl
theorem in_L : Cond.initialized RL ∈ lw_g := lw_gm (List.mem_of_getElem? (i := 50) rfl) rfl
set_option maxRecDepth 20000 in
theorem ckX0 : ClsOk 0 RX0 TX0 5 tyX0 := ⟨rfl, by decide, rfl, by decide +kernel, tyX0_ok, nmX0, by decide +kernel⟩
set_option maxRecDepth 20000 in
theorem ckX1 : ClsOk 1 RX1 TX1 3 tyX1 := ⟨rfl, by decide, rfl, by decide +kernel, tyX1_ok, nmX1, by decide +kernel⟩
set_option maxRecDepth 20000 in
theorem ckX2 : ClsOk 2 RX2 TX2 6 tyX2 := ⟨rfl, by decide, rfl, by decide +kernel, tyX2_ok, nmX2, by decide +kernel⟩
set_option maxRecDepth 20000 in
theorem ckX3 : ClsOk 3 RX3 TX3 1 tyX3 := ⟨rfl, by decide, rfl, by decide +kernel, tyX3_ok, nmX3, by decide +kernel⟩
set_option maxRecDepth 20000 in
theorem ckX4 : ClsOk 4 RX4 TX4 9 tyX4 := ⟨rfl, by decide, rfl, by decide +kernel, tyX4_ok, nmX4, by decide +kernel⟩
set_option maxRecDepth 20000 in
theorem ckX5 : ClsOk 5 RX5 TX5 4 tyX5 := ⟨rfl, by decide, rfl, by decide +kernel, tyX5_ok, nmX5, by decide +kernel⟩
set_option maxRecDepth 20000 in
theorem ckX6 : ClsOk 6 RX6 TX6 4 tyX6 := ⟨rfl, by decide, rfl, by decide +kernel, tyX6_ok, nmX6, by decide +kernel⟩
set_option maxRecDepth 20000 in
theorem ckX7 : ClsOk 7 RX7 TX7 10 tyX7 := ⟨rfl, by decide, rfl, by decide +kernel, tyX7_ok, nmX7, by decide +kernel⟩
set_option maxRecDepth 20000 in
theorem ckX8 : ClsOk 8 RX8 TX8 34 tyX8 := ⟨rfl, by decide, rfl, by decide +kernel, tyX8_ok, nmX8, by decide +kernel⟩
abbrev mX0_init : MD := (yX0_init, cX0_init, 5, none)
theorem okX0_init : MOk mX0_init 4 := ⟨lw_gm (List.mem_of_getElem? (i := 376) rfl) rfl, in_X0, by decide +kernel, by decide⟩
theorem imX0_init : Cond.instanceMethod yX0_init ∈ lw_g := lw_gm (List.mem_of_getElem? (i := 375) rfl) rfl
abbrev mX1_init : MD := (yX1_init, cX1_init, 1, none)
theorem okX1_init : MOk mX1_init 0 := ⟨lw_gm (List.mem_of_getElem? (i := 156) rfl) rfl, in_X1, by decide +kernel, by decide⟩
theorem imX1_init : Cond.instanceMethod yX1_init ∈ lw_g := lw_gm (List.mem_of_getElem? (i := 155) rfl) rfl
abbrev mX1_admits : MD := (yX1_admits, cX1_admits, 3, some FieldType.boolean)
set_option maxRecDepth 20000 in
theorem okX1_admits : MOk mX1_admits 1 := ⟨lw_gm (List.mem_of_getElem? (i := 423) rfl) rfl, in_X1, by decide +kernel, by decide⟩
set_option maxRecDepth 20000 in
theorem imX1_admits : Cond.instanceMethod yX1_admits ∈ lw_g := lw_gm (List.mem_of_getElem? (i := 421) rfl) rfl
set_option maxRecDepth 20000 in
theorem ioX1_admits : IOk mX1_admits := ⟨imX1_admits, lw_gm (List.mem_of_getElem? (i := 422) rfl) rfl⟩
abbrev mX1_readFrom : MD := (yX1_readFrom, cX1_readFrom, 4, some FieldType.int)
theorem okX1_readFrom : MOk mX1_readFrom 1 := ⟨lw_gm (List.mem_of_getElem? (i := 295) rfl) rfl, in_X1, by decide +kernel, by decide⟩
theorem imX1_readFrom : Cond.instanceMethod yX1_readFrom ∈ lw_g := lw_gm (List.mem_of_getElem? (i := 293) rfl) rfl
theorem ioX1_readFrom : IOk mX1_readFrom := ⟨imX1_readFrom, lw_gm (List.mem_of_getElem? (i := 294) rfl) rfl⟩
abbrev mX1_letAll : MD := (yX1_letAll, cX1_letAll, 1, none)
theorem okX1_letAll : MOk mX1_letAll 0 := ⟨lw_gm (List.mem_of_getElem? (i := 161) rfl) rfl, in_X1, by decide +kernel, by decide⟩
theorem imX1_letAll : Cond.instanceMethod yX1_letAll ∈ lw_g := lw_gm (List.mem_of_getElem? (i := 160) rfl) rfl
theorem ioX1_letAll : IOk mX1_letAll := ⟨imX1_letAll, lw_gm (List.mem_of_getElem? (i := 0) rfl) rfl⟩
abbrev mX1_isWithin : MD := (yX1_isWithin, cX1_isWithin, 3, some FieldType.boolean)
set_option maxRecDepth 20000 in
theorem okX1_isWithin : MOk mX1_isWithin 2 := ⟨lw_gm (List.mem_of_getElem? (i := 427) rfl) rfl, in_X1, by decide +kernel, by decide⟩
set_option maxRecDepth 20000 in
theorem imX1_isWithin : Cond.instanceMethod yX1_isWithin ∈ lw_g := lw_gm (List.mem_of_getElem? (i := 426) rfl) rfl
theorem ioX1_isWithin : IOk mX1_isWithin := ⟨imX1_isWithin, lw_gm (List.mem_of_getElem? (i := 8) rfl) rfl⟩
abbrev mX1_isClauseLetter : MD := (yX1_isClauseLetter, cX1_isClauseLetter, 1, some FieldType.boolean)
theorem okX1_isClauseLetter : MOk mX1_isClauseLetter 1 := ⟨lw_gm (List.mem_of_getElem? (i := 359) rfl) rfl, in_X1, by decide +kernel, by decide⟩
theorem smX1_isClauseLetter : Cond.static yX1_isClauseLetter ∈ lw_g := lw_gm (List.mem_of_getElem? (i := 358) rfl) rfl
abbrev mX1_readClause : MD := (yX1_readClause, cX1_readClause, 2, some FieldType.int)
theorem okX1_readClause : MOk mX1_readClause 1 := ⟨lw_gm (List.mem_of_getElem? (i := 303) rfl) rfl, in_X1, by decide +kernel, by decide⟩
theorem imX1_readClause : Cond.instanceMethod yX1_readClause ∈ lw_g := lw_gm (List.mem_of_getElem? (i := 302) rfl) rfl
theorem ioX1_readClause : IOk mX1_readClause := ⟨imX1_readClause, lw_gm (List.mem_of_getElem? (i := 2) rfl) rfl⟩
abbrev mX1_readBreeds : MD := (yX1_readBreeds, cX1_readBreeds, 5, some FieldType.int)
theorem okX1_readBreeds : MOk mX1_readBreeds 1 := ⟨lw_gm (List.mem_of_getElem? (i := 319) rfl) rfl, in_X1, by decide +kernel, by decide⟩
theorem imX1_readBreeds : Cond.instanceMethod yX1_readBreeds ∈ lw_g := lw_gm (List.mem_of_getElem? (i := 318) rfl) rfl
theorem ioX1_readBreeds : IOk mX1_readBreeds := ⟨imX1_readBreeds, lw_gm (List.mem_of_getElem? (i := 3) rfl) rfl⟩
abbrev mX1_readMeasure : MD := (yX1_readMeasure, cX1_readMeasure, 3, some FieldType.int)
theorem okX1_readMeasure : MOk mX1_readMeasure 1 := ⟨lw_gm (List.mem_of_getElem? (i := 356) rfl) rfl, in_X1, by decide +kernel, by decide⟩
theorem imX1_readMeasure : Cond.instanceMethod yX1_readMeasure ∈ lw_g := lw_gm (List.mem_of_getElem? (i := 355) rfl) rfl
theorem ioX1_readMeasure : IOk mX1_readMeasure := ⟨imX1_readMeasure, lw_gm (List.mem_of_getElem? (i := 6) rfl) rfl⟩
abbrev mX1_readLeast : MD := (yX1_readLeast, cX1_readLeast, 5, some FieldType.int)
theorem okX1_readLeast : MOk mX1_readLeast 3 := ⟨lw_gm (List.mem_of_getElem? (i := 337) rfl) rfl, in_X1, by decide +kernel, by decide⟩
theorem imX1_readLeast : Cond.instanceMethod yX1_readLeast ∈ lw_g := lw_gm (List.mem_of_getElem? (i := 336) rfl) rfl
theorem ioX1_readLeast : IOk mX1_readLeast := ⟨imX1_readLeast, lw_gm (List.mem_of_getElem? (i := 4) rfl) rfl⟩
abbrev mX1_readMost : MD := (yX1_readMost, cX1_readMost, 5, some FieldType.int)
theorem okX1_readMost : MOk mX1_readMost 3 := ⟨lw_gm (List.mem_of_getElem? (i := 349) rfl) rfl, in_X1, by decide +kernel, by decide⟩
theorem imX1_readMost : Cond.instanceMethod yX1_readMost ∈ lw_g := lw_gm (List.mem_of_getElem? (i := 348) rfl) rfl
theorem ioX1_readMost : IOk mX1_readMost := ⟨imX1_readMost, lw_gm (List.mem_of_getElem? (i := 5) rfl) rfl⟩
abbrev mX2_init : MD := (yX2_init, cX2_init, 1, none)
theorem okX2_init : MOk mX2_init 0 := ⟨lw_gm (List.mem_of_getElem? (i := 99) rfl) rfl, in_X2, by decide +kernel, by decide⟩
theorem imX2_init : Cond.instanceMethod yX2_init ∈ lw_g := lw_gm (List.mem_of_getElem? (i := 98) rfl) rfl
abbrev mX2_join : MD := (yX2_join, cX2_join, 5, none)
set_option maxRecDepth 20000 in
theorem okX2_join : MOk mX2_join 1 := ⟨lw_gm (List.mem_of_getElem? (i := 444) rfl) rfl, in_X2, by decide +kernel, by decide⟩
set_option maxRecDepth 20000 in
theorem imX2_join : Cond.instanceMethod yX2_join ∈ lw_g := lw_gm (List.mem_of_getElem? (i := 442) rfl) rfl
set_option maxRecDepth 20000 in
theorem ioX2_join : IOk mX2_join := ⟨imX2_join, lw_gm (List.mem_of_getElem? (i := 443) rfl) rfl⟩
abbrev mX2_findInRing : MD := (yX2_findInRing, cX2_findInRing, 6, some FieldType.int)
set_option maxRecDepth 20000 in
theorem okX2_findInRing : MOk mX2_findInRing 2 := ⟨lw_gm (List.mem_of_getElem? (i := 527) rfl) rfl, in_X2, by decide +kernel, by decide⟩
set_option maxRecDepth 20000 in
theorem imX2_findInRing : Cond.instanceMethod yX2_findInRing ∈ lw_g := lw_gm (List.mem_of_getElem? (i := 525) rfl) rfl
set_option maxRecDepth 20000 in
theorem ioX2_findInRing : IOk mX2_findInRing := ⟨imX2_findInRing, lw_gm (List.mem_of_getElem? (i := 526) rfl) rfl⟩
abbrev mX2_beats : MD := (yX2_beats, cX2_beats, 3, some FieldType.boolean)
set_option maxRecDepth 20000 in
theorem okX2_beats : MOk mX2_beats 2 := ⟨lw_gm (List.mem_of_getElem? (i := 531) rfl) rfl, in_X2, by decide +kernel, by decide⟩
set_option maxRecDepth 20000 in
theorem imX2_beats : Cond.instanceMethod yX2_beats ∈ lw_g := lw_gm (List.mem_of_getElem? (i := 530) rfl) rfl
theorem ioX2_beats : IOk mX2_beats := ⟨imX2_beats, lw_gm (List.mem_of_getElem? (i := 15) rfl) rfl⟩
abbrev mX2_tally : MD := (yX2_tally, cX2_tally, 3, none)
set_option maxRecDepth 20000 in
theorem okX2_tally : MOk mX2_tally 1 := ⟨lw_gm (List.mem_of_getElem? (i := 448) rfl) rfl, in_X2, by decide +kernel, by decide⟩
set_option maxRecDepth 20000 in
theorem imX2_tally : Cond.instanceMethod yX2_tally ∈ lw_g := lw_gm (List.mem_of_getElem? (i := 447) rfl) rfl
theorem ioX2_tally : IOk mX2_tally := ⟨imX2_tally, lw_gm (List.mem_of_getElem? (i := 9) rfl) rfl⟩
abbrev mX2_tallyOrder : MD := (yX2_tallyOrder, cX2_tallyOrder, 7, none)
set_option maxRecDepth 20000 in
theorem okX2_tallyOrder : MOk mX2_tallyOrder 2 := ⟨lw_gm (List.mem_of_getElem? (i := 457) rfl) rfl, in_X2, by decide +kernel, by decide⟩
set_option maxRecDepth 20000 in
theorem imX2_tallyOrder : Cond.instanceMethod yX2_tallyOrder ∈ lw_g := lw_gm (List.mem_of_getElem? (i := 456) rfl) rfl
theorem ioX2_tallyOrder : IOk mX2_tallyOrder := ⟨imX2_tallyOrder, lw_gm (List.mem_of_getElem? (i := 10) rfl) rfl⟩
abbrev mX2_sumLost : MD := (yX2_sumLost, cX2_sumLost, 4, none)
set_option maxRecDepth 20000 in
theorem okX2_sumLost : MOk mX2_sumLost 0 := ⟨lw_gm (List.mem_of_getElem? (i := 461) rfl) rfl, in_X2, by decide +kernel, by decide⟩
set_option maxRecDepth 20000 in
theorem imX2_sumLost : Cond.instanceMethod yX2_sumLost ∈ lw_g := lw_gm (List.mem_of_getElem? (i := 460) rfl) rfl
theorem ioX2_sumLost : IOk mX2_sumLost := ⟨imX2_sumLost, lw_gm (List.mem_of_getElem? (i := 11) rfl) rfl⟩
abbrev mX2_findFewest : MD := (yX2_findFewest, cX2_findFewest, 4, none)
set_option maxRecDepth 20000 in
theorem okX2_findFewest : MOk mX2_findFewest 0 := ⟨lw_gm (List.mem_of_getElem? (i := 465) rfl) rfl, in_X2, by decide +kernel, by decide⟩
set_option maxRecDepth 20000 in
theorem imX2_findFewest : Cond.instanceMethod yX2_findFewest ∈ lw_g := lw_gm (List.mem_of_getElem? (i := 464) rfl) rfl
theorem ioX2_findFewest : IOk mX2_findFewest := ⟨imX2_findFewest, lw_gm (List.mem_of_getElem? (i := 12) rfl) rfl⟩
abbrev mX2_swapsWithFirst : MD := (yX2_swapsWithFirst, cX2_swapsWithFirst, 3, some FieldType.int)
set_option maxRecDepth 20000 in
theorem okX2_swapsWithFirst : MOk mX2_swapsWithFirst 2 := ⟨lw_gm (List.mem_of_getElem? (i := 469) rfl) rfl, in_X2, by decide +kernel, by decide⟩
set_option maxRecDepth 20000 in
theorem imX2_swapsWithFirst : Cond.instanceMethod yX2_swapsWithFirst ∈ lw_g := lw_gm (List.mem_of_getElem? (i := 468) rfl) rfl
theorem ioX2_swapsWithFirst : IOk mX2_swapsWithFirst := ⟨imX2_swapsWithFirst, lw_gm (List.mem_of_getElem? (i := 13) rfl) rfl⟩
abbrev mX2_leastFirst : MD := (yX2_leastFirst, cX2_leastFirst, 3, some FieldType.int)
set_option maxRecDepth 20000 in
theorem okX2_leastFirst : MOk mX2_leastFirst 1 := ⟨lw_gm (List.mem_of_getElem? (i := 474) rfl) rfl, in_X2, by decide +kernel, by decide⟩
set_option maxRecDepth 20000 in
theorem imX2_leastFirst : Cond.instanceMethod yX2_leastFirst ∈ lw_g := lw_gm (List.mem_of_getElem? (i := 473) rfl) rfl
theorem ioX2_leastFirst : IOk mX2_leastFirst := ⟨imX2_leastFirst, lw_gm (List.mem_of_getElem? (i := 14) rfl) rfl⟩
abbrev mX3_init : MD := (yX3_init, cX3_init, 1, none)
theorem okX3_init : MOk mX3_init 0 := ⟨lw_gm (List.mem_of_getElem? (i := 146) rfl) rfl, in_X3, by decide +kernel, by decide⟩
theorem imX3_init : Cond.instanceMethod yX3_init ∈ lw_g := lw_gm (List.mem_of_getElem? (i := 145) rfl) rfl
abbrev mX3_score : MD := (yX3_score, cX3_score, 5, some FieldType.int)
set_option maxRecDepth 20000 in
theorem okX3_score : MOk mX3_score 3 := ⟨lw_gm (List.mem_of_getElem? (i := 570) rfl) rfl, in_X3, by decide +kernel, by decide⟩
set_option maxRecDepth 20000 in
theorem imX3_score : Cond.instanceMethod yX3_score ∈ lw_g := lw_gm (List.mem_of_getElem? (i := 568) rfl) rfl
set_option maxRecDepth 20000 in
theorem ioX3_score : IOk mX3_score := ⟨imX3_score, lw_gm (List.mem_of_getElem? (i := 569) rfl) rfl⟩
abbrev mX3_readPairs : MD := (yX3_readPairs, cX3_readPairs, 6, some FieldType.int)
set_option maxRecDepth 20000 in
theorem okX3_readPairs : MOk mX3_readPairs 3 := ⟨lw_gm (List.mem_of_getElem? (i := 574) rfl) rfl, in_X3, by decide +kernel, by decide⟩
set_option maxRecDepth 20000 in
theorem imX3_readPairs : Cond.instanceMethod yX3_readPairs ∈ lw_g := lw_gm (List.mem_of_getElem? (i := 573) rfl) rfl
theorem ioX3_readPairs : IOk mX3_readPairs := ⟨imX3_readPairs, lw_gm (List.mem_of_getElem? (i := 17) rfl) rfl⟩
abbrev mX3_readPair : MD := (yX3_readPair, cX3_readPair, 8, some FieldType.int)
set_option maxRecDepth 20000 in
theorem okX3_readPair : MOk mX3_readPair 3 := ⟨lw_gm (List.mem_of_getElem? (i := 578) rfl) rfl, in_X3, by decide +kernel, by decide⟩
set_option maxRecDepth 20000 in
theorem imX3_readPair : Cond.instanceMethod yX3_readPair ∈ lw_g := lw_gm (List.mem_of_getElem? (i := 577) rfl) rfl
theorem ioX3_readPair : IOk mX3_readPair := ⟨imX3_readPair, lw_gm (List.mem_of_getElem? (i := 18) rfl) rfl⟩
abbrev mX3_placeNamed : MD := (yX3_placeNamed, cX3_placeNamed, 1, some FieldType.int)
set_option maxRecDepth 20000 in
theorem okX3_placeNamed : MOk mX3_placeNamed 1 := ⟨lw_gm (List.mem_of_getElem? (i := 585) rfl) rfl, in_X3, by decide +kernel, by decide⟩
set_option maxRecDepth 20000 in
theorem smX3_placeNamed : Cond.static yX3_placeNamed ∈ lw_g := lw_gm (List.mem_of_getElem? (i := 584) rfl) rfl
abbrev mX3_faultOfPlace : MD := (yX3_faultOfPlace, cX3_faultOfPlace, 3, some FieldType.int)
set_option maxRecDepth 20000 in
theorem okX3_faultOfPlace : MOk mX3_faultOfPlace 3 := ⟨lw_gm (List.mem_of_getElem? (i := 589) rfl) rfl, in_X3, by decide +kernel, by decide⟩
set_option maxRecDepth 20000 in
theorem smX3_faultOfPlace : Cond.static yX3_faultOfPlace ∈ lw_g := lw_gm (List.mem_of_getElem? (i := 588) rfl) rfl
abbrev mX3_readTerms : MD := (yX3_readTerms, cX3_readTerms, 8, some FieldType.int)
set_option maxRecDepth 20000 in
theorem okX3_readTerms : MOk mX3_readTerms 3 := ⟨lw_gm (List.mem_of_getElem? (i := 597) rfl) rfl, in_X3, by decide +kernel, by decide⟩
set_option maxRecDepth 20000 in
theorem imX3_readTerms : Cond.instanceMethod yX3_readTerms ∈ lw_g := lw_gm (List.mem_of_getElem? (i := 596) rfl) rfl
theorem ioX3_readTerms : IOk mX3_readTerms := ⟨imX3_readTerms, lw_gm (List.mem_of_getElem? (i := 19) rfl) rfl⟩
abbrev mX3_isAtTerm : MD := (yX3_isAtTerm, cX3_isAtTerm, 1, some FieldType.boolean)
set_option maxRecDepth 20000 in
theorem okX3_isAtTerm : MOk mX3_isAtTerm 1 := ⟨lw_gm (List.mem_of_getElem? (i := 600) rfl) rfl, in_X3, by decide +kernel, by decide⟩
set_option maxRecDepth 20000 in
theorem smX3_isAtTerm : Cond.static yX3_isAtTerm ∈ lw_g := lw_gm (List.mem_of_getElem? (i := 599) rfl) rfl
abbrev mX3_isAtMeasure : MD := (yX3_isAtMeasure, cX3_isAtMeasure, 1, some FieldType.boolean)
set_option maxRecDepth 20000 in
theorem okX3_isAtMeasure : MOk mX3_isAtMeasure 1 := ⟨lw_gm (List.mem_of_getElem? (i := 603) rfl) rfl, in_X3, by decide +kernel, by decide⟩
set_option maxRecDepth 20000 in
theorem smX3_isAtMeasure : Cond.static yX3_isAtMeasure ∈ lw_g := lw_gm (List.mem_of_getElem? (i := 602) rfl) rfl
abbrev mX4_init : MD := (yX4_init, cX4_init, 1, none)
theorem okX4_init : MOk mX4_init 0 := ⟨lw_gm (List.mem_of_getElem? (i := 178) rfl) rfl, in_X4, by decide +kernel, by decide⟩
theorem imX4_init : Cond.instanceMethod yX4_init ∈ lw_g := lw_gm (List.mem_of_getElem? (i := 177) rfl) rfl
abbrev mX4_swapText : MD := (yX4_swapText, cX4_swapText, 3, some (FieldType.object "CattleShow$ClassText"))
theorem okX4_swapText : MOk mX4_swapText 1 := ⟨lw_gm (List.mem_of_getElem? (i := 368) rfl) rfl, in_X4, by decide +kernel, by decide⟩
theorem imX4_swapText : Cond.instanceMethod yX4_swapText ∈ lw_g := lw_gm (List.mem_of_getElem? (i := 366) rfl) rfl
theorem ioX4_swapText : IOk mX4_swapText := ⟨imX4_swapText, lw_gm (List.mem_of_getElem? (i := 367) rfl) rfl⟩
abbrev mX4_admits : MD := (yX4_admits, cX4_admits, 2, some FieldType.boolean)
set_option maxRecDepth 20000 in
theorem okX4_admits : MOk mX4_admits 1 := ⟨lw_gm (List.mem_of_getElem? (i := 419) rfl) rfl, in_X4, by decide +kernel, by decide⟩
set_option maxRecDepth 20000 in
theorem imX4_admits : Cond.instanceMethod yX4_admits ∈ lw_g := lw_gm (List.mem_of_getElem? (i := 417) rfl) rfl
set_option maxRecDepth 20000 in
theorem ioX4_admits : IOk mX4_admits := ⟨imX4_admits, lw_gm (List.mem_of_getElem? (i := 418) rfl) rfl⟩
abbrev mX4_holds : MD := (yX4_holds, cX4_holds, 2, some FieldType.boolean)
set_option maxRecDepth 20000 in
theorem okX4_holds : MOk mX4_holds 1 := ⟨lw_gm (List.mem_of_getElem? (i := 452) rfl) rfl, in_X4, by decide +kernel, by decide⟩
set_option maxRecDepth 20000 in
theorem imX4_holds : Cond.instanceMethod yX4_holds ∈ lw_g := lw_gm (List.mem_of_getElem? (i := 450) rfl) rfl
set_option maxRecDepth 20000 in
theorem ioX4_holds : IOk mX4_holds := ⟨imX4_holds, lw_gm (List.mem_of_getElem? (i := 451) rfl) rfl⟩
abbrev mX4_canTake : MD := (yX4_canTake, cX4_canTake, 2, some FieldType.boolean)
set_option maxRecDepth 20000 in
theorem okX4_canTake : MOk mX4_canTake 1 := ⟨lw_gm (List.mem_of_getElem? (i := 436) rfl) rfl, in_X4, by decide +kernel, by decide⟩
set_option maxRecDepth 20000 in
theorem imX4_canTake : Cond.instanceMethod yX4_canTake ∈ lw_g := lw_gm (List.mem_of_getElem? (i := 434) rfl) rfl
set_option maxRecDepth 20000 in
theorem ioX4_canTake : IOk mX4_canTake := ⟨imX4_canTake, lw_gm (List.mem_of_getElem? (i := 435) rfl) rfl⟩
abbrev mX4_take : MD := (yX4_take, cX4_take, 2, none)
set_option maxRecDepth 20000 in
theorem okX4_take : MOk mX4_take 1 := ⟨lw_gm (List.mem_of_getElem? (i := 440) rfl) rfl, in_X4, by decide +kernel, by decide⟩
set_option maxRecDepth 20000 in
theorem imX4_take : Cond.instanceMethod yX4_take ∈ lw_g := lw_gm (List.mem_of_getElem? (i := 438) rfl) rfl
set_option maxRecDepth 20000 in
theorem ioX4_take : IOk mX4_take := ⟨imX4_take, lw_gm (List.mem_of_getElem? (i := 439) rfl) rfl⟩
abbrev mX4_putOut : MD := (yX4_putOut, cX4_putOut, 2, none)
set_option maxRecDepth 20000 in
theorem okX4_putOut : MOk mX4_putOut 1 := ⟨lw_gm (List.mem_of_getElem? (i := 483) rfl) rfl, in_X4, by decide +kernel, by decide⟩
set_option maxRecDepth 20000 in
theorem imX4_putOut : Cond.instanceMethod yX4_putOut ∈ lw_g := lw_gm (List.mem_of_getElem? (i := 481) rfl) rfl
set_option maxRecDepth 20000 in
theorem ioX4_putOut : IOk mX4_putOut := ⟨imX4_putOut, lw_gm (List.mem_of_getElem? (i := 482) rfl) rfl⟩
abbrev mX4_keepOrder : MD := (yX4_keepOrder, cX4_keepOrder, 4, none)
set_option maxRecDepth 20000 in
theorem okX4_keepOrder : MOk mX4_keepOrder 2 := ⟨lw_gm (List.mem_of_getElem? (i := 510) rfl) rfl, in_X4, by decide +kernel, by decide⟩
set_option maxRecDepth 20000 in
theorem imX4_keepOrder : Cond.instanceMethod yX4_keepOrder ∈ lw_g := lw_gm (List.mem_of_getElem? (i := 508) rfl) rfl
set_option maxRecDepth 20000 in
theorem ioX4_keepOrder : IOk mX4_keepOrder := ⟨imX4_keepOrder, lw_gm (List.mem_of_getElem? (i := 509) rfl) rfl⟩
abbrev mX4_countOrders : MD := (yX4_countOrders, cX4_countOrders, 3, some FieldType.int)
set_option maxRecDepth 20000 in
theorem okX4_countOrders : MOk mX4_countOrders 0 := ⟨lw_gm (List.mem_of_getElem? (i := 653) rfl) rfl, in_X4, by decide +kernel, by decide⟩
set_option maxRecDepth 20000 in
theorem imX4_countOrders : Cond.instanceMethod yX4_countOrders ∈ lw_g := lw_gm (List.mem_of_getElem? (i := 651) rfl) rfl
set_option maxRecDepth 20000 in
theorem ioX4_countOrders : IOk mX4_countOrders := ⟨imX4_countOrders, lw_gm (List.mem_of_getElem? (i := 652) rfl) rfl⟩
abbrev mX4_placeOf : MD := (yX4_placeOf, cX4_placeOf, 3, some FieldType.int)
set_option maxRecDepth 20000 in
theorem okX4_placeOf : MOk mX4_placeOf 1 := ⟨lw_gm (List.mem_of_getElem? (i := 557) rfl) rfl, in_X4, by decide +kernel, by decide⟩
set_option maxRecDepth 20000 in
theorem imX4_placeOf : Cond.instanceMethod yX4_placeOf ∈ lw_g := lw_gm (List.mem_of_getElem? (i := 555) rfl) rfl
set_option maxRecDepth 20000 in
theorem ioX4_placeOf : IOk mX4_placeOf := ⟨imX4_placeOf, lw_gm (List.mem_of_getElem? (i := 556) rfl) rfl⟩
abbrev mX4_cardLength : MD := (yX4_cardLength, cX4_cardLength, 1, some FieldType.int)
set_option maxRecDepth 20000 in
theorem okX4_cardLength : MOk mX4_cardLength 0 := ⟨lw_gm (List.mem_of_getElem? (i := 543) rfl) rfl, in_X4, by decide +kernel, by decide⟩
set_option maxRecDepth 20000 in
theorem imX4_cardLength : Cond.instanceMethod yX4_cardLength ∈ lw_g := lw_gm (List.mem_of_getElem? (i := 541) rfl) rfl
set_option maxRecDepth 20000 in
theorem ioX4_cardLength : IOk mX4_cardLength := ⟨imX4_cardLength, lw_gm (List.mem_of_getElem? (i := 542) rfl) rfl⟩
abbrev mX4_cardBeasts : MD := (yX4_cardBeasts, cX4_cardBeasts, 3, some FieldType.int)
set_option maxRecDepth 20000 in
theorem okX4_cardBeasts : MOk mX4_cardBeasts 0 := ⟨lw_gm (List.mem_of_getElem? (i := 548) rfl) rfl, in_X4, by decide +kernel, by decide⟩
set_option maxRecDepth 20000 in
theorem imX4_cardBeasts : Cond.instanceMethod yX4_cardBeasts ∈ lw_g := lw_gm (List.mem_of_getElem? (i := 546) rfl) rfl
set_option maxRecDepth 20000 in
theorem ioX4_cardBeasts : IOk mX4_cardBeasts := ⟨imX4_cardBeasts, lw_gm (List.mem_of_getElem? (i := 547) rfl) rfl⟩
abbrev mX4_scoreCard : MD := (yX4_scoreCard, cX4_scoreCard, 5, some FieldType.int)
set_option maxRecDepth 20000 in
theorem okX4_scoreCard : MOk mX4_scoreCard 1 := ⟨lw_gm (List.mem_of_getElem? (i := 553) rfl) rfl, in_X4, by decide +kernel, by decide⟩
set_option maxRecDepth 20000 in
theorem imX4_scoreCard : Cond.instanceMethod yX4_scoreCard ∈ lw_g := lw_gm (List.mem_of_getElem? (i := 551) rfl) rfl
set_option maxRecDepth 20000 in
theorem ioX4_scoreCard : IOk mX4_scoreCard := ⟨imX4_scoreCard, lw_gm (List.mem_of_getElem? (i := 552) rfl) rfl⟩
abbrev mX4_cutsBetween : MD := (yX4_cutsBetween, cX4_cutsBetween, 5, some FieldType.int)
set_option maxRecDepth 20000 in
theorem okX4_cutsBetween : MOk mX4_cutsBetween 2 := ⟨lw_gm (List.mem_of_getElem? (i := 561) rfl) rfl, in_X4, by decide +kernel, by decide⟩
set_option maxRecDepth 20000 in
theorem imX4_cutsBetween : Cond.instanceMethod yX4_cutsBetween ∈ lw_g := lw_gm (List.mem_of_getElem? (i := 560) rfl) rfl
theorem ioX4_cutsBetween : IOk mX4_cutsBetween := ⟨imX4_cutsBetween, lw_gm (List.mem_of_getElem? (i := 16) rfl) rfl⟩
abbrev mX5_init : MD := (yX5_init, cX5_init, 1, none)
theorem okX5_init : MOk mX5_init 0 := ⟨lw_gm (List.mem_of_getElem? (i := 75) rfl) rfl, in_X5, by decide +kernel, by decide⟩
theorem imX5_init : Cond.instanceMethod yX5_init ∈ lw_g := lw_gm (List.mem_of_getElem? (i := 74) rfl) rfl
abbrev mX5_length : MD := (yX5_length, cX5_length, 1, some FieldType.int)
theorem okX5_length : MOk mX5_length 0 := ⟨lw_gm (List.mem_of_getElem? (i := 271) rfl) rfl, in_X5, by decide +kernel, by decide⟩
theorem imX5_length : Cond.instanceMethod yX5_length ∈ lw_g := lw_gm (List.mem_of_getElem? (i := 269) rfl) rfl
theorem ioX5_length : IOk mX5_length := ⟨imX5_length, lw_gm (List.mem_of_getElem? (i := 270) rfl) rfl⟩
abbrev mX5_hasRoom : MD := (yX5_hasRoom, cX5_hasRoom, 1, some FieldType.boolean)
theorem okX5_hasRoom : MOk mX5_hasRoom 0 := ⟨lw_gm (List.mem_of_getElem? (i := 263) rfl) rfl, in_X5, by decide +kernel, by decide⟩
theorem imX5_hasRoom : Cond.instanceMethod yX5_hasRoom ∈ lw_g := lw_gm (List.mem_of_getElem? (i := 261) rfl) rfl
theorem ioX5_hasRoom : IOk mX5_hasRoom := ⟨imX5_hasRoom, lw_gm (List.mem_of_getElem? (i := 262) rfl) rfl⟩
abbrev mX5_has : MD := (yX5_has, cX5_has, 2, some FieldType.boolean)
theorem okX5_has : MOk mX5_has 1 := ⟨lw_gm (List.mem_of_getElem? (i := 286) rfl) rfl, in_X5, by decide +kernel, by decide⟩
theorem imX5_has : Cond.instanceMethod yX5_has ∈ lw_g := lw_gm (List.mem_of_getElem? (i := 284) rfl) rfl
theorem ioX5_has : IOk mX5_has := ⟨imX5_has, lw_gm (List.mem_of_getElem? (i := 285) rfl) rfl⟩
abbrev mX5_append : MD := (yX5_append, cX5_append, 3, none)
theorem okX5_append : MOk mX5_append 1 := ⟨lw_gm (List.mem_of_getElem? (i := 267) rfl) rfl, in_X5, by decide +kernel, by decide⟩
theorem imX5_append : Cond.instanceMethod yX5_append ∈ lw_g := lw_gm (List.mem_of_getElem? (i := 265) rfl) rfl
theorem ioX5_append : IOk mX5_append := ⟨imX5_append, lw_gm (List.mem_of_getElem? (i := 266) rfl) rfl⟩
abbrev mX5_clear : MD := (yX5_clear, cX5_clear, 1, none)
theorem okX5_clear : MOk mX5_clear 0 := ⟨lw_gm (List.mem_of_getElem? (i := 363) rfl) rfl, in_X5, by decide +kernel, by decide⟩
theorem imX5_clear : Cond.instanceMethod yX5_clear ∈ lw_g := lw_gm (List.mem_of_getElem? (i := 361) rfl) rfl
theorem ioX5_clear : IOk mX5_clear := ⟨imX5_clear, lw_gm (List.mem_of_getElem? (i := 362) rfl) rfl⟩
abbrev mX5_byteAt : MD := (yX5_byteAt, cX5_byteAt, 2, some FieldType.int)
set_option maxRecDepth 20000 in
theorem okX5_byteAt : MOk mX5_byteAt 1 := ⟨lw_gm (List.mem_of_getElem? (i := 505) rfl) rfl, in_X5, by decide +kernel, by decide⟩
set_option maxRecDepth 20000 in
theorem imX5_byteAt : Cond.instanceMethod yX5_byteAt ∈ lw_g := lw_gm (List.mem_of_getElem? (i := 503) rfl) rfl
set_option maxRecDepth 20000 in
theorem ioX5_byteAt : IOk mX5_byteAt := ⟨imX5_byteAt, lw_gm (List.mem_of_getElem? (i := 504) rfl) rfl⟩
abbrev mX5_namesEachOf : MD := (yX5_namesEachOf, cX5_namesEachOf, 6, some FieldType.boolean)
set_option maxRecDepth 20000 in
theorem okX5_namesEachOf : MOk mX5_namesEachOf 1 := ⟨lw_gm (List.mem_of_getElem? (i := 495) rfl) rfl, in_X5, by decide +kernel, by decide⟩
set_option maxRecDepth 20000 in
theorem imX5_namesEachOf : Cond.instanceMethod yX5_namesEachOf ∈ lw_g := lw_gm (List.mem_of_getElem? (i := 493) rfl) rfl
set_option maxRecDepth 20000 in
theorem ioX5_namesEachOf : IOk mX5_namesEachOf := ⟨imX5_namesEachOf, lw_gm (List.mem_of_getElem? (i := 494) rfl) rfl⟩
abbrev mX5_startReading : MD := (yX5_startReading, cX5_startReading, 2, none)
theorem okX5_startReading : MOk mX5_startReading 1 := ⟨lw_gm (List.mem_of_getElem? (i := 290) rfl) rfl, in_X5, by decide +kernel, by decide⟩
theorem imX5_startReading : Cond.instanceMethod yX5_startReading ∈ lw_g := lw_gm (List.mem_of_getElem? (i := 288) rfl) rfl
theorem ioX5_startReading : IOk mX5_startReading := ⟨imX5_startReading, lw_gm (List.mem_of_getElem? (i := 289) rfl) rfl⟩
abbrev mX5_place : MD := (yX5_place, cX5_place, 1, some FieldType.int)
set_option maxRecDepth 20000 in
theorem okX5_place : MOk mX5_place 0 := ⟨lw_gm (List.mem_of_getElem? (i := 582) rfl) rfl, in_X5, by decide +kernel, by decide⟩
set_option maxRecDepth 20000 in
theorem imX5_place : Cond.instanceMethod yX5_place ∈ lw_g := lw_gm (List.mem_of_getElem? (i := 580) rfl) rfl
set_option maxRecDepth 20000 in
theorem ioX5_place : IOk mX5_place := ⟨imX5_place, lw_gm (List.mem_of_getElem? (i := 581) rfl) rfl⟩
abbrev mX5_isAtEnd : MD := (yX5_isAtEnd, cX5_isAtEnd, 1, some FieldType.boolean)
theorem okX5_isAtEnd : MOk mX5_isAtEnd 0 := ⟨lw_gm (List.mem_of_getElem? (i := 299) rfl) rfl, in_X5, by decide +kernel, by decide⟩
theorem imX5_isAtEnd : Cond.instanceMethod yX5_isAtEnd ∈ lw_g := lw_gm (List.mem_of_getElem? (i := 297) rfl) rfl
theorem ioX5_isAtEnd : IOk mX5_isAtEnd := ⟨imX5_isAtEnd, lw_gm (List.mem_of_getElem? (i := 298) rfl) rfl⟩
abbrev mX5_peek : MD := (yX5_peek, cX5_peek, 1, some FieldType.int)
theorem okX5_peek : MOk mX5_peek 0 := ⟨lw_gm (List.mem_of_getElem? (i := 311) rfl) rfl, in_X5, by decide +kernel, by decide⟩
theorem imX5_peek : Cond.instanceMethod yX5_peek ∈ lw_g := lw_gm (List.mem_of_getElem? (i := 309) rfl) rfl
theorem ioX5_peek : IOk mX5_peek := ⟨imX5_peek, lw_gm (List.mem_of_getElem? (i := 310) rfl) rfl⟩
abbrev mX5_skip : MD := (yX5_skip, cX5_skip, 1, none)
theorem okX5_skip : MOk mX5_skip 0 := ⟨lw_gm (List.mem_of_getElem? (i := 315) rfl) rfl, in_X5, by decide +kernel, by decide⟩
theorem imX5_skip : Cond.instanceMethod yX5_skip ∈ lw_g := lw_gm (List.mem_of_getElem? (i := 313) rfl) rfl
theorem ioX5_skip : IOk mX5_skip := ⟨imX5_skip, lw_gm (List.mem_of_getElem? (i := 314) rfl) rfl⟩
abbrev mX5_skipIf : MD := (yX5_skipIf, cX5_skipIf, 3, some FieldType.boolean)
theorem okX5_skipIf : MOk mX5_skipIf 1 := ⟨lw_gm (List.mem_of_getElem? (i := 307) rfl) rfl, in_X5, by decide +kernel, by decide⟩
theorem imX5_skipIf : Cond.instanceMethod yX5_skipIf ∈ lw_g := lw_gm (List.mem_of_getElem? (i := 305) rfl) rfl
theorem ioX5_skipIf : IOk mX5_skipIf := ⟨imX5_skipIf, lw_gm (List.mem_of_getElem? (i := 306) rfl) rfl⟩
abbrev mX5_isAtDigit : MD := (yX5_isAtDigit, cX5_isAtDigit, 1, some FieldType.boolean)
theorem okX5_isAtDigit : MOk mX5_isAtDigit 0 := ⟨lw_gm (List.mem_of_getElem? (i := 323) rfl) rfl, in_X5, by decide +kernel, by decide⟩
theorem imX5_isAtDigit : Cond.instanceMethod yX5_isAtDigit ∈ lw_g := lw_gm (List.mem_of_getElem? (i := 321) rfl) rfl
theorem ioX5_isAtDigit : IOk mX5_isAtDigit := ⟨imX5_isAtDigit, lw_gm (List.mem_of_getElem? (i := 322) rfl) rfl⟩
abbrev mX5_readNumber : MD := (yX5_readNumber, cX5_readNumber, 3, some FieldType.int)
theorem okX5_readNumber : MOk mX5_readNumber 0 := ⟨lw_gm (List.mem_of_getElem? (i := 341) rfl) rfl, in_X5, by decide +kernel, by decide⟩
theorem imX5_readNumber : Cond.instanceMethod yX5_readNumber ∈ lw_g := lw_gm (List.mem_of_getElem? (i := 339) rfl) rfl
theorem ioX5_readNumber : IOk mX5_readNumber := ⟨imX5_readNumber, lw_gm (List.mem_of_getElem? (i := 340) rfl) rfl⟩
abbrev mX5_faultHere : MD := (yX5_faultHere, cX5_faultHere, 2, some FieldType.int)
theorem okX5_faultHere : MOk mX5_faultHere 1 := ⟨lw_gm (List.mem_of_getElem? (i := 327) rfl) rfl, in_X5, by decide +kernel, by decide⟩
theorem imX5_faultHere : Cond.instanceMethod yX5_faultHere ∈ lw_g := lw_gm (List.mem_of_getElem? (i := 325) rfl) rfl
theorem ioX5_faultHere : IOk mX5_faultHere := ⟨imX5_faultHere, lw_gm (List.mem_of_getElem? (i := 326) rfl) rfl⟩
abbrev mX5_faultAt : MD := (yX5_faultAt, cX5_faultAt, 3, some FieldType.int)
theorem okX5_faultAt : MOk mX5_faultAt 2 := ⟨lw_gm (List.mem_of_getElem? (i := 331) rfl) rfl, in_X5, by decide +kernel, by decide⟩
theorem imX5_faultAt : Cond.instanceMethod yX5_faultAt ∈ lw_g := lw_gm (List.mem_of_getElem? (i := 329) rfl) rfl
theorem ioX5_faultAt : IOk mX5_faultAt := ⟨imX5_faultAt, lw_gm (List.mem_of_getElem? (i := 330) rfl) rfl⟩
abbrev mX6_init : MD := (yX6_init, cX6_init, 1, none)
theorem okX6_init : MOk mX6_init 0 := ⟨lw_gm (List.mem_of_getElem? (i := 126) rfl) rfl, in_X6, by decide +kernel, by decide⟩
theorem imX6_init : Cond.instanceMethod yX6_init ∈ lw_g := lw_gm (List.mem_of_getElem? (i := 125) rfl) rfl
abbrev mX6_plan : MD := (yX6_plan, cX6_plan, 6, none)
set_option maxRecDepth 20000 in
theorem okX6_plan : MOk mX6_plan 3 := ⟨lw_gm (List.mem_of_getElem? (i := 618) rfl) rfl, in_X6, by decide +kernel, by decide⟩
set_option maxRecDepth 20000 in
theorem imX6_plan : Cond.instanceMethod yX6_plan ∈ lw_g := lw_gm (List.mem_of_getElem? (i := 616) rfl) rfl
set_option maxRecDepth 20000 in
theorem ioX6_plan : IOk mX6_plan := ⟨imX6_plan, lw_gm (List.mem_of_getElem? (i := 617) rfl) rfl⟩
abbrev mX6_lastHour : MD := (yX6_lastHour, cX6_lastHour, 3, some FieldType.int)
set_option maxRecDepth 20000 in
theorem okX6_lastHour : MOk mX6_lastHour 0 := ⟨lw_gm (List.mem_of_getElem? (i := 657) rfl) rfl, in_X6, by decide +kernel, by decide⟩
set_option maxRecDepth 20000 in
theorem imX6_lastHour : Cond.instanceMethod yX6_lastHour ∈ lw_g := lw_gm (List.mem_of_getElem? (i := 655) rfl) rfl
set_option maxRecDepth 20000 in
theorem ioX6_lastHour : IOk mX6_lastHour := ⟨imX6_lastHour, lw_gm (List.mem_of_getElem? (i := 656) rfl) rfl⟩
abbrev mX6_handlersOf : MD := (yX6_handlersOf, cX6_handlersOf, 4, some FieldType.int)
set_option maxRecDepth 20000 in
theorem okX6_handlersOf : MOk mX6_handlersOf 2 := ⟨lw_gm (List.mem_of_getElem? (i := 621) rfl) rfl, in_X6, by decide +kernel, by decide⟩
set_option maxRecDepth 20000 in
theorem smX6_handlersOf : Cond.static yX6_handlersOf ∈ lw_g := lw_gm (List.mem_of_getElem? (i := 620) rfl) rfl
abbrev mX6_fitFrom : MD := (yX6_fitFrom, cX6_fitFrom, 6, some FieldType.boolean)
set_option maxRecDepth 20000 in
theorem okX6_fitFrom : MOk mX6_fitFrom 4 := ⟨lw_gm (List.mem_of_getElem? (i := 624) rfl) rfl, in_X6, by decide +kernel, by decide⟩
set_option maxRecDepth 20000 in
theorem smX6_fitFrom : Cond.static yX6_fitFrom ∈ lw_g := lw_gm (List.mem_of_getElem? (i := 623) rfl) rfl
abbrev mX7_init : MD := (yX7_init, cX7_init, 2, none)
theorem okX7_init : MOk mX7_init 0 := ⟨lw_gm (List.mem_of_getElem? (i := 67) rfl) rfl, in_X7, by decide +kernel, by decide⟩
theorem imX7_init : Cond.instanceMethod yX7_init ∈ lw_g := lw_gm (List.mem_of_getElem? (i := 66) rfl) rfl
abbrev mX7_feed : MD := (yX7_feed, cX7_feed, 6, some FieldType.int)
theorem okX7_feed : MOk mX7_feed 5 := ⟨lw_gm (List.mem_of_getElem? (i := 259) rfl) rfl, in_X7, by decide +kernel, by decide⟩
theorem imX7_feed : Cond.instanceMethod yX7_feed ∈ lw_g := lw_gm (List.mem_of_getElem? (i := 257) rfl) rfl
theorem ioX7_feed : IOk mX7_feed := ⟨imX7_feed, lw_gm (List.mem_of_getElem? (i := 258) rfl) rfl⟩
abbrev mX7_text : MD := (yX7_text, cX7_text, 5, some FieldType.int)
theorem okX7_text : MOk mX7_text 2 := ⟨lw_gm (List.mem_of_getElem? (i := 275) rfl) rfl, in_X7, by decide +kernel, by decide⟩
theorem imX7_text : Cond.instanceMethod yX7_text ∈ lw_g := lw_gm (List.mem_of_getElem? (i := 273) rfl) rfl
theorem ioX7_text : IOk mX7_text := ⟨imX7_text, lw_gm (List.mem_of_getElem? (i := 274) rfl) rfl⟩
abbrev mX7_beast : MD := (yX7_beast, cX7_beast, 5, some FieldType.int)
theorem okX7_beast : MOk mX7_beast 4 := ⟨lw_gm (List.mem_of_getElem? (i := 372) rfl) rfl, in_X7, by decide +kernel, by decide⟩
theorem imX7_beast : Cond.instanceMethod yX7_beast ∈ lw_g := lw_gm (List.mem_of_getElem? (i := 370) rfl) rfl
theorem ioX7_beast : IOk mX7_beast := ⟨imX7_beast, lw_gm (List.mem_of_getElem? (i := 371) rfl) rfl⟩
abbrev mX7_measure : MD := (yX7_measure, cX7_measure, 5, some FieldType.boolean)
set_option maxRecDepth 20000 in
theorem okX7_measure : MOk mX7_measure 3 := ⟨lw_gm (List.mem_of_getElem? (i := 407) rfl) rfl, in_X7, by decide +kernel, by decide⟩
set_option maxRecDepth 20000 in
theorem imX7_measure : Cond.instanceMethod yX7_measure ∈ lw_g := lw_gm (List.mem_of_getElem? (i := 405) rfl) rfl
set_option maxRecDepth 20000 in
theorem ioX7_measure : IOk mX7_measure := ⟨imX7_measure, lw_gm (List.mem_of_getElem? (i := 406) rfl) rfl⟩
abbrev mX7_lets : MD := (yX7_lets, cX7_lets, 5, some FieldType.int)
set_option maxRecDepth 20000 in
theorem okX7_lets : MOk mX7_lets 2 := ⟨lw_gm (List.mem_of_getElem? (i := 415) rfl) rfl, in_X7, by decide +kernel, by decide⟩
set_option maxRecDepth 20000 in
theorem imX7_lets : Cond.instanceMethod yX7_lets ∈ lw_g := lw_gm (List.mem_of_getElem? (i := 413) rfl) rfl
set_option maxRecDepth 20000 in
theorem ioX7_lets : IOk mX7_lets := ⟨imX7_lets, lw_gm (List.mem_of_getElem? (i := 414) rfl) rfl⟩
abbrev mX7_enter : MD := (yX7_enter, cX7_enter, 4, some FieldType.boolean)
set_option maxRecDepth 20000 in
theorem okX7_enter : MOk mX7_enter 2 := ⟨lw_gm (List.mem_of_getElem? (i := 431) rfl) rfl, in_X7, by decide +kernel, by decide⟩
set_option maxRecDepth 20000 in
theorem imX7_enter : Cond.instanceMethod yX7_enter ∈ lw_g := lw_gm (List.mem_of_getElem? (i := 429) rfl) rfl
set_option maxRecDepth 20000 in
theorem ioX7_enter : IOk mX7_enter := ⟨imX7_enter, lw_gm (List.mem_of_getElem? (i := 430) rfl) rfl⟩
abbrev mX7_protest : MD := (yX7_protest, cX7_protest, 4, some FieldType.boolean)
set_option maxRecDepth 20000 in
theorem okX7_protest : MOk mX7_protest 2 := ⟨lw_gm (List.mem_of_getElem? (i := 478) rfl) rfl, in_X7, by decide +kernel, by decide⟩
set_option maxRecDepth 20000 in
theorem imX7_protest : Cond.instanceMethod yX7_protest ∈ lw_g := lw_gm (List.mem_of_getElem? (i := 476) rfl) rfl
set_option maxRecDepth 20000 in
theorem ioX7_protest : IOk mX7_protest := ⟨imX7_protest, lw_gm (List.mem_of_getElem? (i := 477) rfl) rfl⟩
abbrev mX7_bar : MD := (yX7_bar, cX7_bar, 3, some FieldType.boolean)
set_option maxRecDepth 20000 in
theorem okX7_bar : MOk mX7_bar 2 := ⟨lw_gm (List.mem_of_getElem? (i := 487) rfl) rfl, in_X7, by decide +kernel, by decide⟩
set_option maxRecDepth 20000 in
theorem imX7_bar : Cond.instanceMethod yX7_bar ∈ lw_g := lw_gm (List.mem_of_getElem? (i := 485) rfl) rfl
set_option maxRecDepth 20000 in
theorem ioX7_bar : IOk mX7_bar := ⟨imX7_bar, lw_gm (List.mem_of_getElem? (i := 486) rfl) rfl⟩
abbrev mX7_order : MD := (yX7_order, cX7_order, 5, some FieldType.boolean)
set_option maxRecDepth 20000 in
theorem okX7_order : MOk mX7_order 2 := ⟨lw_gm (List.mem_of_getElem? (i := 491) rfl) rfl, in_X7, by decide +kernel, by decide⟩
set_option maxRecDepth 20000 in
theorem imX7_order : Cond.instanceMethod yX7_order ∈ lw_g := lw_gm (List.mem_of_getElem? (i := 489) rfl) rfl
set_option maxRecDepth 20000 in
theorem ioX7_order : IOk mX7_order := ⟨imX7_order, lw_gm (List.mem_of_getElem? (i := 490) rfl) rfl⟩
abbrev mX7_placed : MD := (yX7_placed, cX7_placed, 4, some FieldType.int)
set_option maxRecDepth 20000 in
theorem okX7_placed : MOk mX7_placed 2 := ⟨lw_gm (List.mem_of_getElem? (i := 515) rfl) rfl, in_X7, by decide +kernel, by decide⟩
set_option maxRecDepth 20000 in
theorem imX7_placed : Cond.instanceMethod yX7_placed ∈ lw_g := lw_gm (List.mem_of_getElem? (i := 513) rfl) rfl
set_option maxRecDepth 20000 in
theorem ioX7_placed : IOk mX7_placed := ⟨imX7_placed, lw_gm (List.mem_of_getElem? (i := 514) rfl) rfl⟩
abbrev mX7_swaps : MD := (yX7_swaps, cX7_swaps, 3, some FieldType.int)
set_option maxRecDepth 20000 in
theorem okX7_swaps : MOk mX7_swaps 1 := ⟨lw_gm (List.mem_of_getElem? (i := 519) rfl) rfl, in_X7, by decide +kernel, by decide⟩
set_option maxRecDepth 20000 in
theorem imX7_swaps : Cond.instanceMethod yX7_swaps ∈ lw_g := lw_gm (List.mem_of_getElem? (i := 517) rfl) rfl
set_option maxRecDepth 20000 in
theorem ioX7_swaps : IOk mX7_swaps := ⟨imX7_swaps, lw_gm (List.mem_of_getElem? (i := 518) rfl) rfl⟩
abbrev mX7_ring : MD := (yX7_ring, cX7_ring, 4, some FieldType.int)
set_option maxRecDepth 20000 in
theorem okX7_ring : MOk mX7_ring 2 := ⟨lw_gm (List.mem_of_getElem? (i := 523) rfl) rfl, in_X7, by decide +kernel, by decide⟩
set_option maxRecDepth 20000 in
theorem imX7_ring : Cond.instanceMethod yX7_ring ∈ lw_g := lw_gm (List.mem_of_getElem? (i := 521) rfl) rfl
set_option maxRecDepth 20000 in
theorem ioX7_ring : IOk mX7_ring := ⟨imX7_ring, lw_gm (List.mem_of_getElem? (i := 522) rfl) rfl⟩
abbrev mX7_cut : MD := (yX7_cut, cX7_cut, 5, some FieldType.boolean)
set_option maxRecDepth 20000 in
theorem okX7_cut : MOk mX7_cut 3 := ⟨lw_gm (List.mem_of_getElem? (i := 535) rfl) rfl, in_X7, by decide +kernel, by decide⟩
set_option maxRecDepth 20000 in
theorem imX7_cut : Cond.instanceMethod yX7_cut ∈ lw_g := lw_gm (List.mem_of_getElem? (i := 533) rfl) rfl
set_option maxRecDepth 20000 in
theorem ioX7_cut : IOk mX7_cut := ⟨imX7_cut, lw_gm (List.mem_of_getElem? (i := 534) rfl) rfl⟩
abbrev mX7_card : MD := (yX7_card, cX7_card, 4, some FieldType.int)
set_option maxRecDepth 20000 in
theorem okX7_card : MOk mX7_card 1 := ⟨lw_gm (List.mem_of_getElem? (i := 539) rfl) rfl, in_X7, by decide +kernel, by decide⟩
set_option maxRecDepth 20000 in
theorem imX7_card : Cond.instanceMethod yX7_card ∈ lw_g := lw_gm (List.mem_of_getElem? (i := 537) rfl) rfl
set_option maxRecDepth 20000 in
theorem ioX7_card : IOk mX7_card := ⟨imX7_card, lw_gm (List.mem_of_getElem? (i := 538) rfl) rfl⟩
abbrev mX7_reasons : MD := (yX7_reasons, cX7_reasons, 5, some FieldType.int)
set_option maxRecDepth 20000 in
theorem okX7_reasons : MOk mX7_reasons 2 := ⟨lw_gm (List.mem_of_getElem? (i := 566) rfl) rfl, in_X7, by decide +kernel, by decide⟩
set_option maxRecDepth 20000 in
theorem imX7_reasons : Cond.instanceMethod yX7_reasons ∈ lw_g := lw_gm (List.mem_of_getElem? (i := 564) rfl) rfl
set_option maxRecDepth 20000 in
theorem ioX7_reasons : IOk mX7_reasons := ⟨imX7_reasons, lw_gm (List.mem_of_getElem? (i := 565) rfl) rfl⟩
abbrev mX7_sand : MD := (yX7_sand, cX7_sand, 2, some FieldType.boolean)
set_option maxRecDepth 20000 in
theorem okX7_sand : MOk mX7_sand 1 := ⟨lw_gm (List.mem_of_getElem? (i := 610) rfl) rfl, in_X7, by decide +kernel, by decide⟩
set_option maxRecDepth 20000 in
theorem imX7_sand : Cond.instanceMethod yX7_sand ∈ lw_g := lw_gm (List.mem_of_getElem? (i := 608) rfl) rfl
set_option maxRecDepth 20000 in
theorem ioX7_sand : IOk mX7_sand := ⟨imX7_sand, lw_gm (List.mem_of_getElem? (i := 609) rfl) rfl⟩
abbrev mX7_hour : MD := (yX7_hour, cX7_hour, 2, some FieldType.int)
set_option maxRecDepth 20000 in
theorem okX7_hour : MOk mX7_hour 1 := ⟨lw_gm (List.mem_of_getElem? (i := 614) rfl) rfl, in_X7, by decide +kernel, by decide⟩
set_option maxRecDepth 20000 in
theorem imX7_hour : Cond.instanceMethod yX7_hour ∈ lw_g := lw_gm (List.mem_of_getElem? (i := 612) rfl) rfl
set_option maxRecDepth 20000 in
theorem ioX7_hour : IOk mX7_hour := ⟨imX7_hour, lw_gm (List.mem_of_getElem? (i := 613) rfl) rfl⟩
abbrev mX7_team : MD := (yX7_team, cX7_team, 6, some FieldType.int)
set_option maxRecDepth 20000 in
theorem okX7_team : MOk mX7_team 1 := ⟨lw_gm (List.mem_of_getElem? (i := 628) rfl) rfl, in_X7, by decide +kernel, by decide⟩
set_option maxRecDepth 20000 in
theorem imX7_team : Cond.instanceMethod yX7_team ∈ lw_g := lw_gm (List.mem_of_getElem? (i := 626) rfl) rfl
set_option maxRecDepth 20000 in
theorem ioX7_team : IOk mX7_team := ⟨imX7_team, lw_gm (List.mem_of_getElem? (i := 627) rfl) rfl⟩
abbrev mX7_price : MD := (yX7_price, cX7_price, 5, some FieldType.int)
set_option maxRecDepth 20000 in
theorem okX7_price : MOk mX7_price 1 := ⟨lw_gm (List.mem_of_getElem? (i := 637) rfl) rfl, in_X7, by decide +kernel, by decide⟩
set_option maxRecDepth 20000 in
theorem imX7_price : Cond.instanceMethod yX7_price ∈ lw_g := lw_gm (List.mem_of_getElem? (i := 635) rfl) rfl
set_option maxRecDepth 20000 in
theorem ioX7_price : IOk mX7_price := ⟨imX7_price, lw_gm (List.mem_of_getElem? (i := 636) rfl) rfl⟩
abbrev mX7_look : MD := (yX7_look, cX7_look, 4, some FieldType.int)
set_option maxRecDepth 20000 in
theorem okX7_look : MOk mX7_look 2 := ⟨lw_gm (List.mem_of_getElem? (i := 641) rfl) rfl, in_X7, by decide +kernel, by decide⟩
set_option maxRecDepth 20000 in
theorem imX7_look : Cond.instanceMethod yX7_look ∈ lw_g := lw_gm (List.mem_of_getElem? (i := 639) rfl) rfl
set_option maxRecDepth 20000 in
theorem ioX7_look : IOk mX7_look := ⟨imX7_look, lw_gm (List.mem_of_getElem? (i := 640) rfl) rfl⟩
abbrev mX7_count : MD := (yX7_count, cX7_count, 2, some FieldType.int)
set_option maxRecDepth 20000 in
theorem okX7_count : MOk mX7_count 1 := ⟨lw_gm (List.mem_of_getElem? (i := 649) rfl) rfl, in_X7, by decide +kernel, by decide⟩
set_option maxRecDepth 20000 in
theorem imX7_count : Cond.instanceMethod yX7_count ∈ lw_g := lw_gm (List.mem_of_getElem? (i := 647) rfl) rfl
set_option maxRecDepth 20000 in
theorem ioX7_count : IOk mX7_count := ⟨imX7_count, lw_gm (List.mem_of_getElem? (i := 648) rfl) rfl⟩
abbrev mX7_isBelow : MD := (yX7_isBelow, cX7_isBelow, 2, some FieldType.boolean)
theorem okX7_isBelow : MOk mX7_isBelow 2 := ⟨lw_gm (List.mem_of_getElem? (i := 282) rfl) rfl, in_X7, by decide +kernel, by decide⟩
theorem smX7_isBelow : Cond.static yX7_isBelow ∈ lw_g := lw_gm (List.mem_of_getElem? (i := 281) rfl) rfl
abbrev mX7_classAt : MD := (yX7_classAt, cX7_classAt, 2, some (FieldType.object "CattleShow$ShowClass"))
theorem okX7_classAt : MOk mX7_classAt 1 := ⟨lw_gm (List.mem_of_getElem? (i := 279) rfl) rfl, in_X7, by decide +kernel, by decide⟩
theorem imX7_classAt : Cond.instanceMethod yX7_classAt ∈ lw_g := lw_gm (List.mem_of_getElem? (i := 278) rfl) rfl
theorem ioX7_classAt : IOk mX7_classAt := ⟨imX7_classAt, lw_gm (List.mem_of_getElem? (i := 1) rfl) rfl⟩
abbrev mX7_beastAt : MD := (yX7_beastAt, cX7_beastAt, 2, some (FieldType.object "CattleShow$Beast"))
set_option maxRecDepth 20000 in
theorem okX7_beastAt : MOk mX7_beastAt 1 := ⟨lw_gm (List.mem_of_getElem? (i := 411) rfl) rfl, in_X7, by decide +kernel, by decide⟩
set_option maxRecDepth 20000 in
theorem imX7_beastAt : Cond.instanceMethod yX7_beastAt ∈ lw_g := lw_gm (List.mem_of_getElem? (i := 410) rfl) rfl
theorem ioX7_beastAt : IOk mX7_beastAt := ⟨imX7_beastAt, lw_gm (List.mem_of_getElem? (i := 7) rfl) rfl⟩
abbrev mX7_leastPlace : MD := (yX7_leastPlace, cX7_leastPlace, 5, some FieldType.int)
set_option maxRecDepth 20000 in
theorem okX7_leastPlace : MOk mX7_leastPlace 1 := ⟨lw_gm (List.mem_of_getElem? (i := 632) rfl) rfl, in_X7, by decide +kernel, by decide⟩
set_option maxRecDepth 20000 in
theorem imX7_leastPlace : Cond.instanceMethod yX7_leastPlace ∈ lw_g := lw_gm (List.mem_of_getElem? (i := 631) rfl) rfl
theorem ioX7_leastPlace : IOk mX7_leastPlace := ⟨imX7_leastPlace, lw_gm (List.mem_of_getElem? (i := 20) rfl) rfl⟩
abbrev mX7_classesOf : MD := (yX7_classesOf, cX7_classesOf, 4, some FieldType.int)
set_option maxRecDepth 20000 in
theorem okX7_classesOf : MOk mX7_classesOf 1 := ⟨lw_gm (List.mem_of_getElem? (i := 645) rfl) rfl, in_X7, by decide +kernel, by decide⟩
set_option maxRecDepth 20000 in
theorem imX7_classesOf : Cond.instanceMethod yX7_classesOf ∈ lw_g := lw_gm (List.mem_of_getElem? (i := 644) rfl) rfl
theorem ioX7_classesOf : IOk mX7_classesOf := ⟨imX7_classesOf, lw_gm (List.mem_of_getElem? (i := 21) rfl) rfl⟩
abbrev mX8_init : MD := (yX8_init, cX8_init, 2, none)
set_option maxRecDepth 20000 in
theorem okX8_init : MOk mX8_init 0 := ⟨lw_gm (List.mem_of_getElem? (i := 663) rfl) rfl, in_X8, by decide +kernel, by decide⟩
set_option maxRecDepth 20000 in
theorem imX8_init : Cond.instanceMethod yX8_init ∈ lw_g := lw_gm (List.mem_of_getElem? (i := 662) rfl) rfl
abbrev mX8_lies : MD := (yX8_lies, cX8_lies, 3, some FieldType.boolean)
set_option maxRecDepth 20000 in
theorem okX8_lies : MOk mX8_lies 3 := ⟨lw_gm (List.mem_of_getElem? (i := 786) rfl) rfl, in_X8, by decide +kernel, by decide⟩
set_option maxRecDepth 20000 in
theorem smX8_lies : Cond.static yX8_lies ∈ lw_g := lw_gm (List.mem_of_getElem? (i := 785) rfl) rfl
abbrev mX8_isClass : MD := (yX8_isClass, cX8_isClass, 1, some FieldType.boolean)
set_option maxRecDepth 20000 in
theorem okX8_isClass : MOk mX8_isClass 1 := ⟨lw_gm (List.mem_of_getElem? (i := 783) rfl) rfl, in_X8, by decide +kernel, by decide⟩
set_option maxRecDepth 20000 in
theorem smX8_isClass : Cond.static yX8_isClass ∈ lw_g := lw_gm (List.mem_of_getElem? (i := 782) rfl) rfl
abbrev mX8_isBeast : MD := (yX8_isBeast, cX8_isBeast, 2, some FieldType.boolean)
set_option maxRecDepth 20000 in
theorem okX8_isBeast : MOk mX8_isBeast 1 := ⟨lw_gm (List.mem_of_getElem? (i := 834) rfl) rfl, in_X8, by decide +kernel, by decide⟩
set_option maxRecDepth 20000 in
theorem imX8_isBeast : Cond.instanceMethod yX8_isBeast ∈ lw_g := lw_gm (List.mem_of_getElem? (i := 833) rfl) rfl
theorem ioX8_isBeast : IOk mX8_isBeast := ⟨imX8_isBeast, lw_gm (List.mem_of_getElem? (i := 32) rfl) rfl⟩
abbrev mX8_has : MD := (yX8_has, cX8_has, 2, some FieldType.boolean)
set_option maxRecDepth 20000 in
theorem okX8_has : MOk mX8_has 2 := ⟨lw_gm (List.mem_of_getElem? (i := 849) rfl) rfl, in_X8, by decide +kernel, by decide⟩
set_option maxRecDepth 20000 in
theorem smX8_has : Cond.static yX8_has ∈ lw_g := lw_gm (List.mem_of_getElem? (i := 848) rfl) rfl
abbrev mX8_sizeOf : MD := (yX8_sizeOf, cX8_sizeOf, 3, some FieldType.int)
set_option maxRecDepth 20000 in
theorem okX8_sizeOf : MOk mX8_sizeOf 1 := ⟨lw_gm (List.mem_of_getElem? (i := 856) rfl) rfl, in_X8, by decide +kernel, by decide⟩
set_option maxRecDepth 20000 in
theorem smX8_sizeOf : Cond.static yX8_sizeOf ∈ lw_g := lw_gm (List.mem_of_getElem? (i := 855) rfl) rfl
abbrev mX8_push : MD := (yX8_push, cX8_push, 3, none)
set_option maxRecDepth 20000 in
theorem okX8_push : MOk mX8_push 1 := ⟨lw_gm (List.mem_of_getElem? (i := 776) rfl) rfl, in_X8, by decide +kernel, by decide⟩
set_option maxRecDepth 20000 in
theorem imX8_push : Cond.instanceMethod yX8_push ∈ lw_g := lw_gm (List.mem_of_getElem? (i := 775) rfl) rfl
theorem ioX8_push : IOk mX8_push := ⟨imX8_push, lw_gm (List.mem_of_getElem? (i := 22) rfl) rfl⟩
abbrev mX8_feed : MD := (yX8_feed, cX8_feed, 6, some FieldType.int)
set_option maxRecDepth 20000 in
theorem okX8_feed : MOk mX8_feed 5 := ⟨lw_gm (List.mem_of_getElem? (i := 772) rfl) rfl, in_X8, by decide +kernel, by decide⟩
set_option maxRecDepth 20000 in
theorem imX8_feed : Cond.instanceMethod yX8_feed ∈ lw_g := lw_gm (List.mem_of_getElem? (i := 770) rfl) rfl
set_option maxRecDepth 20000 in
theorem ioX8_feed : IOk mX8_feed := ⟨imX8_feed, lw_gm (List.mem_of_getElem? (i := 771) rfl) rfl⟩
abbrev mX8_here : MD := (yX8_here, cX8_here, 1, some FieldType.int)
set_option maxRecDepth 20000 in
theorem okX8_here : MOk mX8_here 0 := ⟨lw_gm (List.mem_of_getElem? (i := 798) rfl) rfl, in_X8, by decide +kernel, by decide⟩
set_option maxRecDepth 20000 in
theorem imX8_here : Cond.instanceMethod yX8_here ∈ lw_g := lw_gm (List.mem_of_getElem? (i := 797) rfl) rfl
theorem ioX8_here : IOk mX8_here := ⟨imX8_here, lw_gm (List.mem_of_getElem? (i := 25) rfl) rfl⟩
abbrev mX8_fails : MD := (yX8_fails, cX8_fails, 3, none)
set_option maxRecDepth 20000 in
theorem okX8_fails : MOk mX8_fails 2 := ⟨lw_gm (List.mem_of_getElem? (i := 802) rfl) rfl, in_X8, by decide +kernel, by decide⟩
set_option maxRecDepth 20000 in
theorem imX8_fails : Cond.instanceMethod yX8_fails ∈ lw_g := lw_gm (List.mem_of_getElem? (i := 801) rfl) rfl
theorem ioX8_fails : IOk mX8_fails := ⟨imX8_fails, lw_gm (List.mem_of_getElem? (i := 26) rfl) rfl⟩
abbrev mX8_begins : MD := (yX8_begins, cX8_begins, 2, none)
set_option maxRecDepth 20000 in
theorem okX8_begins : MOk mX8_begins 1 := ⟨lw_gm (List.mem_of_getElem? (i := 790) rfl) rfl, in_X8, by decide +kernel, by decide⟩
set_option maxRecDepth 20000 in
theorem imX8_begins : Cond.instanceMethod yX8_begins ∈ lw_g := lw_gm (List.mem_of_getElem? (i := 789) rfl) rfl
theorem ioX8_begins : IOk mX8_begins := ⟨imX8_begins, lw_gm (List.mem_of_getElem? (i := 23) rfl) rfl⟩
abbrev mX8_seesDigit : MD := (yX8_seesDigit, cX8_seesDigit, 1, some FieldType.boolean)
set_option maxRecDepth 20000 in
theorem okX8_seesDigit : MOk mX8_seesDigit 0 := ⟨lw_gm (List.mem_of_getElem? (i := 810) rfl) rfl, in_X8, by decide +kernel, by decide⟩
set_option maxRecDepth 20000 in
theorem imX8_seesDigit : Cond.instanceMethod yX8_seesDigit ∈ lw_g := lw_gm (List.mem_of_getElem? (i := 809) rfl) rfl
theorem ioX8_seesDigit : IOk mX8_seesDigit := ⟨imX8_seesDigit, lw_gm (List.mem_of_getElem? (i := 28) rfl) rfl⟩
abbrev mX8_readNumber : MD := (yX8_readNumber, cX8_readNumber, 3, some FieldType.int)
set_option maxRecDepth 20000 in
theorem okX8_readNumber : MOk mX8_readNumber 0 := ⟨lw_gm (List.mem_of_getElem? (i := 822) rfl) rfl, in_X8, by decide +kernel, by decide⟩
set_option maxRecDepth 20000 in
theorem imX8_readNumber : Cond.instanceMethod yX8_readNumber ∈ lw_g := lw_gm (List.mem_of_getElem? (i := 821) rfl) rfl
theorem ioX8_readNumber : IOk mX8_readNumber := ⟨imX8_readNumber, lw_gm (List.mem_of_getElem? (i := 31) rfl) rfl⟩
abbrev mX8_keeps : MD := (yX8_keeps, cX8_keeps, 3, none)
set_option maxRecDepth 20000 in
theorem okX8_keeps : MOk mX8_keeps 2 := ⟨lw_gm (List.mem_of_getElem? (i := 814) rfl) rfl, in_X8, by decide +kernel, by decide⟩
set_option maxRecDepth 20000 in
theorem imX8_keeps : Cond.instanceMethod yX8_keeps ∈ lw_g := lw_gm (List.mem_of_getElem? (i := 813) rfl) rfl
theorem ioX8_keeps : IOk mX8_keeps := ⟨imX8_keeps, lw_gm (List.mem_of_getElem? (i := 29) rfl) rfl⟩
abbrev mX8_breeds : MD := (yX8_breeds, cX8_breeds, 4, none)
set_option maxRecDepth 20000 in
theorem okX8_breeds : MOk mX8_breeds 0 := ⟨lw_gm (List.mem_of_getElem? (i := 806) rfl) rfl, in_X8, by decide +kernel, by decide⟩
set_option maxRecDepth 20000 in
theorem imX8_breeds : Cond.instanceMethod yX8_breeds ∈ lw_g := lw_gm (List.mem_of_getElem? (i := 805) rfl) rfl
theorem ioX8_breeds : IOk mX8_breeds := ⟨imX8_breeds, lw_gm (List.mem_of_getElem? (i := 27) rfl) rfl⟩
abbrev mX8_measures : MD := (yX8_measures, cX8_measures, 4, none)
set_option maxRecDepth 20000 in
theorem okX8_measures : MOk mX8_measures 0 := ⟨lw_gm (List.mem_of_getElem? (i := 818) rfl) rfl, in_X8, by decide +kernel, by decide⟩
set_option maxRecDepth 20000 in
theorem imX8_measures : Cond.instanceMethod yX8_measures ∈ lw_g := lw_gm (List.mem_of_getElem? (i := 817) rfl) rfl
theorem ioX8_measures : IOk mX8_measures := ⟨imX8_measures, lw_gm (List.mem_of_getElem? (i := 30) rfl) rfl⟩
abbrev mX8_clause : MD := (yX8_clause, cX8_clause, 2, none)
set_option maxRecDepth 20000 in
theorem okX8_clause : MOk mX8_clause 0 := ⟨lw_gm (List.mem_of_getElem? (i := 794) rfl) rfl, in_X8, by decide +kernel, by decide⟩
set_option maxRecDepth 20000 in
theorem imX8_clause : Cond.instanceMethod yX8_clause ∈ lw_g := lw_gm (List.mem_of_getElem? (i := 793) rfl) rfl
theorem ioX8_clause : IOk mX8_clause := ⟨imX8_clause, lw_gm (List.mem_of_getElem? (i := 24) rfl) rfl⟩
abbrev mX8_text : MD := (yX8_text, cX8_text, 5, some FieldType.int)
set_option maxRecDepth 20000 in
theorem okX8_text : MOk mX8_text 2 := ⟨lw_gm (List.mem_of_getElem? (i := 780) rfl) rfl, in_X8, by decide +kernel, by decide⟩
set_option maxRecDepth 20000 in
theorem imX8_text : Cond.instanceMethod yX8_text ∈ lw_g := lw_gm (List.mem_of_getElem? (i := 778) rfl) rfl
set_option maxRecDepth 20000 in
theorem ioX8_text : IOk mX8_text := ⟨imX8_text, lw_gm (List.mem_of_getElem? (i := 779) rfl) rfl⟩
abbrev mX8_beast : MD := (yX8_beast, cX8_beast, 5, some FieldType.int)
set_option maxRecDepth 20000 in
theorem okX8_beast : MOk mX8_beast 4 := ⟨lw_gm (List.mem_of_getElem? (i := 826) rfl) rfl, in_X8, by decide +kernel, by decide⟩
set_option maxRecDepth 20000 in
theorem imX8_beast : Cond.instanceMethod yX8_beast ∈ lw_g := lw_gm (List.mem_of_getElem? (i := 824) rfl) rfl
set_option maxRecDepth 20000 in
theorem ioX8_beast : IOk mX8_beast := ⟨imX8_beast, lw_gm (List.mem_of_getElem? (i := 825) rfl) rfl⟩
abbrev mX8_measure : MD := (yX8_measure, cX8_measure, 4, some FieldType.boolean)
set_option maxRecDepth 20000 in
theorem okX8_measure : MOk mX8_measure 3 := ⟨lw_gm (List.mem_of_getElem? (i := 830) rfl) rfl, in_X8, by decide +kernel, by decide⟩
set_option maxRecDepth 20000 in
theorem imX8_measure : Cond.instanceMethod yX8_measure ∈ lw_g := lw_gm (List.mem_of_getElem? (i := 828) rfl) rfl
set_option maxRecDepth 20000 in
theorem ioX8_measure : IOk mX8_measure := ⟨imX8_measure, lw_gm (List.mem_of_getElem? (i := 829) rfl) rfl⟩
abbrev mX8_holds : MD := (yX8_holds, cX8_holds, 4, some FieldType.boolean)
set_option maxRecDepth 20000 in
theorem okX8_holds : MOk mX8_holds 3 := ⟨lw_gm (List.mem_of_getElem? (i := 846) rfl) rfl, in_X8, by decide +kernel, by decide⟩
set_option maxRecDepth 20000 in
theorem imX8_holds : Cond.instanceMethod yX8_holds ∈ lw_g := lw_gm (List.mem_of_getElem? (i := 845) rfl) rfl
theorem ioX8_holds : IOk mX8_holds := ⟨imX8_holds, lw_gm (List.mem_of_getElem? (i := 34) rfl) rfl⟩
abbrev mX8_isLet : MD := (yX8_isLet, cX8_isLet, 4, some FieldType.boolean)
set_option maxRecDepth 20000 in
theorem okX8_isLet : MOk mX8_isLet 2 := ⟨lw_gm (List.mem_of_getElem? (i := 842) rfl) rfl, in_X8, by decide +kernel, by decide⟩
set_option maxRecDepth 20000 in
theorem imX8_isLet : Cond.instanceMethod yX8_isLet ∈ lw_g := lw_gm (List.mem_of_getElem? (i := 841) rfl) rfl
theorem ioX8_isLet : IOk mX8_isLet := ⟨imX8_isLet, lw_gm (List.mem_of_getElem? (i := 33) rfl) rfl⟩
abbrev mX8_lets : MD := (yX8_lets, cX8_lets, 3, some FieldType.int)
set_option maxRecDepth 20000 in
theorem okX8_lets : MOk mX8_lets 2 := ⟨lw_gm (List.mem_of_getElem? (i := 838) rfl) rfl, in_X8, by decide +kernel, by decide⟩
set_option maxRecDepth 20000 in
theorem imX8_lets : Cond.instanceMethod yX8_lets ∈ lw_g := lw_gm (List.mem_of_getElem? (i := 836) rfl) rfl
set_option maxRecDepth 20000 in
theorem ioX8_lets : IOk mX8_lets := ⟨imX8_lets, lw_gm (List.mem_of_getElem? (i := 837) rfl) rfl⟩
abbrev mX8_enter : MD := (yX8_enter, cX8_enter, 4, some FieldType.boolean)
set_option maxRecDepth 20000 in
theorem okX8_enter : MOk mX8_enter 2 := ⟨lw_gm (List.mem_of_getElem? (i := 853) rfl) rfl, in_X8, by decide +kernel, by decide⟩
set_option maxRecDepth 20000 in
theorem imX8_enter : Cond.instanceMethod yX8_enter ∈ lw_g := lw_gm (List.mem_of_getElem? (i := 851) rfl) rfl
set_option maxRecDepth 20000 in
theorem ioX8_enter : IOk mX8_enter := ⟨imX8_enter, lw_gm (List.mem_of_getElem? (i := 852) rfl) rfl⟩
abbrev mX8_protest : MD := (yX8_protest, cX8_protest, 3, some FieldType.boolean)
set_option maxRecDepth 20000 in
theorem okX8_protest : MOk mX8_protest 2 := ⟨lw_gm (List.mem_of_getElem? (i := 860) rfl) rfl, in_X8, by decide +kernel, by decide⟩
set_option maxRecDepth 20000 in
theorem imX8_protest : Cond.instanceMethod yX8_protest ∈ lw_g := lw_gm (List.mem_of_getElem? (i := 858) rfl) rfl
set_option maxRecDepth 20000 in
theorem ioX8_protest : IOk mX8_protest := ⟨imX8_protest, lw_gm (List.mem_of_getElem? (i := 859) rfl) rfl⟩
abbrev mX8_bar : MD := (yX8_bar, cX8_bar, 3, some FieldType.boolean)
set_option maxRecDepth 20000 in
theorem okX8_bar : MOk mX8_bar 2 := ⟨lw_gm (List.mem_of_getElem? (i := 864) rfl) rfl, in_X8, by decide +kernel, by decide⟩
set_option maxRecDepth 20000 in
theorem imX8_bar : Cond.instanceMethod yX8_bar ∈ lw_g := lw_gm (List.mem_of_getElem? (i := 862) rfl) rfl
set_option maxRecDepth 20000 in
theorem ioX8_bar : IOk mX8_bar := ⟨imX8_bar, lw_gm (List.mem_of_getElem? (i := 863) rfl) rfl⟩
abbrev mX8_isRowOf : MD := (yX8_isRowOf, cX8_isRowOf, 5, some FieldType.boolean)
set_option maxRecDepth 20000 in
theorem okX8_isRowOf : MOk mX8_isRowOf 1 := ⟨lw_gm (List.mem_of_getElem? (i := 872) rfl) rfl, in_X8, by decide +kernel, by decide⟩
set_option maxRecDepth 20000 in
theorem imX8_isRowOf : Cond.instanceMethod yX8_isRowOf ∈ lw_g := lw_gm (List.mem_of_getElem? (i := 871) rfl) rfl
theorem ioX8_isRowOf : IOk mX8_isRowOf := ⟨imX8_isRowOf, lw_gm (List.mem_of_getElem? (i := 35) rfl) rfl⟩
abbrev mX8_order : MD := (yX8_order, cX8_order, 5, some FieldType.boolean)
set_option maxRecDepth 20000 in
theorem okX8_order : MOk mX8_order 2 := ⟨lw_gm (List.mem_of_getElem? (i := 868) rfl) rfl, in_X8, by decide +kernel, by decide⟩
set_option maxRecDepth 20000 in
theorem imX8_order : Cond.instanceMethod yX8_order ∈ lw_g := lw_gm (List.mem_of_getElem? (i := 866) rfl) rfl
set_option maxRecDepth 20000 in
theorem ioX8_order : IOk mX8_order := ⟨imX8_order, lw_gm (List.mem_of_getElem? (i := 867) rfl) rfl⟩
abbrev mX8_counts : MD := (yX8_counts, cX8_counts, 3, some FieldType.boolean)
set_option maxRecDepth 20000 in
theorem okX8_counts : MOk mX8_counts 2 := ⟨lw_gm (List.mem_of_getElem? (i := 888) rfl) rfl, in_X8, by decide +kernel, by decide⟩
set_option maxRecDepth 20000 in
theorem imX8_counts : Cond.instanceMethod yX8_counts ∈ lw_g := lw_gm (List.mem_of_getElem? (i := 887) rfl) rfl
theorem ioX8_counts : IOk mX8_counts := ⟨imX8_counts, lw_gm (List.mem_of_getElem? (i := 38) rfl) rfl⟩
abbrev mX8_placeIn : MD := (yX8_placeIn, cX8_placeIn, 5, some FieldType.int)
set_option maxRecDepth 20000 in
theorem okX8_placeIn : MOk mX8_placeIn 3 := ⟨lw_gm (List.mem_of_getElem? (i := 892) rfl) rfl, in_X8, by decide +kernel, by decide⟩
set_option maxRecDepth 20000 in
theorem imX8_placeIn : Cond.instanceMethod yX8_placeIn ∈ lw_g := lw_gm (List.mem_of_getElem? (i := 891) rfl) rfl
theorem ioX8_placeIn : IOk mX8_placeIn := ⟨imX8_placeIn, lw_gm (List.mem_of_getElem? (i := 39) rfl) rfl⟩
abbrev mX8_ahead : MD := (yX8_ahead, cX8_ahead, 6, some FieldType.int)
set_option maxRecDepth 20000 in
theorem okX8_ahead : MOk mX8_ahead 3 := ⟨lw_gm (List.mem_of_getElem? (i := 884) rfl) rfl, in_X8, by decide +kernel, by decide⟩
set_option maxRecDepth 20000 in
theorem imX8_ahead : Cond.instanceMethod yX8_ahead ∈ lw_g := lw_gm (List.mem_of_getElem? (i := 883) rfl) rfl
theorem ioX8_ahead : IOk mX8_ahead := ⟨imX8_ahead, lw_gm (List.mem_of_getElem? (i := 37) rfl) rfl⟩
abbrev mX8_cost : MD := (yX8_cost, cX8_cost, 5, some FieldType.int)
set_option maxRecDepth 20000 in
theorem okX8_cost : MOk mX8_cost 2 := ⟨lw_gm (List.mem_of_getElem? (i := 896) rfl) rfl, in_X8, by decide +kernel, by decide⟩
set_option maxRecDepth 20000 in
theorem imX8_cost : Cond.instanceMethod yX8_cost ∈ lw_g := lw_gm (List.mem_of_getElem? (i := 895) rfl) rfl
theorem ioX8_cost : IOk mX8_cost := ⟨imX8_cost, lw_gm (List.mem_of_getElem? (i := 40) rfl) rfl⟩
abbrev mX8_joins : MD := (yX8_joins, cX8_joins, 5, none)
set_option maxRecDepth 20000 in
theorem okX8_joins : MOk mX8_joins 1 := ⟨lw_gm (List.mem_of_getElem? (i := 880) rfl) rfl, in_X8, by decide +kernel, by decide⟩
set_option maxRecDepth 20000 in
theorem imX8_joins : Cond.instanceMethod yX8_joins ∈ lw_g := lw_gm (List.mem_of_getElem? (i := 879) rfl) rfl
theorem ioX8_joins : IOk mX8_joins := ⟨imX8_joins, lw_gm (List.mem_of_getElem? (i := 36) rfl) rfl⟩
abbrev mX8_placed : MD := (yX8_placed, cX8_placed, 3, some FieldType.int)
set_option maxRecDepth 20000 in
theorem okX8_placed : MOk mX8_placed 2 := ⟨lw_gm (List.mem_of_getElem? (i := 876) rfl) rfl, in_X8, by decide +kernel, by decide⟩
set_option maxRecDepth 20000 in
theorem imX8_placed : Cond.instanceMethod yX8_placed ∈ lw_g := lw_gm (List.mem_of_getElem? (i := 874) rfl) rfl
set_option maxRecDepth 20000 in
theorem ioX8_placed : IOk mX8_placed := ⟨imX8_placed, lw_gm (List.mem_of_getElem? (i := 875) rfl) rfl⟩
abbrev mX8_swaps : MD := (yX8_swaps, cX8_swaps, 2, some FieldType.int)
set_option maxRecDepth 20000 in
theorem okX8_swaps : MOk mX8_swaps 1 := ⟨lw_gm (List.mem_of_getElem? (i := 900) rfl) rfl, in_X8, by decide +kernel, by decide⟩
set_option maxRecDepth 20000 in
theorem imX8_swaps : Cond.instanceMethod yX8_swaps ∈ lw_g := lw_gm (List.mem_of_getElem? (i := 898) rfl) rfl
set_option maxRecDepth 20000 in
theorem ioX8_swaps : IOk mX8_swaps := ⟨imX8_swaps, lw_gm (List.mem_of_getElem? (i := 899) rfl) rfl⟩
abbrev mX8_ring : MD := (yX8_ring, cX8_ring, 6, some FieldType.int)
set_option maxRecDepth 20000 in
theorem okX8_ring : MOk mX8_ring 2 := ⟨lw_gm (List.mem_of_getElem? (i := 904) rfl) rfl, in_X8, by decide +kernel, by decide⟩
set_option maxRecDepth 20000 in
theorem imX8_ring : Cond.instanceMethod yX8_ring ∈ lw_g := lw_gm (List.mem_of_getElem? (i := 902) rfl) rfl
set_option maxRecDepth 20000 in
theorem ioX8_ring : IOk mX8_ring := ⟨imX8_ring, lw_gm (List.mem_of_getElem? (i := 903) rfl) rfl⟩
abbrev mX8_isMore : MD := (yX8_isMore, cX8_isMore, 3, some FieldType.boolean)
set_option maxRecDepth 20000 in
theorem okX8_isMore : MOk mX8_isMore 2 := ⟨lw_gm (List.mem_of_getElem? (i := 908) rfl) rfl, in_X8, by decide +kernel, by decide⟩
set_option maxRecDepth 20000 in
theorem imX8_isMore : Cond.instanceMethod yX8_isMore ∈ lw_g := lw_gm (List.mem_of_getElem? (i := 907) rfl) rfl
theorem ioX8_isMore : IOk mX8_isMore := ⟨imX8_isMore, lw_gm (List.mem_of_getElem? (i := 41) rfl) rfl⟩
abbrev mX8_placeNow : MD := (yX8_placeNow, cX8_placeNow, 3, some FieldType.int)
set_option maxRecDepth 20000 in
theorem okX8_placeNow : MOk mX8_placeNow 1 := ⟨lw_gm (List.mem_of_getElem? (i := 920) rfl) rfl, in_X8, by decide +kernel, by decide⟩
set_option maxRecDepth 20000 in
theorem imX8_placeNow : Cond.instanceMethod yX8_placeNow ∈ lw_g := lw_gm (List.mem_of_getElem? (i := 919) rfl) rfl
theorem ioX8_placeNow : IOk mX8_placeNow := ⟨imX8_placeNow, lw_gm (List.mem_of_getElem? (i := 42) rfl) rfl⟩
abbrev mX8_cut : MD := (yX8_cut, cX8_cut, 4, some FieldType.boolean)
set_option maxRecDepth 20000 in
theorem okX8_cut : MOk mX8_cut 3 := ⟨lw_gm (List.mem_of_getElem? (i := 912) rfl) rfl, in_X8, by decide +kernel, by decide⟩
set_option maxRecDepth 20000 in
theorem imX8_cut : Cond.instanceMethod yX8_cut ∈ lw_g := lw_gm (List.mem_of_getElem? (i := 910) rfl) rfl
set_option maxRecDepth 20000 in
theorem ioX8_cut : IOk mX8_cut := ⟨imX8_cut, lw_gm (List.mem_of_getElem? (i := 911) rfl) rfl⟩
abbrev mX8_card : MD := (yX8_card, cX8_card, 10, some FieldType.int)
set_option maxRecDepth 20000 in
theorem okX8_card : MOk mX8_card 1 := ⟨lw_gm (List.mem_of_getElem? (i := 916) rfl) rfl, in_X8, by decide +kernel, by decide⟩
set_option maxRecDepth 20000 in
theorem imX8_card : Cond.instanceMethod yX8_card ∈ lw_g := lw_gm (List.mem_of_getElem? (i := 914) rfl) rfl
set_option maxRecDepth 20000 in
theorem ioX8_card : IOk mX8_card := ⟨imX8_card, lw_gm (List.mem_of_getElem? (i := 915) rfl) rfl⟩
abbrev mX8_place : MD := (yX8_place, cX8_place, 3, some FieldType.int)
set_option maxRecDepth 20000 in
theorem okX8_place : MOk mX8_place 1 := ⟨lw_gm (List.mem_of_getElem? (i := 932) rfl) rfl, in_X8, by decide +kernel, by decide⟩
set_option maxRecDepth 20000 in
theorem imX8_place : Cond.instanceMethod yX8_place ∈ lw_g := lw_gm (List.mem_of_getElem? (i := 931) rfl) rfl
theorem ioX8_place : IOk mX8_place := ⟨imX8_place, lw_gm (List.mem_of_getElem? (i := 44) rfl) rfl⟩
abbrev mX8_must : MD := (yX8_must, cX8_must, 2, none)
set_option maxRecDepth 20000 in
theorem okX8_must : MOk mX8_must 1 := ⟨lw_gm (List.mem_of_getElem? (i := 936) rfl) rfl, in_X8, by decide +kernel, by decide⟩
set_option maxRecDepth 20000 in
theorem imX8_must : Cond.instanceMethod yX8_must ∈ lw_g := lw_gm (List.mem_of_getElem? (i := 935) rfl) rfl
theorem ioX8_must : IOk mX8_must := ⟨imX8_must, lw_gm (List.mem_of_getElem? (i := 45) rfl) rfl⟩
abbrev mX8_pair : MD := (yX8_pair, cX8_pair, 9, none)
set_option maxRecDepth 20000 in
theorem okX8_pair : MOk mX8_pair 0 := ⟨lw_gm (List.mem_of_getElem? (i := 928) rfl) rfl, in_X8, by decide +kernel, by decide⟩
set_option maxRecDepth 20000 in
theorem imX8_pair : Cond.instanceMethod yX8_pair ∈ lw_g := lw_gm (List.mem_of_getElem? (i := 927) rfl) rfl
theorem ioX8_pair : IOk mX8_pair := ⟨imX8_pair, lw_gm (List.mem_of_getElem? (i := 43) rfl) rfl⟩
abbrev mX8_reasons : MD := (yX8_reasons, cX8_reasons, 4, some FieldType.int)
set_option maxRecDepth 20000 in
theorem okX8_reasons : MOk mX8_reasons 2 := ⟨lw_gm (List.mem_of_getElem? (i := 924) rfl) rfl, in_X8, by decide +kernel, by decide⟩
set_option maxRecDepth 20000 in
theorem imX8_reasons : Cond.instanceMethod yX8_reasons ∈ lw_g := lw_gm (List.mem_of_getElem? (i := 922) rfl) rfl
set_option maxRecDepth 20000 in
theorem ioX8_reasons : IOk mX8_reasons := ⟨imX8_reasons, lw_gm (List.mem_of_getElem? (i := 923) rfl) rfl⟩
abbrev mX8_sand : MD := (yX8_sand, cX8_sand, 2, some FieldType.boolean)
set_option maxRecDepth 20000 in
theorem okX8_sand : MOk mX8_sand 1 := ⟨lw_gm (List.mem_of_getElem? (i := 940) rfl) rfl, in_X8, by decide +kernel, by decide⟩
set_option maxRecDepth 20000 in
theorem imX8_sand : Cond.instanceMethod yX8_sand ∈ lw_g := lw_gm (List.mem_of_getElem? (i := 938) rfl) rfl
set_option maxRecDepth 20000 in
theorem ioX8_sand : IOk mX8_sand := ⟨imX8_sand, lw_gm (List.mem_of_getElem? (i := 939) rfl) rfl⟩
abbrev mX8_isGood : MD := (yX8_isGood, cX8_isGood, 4, some FieldType.boolean)
set_option maxRecDepth 20000 in
theorem okX8_isGood : MOk mX8_isGood 0 := ⟨lw_gm (List.mem_of_getElem? (i := 952) rfl) rfl, in_X8, by decide +kernel, by decide⟩
set_option maxRecDepth 20000 in
theorem imX8_isGood : Cond.instanceMethod yX8_isGood ∈ lw_g := lw_gm (List.mem_of_getElem? (i := 951) rfl) rfl
theorem ioX8_isGood : IOk mX8_isGood := ⟨imX8_isGood, lw_gm (List.mem_of_getElem? (i := 47) rfl) rfl⟩
abbrev mX8_isNext : MD := (yX8_isNext, cX8_isNext, 3, some FieldType.boolean)
set_option maxRecDepth 20000 in
theorem okX8_isNext : MOk mX8_isNext 1 := ⟨lw_gm (List.mem_of_getElem? (i := 956) rfl) rfl, in_X8, by decide +kernel, by decide⟩
set_option maxRecDepth 20000 in
theorem imX8_isNext : Cond.instanceMethod yX8_isNext ∈ lw_g := lw_gm (List.mem_of_getElem? (i := 955) rfl) rfl
theorem ioX8_isNext : IOk mX8_isNext := ⟨imX8_isNext, lw_gm (List.mem_of_getElem? (i := 48) rfl) rfl⟩
abbrev mX8_lays : MD := (yX8_lays, cX8_lays, 4, some FieldType.int)
set_option maxRecDepth 20000 in
theorem okX8_lays : MOk mX8_lays 0 := ⟨lw_gm (List.mem_of_getElem? (i := 948) rfl) rfl, in_X8, by decide +kernel, by decide⟩
set_option maxRecDepth 20000 in
theorem imX8_lays : Cond.instanceMethod yX8_lays ∈ lw_g := lw_gm (List.mem_of_getElem? (i := 947) rfl) rfl
theorem ioX8_lays : IOk mX8_lays := ⟨imX8_lays, lw_gm (List.mem_of_getElem? (i := 46) rfl) rfl⟩
abbrev mX8_hour : MD := (yX8_hour, cX8_hour, 2, some FieldType.int)
set_option maxRecDepth 20000 in
theorem okX8_hour : MOk mX8_hour 1 := ⟨lw_gm (List.mem_of_getElem? (i := 944) rfl) rfl, in_X8, by decide +kernel, by decide⟩
set_option maxRecDepth 20000 in
theorem imX8_hour : Cond.instanceMethod yX8_hour ∈ lw_g := lw_gm (List.mem_of_getElem? (i := 942) rfl) rfl
set_option maxRecDepth 20000 in
theorem ioX8_hour : IOk mX8_hour := ⟨imX8_hour, lw_gm (List.mem_of_getElem? (i := 943) rfl) rfl⟩
abbrev mX8_ranks : MD := (yX8_ranks, cX8_ranks, 3, none)
set_option maxRecDepth 20000 in
theorem okX8_ranks : MOk mX8_ranks 0 := ⟨lw_gm (List.mem_of_getElem? (i := 964) rfl) rfl, in_X8, by decide +kernel, by decide⟩
set_option maxRecDepth 20000 in
theorem imX8_ranks : Cond.instanceMethod yX8_ranks ∈ lw_g := lw_gm (List.mem_of_getElem? (i := 963) rfl) rfl
theorem ioX8_ranks : IOk mX8_ranks := ⟨imX8_ranks, lw_gm (List.mem_of_getElem? (i := 49) rfl) rfl⟩
abbrev mX8_team : MD := (yX8_team, cX8_team, 6, some FieldType.int)
set_option maxRecDepth 20000 in
theorem okX8_team : MOk mX8_team 1 := ⟨lw_gm (List.mem_of_getElem? (i := 960) rfl) rfl, in_X8, by decide +kernel, by decide⟩
set_option maxRecDepth 20000 in
theorem imX8_team : Cond.instanceMethod yX8_team ∈ lw_g := lw_gm (List.mem_of_getElem? (i := 958) rfl) rfl
set_option maxRecDepth 20000 in
theorem ioX8_team : IOk mX8_team := ⟨imX8_team, lw_gm (List.mem_of_getElem? (i := 959) rfl) rfl⟩
abbrev mX8_price : MD := (yX8_price, cX8_price, 4, some FieldType.int)
set_option maxRecDepth 20000 in
theorem okX8_price : MOk mX8_price 1 := ⟨lw_gm (List.mem_of_getElem? (i := 968) rfl) rfl, in_X8, by decide +kernel, by decide⟩
set_option maxRecDepth 20000 in
theorem imX8_price : Cond.instanceMethod yX8_price ∈ lw_g := lw_gm (List.mem_of_getElem? (i := 966) rfl) rfl
set_option maxRecDepth 20000 in
theorem ioX8_price : IOk mX8_price := ⟨imX8_price, lw_gm (List.mem_of_getElem? (i := 967) rfl) rfl⟩
abbrev mX8_look : MD := (yX8_look, cX8_look, 5, some FieldType.int)
set_option maxRecDepth 20000 in
theorem okX8_look : MOk mX8_look 2 := ⟨lw_gm (List.mem_of_getElem? (i := 972) rfl) rfl, in_X8, by decide +kernel, by decide⟩
set_option maxRecDepth 20000 in
theorem imX8_look : Cond.instanceMethod yX8_look ∈ lw_g := lw_gm (List.mem_of_getElem? (i := 970) rfl) rfl
set_option maxRecDepth 20000 in
theorem ioX8_look : IOk mX8_look := ⟨imX8_look, lw_gm (List.mem_of_getElem? (i := 971) rfl) rfl⟩
abbrev mX8_count : MD := (yX8_count, cX8_count, 4, some FieldType.int)
set_option maxRecDepth 20000 in
theorem okX8_count : MOk mX8_count 1 := ⟨lw_gm (List.mem_of_getElem? (i := 976) rfl) rfl, in_X8, by decide +kernel, by decide⟩
set_option maxRecDepth 20000 in
theorem imX8_count : Cond.instanceMethod yX8_count ∈ lw_g := lw_gm (List.mem_of_getElem? (i := 974) rfl) rfl
set_option maxRecDepth 20000 in
theorem ioX8_count : IOk mX8_count := ⟨imX8_count, lw_gm (List.mem_of_getElem? (i := 975) rfl) rfl⟩
abbrev mJ6_bitCount_0f7a4 : MD := (yJ6_bitCount_0f7a4, cJ6_bitCount_0f7a4, 1, some FieldType.int)
set_option maxRecDepth 20000 in
theorem okJ6_bitCount_0f7a4 : MOk mJ6_bitCount_0f7a4 1 := ⟨lw_gm (List.mem_of_getElem? (i := 498) rfl) rfl, in_J6, by decide +kernel, by decide⟩
set_option maxRecDepth 20000 in
theorem smJ6_bitCount_0f7a4 : Cond.static yJ6_bitCount_0f7a4 ∈ lw_g := lw_gm (List.mem_of_getElem? (i := 497) rfl) rfl
abbrev mJ9_max_7cf53 : MD := (yJ9_max_7cf53, cJ9_max_7cf53, 2, some FieldType.int)
theorem okJ9_max_7cf53 : MOk mJ9_max_7cf53 2 := ⟨lw_gm (List.mem_of_getElem? (i := 345) rfl) rfl, in_J9, by decide +kernel, by decide⟩
theorem smJ9_max_7cf53 : Cond.static yJ9_max_7cf53 ∈ lw_g := lw_gm (List.mem_of_getElem? (i := 344) rfl) rfl
abbrev mJ9_min_7cf53 : MD := (yJ9_min_7cf53, cJ9_min_7cf53, 2, some FieldType.int)
theorem okJ9_min_7cf53 : MOk mJ9_min_7cf53 2 := ⟨lw_gm (List.mem_of_getElem? (i := 352) rfl) rfl, in_J9, by decide +kernel, by decide⟩
theorem smJ9_min_7cf53 : Cond.static yJ9_min_7cf53 ∈ lw_g := lw_gm (List.mem_of_getElem? (i := 351) rfl) rfl
abbrev mJ7_fill_53178 : MD := (yJ7_fill_53178, cJ7_fill_53178, 4, none)
theorem okJ7_fill_53178 : MOk mJ7_fill_53178 2 := ⟨lw_gm (List.mem_of_getElem? (i := 164) rfl) rfl, in_J7, by decide +kernel, by decide⟩
theorem smJ7_fill_53178 : Cond.static yJ7_fill_53178 ∈ lw_g := lw_gm (List.mem_of_getElem? (i := 163) rfl) rfl
theorem fk_X5_9 : Cond.fieldLink RX5 9 (TX5 0).1 (TX5 0).2.1 (TX5 0).2.2.1 ∈ lw_g := lw_gm (List.mem_of_getElem? (i := 77) rfl) rfl
theorem fk_X5_15 : Cond.fieldLink RX5 15 (TX5 1).1 (TX5 1).2.1 (TX5 1).2.2.1 ∈ lw_g := lw_gm (List.mem_of_getElem? (i := 78) rfl) rfl
theorem fk_X5_19 : Cond.fieldLink RX5 19 (TX5 2).1 (TX5 2).2.1 (TX5 2).2.2.1 ∈ lw_g := lw_gm (List.mem_of_getElem? (i := 79) rfl) rfl
theorem fk_X5_22 : Cond.fieldLink RX5 22 (TX5 3).1 (TX5 3).2.1 (TX5 3).2.2.1 ∈ lw_g := lw_gm (List.mem_of_getElem? (i := 80) rfl) rfl
theorem fk_X2_9 : Cond.fieldLink RX2 9 (TX2 0).1 (TX2 0).2.1 (TX2 0).2.2.1 ∈ lw_g := lw_gm (List.mem_of_getElem? (i := 103) rfl) rfl
theorem fk_X2_15 : Cond.fieldLink RX2 15 (TX2 1).1 (TX2 1).2.1 (TX2 1).2.2.1 ∈ lw_g := lw_gm (List.mem_of_getElem? (i := 104) rfl) rfl
theorem fk_X2_18 : Cond.fieldLink RX2 18 (TX2 2).1 (TX2 2).2.1 (TX2 2).2.2.1 ∈ lw_g := lw_gm (List.mem_of_getElem? (i := 105) rfl) rfl
theorem fk_X2_24 : Cond.fieldLink RX2 24 (TX2 3).1 (TX2 3).2.1 (TX2 3).2.2.1 ∈ lw_g := lw_gm (List.mem_of_getElem? (i := 106) rfl) rfl
theorem fk_X2_27 : Cond.fieldLink RX2 27 (TX2 4).1 (TX2 4).2.1 (TX2 4).2.2.1 ∈ lw_g := lw_gm (List.mem_of_getElem? (i := 107) rfl) rfl
theorem fk_X2_30 : Cond.fieldLink RX2 30 (TX2 5).1 (TX2 5).2.1 (TX2 5).2.2.1 ∈ lw_g := lw_gm (List.mem_of_getElem? (i := 108) rfl) rfl
theorem fk_X6_9 : Cond.fieldLink RX6 9 (TX6 0).1 (TX6 0).2.1 (TX6 0).2.2.1 ∈ lw_g := lw_gm (List.mem_of_getElem? (i := 128) rfl) rfl
theorem fk_X6_15 : Cond.fieldLink RX6 15 (TX6 1).1 (TX6 1).2.1 (TX6 1).2.2.1 ∈ lw_g := lw_gm (List.mem_of_getElem? (i := 129) rfl) rfl
theorem fk_X7_183 : Cond.fieldLink RX7 183 (TX6 1).1 (TX6 1).2.1 (TX6 1).2.2.1 ∈ lw_g := lw_gm (List.mem_of_getElem? (i := 130) rfl) rfl
theorem fk_X6_18 : Cond.fieldLink RX6 18 (TX6 2).1 (TX6 2).2.1 (TX6 2).2.2.1 ∈ lw_g := lw_gm (List.mem_of_getElem? (i := 131) rfl) rfl
theorem fk_X6_21 : Cond.fieldLink RX6 21 (TX6 3).1 (TX6 3).2.1 (TX6 3).2.2.1 ∈ lw_g := lw_gm (List.mem_of_getElem? (i := 132) rfl) rfl
theorem fk_X3_9 : Cond.fieldLink RX3 9 (TX3 0).1 (TX3 0).2.1 (TX3 0).2.2.1 ∈ lw_g := lw_gm (List.mem_of_getElem? (i := 148) rfl) rfl
theorem fk_X1_11 : Cond.fieldLink RX1 11 (TX1 0).1 (TX1 0).2.1 (TX1 0).2.2.1 ∈ lw_g := lw_gm (List.mem_of_getElem? (i := 165) rfl) rfl
theorem fk_X1_15 : Cond.fieldLink RX1 15 (TX1 1).1 (TX1 1).2.1 (TX1 1).2.2.1 ∈ lw_g := lw_gm (List.mem_of_getElem? (i := 166) rfl) rfl
theorem fk_X1_18 : Cond.fieldLink RX1 18 (TX1 2).1 (TX1 2).2.1 (TX1 2).2.2.1 ∈ lw_g := lw_gm (List.mem_of_getElem? (i := 167) rfl) rfl
theorem fk_X4_9 : Cond.fieldLink RX4 9 (TX4 0).1 (TX4 0).2.1 (TX4 0).2.2.1 ∈ lw_g := lw_gm (List.mem_of_getElem? (i := 184) rfl) rfl
theorem fk_X7_143 : Cond.fieldLink RX7 143 (TX4 0).1 (TX4 0).2.1 (TX4 0).2.2.1 ∈ lw_g := lw_gm (List.mem_of_getElem? (i := 185) rfl) rfl
theorem fk_X4_15 : Cond.fieldLink RX4 15 (TX4 1).1 (TX4 1).2.1 (TX4 1).2.2.1 ∈ lw_g := lw_gm (List.mem_of_getElem? (i := 186) rfl) rfl
theorem fk_X6_38 : Cond.fieldLink RX6 38 (TX4 1).1 (TX4 1).2.1 (TX4 1).2.2.1 ∈ lw_g := lw_gm (List.mem_of_getElem? (i := 187) rfl) rfl
theorem fk_X3_50 : Cond.fieldLink RX3 50 (TX4 1).1 (TX4 1).2.1 (TX4 1).2.2.1 ∈ lw_g := lw_gm (List.mem_of_getElem? (i := 188) rfl) rfl
theorem fk_X7_140 : Cond.fieldLink RX7 140 (TX4 1).1 (TX4 1).2.1 (TX4 1).2.2.1 ∈ lw_g := lw_gm (List.mem_of_getElem? (i := 189) rfl) rfl
theorem fk_X4_18 : Cond.fieldLink RX4 18 (TX4 2).1 (TX4 2).2.1 (TX4 2).2.2.1 ∈ lw_g := lw_gm (List.mem_of_getElem? (i := 190) rfl) rfl
theorem fk_X4_24 : Cond.fieldLink RX4 24 (TX4 3).1 (TX4 3).2.1 (TX4 3).2.2.1 ∈ lw_g := lw_gm (List.mem_of_getElem? (i := 191) rfl) rfl
theorem fk_X4_30 : Cond.fieldLink RX4 30 (TX4 4).1 (TX4 4).2.1 (TX4 4).2.2.1 ∈ lw_g := lw_gm (List.mem_of_getElem? (i := 192) rfl) rfl
theorem fk_X2_69 : Cond.fieldLink RX2 69 (TX4 4).1 (TX4 4).2.1 (TX4 4).2.2.1 ∈ lw_g := lw_gm (List.mem_of_getElem? (i := 193) rfl) rfl
theorem fk_X4_33 : Cond.fieldLink RX4 33 (TX4 5).1 (TX4 5).2.1 (TX4 5).2.2.1 ∈ lw_g := lw_gm (List.mem_of_getElem? (i := 194) rfl) rfl
theorem fk_X2_72 : Cond.fieldLink RX2 72 (TX4 5).1 (TX4 5).2.1 (TX4 5).2.2.1 ∈ lw_g := lw_gm (List.mem_of_getElem? (i := 195) rfl) rfl
theorem fk_X4_37 : Cond.fieldLink RX4 37 (TX4 6).1 (TX4 6).2.1 (TX4 6).2.2.1 ∈ lw_g := lw_gm (List.mem_of_getElem? (i := 196) rfl) rfl
theorem fk_X2_52 : Cond.fieldLink RX2 52 (TX4 6).1 (TX4 6).2.1 (TX4 6).2.2.1 ∈ lw_g := lw_gm (List.mem_of_getElem? (i := 197) rfl) rfl
theorem fk_X6_44 : Cond.fieldLink RX6 44 (TX4 6).1 (TX4 6).2.1 (TX4 6).2.2.1 ∈ lw_g := lw_gm (List.mem_of_getElem? (i := 198) rfl) rfl
theorem fk_X3_65 : Cond.fieldLink RX3 65 (TX4 6).1 (TX4 6).2.1 (TX4 6).2.2.1 ∈ lw_g := lw_gm (List.mem_of_getElem? (i := 199) rfl) rfl
theorem fk_X7_153 : Cond.fieldLink RX7 153 (TX4 6).1 (TX4 6).2.1 (TX4 6).2.2.1 ∈ lw_g := lw_gm (List.mem_of_getElem? (i := 200) rfl) rfl
theorem fk_X4_40 : Cond.fieldLink RX4 40 (TX4 7).1 (TX4 7).2.1 (TX4 7).2.2.1 ∈ lw_g := lw_gm (List.mem_of_getElem? (i := 201) rfl) rfl
theorem fk_X2_43 : Cond.fieldLink RX2 43 (TX4 7).1 (TX4 7).2.1 (TX4 7).2.2.1 ∈ lw_g := lw_gm (List.mem_of_getElem? (i := 202) rfl) rfl
theorem fk_X7_156 : Cond.fieldLink RX7 156 (TX4 7).1 (TX4 7).2.1 (TX4 7).2.2.1 ∈ lw_g := lw_gm (List.mem_of_getElem? (i := 203) rfl) rfl
theorem fk_X4_43 : Cond.fieldLink RX4 43 (TX4 8).1 (TX4 8).2.1 (TX4 8).2.2.1 ∈ lw_g := lw_gm (List.mem_of_getElem? (i := 204) rfl) rfl
theorem fk_X7_163 : Cond.fieldLink RX7 163 (TX4 8).1 (TX4 8).2.1 (TX4 8).2.2.1 ∈ lw_g := lw_gm (List.mem_of_getElem? (i := 205) rfl) rfl
theorem fk_X7_10 : Cond.fieldLink RX7 10 (TX7 0).1 (TX7 0).2.1 (TX7 0).2.2.1 ∈ lw_g := lw_gm (List.mem_of_getElem? (i := 225) rfl) rfl
theorem fk_X7_18 : Cond.fieldLink RX7 18 (TX7 1).1 (TX7 1).2.1 (TX7 1).2.2.1 ∈ lw_g := lw_gm (List.mem_of_getElem? (i := 226) rfl) rfl
theorem fk_X7_24 : Cond.fieldLink RX7 24 (TX7 2).1 (TX7 2).2.1 (TX7 2).2.2.1 ∈ lw_g := lw_gm (List.mem_of_getElem? (i := 227) rfl) rfl
theorem fk_X7_28 : Cond.fieldLink RX7 28 (TX7 3).1 (TX7 3).2.1 (TX7 3).2.2.1 ∈ lw_g := lw_gm (List.mem_of_getElem? (i := 228) rfl) rfl
theorem fk_X7_35 : Cond.fieldLink RX7 35 (TX7 4).1 (TX7 4).2.1 (TX7 4).2.2.1 ∈ lw_g := lw_gm (List.mem_of_getElem? (i := 229) rfl) rfl
theorem fk_X7_42 : Cond.fieldLink RX7 42 (TX7 5).1 (TX7 5).2.1 (TX7 5).2.2.1 ∈ lw_g := lw_gm (List.mem_of_getElem? (i := 230) rfl) rfl
theorem fk_X7_49 : Cond.fieldLink RX7 49 (TX7 6).1 (TX7 6).2.1 (TX7 6).2.2.1 ∈ lw_g := lw_gm (List.mem_of_getElem? (i := 231) rfl) rfl
theorem fk_X7_56 : Cond.fieldLink RX7 56 (TX7 7).1 (TX7 7).2.1 (TX7 7).2.2.1 ∈ lw_g := lw_gm (List.mem_of_getElem? (i := 232) rfl) rfl
theorem fk_X7_60 : Cond.fieldLink RX7 60 (TX7 8).1 (TX7 8).2.1 (TX7 8).2.2.1 ∈ lw_g := lw_gm (List.mem_of_getElem? (i := 233) rfl) rfl
theorem fk_X7_64 : Cond.fieldLink RX7 64 (TX7 9).1 (TX7 9).2.1 (TX7 9).2.2.1 ∈ lw_g := lw_gm (List.mem_of_getElem? (i := 234) rfl) rfl
theorem fk_X0_15 : Cond.fieldLink RX0 15 (TX0 0).1 (TX0 0).2.1 (TX0 0).2.2.1 ∈ lw_g := lw_gm (List.mem_of_getElem? (i := 378) rfl) rfl
theorem fk_X1_25 : Cond.fieldLink RX1 25 (TX0 0).1 (TX0 0).2.1 (TX0 0).2.2.1 ∈ lw_g := lw_gm (List.mem_of_getElem? (i := 379) rfl) rfl
theorem fk_X7_196 : Cond.fieldLink RX7 196 (TX0 0).1 (TX0 0).2.1 (TX0 0).2.2.1 ∈ lw_g := lw_gm (List.mem_of_getElem? (i := 380) rfl) rfl
theorem fk_X0_19 : Cond.fieldLink RX0 19 (TX0 1).1 (TX0 1).2.1 (TX0 1).2.2.1 ∈ lw_g := lw_gm (List.mem_of_getElem? (i := 381) rfl) rfl
theorem fk_X1_30 : Cond.fieldLink RX1 30 (TX0 1).1 (TX0 1).2.1 (TX0 1).2.2.1 ∈ lw_g := lw_gm (List.mem_of_getElem? (i := 382) rfl) rfl
theorem fk_X7_199 : Cond.fieldLink RX7 199 (TX0 1).1 (TX0 1).2.1 (TX0 1).2.2.1 ∈ lw_g := lw_gm (List.mem_of_getElem? (i := 383) rfl) rfl
theorem fk_X0_22 : Cond.fieldLink RX0 22 (TX0 2).1 (TX0 2).2.1 (TX0 2).2.2.1 ∈ lw_g := lw_gm (List.mem_of_getElem? (i := 384) rfl) rfl
theorem fk_X7_186 : Cond.fieldLink RX7 186 (TX0 2).1 (TX0 2).2.1 (TX0 2).2.2.1 ∈ lw_g := lw_gm (List.mem_of_getElem? (i := 385) rfl) rfl
theorem fk_X0_25 : Cond.fieldLink RX0 25 (TX0 3).1 (TX0 3).2.1 (TX0 3).2.2.1 ∈ lw_g := lw_gm (List.mem_of_getElem? (i := 386) rfl) rfl
theorem fk_X6_47 : Cond.fieldLink RX6 47 (TX0 3).1 (TX0 3).2.1 (TX0 3).2.2.1 ∈ lw_g := lw_gm (List.mem_of_getElem? (i := 387) rfl) rfl
theorem fk_X7_202 : Cond.fieldLink RX7 202 (TX0 3).1 (TX0 3).2.1 (TX0 3).2.2.1 ∈ lw_g := lw_gm (List.mem_of_getElem? (i := 388) rfl) rfl
theorem fk_X0_9 : Cond.fieldLink RX0 9 (TX0 4).1 (TX0 4).2.1 (TX0 4).2.2.1 ∈ lw_g := lw_gm (List.mem_of_getElem? (i := 389) rfl) rfl
theorem fk_X1_37 : Cond.fieldLink RX1 37 (TX0 4).1 (TX0 4).2.1 (TX0 4).2.2.1 ∈ lw_g := lw_gm (List.mem_of_getElem? (i := 390) rfl) rfl
theorem fk_X7_113 : Cond.fieldLink RX7 113 (TX0 4).1 (TX0 4).2.1 (TX0 4).2.2.1 ∈ lw_g := lw_gm (List.mem_of_getElem? (i := 391) rfl) rfl
theorem fk_X3_83 : Cond.fieldLink RX3 83 (TX0 4).1 (TX0 4).2.1 (TX0 4).2.2.1 ∈ lw_g := lw_gm (List.mem_of_getElem? (i := 392) rfl) rfl
set_option maxRecDepth 20000 in
theorem fk_X8_7 : Cond.fieldLink RX8 7 (TX8 0).1 (TX8 0).2.1 (TX8 0).2.2.1 ∈ lw_g := lw_gm (List.mem_of_getElem? (i := 665) rfl) rfl
set_option maxRecDepth 20000 in
theorem fk_X8_94 : Cond.fieldLink RX8 94 (TX8 1).1 (TX8 1).2.1 (TX8 1).2.2.1 ∈ lw_g := lw_gm (List.mem_of_getElem? (i := 666) rfl) rfl
set_option maxRecDepth 20000 in
theorem fk_X8_91 : Cond.fieldLink RX8 91 (TX8 2).1 (TX8 2).2.1 (TX8 2).2.2.1 ∈ lw_g := lw_gm (List.mem_of_getElem? (i := 667) rfl) rfl
set_option maxRecDepth 20000 in
theorem fk_X8_13 : Cond.fieldLink RX8 13 (TX8 3).1 (TX8 3).2.1 (TX8 3).2.2.1 ∈ lw_g := lw_gm (List.mem_of_getElem? (i := 668) rfl) rfl
set_option maxRecDepth 20000 in
theorem fk_X8_17 : Cond.fieldLink RX8 17 (TX8 4).1 (TX8 4).2.1 (TX8 4).2.2.1 ∈ lw_g := lw_gm (List.mem_of_getElem? (i := 669) rfl) rfl
set_option maxRecDepth 20000 in
theorem fk_X8_21 : Cond.fieldLink RX8 21 (TX8 5).1 (TX8 5).2.1 (TX8 5).2.2.1 ∈ lw_g := lw_gm (List.mem_of_getElem? (i := 670) rfl) rfl
set_option maxRecDepth 20000 in
theorem fk_X8_24 : Cond.fieldLink RX8 24 (TX8 6).1 (TX8 6).2.1 (TX8 6).2.2.1 ∈ lw_g := lw_gm (List.mem_of_getElem? (i := 671) rfl) rfl
set_option maxRecDepth 20000 in
theorem fk_X8_27 : Cond.fieldLink RX8 27 (TX8 7).1 (TX8 7).2.1 (TX8 7).2.2.1 ∈ lw_g := lw_gm (List.mem_of_getElem? (i := 672) rfl) rfl
set_option maxRecDepth 20000 in
theorem fk_X8_30 : Cond.fieldLink RX8 30 (TX8 8).1 (TX8 8).2.1 (TX8 8).2.2.1 ∈ lw_g := lw_gm (List.mem_of_getElem? (i := 673) rfl) rfl
set_option maxRecDepth 20000 in
theorem fk_X8_33 : Cond.fieldLink RX8 33 (TX8 9).1 (TX8 9).2.1 (TX8 9).2.2.1 ∈ lw_g := lw_gm (List.mem_of_getElem? (i := 674) rfl) rfl
set_option maxRecDepth 20000 in
theorem fk_X8_36 : Cond.fieldLink RX8 36 (TX8 10).1 (TX8 10).2.1 (TX8 10).2.2.1 ∈ lw_g := lw_gm (List.mem_of_getElem? (i := 675) rfl) rfl
set_option maxRecDepth 20000 in
theorem fk_X8_39 : Cond.fieldLink RX8 39 (TX8 11).1 (TX8 11).2.1 (TX8 11).2.2.1 ∈ lw_g := lw_gm (List.mem_of_getElem? (i := 676) rfl) rfl
set_option maxRecDepth 20000 in
theorem fk_X8_125 : Cond.fieldLink RX8 125 (TX8 12).1 (TX8 12).2.1 (TX8 12).2.2.1 ∈ lw_g := lw_gm (List.mem_of_getElem? (i := 677) rfl) rfl
set_option maxRecDepth 20000 in
theorem fk_X8_42 : Cond.fieldLink RX8 42 (TX8 13).1 (TX8 13).2.1 (TX8 13).2.2.1 ∈ lw_g := lw_gm (List.mem_of_getElem? (i := 678) rfl) rfl
set_option maxRecDepth 20000 in
theorem fk_X8_45 : Cond.fieldLink RX8 45 (TX8 14).1 (TX8 14).2.1 (TX8 14).2.2.1 ∈ lw_g := lw_gm (List.mem_of_getElem? (i := 679) rfl) rfl
set_option maxRecDepth 20000 in
theorem fk_X8_48 : Cond.fieldLink RX8 48 (TX8 15).1 (TX8 15).2.1 (TX8 15).2.2.1 ∈ lw_g := lw_gm (List.mem_of_getElem? (i := 680) rfl) rfl
set_option maxRecDepth 20000 in
theorem fk_X8_51 : Cond.fieldLink RX8 51 (TX8 16).1 (TX8 16).2.1 (TX8 16).2.2.1 ∈ lw_g := lw_gm (List.mem_of_getElem? (i := 681) rfl) rfl
set_option maxRecDepth 20000 in
theorem fk_X8_54 : Cond.fieldLink RX8 54 (TX8 17).1 (TX8 17).2.1 (TX8 17).2.2.1 ∈ lw_g := lw_gm (List.mem_of_getElem? (i := 682) rfl) rfl
set_option maxRecDepth 20000 in
theorem fk_X8_57 : Cond.fieldLink RX8 57 (TX8 18).1 (TX8 18).2.1 (TX8 18).2.2.1 ∈ lw_g := lw_gm (List.mem_of_getElem? (i := 683) rfl) rfl
set_option maxRecDepth 20000 in
theorem fk_X8_60 : Cond.fieldLink RX8 60 (TX8 19).1 (TX8 19).2.1 (TX8 19).2.2.1 ∈ lw_g := lw_gm (List.mem_of_getElem? (i := 684) rfl) rfl
set_option maxRecDepth 20000 in
theorem fk_X8_63 : Cond.fieldLink RX8 63 (TX8 20).1 (TX8 20).2.1 (TX8 20).2.2.1 ∈ lw_g := lw_gm (List.mem_of_getElem? (i := 685) rfl) rfl
set_option maxRecDepth 20000 in
theorem fk_X8_101 : Cond.fieldLink RX8 101 (TX8 21).1 (TX8 21).2.1 (TX8 21).2.2.1 ∈ lw_g := lw_gm (List.mem_of_getElem? (i := 686) rfl) rfl
set_option maxRecDepth 20000 in
theorem fk_X8_104 : Cond.fieldLink RX8 104 (TX8 22).1 (TX8 22).2.1 (TX8 22).2.2.1 ∈ lw_g := lw_gm (List.mem_of_getElem? (i := 687) rfl) rfl
set_option maxRecDepth 20000 in
theorem fk_X8_107 : Cond.fieldLink RX8 107 (TX8 23).1 (TX8 23).2.1 (TX8 23).2.2.1 ∈ lw_g := lw_gm (List.mem_of_getElem? (i := 688) rfl) rfl
set_option maxRecDepth 20000 in
theorem fk_X8_110 : Cond.fieldLink RX8 110 (TX8 24).1 (TX8 24).2.1 (TX8 24).2.2.1 ∈ lw_g := lw_gm (List.mem_of_getElem? (i := 689) rfl) rfl
set_option maxRecDepth 20000 in
theorem fk_X8_176 : Cond.fieldLink RX8 176 (TX8 25).1 (TX8 25).2.1 (TX8 25).2.2.1 ∈ lw_g := lw_gm (List.mem_of_getElem? (i := 690) rfl) rfl
set_option maxRecDepth 20000 in
theorem fk_X8_66 : Cond.fieldLink RX8 66 (TX8 26).1 (TX8 26).2.1 (TX8 26).2.2.1 ∈ lw_g := lw_gm (List.mem_of_getElem? (i := 691) rfl) rfl
set_option maxRecDepth 20000 in
theorem fk_X8_69 : Cond.fieldLink RX8 69 (TX8 27).1 (TX8 27).2.1 (TX8 27).2.2.1 ∈ lw_g := lw_gm (List.mem_of_getElem? (i := 692) rfl) rfl
set_option maxRecDepth 20000 in
theorem fk_X8_72 : Cond.fieldLink RX8 72 (TX8 28).1 (TX8 28).2.1 (TX8 28).2.2.1 ∈ lw_g := lw_gm (List.mem_of_getElem? (i := 693) rfl) rfl
set_option maxRecDepth 20000 in
theorem fk_X8_75 : Cond.fieldLink RX8 75 (TX8 29).1 (TX8 29).2.1 (TX8 29).2.2.1 ∈ lw_g := lw_gm (List.mem_of_getElem? (i := 694) rfl) rfl
set_option maxRecDepth 20000 in
theorem fk_X8_201 : Cond.fieldLink RX8 201 (TX8 30).1 (TX8 30).2.1 (TX8 30).2.2.1 ∈ lw_g := lw_gm (List.mem_of_getElem? (i := 695) rfl) rfl
set_option maxRecDepth 20000 in
theorem fk_X8_78 : Cond.fieldLink RX8 78 (TX8 31).1 (TX8 31).2.1 (TX8 31).2.2.1 ∈ lw_g := lw_gm (List.mem_of_getElem? (i := 696) rfl) rfl
set_option maxRecDepth 20000 in
theorem fk_X8_81 : Cond.fieldLink RX8 81 (TX8 32).1 (TX8 32).2.1 (TX8 32).2.2.1 ∈ lw_g := lw_gm (List.mem_of_getElem? (i := 697) rfl) rfl
set_option maxRecDepth 20000 in
theorem fk_X8_84 : Cond.fieldLink RX8 84 (TX8 33).1 (TX8 33).2.1 (TX8 33).2.2.1 ∈ lw_g := lw_gm (List.mem_of_getElem? (i := 698) rfl) rfl
theorem mk_L_9 : Cond.methodLink RL 9 yX7_init ∈ lw_g := lw_gm (List.mem_of_getElem? (i := 65) rfl) rfl
theorem mk_X7_55 : Cond.methodLink RX7 55 yX1_init ∈ lw_g := lw_gm (List.mem_of_getElem? (i := 154) rfl) rfl
theorem mk_X1_22 : Cond.methodLink RX1 22 yX1_letAll ∈ lw_g := lw_gm (List.mem_of_getElem? (i := 158) rfl) rfl
theorem mk_X1_66 : Cond.methodLink RX1 66 yJ7_fill_53178 ∈ lw_g := lw_gm (List.mem_of_getElem? (i := 162) rfl) rfl
theorem mk_X7_67 : Cond.methodLink RX7 67 yX4_init ∈ lw_g := lw_gm (List.mem_of_getElem? (i := 176) rfl) rfl
theorem mk_X4_23 : Cond.methodLink RX4 23 yX1_init ∈ lw_g := lw_gm (List.mem_of_getElem? (i := 181) rfl) rfl
theorem mk_X4_46 : Cond.methodLink RX4 46 yJ7_fill_53178 ∈ lw_g := lw_gm (List.mem_of_getElem? (i := 183) rfl) rfl
theorem mk_L_13 : Cond.methodLink RL 13 yX7_feed ∈ lw_g := lw_gm (List.mem_of_getElem? (i := 256) rfl) rfl
theorem mk_X7_68 : Cond.methodLink RX7 68 yX5_hasRoom ∈ lw_g := lw_gm (List.mem_of_getElem? (i := 260) rfl) rfl
theorem mk_X7_72 : Cond.methodLink RX7 72 yX5_append ∈ lw_g := lw_gm (List.mem_of_getElem? (i := 264) rfl) rfl
theorem mk_X7_76 : Cond.methodLink RX7 76 yX5_length ∈ lw_g := lw_gm (List.mem_of_getElem? (i := 268) rfl) rfl
theorem mk_L_18 : Cond.methodLink RL 18 yX7_text ∈ lw_g := lw_gm (List.mem_of_getElem? (i := 272) rfl) rfl
theorem mk_X7_80 : Cond.methodLink RX7 80 yX7_classAt ∈ lw_g := lw_gm (List.mem_of_getElem? (i := 276) rfl) rfl
theorem mk_X7_102 : Cond.methodLink RX7 102 yX7_isBelow ∈ lw_g := lw_gm (List.mem_of_getElem? (i := 280) rfl) rfl
theorem mk_X7_84 : Cond.methodLink RX7 84 yX5_has ∈ lw_g := lw_gm (List.mem_of_getElem? (i := 283) rfl) rfl
theorem mk_X7_88 : Cond.methodLink RX7 88 yX5_startReading ∈ lw_g := lw_gm (List.mem_of_getElem? (i := 287) rfl) rfl
theorem mk_X5_42 : Cond.methodLink RX5 42 yX5_has ∈ lw_g := lw_gm (List.mem_of_getElem? (i := 291) rfl) rfl
theorem mk_X7_91 : Cond.methodLink RX7 91 yX1_readFrom ∈ lw_g := lw_gm (List.mem_of_getElem? (i := 292) rfl) rfl
theorem mk_X1_40 : Cond.methodLink RX1 40 yX5_isAtEnd ∈ lw_g := lw_gm (List.mem_of_getElem? (i := 296) rfl) rfl
theorem mk_X1_46 : Cond.methodLink RX1 46 yX1_readClause ∈ lw_g := lw_gm (List.mem_of_getElem? (i := 300) rfl) rfl
theorem mk_X1_50 : Cond.methodLink RX1 50 yX5_skipIf ∈ lw_g := lw_gm (List.mem_of_getElem? (i := 304) rfl) rfl
theorem mk_X5_46 : Cond.methodLink RX5 46 yX5_peek ∈ lw_g := lw_gm (List.mem_of_getElem? (i := 308) rfl) rfl
theorem mk_X5_50 : Cond.methodLink RX5 50 yX5_skip ∈ lw_g := lw_gm (List.mem_of_getElem? (i := 312) rfl) rfl
theorem mk_X1_72 : Cond.methodLink RX1 72 yX1_readBreeds ∈ lw_g := lw_gm (List.mem_of_getElem? (i := 316) rfl) rfl
theorem mk_X1_85 : Cond.methodLink RX1 85 yX5_isAtDigit ∈ lw_g := lw_gm (List.mem_of_getElem? (i := 320) rfl) rfl
theorem mk_X1_54 : Cond.methodLink RX1 54 yX5_faultHere ∈ lw_g := lw_gm (List.mem_of_getElem? (i := 324) rfl) rfl
theorem mk_X5_57 : Cond.methodLink RX5 57 yX5_faultAt ∈ lw_g := lw_gm (List.mem_of_getElem? (i := 328) rfl) rfl
theorem mk_X1_58 : Cond.methodLink RX1 58 yX5_peek ∈ lw_g := lw_gm (List.mem_of_getElem? (i := 332) rfl) rfl
theorem mk_X1_88 : Cond.methodLink RX1 88 yX5_skip ∈ lw_g := lw_gm (List.mem_of_getElem? (i := 333) rfl) rfl
theorem mk_X1_75 : Cond.methodLink RX1 75 yX1_readLeast ∈ lw_g := lw_gm (List.mem_of_getElem? (i := 334) rfl) rfl
theorem mk_X1_91 : Cond.methodLink RX1 91 yX5_readNumber ∈ lw_g := lw_gm (List.mem_of_getElem? (i := 338) rfl) rfl
theorem mk_X5_53 : Cond.methodLink RX5 53 yX5_isAtDigit ∈ lw_g := lw_gm (List.mem_of_getElem? (i := 342) rfl) rfl
theorem mk_X1_94 : Cond.methodLink RX1 94 yJ9_max_7cf53 ∈ lw_g := lw_gm (List.mem_of_getElem? (i := 343) rfl) rfl
theorem mk_X1_79 : Cond.methodLink RX1 79 yX1_readMost ∈ lw_g := lw_gm (List.mem_of_getElem? (i := 346) rfl) rfl
theorem mk_X1_100 : Cond.methodLink RX1 100 yJ9_min_7cf53 ∈ lw_g := lw_gm (List.mem_of_getElem? (i := 350) rfl) rfl
theorem mk_X1_82 : Cond.methodLink RX1 82 yX1_readMeasure ∈ lw_g := lw_gm (List.mem_of_getElem? (i := 353) rfl) rfl
theorem mk_X1_62 : Cond.methodLink RX1 62 yX1_isClauseLetter ∈ lw_g := lw_gm (List.mem_of_getElem? (i := 357) rfl) rfl
theorem mk_X7_95 : Cond.methodLink RX7 95 yX5_clear ∈ lw_g := lw_gm (List.mem_of_getElem? (i := 360) rfl) rfl
theorem mk_X5_25 : Cond.methodLink RX5 25 yX5_startReading ∈ lw_g := lw_gm (List.mem_of_getElem? (i := 364) rfl) rfl
theorem mk_X7_98 : Cond.methodLink RX7 98 yX4_swapText ∈ lw_g := lw_gm (List.mem_of_getElem? (i := 365) rfl) rfl
theorem mk_L_23 : Cond.methodLink RL 23 yX7_beast ∈ lw_g := lw_gm (List.mem_of_getElem? (i := 369) rfl) rfl
theorem mk_X7_106 : Cond.methodLink RX7 106 yX0_init ∈ lw_g := lw_gm (List.mem_of_getElem? (i := 374) rfl) rfl
set_option maxRecDepth 20000 in
theorem mk_L_28 : Cond.methodLink RL 28 yX7_measure ∈ lw_g := lw_gm (List.mem_of_getElem? (i := 404) rfl) rfl
set_option maxRecDepth 20000 in
theorem mk_X7_109 : Cond.methodLink RX7 109 yX7_beastAt ∈ lw_g := lw_gm (List.mem_of_getElem? (i := 408) rfl) rfl
set_option maxRecDepth 20000 in
theorem mk_L_33 : Cond.methodLink RL 33 yX7_lets ∈ lw_g := lw_gm (List.mem_of_getElem? (i := 412) rfl) rfl
set_option maxRecDepth 20000 in
theorem mk_X7_116 : Cond.methodLink RX7 116 yX4_admits ∈ lw_g := lw_gm (List.mem_of_getElem? (i := 416) rfl) rfl
set_option maxRecDepth 20000 in
theorem mk_X4_52 : Cond.methodLink RX4 52 yX1_admits ∈ lw_g := lw_gm (List.mem_of_getElem? (i := 420) rfl) rfl
set_option maxRecDepth 20000 in
theorem mk_X1_33 : Cond.methodLink RX1 33 yX1_isWithin ∈ lw_g := lw_gm (List.mem_of_getElem? (i := 424) rfl) rfl
set_option maxRecDepth 20000 in
theorem mk_L_37 : Cond.methodLink RL 37 yX7_enter ∈ lw_g := lw_gm (List.mem_of_getElem? (i := 428) rfl) rfl
set_option maxRecDepth 20000 in
theorem mk_X7_120 : Cond.methodLink RX7 120 yX7_lets ∈ lw_g := lw_gm (List.mem_of_getElem? (i := 432) rfl) rfl
set_option maxRecDepth 20000 in
theorem mk_X7_124 : Cond.methodLink RX7 124 yX4_canTake ∈ lw_g := lw_gm (List.mem_of_getElem? (i := 433) rfl) rfl
set_option maxRecDepth 20000 in
theorem mk_X7_127 : Cond.methodLink RX7 127 yX4_take ∈ lw_g := lw_gm (List.mem_of_getElem? (i := 437) rfl) rfl
set_option maxRecDepth 20000 in
theorem mk_X7_130 : Cond.methodLink RX7 130 yX2_join ∈ lw_g := lw_gm (List.mem_of_getElem? (i := 441) rfl) rfl
set_option maxRecDepth 20000 in
theorem mk_X2_33 : Cond.methodLink RX2 33 yX2_tally ∈ lw_g := lw_gm (List.mem_of_getElem? (i := 445) rfl) rfl
set_option maxRecDepth 20000 in
theorem mk_X2_59 : Cond.methodLink RX2 59 yX4_holds ∈ lw_g := lw_gm (List.mem_of_getElem? (i := 449) rfl) rfl
set_option maxRecDepth 20000 in
theorem mk_X2_63 : Cond.methodLink RX2 63 yJ7_fill_53178 ∈ lw_g := lw_gm (List.mem_of_getElem? (i := 453) rfl) rfl
set_option maxRecDepth 20000 in
theorem mk_X2_75 : Cond.methodLink RX2 75 yX2_tallyOrder ∈ lw_g := lw_gm (List.mem_of_getElem? (i := 454) rfl) rfl
set_option maxRecDepth 20000 in
theorem mk_X2_37 : Cond.methodLink RX2 37 yX2_sumLost ∈ lw_g := lw_gm (List.mem_of_getElem? (i := 458) rfl) rfl
set_option maxRecDepth 20000 in
theorem mk_X2_40 : Cond.methodLink RX2 40 yX2_findFewest ∈ lw_g := lw_gm (List.mem_of_getElem? (i := 462) rfl) rfl
set_option maxRecDepth 20000 in
theorem mk_X2_78 : Cond.methodLink RX2 78 yX2_swapsWithFirst ∈ lw_g := lw_gm (List.mem_of_getElem? (i := 466) rfl) rfl
set_option maxRecDepth 20000 in
theorem mk_X2_82 : Cond.methodLink RX2 82 yJ9_min_7cf53 ∈ lw_g := lw_gm (List.mem_of_getElem? (i := 470) rfl) rfl
set_option maxRecDepth 20000 in
theorem mk_X2_48 : Cond.methodLink RX2 48 yX2_leastFirst ∈ lw_g := lw_gm (List.mem_of_getElem? (i := 471) rfl) rfl
set_option maxRecDepth 20000 in
theorem mk_L_42 : Cond.methodLink RL 42 yX7_protest ∈ lw_g := lw_gm (List.mem_of_getElem? (i := 475) rfl) rfl
set_option maxRecDepth 20000 in
theorem mk_X7_134 : Cond.methodLink RX7 134 yX4_holds ∈ lw_g := lw_gm (List.mem_of_getElem? (i := 479) rfl) rfl
set_option maxRecDepth 20000 in
theorem mk_X7_137 : Cond.methodLink RX7 137 yX4_putOut ∈ lw_g := lw_gm (List.mem_of_getElem? (i := 480) rfl) rfl
set_option maxRecDepth 20000 in
theorem mk_L_46 : Cond.methodLink RL 46 yX7_bar ∈ lw_g := lw_gm (List.mem_of_getElem? (i := 484) rfl) rfl
set_option maxRecDepth 20000 in
theorem mk_L_50 : Cond.methodLink RL 50 yX7_order ∈ lw_g := lw_gm (List.mem_of_getElem? (i := 488) rfl) rfl
set_option maxRecDepth 20000 in
theorem mk_X7_146 : Cond.methodLink RX7 146 yX5_namesEachOf ∈ lw_g := lw_gm (List.mem_of_getElem? (i := 492) rfl) rfl
set_option maxRecDepth 20000 in
theorem mk_X5_33 : Cond.methodLink RX5 33 yJ6_bitCount_0f7a4 ∈ lw_g := lw_gm (List.mem_of_getElem? (i := 496) rfl) rfl
set_option maxRecDepth 20000 in
theorem mk_X5_39 : Cond.methodLink RX5 39 yX5_byteAt ∈ lw_g := lw_gm (List.mem_of_getElem? (i := 502) rfl) rfl
set_option maxRecDepth 20000 in
theorem mk_X7_149 : Cond.methodLink RX7 149 yX4_keepOrder ∈ lw_g := lw_gm (List.mem_of_getElem? (i := 507) rfl) rfl
set_option maxRecDepth 20000 in
theorem mk_X4_56 : Cond.methodLink RX4 56 yX5_byteAt ∈ lw_g := lw_gm (List.mem_of_getElem? (i := 511) rfl) rfl
set_option maxRecDepth 20000 in
theorem mk_L_54 : Cond.methodLink RL 54 yX7_placed ∈ lw_g := lw_gm (List.mem_of_getElem? (i := 512) rfl) rfl
set_option maxRecDepth 20000 in
theorem mk_L_58 : Cond.methodLink RL 58 yX7_swaps ∈ lw_g := lw_gm (List.mem_of_getElem? (i := 516) rfl) rfl
set_option maxRecDepth 20000 in
theorem mk_L_63 : Cond.methodLink RL 63 yX7_ring ∈ lw_g := lw_gm (List.mem_of_getElem? (i := 520) rfl) rfl
set_option maxRecDepth 20000 in
theorem mk_X7_159 : Cond.methodLink RX7 159 yX2_findInRing ∈ lw_g := lw_gm (List.mem_of_getElem? (i := 524) rfl) rfl
set_option maxRecDepth 20000 in
theorem mk_X2_55 : Cond.methodLink RX2 55 yX2_beats ∈ lw_g := lw_gm (List.mem_of_getElem? (i := 528) rfl) rfl
set_option maxRecDepth 20000 in
theorem mk_L_67 : Cond.methodLink RL 67 yX7_cut ∈ lw_g := lw_gm (List.mem_of_getElem? (i := 532) rfl) rfl
set_option maxRecDepth 20000 in
theorem mk_L_71 : Cond.methodLink RL 71 yX7_card ∈ lw_g := lw_gm (List.mem_of_getElem? (i := 536) rfl) rfl
set_option maxRecDepth 20000 in
theorem mk_X7_166 : Cond.methodLink RX7 166 yX4_cardLength ∈ lw_g := lw_gm (List.mem_of_getElem? (i := 540) rfl) rfl
set_option maxRecDepth 20000 in
theorem mk_X4_62 : Cond.methodLink RX4 62 yJ9_min_7cf53 ∈ lw_g := lw_gm (List.mem_of_getElem? (i := 544) rfl) rfl
set_option maxRecDepth 20000 in
theorem mk_X7_169 : Cond.methodLink RX7 169 yX4_cardBeasts ∈ lw_g := lw_gm (List.mem_of_getElem? (i := 545) rfl) rfl
set_option maxRecDepth 20000 in
theorem mk_X4_68 : Cond.methodLink RX4 68 yX4_cardLength ∈ lw_g := lw_gm (List.mem_of_getElem? (i := 549) rfl) rfl
set_option maxRecDepth 20000 in
theorem mk_X7_172 : Cond.methodLink RX7 172 yX4_scoreCard ∈ lw_g := lw_gm (List.mem_of_getElem? (i := 550) rfl) rfl
set_option maxRecDepth 20000 in
theorem mk_X4_72 : Cond.methodLink RX4 72 yX4_placeOf ∈ lw_g := lw_gm (List.mem_of_getElem? (i := 554) rfl) rfl
set_option maxRecDepth 20000 in
theorem mk_X4_75 : Cond.methodLink RX4 75 yX4_cutsBetween ∈ lw_g := lw_gm (List.mem_of_getElem? (i := 558) rfl) rfl
set_option maxRecDepth 20000 in
theorem mk_X4_78 : Cond.methodLink RX4 78 yJ9_max_7cf53 ∈ lw_g := lw_gm (List.mem_of_getElem? (i := 562) rfl) rfl
set_option maxRecDepth 20000 in
theorem mk_L_75 : Cond.methodLink RL 75 yX7_reasons ∈ lw_g := lw_gm (List.mem_of_getElem? (i := 563) rfl) rfl
set_option maxRecDepth 20000 in
theorem mk_X7_175 : Cond.methodLink RX7 175 yX3_score ∈ lw_g := lw_gm (List.mem_of_getElem? (i := 567) rfl) rfl
set_option maxRecDepth 20000 in
theorem mk_X3_15 : Cond.methodLink RX3 15 yX3_readPairs ∈ lw_g := lw_gm (List.mem_of_getElem? (i := 571) rfl) rfl
set_option maxRecDepth 20000 in
theorem mk_X3_25 : Cond.methodLink RX3 25 yX3_readPair ∈ lw_g := lw_gm (List.mem_of_getElem? (i := 575) rfl) rfl
set_option maxRecDepth 20000 in
theorem mk_X3_42 : Cond.methodLink RX3 42 yX5_place ∈ lw_g := lw_gm (List.mem_of_getElem? (i := 579) rfl) rfl
set_option maxRecDepth 20000 in
theorem mk_X3_46 : Cond.methodLink RX3 46 yX3_placeNamed ∈ lw_g := lw_gm (List.mem_of_getElem? (i := 583) rfl) rfl
set_option maxRecDepth 20000 in
theorem mk_X3_73 : Cond.methodLink RX3 73 yX5_peek ∈ lw_g := lw_gm (List.mem_of_getElem? (i := 586) rfl) rfl
set_option maxRecDepth 20000 in
theorem mk_X3_55 : Cond.methodLink RX3 55 yX3_faultOfPlace ∈ lw_g := lw_gm (List.mem_of_getElem? (i := 587) rfl) rfl
set_option maxRecDepth 20000 in
theorem mk_X3_38 : Cond.methodLink RX3 38 yX5_faultHere ∈ lw_g := lw_gm (List.mem_of_getElem? (i := 590) rfl) rfl
set_option maxRecDepth 20000 in
theorem mk_X3_59 : Cond.methodLink RX3 59 yX5_skip ∈ lw_g := lw_gm (List.mem_of_getElem? (i := 591) rfl) rfl
set_option maxRecDepth 20000 in
theorem mk_X3_34 : Cond.methodLink RX3 34 yX5_skipIf ∈ lw_g := lw_gm (List.mem_of_getElem? (i := 592) rfl) rfl
set_option maxRecDepth 20000 in
theorem mk_X3_62 : Cond.methodLink RX3 62 yX5_faultAt ∈ lw_g := lw_gm (List.mem_of_getElem? (i := 593) rfl) rfl
set_option maxRecDepth 20000 in
theorem mk_X3_69 : Cond.methodLink RX3 69 yX3_readTerms ∈ lw_g := lw_gm (List.mem_of_getElem? (i := 594) rfl) rfl
set_option maxRecDepth 20000 in
theorem mk_X3_76 : Cond.methodLink RX3 76 yX3_isAtTerm ∈ lw_g := lw_gm (List.mem_of_getElem? (i := 598) rfl) rfl
set_option maxRecDepth 20000 in
theorem mk_X3_80 : Cond.methodLink RX3 80 yX3_isAtMeasure ∈ lw_g := lw_gm (List.mem_of_getElem? (i := 601) rfl) rfl
set_option maxRecDepth 20000 in
theorem mk_X3_28 : Cond.methodLink RX3 28 yX5_isAtEnd ∈ lw_g := lw_gm (List.mem_of_getElem? (i := 605) rfl) rfl
set_option maxRecDepth 20000 in
theorem mk_X3_19 : Cond.methodLink RX3 19 yJ9_max_7cf53 ∈ lw_g := lw_gm (List.mem_of_getElem? (i := 606) rfl) rfl
set_option maxRecDepth 20000 in
theorem mk_L_79 : Cond.methodLink RL 79 yX7_sand ∈ lw_g := lw_gm (List.mem_of_getElem? (i := 607) rfl) rfl
set_option maxRecDepth 20000 in
theorem mk_L_84 : Cond.methodLink RL 84 yX7_hour ∈ lw_g := lw_gm (List.mem_of_getElem? (i := 611) rfl) rfl
set_option maxRecDepth 20000 in
theorem mk_X7_179 : Cond.methodLink RX7 179 yX6_plan ∈ lw_g := lw_gm (List.mem_of_getElem? (i := 615) rfl) rfl
set_option maxRecDepth 20000 in
theorem mk_X6_24 : Cond.methodLink RX6 24 yX6_handlersOf ∈ lw_g := lw_gm (List.mem_of_getElem? (i := 619) rfl) rfl
set_option maxRecDepth 20000 in
theorem mk_X6_28 : Cond.methodLink RX6 28 yX6_fitFrom ∈ lw_g := lw_gm (List.mem_of_getElem? (i := 622) rfl) rfl
set_option maxRecDepth 20000 in
theorem mk_L_88 : Cond.methodLink RL 88 yX7_team ∈ lw_g := lw_gm (List.mem_of_getElem? (i := 625) rfl) rfl
set_option maxRecDepth 20000 in
theorem mk_X7_189 : Cond.methodLink RX7 189 yX7_leastPlace ∈ lw_g := lw_gm (List.mem_of_getElem? (i := 629) rfl) rfl
set_option maxRecDepth 20000 in
theorem mk_X7_193 : Cond.methodLink RX7 193 yX4_placeOf ∈ lw_g := lw_gm (List.mem_of_getElem? (i := 633) rfl) rfl
set_option maxRecDepth 20000 in
theorem mk_L_92 : Cond.methodLink RL 92 yX7_price ∈ lw_g := lw_gm (List.mem_of_getElem? (i := 634) rfl) rfl
set_option maxRecDepth 20000 in
theorem mk_L_96 : Cond.methodLink RL 96 yX7_look ∈ lw_g := lw_gm (List.mem_of_getElem? (i := 638) rfl) rfl
set_option maxRecDepth 20000 in
theorem mk_X7_205 : Cond.methodLink RX7 205 yX7_classesOf ∈ lw_g := lw_gm (List.mem_of_getElem? (i := 642) rfl) rfl
set_option maxRecDepth 20000 in
theorem mk_L_100 : Cond.methodLink RL 100 yX7_count ∈ lw_g := lw_gm (List.mem_of_getElem? (i := 646) rfl) rfl
set_option maxRecDepth 20000 in
theorem mk_X7_208 : Cond.methodLink RX7 208 yX4_countOrders ∈ lw_g := lw_gm (List.mem_of_getElem? (i := 650) rfl) rfl
set_option maxRecDepth 20000 in
theorem mk_X7_211 : Cond.methodLink RX7 211 yX6_lastHour ∈ lw_g := lw_gm (List.mem_of_getElem? (i := 654) rfl) rfl
set_option maxRecDepth 20000 in
theorem mk_X6_32 : Cond.methodLink RX6 32 yJ9_max_7cf53 ∈ lw_g := lw_gm (List.mem_of_getElem? (i := 658) rfl) rfl
set_option maxRecDepth 20000 in
theorem mk_L_12 : Cond.methodLink RL 12 yX8_init ∈ lw_g := lw_gm (List.mem_of_getElem? (i := 661) rfl) rfl
set_option maxRecDepth 20000 in
theorem mk_L_17 : Cond.methodLink RL 17 yX8_feed ∈ lw_g := lw_gm (List.mem_of_getElem? (i := 769) rfl) rfl
set_option maxRecDepth 20000 in
theorem mk_X8_97 : Cond.methodLink RX8 97 yX8_push ∈ lw_g := lw_gm (List.mem_of_getElem? (i := 773) rfl) rfl
set_option maxRecDepth 20000 in
theorem mk_L_22 : Cond.methodLink RL 22 yX8_text ∈ lw_g := lw_gm (List.mem_of_getElem? (i := 777) rfl) rfl
set_option maxRecDepth 20000 in
theorem mk_X8_139 : Cond.methodLink RX8 139 yX8_isClass ∈ lw_g := lw_gm (List.mem_of_getElem? (i := 781) rfl) rfl
set_option maxRecDepth 20000 in
theorem mk_X8_87 : Cond.methodLink RX8 87 yX8_lies ∈ lw_g := lw_gm (List.mem_of_getElem? (i := 784) rfl) rfl
set_option maxRecDepth 20000 in
theorem mk_X8_143 : Cond.methodLink RX8 143 yX8_begins ∈ lw_g := lw_gm (List.mem_of_getElem? (i := 787) rfl) rfl
set_option maxRecDepth 20000 in
theorem mk_X8_146 : Cond.methodLink RX8 146 yX8_clause ∈ lw_g := lw_gm (List.mem_of_getElem? (i := 791) rfl) rfl
set_option maxRecDepth 20000 in
theorem mk_X8_113 : Cond.methodLink RX8 113 yX8_here ∈ lw_g := lw_gm (List.mem_of_getElem? (i := 795) rfl) rfl
set_option maxRecDepth 20000 in
theorem mk_X8_121 : Cond.methodLink RX8 121 yX8_fails ∈ lw_g := lw_gm (List.mem_of_getElem? (i := 799) rfl) rfl
set_option maxRecDepth 20000 in
theorem mk_X8_133 : Cond.methodLink RX8 133 yX8_breeds ∈ lw_g := lw_gm (List.mem_of_getElem? (i := 803) rfl) rfl
set_option maxRecDepth 20000 in
theorem mk_X8_117 : Cond.methodLink RX8 117 yX8_seesDigit ∈ lw_g := lw_gm (List.mem_of_getElem? (i := 807) rfl) rfl
set_option maxRecDepth 20000 in
theorem mk_X8_128 : Cond.methodLink RX8 128 yX8_keeps ∈ lw_g := lw_gm (List.mem_of_getElem? (i := 811) rfl) rfl
set_option maxRecDepth 20000 in
theorem mk_X8_136 : Cond.methodLink RX8 136 yX8_measures ∈ lw_g := lw_gm (List.mem_of_getElem? (i := 815) rfl) rfl
set_option maxRecDepth 20000 in
theorem mk_X8_131 : Cond.methodLink RX8 131 yX8_readNumber ∈ lw_g := lw_gm (List.mem_of_getElem? (i := 819) rfl) rfl
set_option maxRecDepth 20000 in
theorem mk_L_27 : Cond.methodLink RL 27 yX8_beast ∈ lw_g := lw_gm (List.mem_of_getElem? (i := 823) rfl) rfl
set_option maxRecDepth 20000 in
theorem mk_L_32 : Cond.methodLink RL 32 yX8_measure ∈ lw_g := lw_gm (List.mem_of_getElem? (i := 827) rfl) rfl
set_option maxRecDepth 20000 in
theorem mk_X8_149 : Cond.methodLink RX8 149 yX8_isBeast ∈ lw_g := lw_gm (List.mem_of_getElem? (i := 831) rfl) rfl
set_option maxRecDepth 20000 in
theorem mk_L_36 : Cond.methodLink RL 36 yX8_lets ∈ lw_g := lw_gm (List.mem_of_getElem? (i := 835) rfl) rfl
set_option maxRecDepth 20000 in
theorem mk_X8_159 : Cond.methodLink RX8 159 yX8_isLet ∈ lw_g := lw_gm (List.mem_of_getElem? (i := 839) rfl) rfl
set_option maxRecDepth 20000 in
theorem mk_X8_156 : Cond.methodLink RX8 156 yX8_holds ∈ lw_g := lw_gm (List.mem_of_getElem? (i := 843) rfl) rfl
set_option maxRecDepth 20000 in
theorem mk_X8_152 : Cond.methodLink RX8 152 yX8_has ∈ lw_g := lw_gm (List.mem_of_getElem? (i := 847) rfl) rfl
set_option maxRecDepth 20000 in
theorem mk_L_41 : Cond.methodLink RL 41 yX8_enter ∈ lw_g := lw_gm (List.mem_of_getElem? (i := 850) rfl) rfl
set_option maxRecDepth 20000 in
theorem mk_X8_162 : Cond.methodLink RX8 162 yX8_sizeOf ∈ lw_g := lw_gm (List.mem_of_getElem? (i := 854) rfl) rfl
set_option maxRecDepth 20000 in
theorem mk_L_45 : Cond.methodLink RL 45 yX8_protest ∈ lw_g := lw_gm (List.mem_of_getElem? (i := 857) rfl) rfl
set_option maxRecDepth 20000 in
theorem mk_L_49 : Cond.methodLink RL 49 yX8_bar ∈ lw_g := lw_gm (List.mem_of_getElem? (i := 861) rfl) rfl
set_option maxRecDepth 20000 in
theorem mk_L_53 : Cond.methodLink RL 53 yX8_order ∈ lw_g := lw_gm (List.mem_of_getElem? (i := 865) rfl) rfl
set_option maxRecDepth 20000 in
theorem mk_X8_166 : Cond.methodLink RX8 166 yX8_isRowOf ∈ lw_g := lw_gm (List.mem_of_getElem? (i := 869) rfl) rfl
set_option maxRecDepth 20000 in
theorem mk_L_57 : Cond.methodLink RL 57 yX8_placed ∈ lw_g := lw_gm (List.mem_of_getElem? (i := 873) rfl) rfl
set_option maxRecDepth 20000 in
theorem mk_X8_186 : Cond.methodLink RX8 186 yX8_joins ∈ lw_g := lw_gm (List.mem_of_getElem? (i := 877) rfl) rfl
set_option maxRecDepth 20000 in
theorem mk_X8_179 : Cond.methodLink RX8 179 yX8_ahead ∈ lw_g := lw_gm (List.mem_of_getElem? (i := 881) rfl) rfl
set_option maxRecDepth 20000 in
theorem mk_X8_169 : Cond.methodLink RX8 169 yX8_counts ∈ lw_g := lw_gm (List.mem_of_getElem? (i := 885) rfl) rfl
set_option maxRecDepth 20000 in
theorem mk_X8_172 : Cond.methodLink RX8 172 yX8_placeIn ∈ lw_g := lw_gm (List.mem_of_getElem? (i := 889) rfl) rfl
set_option maxRecDepth 20000 in
theorem mk_X8_182 : Cond.methodLink RX8 182 yX8_cost ∈ lw_g := lw_gm (List.mem_of_getElem? (i := 893) rfl) rfl
set_option maxRecDepth 20000 in
theorem mk_L_62 : Cond.methodLink RL 62 yX8_swaps ∈ lw_g := lw_gm (List.mem_of_getElem? (i := 897) rfl) rfl
set_option maxRecDepth 20000 in
theorem mk_L_66 : Cond.methodLink RL 66 yX8_ring ∈ lw_g := lw_gm (List.mem_of_getElem? (i := 901) rfl) rfl
set_option maxRecDepth 20000 in
theorem mk_X8_189 : Cond.methodLink RX8 189 yX8_isMore ∈ lw_g := lw_gm (List.mem_of_getElem? (i := 905) rfl) rfl
set_option maxRecDepth 20000 in
theorem mk_L_70 : Cond.methodLink RL 70 yX8_cut ∈ lw_g := lw_gm (List.mem_of_getElem? (i := 909) rfl) rfl
set_option maxRecDepth 20000 in
theorem mk_L_74 : Cond.methodLink RL 74 yX8_card ∈ lw_g := lw_gm (List.mem_of_getElem? (i := 913) rfl) rfl
set_option maxRecDepth 20000 in
theorem mk_X8_192 : Cond.methodLink RX8 192 yX8_placeNow ∈ lw_g := lw_gm (List.mem_of_getElem? (i := 917) rfl) rfl
set_option maxRecDepth 20000 in
theorem mk_L_78 : Cond.methodLink RL 78 yX8_reasons ∈ lw_g := lw_gm (List.mem_of_getElem? (i := 921) rfl) rfl
set_option maxRecDepth 20000 in
theorem mk_X8_204 : Cond.methodLink RX8 204 yX8_pair ∈ lw_g := lw_gm (List.mem_of_getElem? (i := 925) rfl) rfl
set_option maxRecDepth 20000 in
theorem mk_X8_195 : Cond.methodLink RX8 195 yX8_place ∈ lw_g := lw_gm (List.mem_of_getElem? (i := 929) rfl) rfl
set_option maxRecDepth 20000 in
theorem mk_X8_198 : Cond.methodLink RX8 198 yX8_must ∈ lw_g := lw_gm (List.mem_of_getElem? (i := 933) rfl) rfl
set_option maxRecDepth 20000 in
theorem mk_L_83 : Cond.methodLink RL 83 yX8_sand ∈ lw_g := lw_gm (List.mem_of_getElem? (i := 937) rfl) rfl
set_option maxRecDepth 20000 in
theorem mk_L_87 : Cond.methodLink RL 87 yX8_hour ∈ lw_g := lw_gm (List.mem_of_getElem? (i := 941) rfl) rfl
set_option maxRecDepth 20000 in
theorem mk_X8_213 : Cond.methodLink RX8 213 yX8_lays ∈ lw_g := lw_gm (List.mem_of_getElem? (i := 945) rfl) rfl
set_option maxRecDepth 20000 in
theorem mk_X8_207 : Cond.methodLink RX8 207 yX8_isGood ∈ lw_g := lw_gm (List.mem_of_getElem? (i := 949) rfl) rfl
set_option maxRecDepth 20000 in
theorem mk_X8_210 : Cond.methodLink RX8 210 yX8_isNext ∈ lw_g := lw_gm (List.mem_of_getElem? (i := 953) rfl) rfl
set_option maxRecDepth 20000 in
theorem mk_L_91 : Cond.methodLink RL 91 yX8_team ∈ lw_g := lw_gm (List.mem_of_getElem? (i := 957) rfl) rfl
set_option maxRecDepth 20000 in
theorem mk_X8_216 : Cond.methodLink RX8 216 yX8_ranks ∈ lw_g := lw_gm (List.mem_of_getElem? (i := 961) rfl) rfl
set_option maxRecDepth 20000 in
theorem mk_L_95 : Cond.methodLink RL 95 yX8_price ∈ lw_g := lw_gm (List.mem_of_getElem? (i := 965) rfl) rfl
set_option maxRecDepth 20000 in
theorem mk_L_99 : Cond.methodLink RL 99 yX8_look ∈ lw_g := lw_gm (List.mem_of_getElem? (i := 969) rfl) rfl
set_option maxRecDepth 20000 in
theorem mk_L_103 : Cond.methodLink RL 103 yX8_count ∈ lw_g := lw_gm (List.mem_of_getElem? (i := 973) rfl) rfl
set_option maxRecDepth 20000 in
theorem kk_J6_265 : Cond.constant RJ6 265 (1431655765) ∈ lw_g := lw_gm (List.mem_of_getElem? (i := 499) rfl) rfl
set_option maxRecDepth 20000 in
theorem kk_J6_266 : Cond.constant RJ6 266 (858993459) ∈ lw_g := lw_gm (List.mem_of_getElem? (i := 500) rfl) rfl
set_option maxRecDepth 20000 in
theorem kk_J6_267 : Cond.constant RJ6 267 (252645135) ∈ lw_g := lw_gm (List.mem_of_getElem? (i := 501) rfl) rfl
theorem cl_L_7 : Cond.classLink RL 7 RX7 ∈ lw_g := lw_gm (List.mem_of_getElem? (i := 63) rfl) rfl
theorem cl_X7_7 : Cond.classLink RX7 7 RX5 ∈ lw_g := lw_gm (List.mem_of_getElem? (i := 71) rfl) rfl
theorem cl_X7_16 : Cond.classLink RX7 16 RX0 ∈ lw_g := lw_gm (List.mem_of_getElem? (i := 91) rfl) rfl
theorem cl_X7_22 : Cond.classLink RX7 22 RX4 ∈ lw_g := lw_gm (List.mem_of_getElem? (i := 93) rfl) rfl
theorem cl_X7_32 : Cond.classLink RX7 32 RX2 ∈ lw_g := lw_gm (List.mem_of_getElem? (i := 95) rfl) rfl
theorem cl_X2_22 : Cond.classLink RX2 22 "[[I" ∈ lw_g := lw_gm (List.mem_of_getElem? (i := 101) rfl) rfl
theorem cl_X7_39 : Cond.classLink RX7 39 RX6 ∈ lw_g := lw_gm (List.mem_of_getElem? (i := 122) rfl) rfl
theorem cl_X7_46 : Cond.classLink RX7 46 RX3 ∈ lw_g := lw_gm (List.mem_of_getElem? (i := 142) rfl) rfl
theorem cl_X7_53 : Cond.classLink RX7 53 RX1 ∈ lw_g := lw_gm (List.mem_of_getElem? (i := 152) rfl) rfl
theorem cl_X4_21 : Cond.classLink RX4 21 RX1 ∈ lw_g := lw_gm (List.mem_of_getElem? (i := 180) rfl) rfl
theorem cl_X4_28 : Cond.classLink RX4 28 "[[I" ∈ lw_g := lw_gm (List.mem_of_getElem? (i := 182) rfl) rfl
set_option maxRecDepth 20000 in
theorem cl_L_10 : Cond.classLink RL 10 RX8 ∈ lw_g := lw_gm (List.mem_of_getElem? (i := 659) rfl) rfl
