-- made by wip/whole/gen_ok.py: the words of callees and of call sites
theorem caX0_init : am_cal mX0_init 0 := ⟨lw_mem (i := 120) (by decide +kernel) (by decide +kernel), lw_mem (i := 55) (by decide +kernel) (by decide +kernel), (by decide +kernel), Nat.le_of_ble_eq_true rfl⟩
theorem caX0_allHeads : am_cal mX0_allHeads 0 := ⟨lw_mem (i := 408) (by decide +kernel) (by decide +kernel), lw_mem (i := 55) (by decide +kernel) (by decide +kernel), (by decide +kernel), Nat.le_of_ble_eq_true rfl⟩
theorem cvX0_allHeads : am_cV mX0_allHeads := ⟨lw_mem (i := 406) (by decide +kernel) (by decide +kernel), lw_mem (i := 407) (by decide +kernel) (by decide +kernel)⟩
theorem caX0_shareOut : am_cal mX0_shareOut 1 := ⟨lw_mem (i := 397) (by decide +kernel) (by decide +kernel), lw_mem (i := 55) (by decide +kernel) (by decide +kernel), (by decide +kernel), Nat.le_of_ble_eq_true rfl⟩
theorem cvX0_shareOut : am_cV mX0_shareOut := ⟨lw_mem (i := 395) (by decide +kernel) (by decide +kernel), lw_mem (i := 396) (by decide +kernel) (by decide +kernel)⟩
theorem caX0_shareByRests : am_cal mX0_shareByRests 1 := ⟨lw_mem (i := 404) (by decide +kernel) (by decide +kernel), lw_mem (i := 55) (by decide +kernel) (by decide +kernel), (by decide +kernel), Nat.le_of_ble_eq_true rfl⟩
theorem cvX0_shareByRests : am_cV mX0_shareByRests := ⟨lw_mem (i := 403) (by decide +kernel) (by decide +kernel), lw_mem (i := 3) (by decide +kernel) (by decide +kernel)⟩
theorem caX0_shareByDivisors : am_cal mX0_shareByDivisors 1 := ⟨lw_mem (i := 412) (by decide +kernel) (by decide +kernel), lw_mem (i := 55) (by decide +kernel) (by decide +kernel), (by decide +kernel), Nat.le_of_ble_eq_true rfl⟩
theorem cvX0_shareByDivisors : am_cV mX0_shareByDivisors := ⟨lw_mem (i := 411) (by decide +kernel) (by decide +kernel), lw_mem (i := 4) (by decide +kernel) (by decide +kernel)⟩
theorem caX0_divisorOf : am_cal mX0_divisorOf 1 := ⟨lw_mem (i := 416) (by decide +kernel) (by decide +kernel), lw_mem (i := 55) (by decide +kernel) (by decide +kernel), (by decide +kernel), Nat.le_of_ble_eq_true rfl⟩
theorem cvX0_divisorOf : am_cV mX0_divisorOf := ⟨lw_mem (i := 415) (by decide +kernel) (by decide +kernel), lw_mem (i := 5) (by decide +kernel) (by decide +kernel)⟩
theorem caX1_init : am_cal mX1_init 2 := ⟨lw_mem (i := 77) (by decide +kernel) (by decide +kernel), lw_mem (i := 53) (by decide +kernel) (by decide +kernel), (by decide +kernel), Nat.le_of_ble_eq_true rfl⟩
theorem caX1_lay : am_cal mX1_lay 2 := ⟨lw_mem (i := 82) (by decide +kernel) (by decide +kernel), lw_mem (i := 53) (by decide +kernel) (by decide +kernel), (by decide +kernel), Nat.le_of_ble_eq_true rfl⟩
theorem cvX1_lay : am_cV mX1_lay := ⟨lw_mem (i := 80) (by decide +kernel) (by decide +kernel), lw_mem (i := 81) (by decide +kernel) (by decide +kernel)⟩
theorem caX1_size : am_cal mX1_size 0 := ⟨lw_mem (i := 282) (by decide +kernel) (by decide +kernel), lw_mem (i := 53) (by decide +kernel) (by decide +kernel), (by decide +kernel), Nat.le_of_ble_eq_true rfl⟩
theorem cvX1_size : am_cV mX1_size := ⟨lw_mem (i := 280) (by decide +kernel) (by decide +kernel), lw_mem (i := 281) (by decide +kernel) (by decide +kernel)⟩
theorem caX1_knows : am_cal mX1_knows 1 := ⟨lw_mem (i := 290) (by decide +kernel) (by decide +kernel), lw_mem (i := 53) (by decide +kernel) (by decide +kernel), (by decide +kernel), Nat.le_of_ble_eq_true rfl⟩
theorem cvX1_knows : am_cV mX1_knows := ⟨lw_mem (i := 288) (by decide +kernel) (by decide +kernel), lw_mem (i := 289) (by decide +kernel) (by decide +kernel)⟩
theorem caX1_columnOf : am_cal mX1_columnOf 1 := ⟨lw_mem (i := 318) (by decide +kernel) (by decide +kernel), lw_mem (i := 53) (by decide +kernel) (by decide +kernel), (by decide +kernel), Nat.le_of_ble_eq_true rfl⟩
theorem cvX1_columnOf : am_cV mX1_columnOf := ⟨lw_mem (i := 316) (by decide +kernel) (by decide +kernel), lw_mem (i := 317) (by decide +kernel) (by decide +kernel)⟩
theorem caX1_rowOf : am_cal mX1_rowOf 1 := ⟨lw_mem (i := 322) (by decide +kernel) (by decide +kernel), lw_mem (i := 53) (by decide +kernel) (by decide +kernel), (by decide +kernel), Nat.le_of_ble_eq_true rfl⟩
theorem cvX1_rowOf : am_cV mX1_rowOf := ⟨lw_mem (i := 320) (by decide +kernel) (by decide +kernel), lw_mem (i := 321) (by decide +kernel) (by decide +kernel)⟩
theorem caX1_steps : am_cal mX1_steps 2 := ⟨lw_mem (i := 568) (by decide +kernel) (by decide +kernel), lw_mem (i := 53) (by decide +kernel) (by decide +kernel), (by decide +kernel), Nat.le_of_ble_eq_true rfl⟩
theorem cvX1_steps : am_cV mX1_steps := ⟨lw_mem (i := 566) (by decide +kernel) (by decide +kernel), lw_mem (i := 567) (by decide +kernel) (by decide +kernel)⟩
theorem caX1_boxed : am_cal mX1_boxed 2 := ⟨lw_mem (i := 326) (by decide +kernel) (by decide +kernel), lw_mem (i := 53) (by decide +kernel) (by decide +kernel), (by decide +kernel), Nat.le_of_ble_eq_true rfl⟩
theorem cvX1_boxed : am_cV mX1_boxed := ⟨lw_mem (i := 324) (by decide +kernel) (by decide +kernel), lw_mem (i := 325) (by decide +kernel) (by decide +kernel)⟩
theorem caX1_rimOf : am_cal mX1_rimOf 1 := ⟨lw_mem (i := 432) (by decide +kernel) (by decide +kernel), lw_mem (i := 53) (by decide +kernel) (by decide +kernel), (by decide +kernel), Nat.le_of_ble_eq_true rfl⟩
theorem cvX1_rimOf : am_cV mX1_rimOf := ⟨lw_mem (i := 430) (by decide +kernel) (by decide +kernel), lw_mem (i := 431) (by decide +kernel) (by decide +kernel)⟩
theorem caX1_partsOf : am_cal mX1_partsOf 1 := ⟨lw_mem (i := 424) (by decide +kernel) (by decide +kernel), lw_mem (i := 53) (by decide +kernel) (by decide +kernel), (by decide +kernel), Nat.le_of_ble_eq_true rfl⟩
theorem cvX1_partsOf : am_cV mX1_partsOf := ⟨lw_mem (i := 422) (by decide +kernel) (by decide +kernel), lw_mem (i := 423) (by decide +kernel) (by decide +kernel)⟩
theorem caX1_pieceFrom : am_cal mX1_pieceFrom 2 := ⟨lw_mem (i := 428) (by decide +kernel) (by decide +kernel), lw_mem (i := 53) (by decide +kernel) (by decide +kernel), (by decide +kernel), Nat.le_of_ble_eq_true rfl⟩
theorem cvX1_pieceFrom : am_cV mX1_pieceFrom := ⟨lw_mem (i := 427) (by decide +kernel) (by decide +kernel), lw_mem (i := 6) (by decide +kernel) (by decide +kernel)⟩
theorem caX2_init : am_cal mX2_init 3 := ⟨lw_mem (i := 144) (by decide +kernel) (by decide +kernel), lw_mem (i := 56) (by decide +kernel) (by decide +kernel), (by decide +kernel), Nat.le_of_ble_eq_true rfl⟩
theorem caX2_allows : am_cal mX2_allows 2 := ⟨lw_mem (i := 485) (by decide +kernel) (by decide +kernel), lw_mem (i := 56) (by decide +kernel) (by decide +kernel), (by decide +kernel), Nat.le_of_ble_eq_true rfl⟩
theorem cvX2_allows : am_cV mX2_allows := ⟨lw_mem (i := 483) (by decide +kernel) (by decide +kernel), lw_mem (i := 484) (by decide +kernel) (by decide +kernel)⟩
theorem caX2_looseCells : am_cal mX2_looseCells 2 := ⟨lw_mem (i := 492) (by decide +kernel) (by decide +kernel), lw_mem (i := 56) (by decide +kernel) (by decide +kernel), (by decide +kernel), Nat.le_of_ble_eq_true rfl⟩
theorem cvX2_looseCells : am_cV mX2_looseCells := ⟨lw_mem (i := 491) (by decide +kernel) (by decide +kernel), lw_mem (i := 10) (by decide +kernel) (by decide +kernel)⟩
theorem caX2_cellsToHand : am_cal mX2_cellsToHand 2 := ⟨lw_mem (i := 539) (by decide +kernel) (by decide +kernel), lw_mem (i := 56) (by decide +kernel) (by decide +kernel), (by decide +kernel), Nat.le_of_ble_eq_true rfl⟩
theorem cvX2_cellsToHand : am_cV mX2_cellsToHand := ⟨lw_mem (i := 538) (by decide +kernel) (by decide +kernel), lw_mem (i := 14) (by decide +kernel) (by decide +kernel)⟩
theorem caX2_findChain : am_cal mX2_findChain 0 := ⟨lw_mem (i := 507) (by decide +kernel) (by decide +kernel), lw_mem (i := 56) (by decide +kernel) (by decide +kernel), (by decide +kernel), Nat.le_of_ble_eq_true rfl⟩
theorem cvX2_findChain : am_cV mX2_findChain := ⟨lw_mem (i := 505) (by decide +kernel) (by decide +kernel), lw_mem (i := 506) (by decide +kernel) (by decide +kernel)⟩
theorem caX2_seeWhoHands : am_cal mX2_seeWhoHands 0 := ⟨lw_mem (i := 511) (by decide +kernel) (by decide +kernel), lw_mem (i := 56) (by decide +kernel) (by decide +kernel), (by decide +kernel), Nat.le_of_ble_eq_true rfl⟩
theorem cvX2_seeWhoHands : am_cV mX2_seeWhoHands := ⟨lw_mem (i := 510) (by decide +kernel) (by decide +kernel), lw_mem (i := 11) (by decide +kernel) (by decide +kernel)⟩
theorem caX2_measureLengths : am_cal mX2_measureLengths 0 := ⟨lw_mem (i := 515) (by decide +kernel) (by decide +kernel), lw_mem (i := 56) (by decide +kernel) (by decide +kernel), (by decide +kernel), Nat.le_of_ble_eq_true rfl⟩
theorem cvX2_measureLengths : am_cV mX2_measureLengths := ⟨lw_mem (i := 514) (by decide +kernel) (by decide +kernel), lw_mem (i := 12) (by decide +kernel) (by decide +kernel)⟩
theorem caX2_nextOf : am_cal mX2_nextOf 1 := ⟨lw_mem (i := 523) (by decide +kernel) (by decide +kernel), lw_mem (i := 56) (by decide +kernel) (by decide +kernel), (by decide +kernel), Nat.le_of_ble_eq_true rfl⟩
theorem cvX2_nextOf : am_cV mX2_nextOf := ⟨lw_mem (i := 522) (by decide +kernel) (by decide +kernel), lw_mem (i := 13) (by decide +kernel) (by decide +kernel)⟩
theorem caX2_passAlong : am_cal mX2_passAlong 1 := ⟨lw_mem (i := 535) (by decide +kernel) (by decide +kernel), lw_mem (i := 56) (by decide +kernel) (by decide +kernel), (by decide +kernel), Nat.le_of_ble_eq_true rfl⟩
theorem cvX2_passAlong : am_cV mX2_passAlong := ⟨lw_mem (i := 533) (by decide +kernel) (by decide +kernel), lw_mem (i := 534) (by decide +kernel) (by decide +kernel)⟩
theorem caX3_init : am_cal mX3_init 0 := ⟨lw_mem (i := 171) (by decide +kernel) (by decide +kernel), lw_mem (i := 57) (by decide +kernel) (by decide +kernel), (by decide +kernel), Nat.le_of_ble_eq_true rfl⟩
theorem caX3_begin : am_cal mX3_begin 2 := ⟨lw_mem (i := 563) (by decide +kernel) (by decide +kernel), lw_mem (i := 57) (by decide +kernel) (by decide +kernel), (by decide +kernel), Nat.le_of_ble_eq_true rfl⟩
theorem cvX3_begin : am_cV mX3_begin := ⟨lw_mem (i := 561) (by decide +kernel) (by decide +kernel), lw_mem (i := 562) (by decide +kernel) (by decide +kernel)⟩
theorem caX3_setCost : am_cal mX3_setCost 3 := ⟨lw_mem (i := 573) (by decide +kernel) (by decide +kernel), lw_mem (i := 57) (by decide +kernel) (by decide +kernel), (by decide +kernel), Nat.le_of_ble_eq_true rfl⟩
theorem cvX3_setCost : am_cV mX3_setCost := ⟨lw_mem (i := 571) (by decide +kernel) (by decide +kernel), lw_mem (i := 572) (by decide +kernel) (by decide +kernel)⟩
theorem caX3_solve : am_cal mX3_solve 0 := ⟨lw_mem (i := 577) (by decide +kernel) (by decide +kernel), lw_mem (i := 57) (by decide +kernel) (by decide +kernel), (by decide +kernel), Nat.le_of_ble_eq_true rfl⟩
theorem cvX3_solve : am_cV mX3_solve := ⟨lw_mem (i := 575) (by decide +kernel) (by decide +kernel), lw_mem (i := 576) (by decide +kernel) (by decide +kernel)⟩
theorem caX3_rowIn : am_cal mX3_rowIn 1 := ⟨lw_mem (i := 643) (by decide +kernel) (by decide +kernel), lw_mem (i := 57) (by decide +kernel) (by decide +kernel), (by decide +kernel), Nat.le_of_ble_eq_true rfl⟩
theorem cvX3_rowIn : am_cV mX3_rowIn := ⟨lw_mem (i := 641) (by decide +kernel) (by decide +kernel), lw_mem (i := 642) (by decide +kernel) (by decide +kernel)⟩
theorem caX3_sum : am_cal mX3_sum 0 := ⟨lw_mem (i := 608) (by decide +kernel) (by decide +kernel), lw_mem (i := 57) (by decide +kernel) (by decide +kernel), (by decide +kernel), Nat.le_of_ble_eq_true rfl⟩
theorem cvX3_sum : am_cV mX3_sum := ⟨lw_mem (i := 606) (by decide +kernel) (by decide +kernel), lw_mem (i := 607) (by decide +kernel) (by decide +kernel)⟩
theorem caX3_placeFor : am_cal mX3_placeFor 1 := ⟨lw_mem (i := 583) (by decide +kernel) (by decide +kernel), lw_mem (i := 57) (by decide +kernel) (by decide +kernel), (by decide +kernel), Nat.le_of_ble_eq_true rfl⟩
theorem cvX3_placeFor : am_cV mX3_placeFor := ⟨lw_mem (i := 582) (by decide +kernel) (by decide +kernel), lw_mem (i := 16) (by decide +kernel) (by decide +kernel)⟩
theorem caX3_tightenFrom : am_cal mX3_tightenFrom 1 := ⟨lw_mem (i := 588) (by decide +kernel) (by decide +kernel), lw_mem (i := 57) (by decide +kernel) (by decide +kernel), (by decide +kernel), Nat.le_of_ble_eq_true rfl⟩
theorem cvX3_tightenFrom : am_cV mX3_tightenFrom := ⟨lw_mem (i := 587) (by decide +kernel) (by decide +kernel), lw_mem (i := 17) (by decide +kernel) (by decide +kernel)⟩
theorem caX3_nearestColumn : am_cal mX3_nearestColumn 0 := ⟨lw_mem (i := 596) (by decide +kernel) (by decide +kernel), lw_mem (i := 57) (by decide +kernel) (by decide +kernel), (by decide +kernel), Nat.le_of_ble_eq_true rfl⟩
theorem cvX3_nearestColumn : am_cV mX3_nearestColumn := ⟨lw_mem (i := 595) (by decide +kernel) (by decide +kernel), lw_mem (i := 19) (by decide +kernel) (by decide +kernel)⟩
theorem caX3_movePrices : am_cal mX3_movePrices 1 := ⟨lw_mem (i := 600) (by decide +kernel) (by decide +kernel), lw_mem (i := 57) (by decide +kernel) (by decide +kernel), (by decide +kernel), Nat.le_of_ble_eq_true rfl⟩
theorem cvX3_movePrices : am_cV mX3_movePrices := ⟨lw_mem (i := 599) (by decide +kernel) (by decide +kernel), lw_mem (i := 20) (by decide +kernel) (by decide +kernel)⟩
theorem caX3_isReached : am_cal mX3_isReached 1 := ⟨lw_mem (i := 592) (by decide +kernel) (by decide +kernel), lw_mem (i := 57) (by decide +kernel) (by decide +kernel), (by decide +kernel), Nat.le_of_ble_eq_true rfl⟩
theorem cvX3_isReached : am_cV mX3_isReached := ⟨lw_mem (i := 591) (by decide +kernel) (by decide +kernel), lw_mem (i := 18) (by decide +kernel) (by decide +kernel)⟩
theorem caX3_makeRoom : am_cal mX3_makeRoom 1 := ⟨lw_mem (i := 604) (by decide +kernel) (by decide +kernel), lw_mem (i := 57) (by decide +kernel) (by decide +kernel), (by decide +kernel), Nat.le_of_ble_eq_true rfl⟩
theorem cvX3_makeRoom : am_cV mX3_makeRoom := ⟨lw_mem (i := 603) (by decide +kernel) (by decide +kernel), lw_mem (i := 21) (by decide +kernel) (by decide +kernel)⟩
theorem caX4_init : am_cal mX4_init 0 := ⟨lw_mem (i := 227) (by decide +kernel) (by decide +kernel), lw_mem (i := 59) (by decide +kernel) (by decide +kernel), (by decide +kernel), Nat.le_of_ble_eq_true rfl⟩
theorem caX4_votesOf : am_cal mX4_votesOf 2 := ⟨lw_mem (i := 664) (by decide +kernel) (by decide +kernel), lw_mem (i := 59) (by decide +kernel) (by decide +kernel), (by decide +kernel), Nat.le_of_ble_eq_true rfl⟩
theorem cvX4_votesOf : am_cV mX4_votesOf := ⟨lw_mem (i := 662) (by decide +kernel) (by decide +kernel), lw_mem (i := 663) (by decide +kernel) (by decide +kernel)⟩
theorem caX4_setVotes : am_cal mX4_setVotes 3 := ⟨lw_mem (i := 670) (by decide +kernel) (by decide +kernel), lw_mem (i := 59) (by decide +kernel) (by decide +kernel), (by decide +kernel), Nat.le_of_ble_eq_true rfl⟩
theorem cvX4_setVotes : am_cV mX4_setVotes := ⟨lw_mem (i := 668) (by decide +kernel) (by decide +kernel), lw_mem (i := 669) (by decide +kernel) (by decide +kernel)⟩
theorem caX4_winnerOf : am_cal mX4_winnerOf 1 := ⟨lw_mem (i := 678) (by decide +kernel) (by decide +kernel), lw_mem (i := 59) (by decide +kernel) (by decide +kernel), (by decide +kernel), Nat.le_of_ble_eq_true rfl⟩
theorem cvX4_winnerOf : am_cV mX4_winnerOf := ⟨lw_mem (i := 676) (by decide +kernel) (by decide +kernel), lw_mem (i := 677) (by decide +kernel) (by decide +kernel)⟩
theorem caX4_votesForAll : am_cal mX4_votesForAll 1 := ⟨lw_mem (i := 694) (by decide +kernel) (by decide +kernel), lw_mem (i := 59) (by decide +kernel) (by decide +kernel), (by decide +kernel), Nat.le_of_ble_eq_true rfl⟩
theorem cvX4_votesForAll : am_cV mX4_votesForAll := ⟨lw_mem (i := 692) (by decide +kernel) (by decide +kernel), lw_mem (i := 693) (by decide +kernel) (by decide +kernel)⟩
theorem caX4_cellsWon : am_cal mX4_cellsWon 2 := ⟨lw_mem (i := 698) (by decide +kernel) (by decide +kernel), lw_mem (i := 59) (by decide +kernel) (by decide +kernel), (by decide +kernel), Nat.le_of_ble_eq_true rfl⟩
theorem cvX4_cellsWon : am_cV mX4_cellsWon := ⟨lw_mem (i := 696) (by decide +kernel) (by decide +kernel), lw_mem (i := 697) (by decide +kernel) (by decide +kernel)⟩
theorem caX4_fewestToTurn : am_cal mX4_fewestToTurn 3 := ⟨lw_mem (i := 717) (by decide +kernel) (by decide +kernel), lw_mem (i := 59) (by decide +kernel) (by decide +kernel), (by decide +kernel), Nat.le_of_ble_eq_true rfl⟩
theorem cvX4_fewestToTurn : am_cV mX4_fewestToTurn := ⟨lw_mem (i := 715) (by decide +kernel) (by decide +kernel), lw_mem (i := 716) (by decide +kernel) (by decide +kernel)⟩
theorem caX4_setPrices : am_cal mX4_setPrices 3 := ⟨lw_mem (i := 723) (by decide +kernel) (by decide +kernel), lw_mem (i := 59) (by decide +kernel) (by decide +kernel), (by decide +kernel), Nat.le_of_ble_eq_true rfl⟩
theorem cvX4_setPrices : am_cV mX4_setPrices := ⟨lw_mem (i := 722) (by decide +kernel) (by decide +kernel), lw_mem (i := 25) (by decide +kernel) (by decide +kernel)⟩
theorem caX4_cheapest : am_cal mX4_cheapest 5 := ⟨lw_mem (i := 727) (by decide +kernel) (by decide +kernel), lw_mem (i := 59) (by decide +kernel) (by decide +kernel), (by decide +kernel), Nat.le_of_ble_eq_true rfl⟩
theorem csX4_cheapest : am_cS mX4_cheapest := lw_mem (i := 726) (by decide +kernel) (by decide +kernel)
theorem caX5_init : am_cal mX5_init 1 := ⟨lw_mem (i := 106) (by decide +kernel) (by decide +kernel), lw_mem (i := 54) (by decide +kernel) (by decide +kernel), (by decide +kernel), Nat.le_of_ble_eq_true rfl⟩
theorem caX5_clear : am_cal mX5_clear 0 := ⟨lw_mem (i := 275) (by decide +kernel) (by decide +kernel), lw_mem (i := 54) (by decide +kernel) (by decide +kernel), (by decide +kernel), Nat.le_of_ble_eq_true rfl⟩
theorem cvX5_clear : am_cV mX5_clear := ⟨lw_mem (i := 273) (by decide +kernel) (by decide +kernel), lw_mem (i := 274) (by decide +kernel) (by decide +kernel)⟩
theorem caX5_copy : am_cal mX5_copy 1 := ⟨lw_mem (i := 360) (by decide +kernel) (by decide +kernel), lw_mem (i := 54) (by decide +kernel) (by decide +kernel), (by decide +kernel), Nat.le_of_ble_eq_true rfl⟩
theorem cvX5_copy : am_cV mX5_copy := ⟨lw_mem (i := 358) (by decide +kernel) (by decide +kernel), lw_mem (i := 359) (by decide +kernel) (by decide +kernel)⟩
theorem caX5_put : am_cal mX5_put 2 := ⟨lw_mem (i := 309) (by decide +kernel) (by decide +kernel), lw_mem (i := 54) (by decide +kernel) (by decide +kernel), (by decide +kernel), Nat.le_of_ble_eq_true rfl⟩
theorem cvX5_put : am_cV mX5_put := ⟨lw_mem (i := 307) (by decide +kernel) (by decide +kernel), lw_mem (i := 308) (by decide +kernel) (by decide +kernel)⟩
theorem caX5_ownerOf : am_cal mX5_ownerOf 1 := ⟨lw_mem (i := 305) (by decide +kernel) (by decide +kernel), lw_mem (i := 54) (by decide +kernel) (by decide +kernel), (by decide +kernel), Nat.le_of_ble_eq_true rfl⟩
theorem cvX5_ownerOf : am_cV mX5_ownerOf := ⟨lw_mem (i := 303) (by decide +kernel) (by decide +kernel), lw_mem (i := 304) (by decide +kernel) (by decide +kernel)⟩
theorem caX5_cellsOf : am_cal mX5_cellsOf 1 := ⟨lw_mem (i := 332) (by decide +kernel) (by decide +kernel), lw_mem (i := 54) (by decide +kernel) (by decide +kernel), (by decide +kernel), Nat.le_of_ble_eq_true rfl⟩
theorem cvX5_cellsOf : am_cV mX5_cellsOf := ⟨lw_mem (i := 330) (by decide +kernel) (by decide +kernel), lw_mem (i := 331) (by decide +kernel) (by decide +kernel)⟩
theorem caX5_sizeOf : am_cal mX5_sizeOf 1 := ⟨lw_mem (i := 371) (by decide +kernel) (by decide +kernel), lw_mem (i := 54) (by decide +kernel) (by decide +kernel), (by decide +kernel), Nat.le_of_ble_eq_true rfl⟩
theorem cvX5_sizeOf : am_cV mX5_sizeOf := ⟨lw_mem (i := 369) (by decide +kernel) (by decide +kernel), lw_mem (i := 370) (by decide +kernel) (by decide +kernel)⟩
theorem caX5_landCells : am_cal mX5_landCells 0 := ⟨lw_mem (i := 337) (by decide +kernel) (by decide +kernel), lw_mem (i := 54) (by decide +kernel) (by decide +kernel), (by decide +kernel), Nat.le_of_ble_eq_true rfl⟩
theorem cvX5_landCells : am_cV mX5_landCells := ⟨lw_mem (i := 335) (by decide +kernel) (by decide +kernel), lw_mem (i := 336) (by decide +kernel) (by decide +kernel)⟩
theorem caX5_landsWithCells : am_cal mX5_landsWithCells 0 := ⟨lw_mem (i := 620) (by decide +kernel) (by decide +kernel), lw_mem (i := 54) (by decide +kernel) (by decide +kernel), (by decide +kernel), Nat.le_of_ble_eq_true rfl⟩
theorem cvX5_landsWithCells : am_cV mX5_landsWithCells := ⟨lw_mem (i := 618) (by decide +kernel) (by decide +kernel), lw_mem (i := 619) (by decide +kernel) (by decide +kernel)⟩
theorem caX5_areNeighbours : am_cal mX5_areNeighbours 2 := ⟨lw_mem (i := 441) (by decide +kernel) (by decide +kernel), lw_mem (i := 54) (by decide +kernel) (by decide +kernel), (by decide +kernel), Nat.le_of_ble_eq_true rfl⟩
theorem cvX5_areNeighbours : am_cV mX5_areNeighbours := ⟨lw_mem (i := 439) (by decide +kernel) (by decide +kernel), lw_mem (i := 440) (by decide +kernel) (by decide +kernel)⟩
theorem caX5_neighbourPairs : am_cal mX5_neighbourPairs 0 := ⟨lw_mem (i := 450) (by decide +kernel) (by decide +kernel), lw_mem (i := 54) (by decide +kernel) (by decide +kernel), (by decide +kernel), Nat.le_of_ble_eq_true rfl⟩
theorem cvX5_neighbourPairs : am_cV mX5_neighbourPairs := ⟨lw_mem (i := 448) (by decide +kernel) (by decide +kernel), lw_mem (i := 449) (by decide +kernel) (by decide +kernel)⟩
theorem caX6_init : am_cal mX6_init 2 := ⟨lw_mem (i := 205) (by decide +kernel) (by decide +kernel), lw_mem (i := 58) (by decide +kernel) (by decide +kernel), (by decide +kernel), Nat.le_of_ble_eq_true rfl⟩
theorem caX6_findBest : am_cal mX6_findBest 1 := ⟨lw_mem (i := 616) (by decide +kernel) (by decide +kernel), lw_mem (i := 58) (by decide +kernel) (by decide +kernel), (by decide +kernel), Nat.le_of_ble_eq_true rfl⟩
theorem cvX6_findBest : am_cV mX6_findBest := ⟨lw_mem (i := 614) (by decide +kernel) (by decide +kernel), lw_mem (i := 615) (by decide +kernel) (by decide +kernel)⟩
theorem caX6_digitOf : am_cal mX6_digitOf 1 := ⟨lw_mem (i := 627) (by decide +kernel) (by decide +kernel), lw_mem (i := 58) (by decide +kernel) (by decide +kernel), (by decide +kernel), Nat.le_of_ble_eq_true rfl⟩
theorem csX6_digitOf : am_cS mX6_digitOf := lw_mem (i := 626) (by decide +kernel) (by decide +kernel)
theorem caX6_setCosts : am_cal mX6_setCosts 3 := ⟨lw_mem (i := 632) (by decide +kernel) (by decide +kernel), lw_mem (i := 58) (by decide +kernel) (by decide +kernel), (by decide +kernel), Nat.le_of_ble_eq_true rfl⟩
theorem cvX6_setCosts : am_cV mX6_setCosts := ⟨lw_mem (i := 631) (by decide +kernel) (by decide +kernel), lw_mem (i := 22) (by decide +kernel) (by decide +kernel)⟩
theorem caX7_init : am_cal mX7_init 0 := ⟨lw_mem (i := 69) (by decide +kernel) (by decide +kernel), lw_mem (i := 52) (by decide +kernel) (by decide +kernel), (by decide +kernel), Nat.le_of_ble_eq_true rfl⟩
theorem caX7_field : am_cal mX7_field 2 := ⟨lw_mem (i := 267) (by decide +kernel) (by decide +kernel), lw_mem (i := 52) (by decide +kernel) (by decide +kernel), (by decide +kernel), Nat.le_of_ble_eq_true rfl⟩
theorem cvX7_field : am_cV mX7_field := ⟨lw_mem (i := 265) (by decide +kernel) (by decide +kernel), lw_mem (i := 266) (by decide +kernel) (by decide +kernel)⟩
theorem caX7_give : am_cal mX7_give 3 := ⟨lw_mem (i := 286) (by decide +kernel) (by decide +kernel), lw_mem (i := 52) (by decide +kernel) (by decide +kernel), (by decide +kernel), Nat.le_of_ble_eq_true rfl⟩
theorem cvX7_give : am_cV mX7_give := ⟨lw_mem (i := 284) (by decide +kernel) (by decide +kernel), lw_mem (i := 285) (by decide +kernel) (by decide +kernel)⟩
theorem caX7_box : am_cal mX7_box 4 := ⟨lw_mem (i := 314) (by decide +kernel) (by decide +kernel), lw_mem (i := 52) (by decide +kernel) (by decide +kernel), (by decide +kernel), Nat.le_of_ble_eq_true rfl⟩
theorem cvX7_box : am_cV mX7_box := ⟨lw_mem (i := 312) (by decide +kernel) (by decide +kernel), lw_mem (i := 313) (by decide +kernel) (by decide +kernel)⟩
theorem caX7_at : am_cal mX7_at 2 := ⟨lw_mem (i := 348) (by decide +kernel) (by decide +kernel), lw_mem (i := 52) (by decide +kernel) (by decide +kernel), (by decide +kernel), Nat.le_of_ble_eq_true rfl⟩
theorem cvX7_at : am_cV mX7_at := ⟨lw_mem (i := 346) (by decide +kernel) (by decide +kernel), lw_mem (i := 347) (by decide +kernel) (by decide +kernel)⟩
theorem caX7_trace : am_cal mX7_trace 0 := ⟨lw_mem (i := 352) (by decide +kernel) (by decide +kernel), lw_mem (i := 52) (by decide +kernel) (by decide +kernel), (by decide +kernel), Nat.le_of_ble_eq_true rfl⟩
theorem cvX7_trace : am_cV mX7_trace := ⟨lw_mem (i := 350) (by decide +kernel) (by decide +kernel), lw_mem (i := 351) (by decide +kernel) (by decide +kernel)⟩
theorem caX7_cells : am_cal mX7_cells 2 := ⟨lw_mem (i := 367) (by decide +kernel) (by decide +kernel), lw_mem (i := 52) (by decide +kernel) (by decide +kernel), (by decide +kernel), Nat.le_of_ble_eq_true rfl⟩
theorem cvX7_cells : am_cV mX7_cells := ⟨lw_mem (i := 365) (by decide +kernel) (by decide +kernel), lw_mem (i := 366) (by decide +kernel) (by decide +kernel)⟩
theorem caX7_heads : am_cal mX7_heads 2 := ⟨lw_mem (i := 377) (by decide +kernel) (by decide +kernel), lw_mem (i := 52) (by decide +kernel) (by decide +kernel), (by decide +kernel), Nat.le_of_ble_eq_true rfl⟩
theorem cvX7_heads : am_cV mX7_heads := ⟨lw_mem (i := 375) (by decide +kernel) (by decide +kernel), lw_mem (i := 376) (by decide +kernel) (by decide +kernel)⟩
theorem caX7_way : am_cal mX7_way 1 := ⟨lw_mem (i := 384) (by decide +kernel) (by decide +kernel), lw_mem (i := 52) (by decide +kernel) (by decide +kernel), (by decide +kernel), Nat.le_of_ble_eq_true rfl⟩
theorem cvX7_way : am_cV mX7_way := ⟨lw_mem (i := 382) (by decide +kernel) (by decide +kernel), lw_mem (i := 383) (by decide +kernel) (by decide +kernel)⟩
theorem caX7_due : am_cal mX7_due 1 := ⟨lw_mem (i := 388) (by decide +kernel) (by decide +kernel), lw_mem (i := 52) (by decide +kernel) (by decide +kernel), (by decide +kernel), Nat.le_of_ble_eq_true rfl⟩
theorem cvX7_due : am_cV mX7_due := ⟨lw_mem (i := 386) (by decide +kernel) (by decide +kernel), lw_mem (i := 387) (by decide +kernel) (by decide +kernel)⟩
theorem caX7_parts : am_cal mX7_parts 1 := ⟨lw_mem (i := 420) (by decide +kernel) (by decide +kernel), lw_mem (i := 52) (by decide +kernel) (by decide +kernel), (by decide +kernel), Nat.le_of_ble_eq_true rfl⟩
theorem cvX7_parts : am_cV mX7_parts := ⟨lw_mem (i := 418) (by decide +kernel) (by decide +kernel), lw_mem (i := 419) (by decide +kernel) (by decide +kernel)⟩
theorem caX7_beside : am_cal mX7_beside 3 := ⟨lw_mem (i := 437) (by decide +kernel) (by decide +kernel), lw_mem (i := 52) (by decide +kernel) (by decide +kernel), (by decide +kernel), Nat.le_of_ble_eq_true rfl⟩
theorem cvX7_beside : am_cV mX7_beside := ⟨lw_mem (i := 435) (by decide +kernel) (by decide +kernel), lw_mem (i := 436) (by decide +kernel) (by decide +kernel)⟩
theorem caX7_faults : am_cal mX7_faults 0 := ⟨lw_mem (i := 446) (by decide +kernel) (by decide +kernel), lw_mem (i := 52) (by decide +kernel) (by decide +kernel), (by decide +kernel), Nat.le_of_ble_eq_true rfl⟩
theorem cvX7_faults : am_cV mX7_faults := ⟨lw_mem (i := 444) (by decide +kernel) (by decide +kernel), lw_mem (i := 445) (by decide +kernel) (by decide +kernel)⟩
theorem caX7_would : am_cal mX7_would 2 := ⟨lw_mem (i := 464) (by decide +kernel) (by decide +kernel), lw_mem (i := 52) (by decide +kernel) (by decide +kernel), (by decide +kernel), Nat.le_of_ble_eq_true rfl⟩
theorem cvX7_would : am_cV mX7_would := ⟨lw_mem (i := 462) (by decide +kernel) (by decide +kernel), lw_mem (i := 463) (by decide +kernel) (by decide +kernel)⟩
theorem caX7_mend : am_cal mX7_mend 0 := ⟨lw_mem (i := 477) (by decide +kernel) (by decide +kernel), lw_mem (i := 52) (by decide +kernel) (by decide +kernel), (by decide +kernel), Nat.le_of_ble_eq_true rfl⟩
theorem cvX7_mend : am_cV mX7_mend := ⟨lw_mem (i := 475) (by decide +kernel) (by decide +kernel), lw_mem (i := 476) (by decide +kernel) (by decide +kernel)⟩
theorem caX7_mayHand : am_cal mX7_mayHand 2 := ⟨lw_mem (i := 481) (by decide +kernel) (by decide +kernel), lw_mem (i := 52) (by decide +kernel) (by decide +kernel), (by decide +kernel), Nat.le_of_ble_eq_true rfl⟩
theorem cvX7_mayHand : am_cV mX7_mayHand := ⟨lw_mem (i := 479) (by decide +kernel) (by decide +kernel), lw_mem (i := 480) (by decide +kernel) (by decide +kernel)⟩
theorem caX7_hand : am_cal mX7_hand 2 := ⟨lw_mem (i := 499) (by decide +kernel) (by decide +kernel), lw_mem (i := 52) (by decide +kernel) (by decide +kernel), (by decide +kernel), Nat.le_of_ble_eq_true rfl⟩
theorem cvX7_hand : am_cV mX7_hand := ⟨lw_mem (i := 497) (by decide +kernel) (by decide +kernel), lw_mem (i := 498) (by decide +kernel) (by decide +kernel)⟩
theorem caX7_chain : am_cal mX7_chain 0 := ⟨lw_mem (i := 503) (by decide +kernel) (by decide +kernel), lw_mem (i := 52) (by decide +kernel) (by decide +kernel), (by decide +kernel), Nat.le_of_ble_eq_true rfl⟩
theorem cvX7_chain : am_cV mX7_chain := ⟨lw_mem (i := 501) (by decide +kernel) (by decide +kernel), lw_mem (i := 502) (by decide +kernel) (by decide +kernel)⟩
theorem caX7_link : am_cal mX7_link 1 := ⟨lw_mem (i := 527) (by decide +kernel) (by decide +kernel), lw_mem (i := 52) (by decide +kernel) (by decide +kernel), (by decide +kernel), Nat.le_of_ble_eq_true rfl⟩
theorem cvX7_link : am_cV mX7_link := ⟨lw_mem (i := 525) (by decide +kernel) (by decide +kernel), lw_mem (i := 526) (by decide +kernel) (by decide +kernel)⟩
theorem caX7_pass : am_cal mX7_pass 0 := ⟨lw_mem (i := 531) (by decide +kernel) (by decide +kernel), lw_mem (i := 52) (by decide +kernel) (by decide +kernel), (by decide +kernel), Nat.le_of_ble_eq_true rfl⟩
theorem cvX7_pass : am_cV mX7_pass := ⟨lw_mem (i := 529) (by decide +kernel) (by decide +kernel), lw_mem (i := 530) (by decide +kernel) (by decide +kernel)⟩
theorem caX7_settle : am_cal mX7_settle 0 := ⟨lw_mem (i := 547) (by decide +kernel) (by decide +kernel), lw_mem (i := 52) (by decide +kernel) (by decide +kernel), (by decide +kernel), Nat.le_of_ble_eq_true rfl⟩
theorem cvX7_settle : am_cV mX7_settle := ⟨lw_mem (i := 545) (by decide +kernel) (by decide +kernel), lw_mem (i := 546) (by decide +kernel) (by decide +kernel)⟩
theorem caX7_changed : am_cal mX7_changed 0 := ⟨lw_mem (i := 551) (by decide +kernel) (by decide +kernel), lw_mem (i := 52) (by decide +kernel) (by decide +kernel), (by decide +kernel), Nat.le_of_ble_eq_true rfl⟩
theorem cvX7_changed : am_cV mX7_changed := ⟨lw_mem (i := 549) (by decide +kernel) (by decide +kernel), lw_mem (i := 550) (by decide +kernel) (by decide +kernel)⟩
theorem caX7_carried : am_cal mX7_carried 1 := ⟨lw_mem (i := 555) (by decide +kernel) (by decide +kernel), lw_mem (i := 52) (by decide +kernel) (by decide +kernel), (by decide +kernel), Nat.le_of_ble_eq_true rfl⟩
theorem cvX7_carried : am_cV mX7_carried := ⟨lw_mem (i := 553) (by decide +kernel) (by decide +kernel), lw_mem (i := 554) (by decide +kernel) (by decide +kernel)⟩
theorem caX7_off : am_cal mX7_off 0 := ⟨lw_mem (i := 612) (by decide +kernel) (by decide +kernel), lw_mem (i := 52) (by decide +kernel) (by decide +kernel), (by decide +kernel), Nat.le_of_ble_eq_true rfl⟩
theorem cvX7_off : am_cV mX7_off := ⟨lw_mem (i := 610) (by decide +kernel) (by decide +kernel), lw_mem (i := 611) (by decide +kernel) (by decide +kernel)⟩
theorem caX7_tile : am_cal mX7_tile 1 := ⟨lw_mem (i := 649) (by decide +kernel) (by decide +kernel), lw_mem (i := 52) (by decide +kernel) (by decide +kernel), (by decide +kernel), Nat.le_of_ble_eq_true rfl⟩
theorem cvX7_tile : am_cV mX7_tile := ⟨lw_mem (i := 647) (by decide +kernel) (by decide +kernel), lw_mem (i := 648) (by decide +kernel) (by decide +kernel)⟩
theorem caX7_kept : am_cal mX7_kept 0 := ⟨lw_mem (i := 653) (by decide +kernel) (by decide +kernel), lw_mem (i := 52) (by decide +kernel) (by decide +kernel), (by decide +kernel), Nat.le_of_ble_eq_true rfl⟩
theorem cvX7_kept : am_cV mX7_kept := ⟨lw_mem (i := 651) (by decide +kernel) (by decide +kernel), lw_mem (i := 652) (by decide +kernel) (by decide +kernel)⟩
theorem caX7_votes : am_cal mX7_votes 3 := ⟨lw_mem (i := 657) (by decide +kernel) (by decide +kernel), lw_mem (i := 52) (by decide +kernel) (by decide +kernel), (by decide +kernel), Nat.le_of_ble_eq_true rfl⟩
theorem cvX7_votes : am_cV mX7_votes := ⟨lw_mem (i := 655) (by decide +kernel) (by decide +kernel), lw_mem (i := 656) (by decide +kernel) (by decide +kernel)⟩
theorem caX7_won : am_cal mX7_won 1 := ⟨lw_mem (i := 674) (by decide +kernel) (by decide +kernel), lw_mem (i := 52) (by decide +kernel) (by decide +kernel), (by decide +kernel), Nat.le_of_ble_eq_true rfl⟩
theorem cvX7_won : am_cV mX7_won := ⟨lw_mem (i := 672) (by decide +kernel) (by decide +kernel), lw_mem (i := 673) (by decide +kernel) (by decide +kernel)⟩
theorem caX7_has : am_cal mX7_has 2 := ⟨lw_mem (i := 686) (by decide +kernel) (by decide +kernel), lw_mem (i := 52) (by decide +kernel) (by decide +kernel), (by decide +kernel), Nat.le_of_ble_eq_true rfl⟩
theorem cvX7_has : am_cV mX7_has := ⟨lw_mem (i := 684) (by decide +kernel) (by decide +kernel), lw_mem (i := 685) (by decide +kernel) (by decide +kernel)⟩
theorem caX7_ahead : am_cal mX7_ahead 1 := ⟨lw_mem (i := 704) (by decide +kernel) (by decide +kernel), lw_mem (i := 52) (by decide +kernel) (by decide +kernel), (by decide +kernel), Nat.le_of_ble_eq_true rfl⟩
theorem cvX7_ahead : am_cV mX7_ahead := ⟨lw_mem (i := 702) (by decide +kernel) (by decide +kernel), lw_mem (i := 703) (by decide +kernel) (by decide +kernel)⟩
theorem caX7_turn : am_cal mX7_turn 1 := ⟨lw_mem (i := 713) (by decide +kernel) (by decide +kernel), lw_mem (i := 52) (by decide +kernel) (by decide +kernel), (by decide +kernel), Nat.le_of_ble_eq_true rfl⟩
theorem cvX7_turn : am_cV mX7_turn := ⟨lw_mem (i := 711) (by decide +kernel) (by decide +kernel), lw_mem (i := 712) (by decide +kernel) (by decide +kernel)⟩
theorem caX7_count : am_cal mX7_count 1 := ⟨lw_mem (i := 731) (by decide +kernel) (by decide +kernel), lw_mem (i := 52) (by decide +kernel) (by decide +kernel), (by decide +kernel), Nat.le_of_ble_eq_true rfl⟩
theorem cvX7_count : am_cV mX7_count := ⟨lw_mem (i := 729) (by decide +kernel) (by decide +kernel), lw_mem (i := 730) (by decide +kernel) (by decide +kernel)⟩
theorem caX7_isEdge : am_cal mX7_isEdge 1 := ⟨lw_mem (i := 270) (by decide +kernel) (by decide +kernel), lw_mem (i := 52) (by decide +kernel) (by decide +kernel), (by decide +kernel), Nat.le_of_ble_eq_true rfl⟩
theorem csX7_isEdge : am_cS mX7_isEdge := lw_mem (i := 269) (by decide +kernel) (by decide +kernel)
theorem caX7_isLand : am_cal mX7_isLand 1 := ⟨lw_mem (i := 297) (by decide +kernel) (by decide +kernel), lw_mem (i := 52) (by decide +kernel) (by decide +kernel), (by decide +kernel), Nat.le_of_ble_eq_true rfl⟩
theorem csX7_isLand : am_cS mX7_isLand := lw_mem (i := 296) (by decide +kernel) (by decide +kernel)
theorem caX7_isOwner : am_cal mX7_isOwner 1 := ⟨lw_mem (i := 294) (by decide +kernel) (by decide +kernel), lw_mem (i := 52) (by decide +kernel) (by decide +kernel), (by decide +kernel), Nat.le_of_ble_eq_true rfl⟩
theorem csX7_isOwner : am_cS mX7_isOwner := lw_mem (i := 293) (by decide +kernel) (by decide +kernel)
theorem caX7_isSide : am_cal mX7_isSide 1 := ⟨lw_mem (i := 660) (by decide +kernel) (by decide +kernel), lw_mem (i := 52) (by decide +kernel) (by decide +kernel), (by decide +kernel), Nat.le_of_ble_eq_true rfl⟩
theorem csX7_isSide : am_cS mX7_isSide := lw_mem (i := 659) (by decide +kernel) (by decide +kernel)
theorem caX7_isPeople : am_cal mX7_isPeople 1 := ⟨lw_mem (i := 380) (by decide +kernel) (by decide +kernel), lw_mem (i := 52) (by decide +kernel) (by decide +kernel), (by decide +kernel), Nat.le_of_ble_eq_true rfl⟩
theorem csX7_isPeople : am_cS mX7_isPeople := lw_mem (i := 379) (by decide +kernel) (by decide +kernel)
theorem caX7_lowestCell : am_cal mX7_lowestCell 1 := ⟨lw_mem (i := 542) (by decide +kernel) (by decide +kernel), lw_mem (i := 52) (by decide +kernel) (by decide +kernel), (by decide +kernel), Nat.le_of_ble_eq_true rfl⟩
theorem csX7_lowestCell : am_cS mX7_lowestCell := lw_mem (i := 541) (by decide +kernel) (by decide +kernel)
theorem caX7_leaderOf : am_cal mX7_leaderOf 3 := ⟨lw_mem (i := 682) (by decide +kernel) (by decide +kernel), lw_mem (i := 52) (by decide +kernel) (by decide +kernel), (by decide +kernel), Nat.le_of_ble_eq_true rfl⟩
theorem csX7_leaderOf : am_cS mX7_leaderOf := lw_mem (i := 681) (by decide +kernel) (by decide +kernel)
theorem caX7_sheetOf : am_cal mX7_sheetOf 1 := ⟨lw_mem (i := 301) (by decide +kernel) (by decide +kernel), lw_mem (i := 52) (by decide +kernel) (by decide +kernel), (by decide +kernel), Nat.le_of_ble_eq_true rfl⟩
theorem cvX7_sheetOf : am_cV mX7_sheetOf := ⟨lw_mem (i := 300) (by decide +kernel) (by decide +kernel), lw_mem (i := 0) (by decide +kernel) (by decide +kernel)⟩
theorem caX7_shareOut : am_cal mX7_shareOut 0 := ⟨lw_mem (i := 392) (by decide +kernel) (by decide +kernel), lw_mem (i := 52) (by decide +kernel) (by decide +kernel), (by decide +kernel), Nat.le_of_ble_eq_true rfl⟩
theorem cvX7_shareOut : am_cV mX7_shareOut := ⟨lw_mem (i := 391) (by decide +kernel) (by decide +kernel), lw_mem (i := 2) (by decide +kernel) (by decide +kernel)⟩
theorem caX7_unlikeCells : am_cal mX7_unlikeCells 0 := ⟨lw_mem (i := 356) (by decide +kernel) (by decide +kernel), lw_mem (i := 52) (by decide +kernel) (by decide +kernel), (by decide +kernel), Nat.le_of_ble_eq_true rfl⟩
theorem cvX7_unlikeCells : am_cV mX7_unlikeCells := ⟨lw_mem (i := 355) (by decide +kernel) (by decide +kernel), lw_mem (i := 1) (by decide +kernel) (by decide +kernel)⟩
theorem caX7_isChange : am_cal mX7_isChange 2 := ⟨lw_mem (i := 468) (by decide +kernel) (by decide +kernel), lw_mem (i := 52) (by decide +kernel) (by decide +kernel), (by decide +kernel), Nat.le_of_ble_eq_true rfl⟩
theorem cvX7_isChange : am_cV mX7_isChange := ⟨lw_mem (i := 467) (by decide +kernel) (by decide +kernel), lw_mem (i := 8) (by decide +kernel) (by decide +kernel)⟩
theorem caX7_faultsAgainst : am_cal mX7_faultsAgainst 1 := ⟨lw_mem (i := 454) (by decide +kernel) (by decide +kernel), lw_mem (i := 52) (by decide +kernel) (by decide +kernel), (by decide +kernel), Nat.le_of_ble_eq_true rfl⟩
theorem cvX7_faultsAgainst : am_cV mX7_faultsAgainst := ⟨lw_mem (i := 453) (by decide +kernel) (by decide +kernel), lw_mem (i := 7) (by decide +kernel) (by decide +kernel)⟩
theorem caX7_faultsBehind : am_cal mX7_faultsBehind 3 := ⟨lw_mem (i := 473) (by decide +kernel) (by decide +kernel), lw_mem (i := 52) (by decide +kernel) (by decide +kernel), (by decide +kernel), Nat.le_of_ble_eq_true rfl⟩
theorem cvX7_faultsBehind : am_cV mX7_faultsBehind := ⟨lw_mem (i := 472) (by decide +kernel) (by decide +kernel), lw_mem (i := 9) (by decide +kernel) (by decide +kernel)⟩
theorem caX7_leastSteps : am_cal mX7_leastSteps 2 := ⟨lw_mem (i := 559) (by decide +kernel) (by decide +kernel), lw_mem (i := 52) (by decide +kernel) (by decide +kernel), (by decide +kernel), Nat.le_of_ble_eq_true rfl⟩
theorem cvX7_leastSteps : am_cV mX7_leastSteps := ⟨lw_mem (i := 558) (by decide +kernel) (by decide +kernel), lw_mem (i := 15) (by decide +kernel) (by decide +kernel)⟩
theorem caX7_tally : am_cal mX7_tally 2 := ⟨lw_mem (i := 690) (by decide +kernel) (by decide +kernel), lw_mem (i := 52) (by decide +kernel) (by decide +kernel), (by decide +kernel), Nat.le_of_ble_eq_true rfl⟩
theorem cvX7_tally : am_cV mX7_tally := ⟨lw_mem (i := 689) (by decide +kernel) (by decide +kernel), lw_mem (i := 23) (by decide +kernel) (by decide +kernel)⟩
theorem caX7_leaderBy : am_cal mX7_leaderBy 1 := ⟨lw_mem (i := 708) (by decide +kernel) (by decide +kernel), lw_mem (i := 52) (by decide +kernel) (by decide +kernel), (by decide +kernel), Nat.le_of_ble_eq_true rfl⟩
theorem cvX7_leaderBy : am_cV mX7_leaderBy := ⟨lw_mem (i := 707) (by decide +kernel) (by decide +kernel), lw_mem (i := 24) (by decide +kernel) (by decide +kernel)⟩
theorem caX8_init : am_cal mX8_init 0 := ⟨lw_mem (i := 738) (by decide +kernel) (by decide +kernel), lw_mem (i := 60) (by decide +kernel) (by decide +kernel), (by decide +kernel), Nat.le_of_ble_eq_true rfl⟩
theorem caX8_in : am_cal mX8_in 3 := ⟨lw_mem (i := 824) (by decide +kernel) (by decide +kernel), lw_mem (i := 60) (by decide +kernel) (by decide +kernel), (by decide +kernel), Nat.le_of_ble_eq_true rfl⟩
theorem csX8_in : am_cS mX8_in := lw_mem (i := 823) (by decide +kernel) (by decide +kernel)
theorem caX8_size : am_cal mX8_size 1 := ⟨lw_mem (i := 896) (by decide +kernel) (by decide +kernel), lw_mem (i := 60) (by decide +kernel) (by decide +kernel), (by decide +kernel), Nat.le_of_ble_eq_true rfl⟩
theorem csX8_size : am_cS mX8_size := lw_mem (i := 895) (by decide +kernel) (by decide +kernel)
theorem caX8_noCell : am_cal mX8_noCell 1 := ⟨lw_mem (i := 832) (by decide +kernel) (by decide +kernel), lw_mem (i := 60) (by decide +kernel) (by decide +kernel), (by decide +kernel), Nat.le_of_ble_eq_true rfl⟩
theorem cvX8_noCell : am_cV mX8_noCell := ⟨lw_mem (i := 831) (by decide +kernel) (by decide +kernel), lw_mem (i := 26) (by decide +kernel) (by decide +kernel)⟩
theorem caX8_noLand : am_cal mX8_noLand 1 := ⟨lw_mem (i := 859) (by decide +kernel) (by decide +kernel), lw_mem (i := 60) (by decide +kernel) (by decide +kernel), (by decide +kernel), Nat.le_of_ble_eq_true rfl⟩
theorem csX8_noLand : am_cS mX8_noLand := lw_mem (i := 858) (by decide +kernel) (by decide +kernel)
theorem caX8_field : am_cal mX8_field 2 := ⟨lw_mem (i := 819) (by decide +kernel) (by decide +kernel), lw_mem (i := 60) (by decide +kernel) (by decide +kernel), (by decide +kernel), Nat.le_of_ble_eq_true rfl⟩
theorem cvX8_field : am_cV mX8_field := ⟨lw_mem (i := 817) (by decide +kernel) (by decide +kernel), lw_mem (i := 818) (by decide +kernel) (by decide +kernel)⟩
theorem caX8_cellOf : am_cal mX8_cellOf 2 := ⟨lw_mem (i := 836) (by decide +kernel) (by decide +kernel), lw_mem (i := 60) (by decide +kernel) (by decide +kernel), (by decide +kernel), Nat.le_of_ble_eq_true rfl⟩
theorem cvX8_cellOf : am_cV mX8_cellOf := ⟨lw_mem (i := 835) (by decide +kernel) (by decide +kernel), lw_mem (i := 27) (by decide +kernel) (by decide +kernel)⟩
theorem caX8_put : am_cal mX8_put 3 := ⟨lw_mem (i := 840) (by decide +kernel) (by decide +kernel), lw_mem (i := 60) (by decide +kernel) (by decide +kernel), (by decide +kernel), Nat.le_of_ble_eq_true rfl⟩
theorem cvX8_put : am_cV mX8_put := ⟨lw_mem (i := 839) (by decide +kernel) (by decide +kernel), lw_mem (i := 28) (by decide +kernel) (by decide +kernel)⟩
theorem caX8_give : am_cal mX8_give 3 := ⟨lw_mem (i := 828) (by decide +kernel) (by decide +kernel), lw_mem (i := 60) (by decide +kernel) (by decide +kernel), (by decide +kernel), Nat.le_of_ble_eq_true rfl⟩
theorem cvX8_give : am_cV mX8_give := ⟨lw_mem (i := 826) (by decide +kernel) (by decide +kernel), lw_mem (i := 827) (by decide +kernel) (by decide +kernel)⟩
theorem caX8_box : am_cal mX8_box 4 := ⟨lw_mem (i := 844) (by decide +kernel) (by decide +kernel), lw_mem (i := 60) (by decide +kernel) (by decide +kernel), (by decide +kernel), Nat.le_of_ble_eq_true rfl⟩
theorem cvX8_box : am_cV mX8_box := ⟨lw_mem (i := 842) (by decide +kernel) (by decide +kernel), lw_mem (i := 843) (by decide +kernel) (by decide +kernel)⟩
theorem caX8_at : am_cal mX8_at 2 := ⟨lw_mem (i := 848) (by decide +kernel) (by decide +kernel), lw_mem (i := 60) (by decide +kernel) (by decide +kernel), (by decide +kernel), Nat.le_of_ble_eq_true rfl⟩
theorem cvX8_at : am_cV mX8_at := ⟨lw_mem (i := 846) (by decide +kernel) (by decide +kernel), lw_mem (i := 847) (by decide +kernel) (by decide +kernel)⟩
theorem caX8_trace : am_cal mX8_trace 0 := ⟨lw_mem (i := 852) (by decide +kernel) (by decide +kernel), lw_mem (i := 60) (by decide +kernel) (by decide +kernel), (by decide +kernel), Nat.le_of_ble_eq_true rfl⟩
theorem cvX8_trace : am_cV mX8_trace := ⟨lw_mem (i := 850) (by decide +kernel) (by decide +kernel), lw_mem (i := 851) (by decide +kernel) (by decide +kernel)⟩
theorem caX8_manyOf : am_cal mX8_manyOf 2 := ⟨lw_mem (i := 864) (by decide +kernel) (by decide +kernel), lw_mem (i := 60) (by decide +kernel) (by decide +kernel), (by decide +kernel), Nat.le_of_ble_eq_true rfl⟩
theorem cvX8_manyOf : am_cV mX8_manyOf := ⟨lw_mem (i := 863) (by decide +kernel) (by decide +kernel), lw_mem (i := 29) (by decide +kernel) (by decide +kernel)⟩
theorem caX8_cells : am_cal mX8_cells 2 := ⟨lw_mem (i := 856) (by decide +kernel) (by decide +kernel), lw_mem (i := 60) (by decide +kernel) (by decide +kernel), (by decide +kernel), Nat.le_of_ble_eq_true rfl⟩
theorem cvX8_cells : am_cV mX8_cells := ⟨lw_mem (i := 854) (by decide +kernel) (by decide +kernel), lw_mem (i := 855) (by decide +kernel) (by decide +kernel)⟩
theorem caX8_heads : am_cal mX8_heads 2 := ⟨lw_mem (i := 868) (by decide +kernel) (by decide +kernel), lw_mem (i := 60) (by decide +kernel) (by decide +kernel), (by decide +kernel), Nat.le_of_ble_eq_true rfl⟩
theorem cvX8_heads : am_cV mX8_heads := ⟨lw_mem (i := 866) (by decide +kernel) (by decide +kernel), lw_mem (i := 867) (by decide +kernel) (by decide +kernel)⟩
theorem caX8_way : am_cal mX8_way 1 := ⟨lw_mem (i := 873) (by decide +kernel) (by decide +kernel), lw_mem (i := 60) (by decide +kernel) (by decide +kernel), (by decide +kernel), Nat.le_of_ble_eq_true rfl⟩
theorem cvX8_way : am_cV mX8_way := ⟨lw_mem (i := 871) (by decide +kernel) (by decide +kernel), lw_mem (i := 872) (by decide +kernel) (by decide +kernel)⟩
theorem caX8_share : am_cal mX8_share 0 := ⟨lw_mem (i := 881) (by decide +kernel) (by decide +kernel), lw_mem (i := 60) (by decide +kernel) (by decide +kernel), (by decide +kernel), Nat.le_of_ble_eq_true rfl⟩
theorem cvX8_share : am_cV mX8_share := ⟨lw_mem (i := 880) (by decide +kernel) (by decide +kernel), lw_mem (i := 30) (by decide +kernel) (by decide +kernel)⟩
theorem caX8_due : am_cal mX8_due 1 := ⟨lw_mem (i := 877) (by decide +kernel) (by decide +kernel), lw_mem (i := 60) (by decide +kernel) (by decide +kernel), (by decide +kernel), Nat.le_of_ble_eq_true rfl⟩
theorem cvX8_due : am_cV mX8_due := ⟨lw_mem (i := 875) (by decide +kernel) (by decide +kernel), lw_mem (i := 876) (by decide +kernel) (by decide +kernel)⟩
theorem caX8_isBeside : am_cal mX8_isBeside 2 := ⟨lw_mem (i := 893) (by decide +kernel) (by decide +kernel), lw_mem (i := 60) (by decide +kernel) (by decide +kernel), (by decide +kernel), Nat.le_of_ble_eq_true rfl⟩
theorem cvX8_isBeside : am_cV mX8_isBeside := ⟨lw_mem (i := 892) (by decide +kernel) (by decide +kernel), lw_mem (i := 32) (by decide +kernel) (by decide +kernel)⟩
theorem caX8_partsOf : am_cal mX8_partsOf 1 := ⟨lw_mem (i := 889) (by decide +kernel) (by decide +kernel), lw_mem (i := 60) (by decide +kernel) (by decide +kernel), (by decide +kernel), Nat.le_of_ble_eq_true rfl⟩
theorem cvX8_partsOf : am_cV mX8_partsOf := ⟨lw_mem (i := 888) (by decide +kernel) (by decide +kernel), lw_mem (i := 31) (by decide +kernel) (by decide +kernel)⟩
theorem caX8_parts : am_cal mX8_parts 1 := ⟨lw_mem (i := 885) (by decide +kernel) (by decide +kernel), lw_mem (i := 60) (by decide +kernel) (by decide +kernel), (by decide +kernel), Nat.le_of_ble_eq_true rfl⟩
theorem cvX8_parts : am_cV mX8_parts := ⟨lw_mem (i := 883) (by decide +kernel) (by decide +kernel), lw_mem (i := 884) (by decide +kernel) (by decide +kernel)⟩
theorem caX8_touches : am_cal mX8_touches 3 := ⟨lw_mem (i := 908) (by decide +kernel) (by decide +kernel), lw_mem (i := 60) (by decide +kernel) (by decide +kernel), (by decide +kernel), Nat.le_of_ble_eq_true rfl⟩
theorem cvX8_touches : am_cV mX8_touches := ⟨lw_mem (i := 907) (by decide +kernel) (by decide +kernel), lw_mem (i := 34) (by decide +kernel) (by decide +kernel)⟩
theorem caX8_areBeside : am_cal mX8_areBeside 3 := ⟨lw_mem (i := 904) (by decide +kernel) (by decide +kernel), lw_mem (i := 60) (by decide +kernel) (by decide +kernel), (by decide +kernel), Nat.le_of_ble_eq_true rfl⟩
theorem cvX8_areBeside : am_cV mX8_areBeside := ⟨lw_mem (i := 903) (by decide +kernel) (by decide +kernel), lw_mem (i := 33) (by decide +kernel) (by decide +kernel)⟩
theorem caX8_beside : am_cal mX8_beside 3 := ⟨lw_mem (i := 900) (by decide +kernel) (by decide +kernel), lw_mem (i := 60) (by decide +kernel) (by decide +kernel), (by decide +kernel), Nat.le_of_ble_eq_true rfl⟩
theorem cvX8_beside : am_cV mX8_beside := ⟨lw_mem (i := 898) (by decide +kernel) (by decide +kernel), lw_mem (i := 899) (by decide +kernel) (by decide +kernel)⟩
theorem caX8_allFaults : am_cal mX8_allFaults 0 := ⟨lw_mem (i := 916) (by decide +kernel) (by decide +kernel), lw_mem (i := 60) (by decide +kernel) (by decide +kernel), (by decide +kernel), Nat.le_of_ble_eq_true rfl⟩
theorem cvX8_allFaults : am_cV mX8_allFaults := ⟨lw_mem (i := 915) (by decide +kernel) (by decide +kernel), lw_mem (i := 35) (by decide +kernel) (by decide +kernel)⟩
theorem caX8_faults : am_cal mX8_faults 0 := ⟨lw_mem (i := 912) (by decide +kernel) (by decide +kernel), lw_mem (i := 60) (by decide +kernel) (by decide +kernel), (by decide +kernel), Nat.le_of_ble_eq_true rfl⟩
theorem cvX8_faults : am_cV mX8_faults := ⟨lw_mem (i := 910) (by decide +kernel) (by decide +kernel), lw_mem (i := 911) (by decide +kernel) (by decide +kernel)⟩
theorem caX8_isChange : am_cal mX8_isChange 2 := ⟨lw_mem (i := 924) (by decide +kernel) (by decide +kernel), lw_mem (i := 60) (by decide +kernel) (by decide +kernel), (by decide +kernel), Nat.le_of_ble_eq_true rfl⟩
theorem cvX8_isChange : am_cV mX8_isChange := ⟨lw_mem (i := 923) (by decide +kernel) (by decide +kernel), lw_mem (i := 36) (by decide +kernel) (by decide +kernel)⟩
theorem caX8_faultsBy : am_cal mX8_faultsBy 2 := ⟨lw_mem (i := 928) (by decide +kernel) (by decide +kernel), lw_mem (i := 60) (by decide +kernel) (by decide +kernel), (by decide +kernel), Nat.le_of_ble_eq_true rfl⟩
theorem cvX8_faultsBy : am_cV mX8_faultsBy := ⟨lw_mem (i := 927) (by decide +kernel) (by decide +kernel), lw_mem (i := 37) (by decide +kernel) (by decide +kernel)⟩
theorem caX8_would : am_cal mX8_would 2 := ⟨lw_mem (i := 920) (by decide +kernel) (by decide +kernel), lw_mem (i := 60) (by decide +kernel) (by decide +kernel), (by decide +kernel), Nat.le_of_ble_eq_true rfl⟩
theorem cvX8_would : am_cV mX8_would := ⟨lw_mem (i := 918) (by decide +kernel) (by decide +kernel), lw_mem (i := 919) (by decide +kernel) (by decide +kernel)⟩
theorem caX8_mend : am_cal mX8_mend 0 := ⟨lw_mem (i := 932) (by decide +kernel) (by decide +kernel), lw_mem (i := 60) (by decide +kernel) (by decide +kernel), (by decide +kernel), Nat.le_of_ble_eq_true rfl⟩
theorem cvX8_mend : am_cV mX8_mend := ⟨lw_mem (i := 930) (by decide +kernel) (by decide +kernel), lw_mem (i := 931) (by decide +kernel) (by decide +kernel)⟩
theorem caX8_may : am_cal mX8_may 2 := ⟨lw_mem (i := 941) (by decide +kernel) (by decide +kernel), lw_mem (i := 60) (by decide +kernel) (by decide +kernel), (by decide +kernel), Nat.le_of_ble_eq_true rfl⟩
theorem cvX8_may : am_cV mX8_may := ⟨lw_mem (i := 940) (by decide +kernel) (by decide +kernel), lw_mem (i := 38) (by decide +kernel) (by decide +kernel)⟩
theorem caX8_mayHand : am_cal mX8_mayHand 2 := ⟨lw_mem (i := 937) (by decide +kernel) (by decide +kernel), lw_mem (i := 60) (by decide +kernel) (by decide +kernel), (by decide +kernel), Nat.le_of_ble_eq_true rfl⟩
theorem cvX8_mayHand : am_cV mX8_mayHand := ⟨lw_mem (i := 935) (by decide +kernel) (by decide +kernel), lw_mem (i := 936) (by decide +kernel) (by decide +kernel)⟩
theorem caX8_hand : am_cal mX8_hand 2 := ⟨lw_mem (i := 945) (by decide +kernel) (by decide +kernel), lw_mem (i := 60) (by decide +kernel) (by decide +kernel), (by decide +kernel), Nat.le_of_ble_eq_true rfl⟩
theorem cvX8_hand : am_cV mX8_hand := ⟨lw_mem (i := 943) (by decide +kernel) (by decide +kernel), lw_mem (i := 944) (by decide +kernel) (by decide +kernel)⟩
theorem caX8_leastTo : am_cal mX8_leastTo 2 := ⟨lw_mem (i := 957) (by decide +kernel) (by decide +kernel), lw_mem (i := 60) (by decide +kernel) (by decide +kernel), (by decide +kernel), Nat.le_of_ble_eq_true rfl⟩
theorem cvX8_leastTo : am_cV mX8_leastTo := ⟨lw_mem (i := 956) (by decide +kernel) (by decide +kernel), lw_mem (i := 40) (by decide +kernel) (by decide +kernel)⟩
theorem caX8_linked : am_cal mX8_linked 0 := ⟨lw_mem (i := 953) (by decide +kernel) (by decide +kernel), lw_mem (i := 60) (by decide +kernel) (by decide +kernel), (by decide +kernel), Nat.le_of_ble_eq_true rfl⟩
theorem cvX8_linked : am_cV mX8_linked := ⟨lw_mem (i := 952) (by decide +kernel) (by decide +kernel), lw_mem (i := 39) (by decide +kernel) (by decide +kernel)⟩
theorem caX8_chain : am_cal mX8_chain 0 := ⟨lw_mem (i := 949) (by decide +kernel) (by decide +kernel), lw_mem (i := 60) (by decide +kernel) (by decide +kernel), (by decide +kernel), Nat.le_of_ble_eq_true rfl⟩
theorem cvX8_chain : am_cV mX8_chain := ⟨lw_mem (i := 947) (by decide +kernel) (by decide +kernel), lw_mem (i := 948) (by decide +kernel) (by decide +kernel)⟩
theorem caX8_link : am_cal mX8_link 1 := ⟨lw_mem (i := 961) (by decide +kernel) (by decide +kernel), lw_mem (i := 60) (by decide +kernel) (by decide +kernel), (by decide +kernel), Nat.le_of_ble_eq_true rfl⟩
theorem cvX8_link : am_cV mX8_link := ⟨lw_mem (i := 959) (by decide +kernel) (by decide +kernel), lw_mem (i := 960) (by decide +kernel) (by decide +kernel)⟩
theorem caX8_passOn : am_cal mX8_passOn 0 := ⟨lw_mem (i := 969) (by decide +kernel) (by decide +kernel), lw_mem (i := 60) (by decide +kernel) (by decide +kernel), (by decide +kernel), Nat.le_of_ble_eq_true rfl⟩
theorem cvX8_passOn : am_cV mX8_passOn := ⟨lw_mem (i := 968) (by decide +kernel) (by decide +kernel), lw_mem (i := 41) (by decide +kernel) (by decide +kernel)⟩
theorem caX8_pass : am_cal mX8_pass 0 := ⟨lw_mem (i := 965) (by decide +kernel) (by decide +kernel), lw_mem (i := 60) (by decide +kernel) (by decide +kernel), (by decide +kernel), Nat.le_of_ble_eq_true rfl⟩
theorem cvX8_pass : am_cV mX8_pass := ⟨lw_mem (i := 963) (by decide +kernel) (by decide +kernel), lw_mem (i := 964) (by decide +kernel) (by decide +kernel)⟩
theorem caX8_settle : am_cal mX8_settle 0 := ⟨lw_mem (i := 973) (by decide +kernel) (by decide +kernel), lw_mem (i := 60) (by decide +kernel) (by decide +kernel), (by decide +kernel), Nat.le_of_ble_eq_true rfl⟩
theorem cvX8_settle : am_cV mX8_settle := ⟨lw_mem (i := 971) (by decide +kernel) (by decide +kernel), lw_mem (i := 972) (by decide +kernel) (by decide +kernel)⟩
theorem caX8_changed : am_cal mX8_changed 0 := ⟨lw_mem (i := 977) (by decide +kernel) (by decide +kernel), lw_mem (i := 60) (by decide +kernel) (by decide +kernel), (by decide +kernel), Nat.le_of_ble_eq_true rfl⟩
theorem cvX8_changed : am_cV mX8_changed := ⟨lw_mem (i := 975) (by decide +kernel) (by decide +kernel), lw_mem (i := 976) (by decide +kernel) (by decide +kernel)⟩
theorem caX8_steps : am_cal mX8_steps 2 := ⟨lw_mem (i := 989) (by decide +kernel) (by decide +kernel), lw_mem (i := 60) (by decide +kernel) (by decide +kernel), (by decide +kernel), Nat.le_of_ble_eq_true rfl⟩
theorem cvX8_steps : am_cV mX8_steps := ⟨lw_mem (i := 988) (by decide +kernel) (by decide +kernel), lw_mem (i := 43) (by decide +kernel) (by decide +kernel)⟩
theorem caX8_assign : am_cal mX8_assign 1 := ⟨lw_mem (i := 985) (by decide +kernel) (by decide +kernel), lw_mem (i := 60) (by decide +kernel) (by decide +kernel), (by decide +kernel), Nat.le_of_ble_eq_true rfl⟩
theorem cvX8_assign : am_cV mX8_assign := ⟨lw_mem (i := 984) (by decide +kernel) (by decide +kernel), lw_mem (i := 42) (by decide +kernel) (by decide +kernel)⟩
theorem caX8_carried : am_cal mX8_carried 1 := ⟨lw_mem (i := 981) (by decide +kernel) (by decide +kernel), lw_mem (i := 60) (by decide +kernel) (by decide +kernel), (by decide +kernel), Nat.le_of_ble_eq_true rfl⟩
theorem cvX8_carried : am_cV mX8_carried := ⟨lw_mem (i := 979) (by decide +kernel) (by decide +kernel), lw_mem (i := 980) (by decide +kernel) (by decide +kernel)⟩
theorem caX8_offOf : am_cal mX8_offOf 2 := ⟨lw_mem (i := 1005) (by decide +kernel) (by decide +kernel), lw_mem (i := 60) (by decide +kernel) (by decide +kernel), (by decide +kernel), Nat.le_of_ble_eq_true rfl⟩
theorem cvX8_offOf : am_cV mX8_offOf := ⟨lw_mem (i := 1004) (by decide +kernel) (by decide +kernel), lw_mem (i := 46) (by decide +kernel) (by decide +kernel)⟩
theorem caX8_isThere : am_cal mX8_isThere 1 := ⟨lw_mem (i := 1001) (by decide +kernel) (by decide +kernel), lw_mem (i := 60) (by decide +kernel) (by decide +kernel), (by decide +kernel), Nat.le_of_ble_eq_true rfl⟩
theorem cvX8_isThere : am_cV mX8_isThere := ⟨lw_mem (i := 1000) (by decide +kernel) (by decide +kernel), lw_mem (i := 45) (by decide +kernel) (by decide +kernel)⟩
theorem caX8_leastOff : am_cal mX8_leastOff 1 := ⟨lw_mem (i := 997) (by decide +kernel) (by decide +kernel), lw_mem (i := 60) (by decide +kernel) (by decide +kernel), (by decide +kernel), Nat.le_of_ble_eq_true rfl⟩
theorem cvX8_leastOff : am_cV mX8_leastOff := ⟨lw_mem (i := 996) (by decide +kernel) (by decide +kernel), lw_mem (i := 44) (by decide +kernel) (by decide +kernel)⟩
theorem caX8_layTiles : am_cal mX8_layTiles 0 := ⟨lw_mem (i := 1013) (by decide +kernel) (by decide +kernel), lw_mem (i := 60) (by decide +kernel) (by decide +kernel), (by decide +kernel), Nat.le_of_ble_eq_true rfl⟩
theorem cvX8_layTiles : am_cV mX8_layTiles := ⟨lw_mem (i := 1012) (by decide +kernel) (by decide +kernel), lw_mem (i := 47) (by decide +kernel) (by decide +kernel)⟩
theorem caX8_off : am_cal mX8_off 0 := ⟨lw_mem (i := 993) (by decide +kernel) (by decide +kernel), lw_mem (i := 60) (by decide +kernel) (by decide +kernel), (by decide +kernel), Nat.le_of_ble_eq_true rfl⟩
theorem cvX8_off : am_cV mX8_off := ⟨lw_mem (i := 991) (by decide +kernel) (by decide +kernel), lw_mem (i := 992) (by decide +kernel) (by decide +kernel)⟩
theorem caX8_tile : am_cal mX8_tile 1 := ⟨lw_mem (i := 1009) (by decide +kernel) (by decide +kernel), lw_mem (i := 60) (by decide +kernel) (by decide +kernel), (by decide +kernel), Nat.le_of_ble_eq_true rfl⟩
theorem cvX8_tile : am_cV mX8_tile := ⟨lw_mem (i := 1007) (by decide +kernel) (by decide +kernel), lw_mem (i := 1008) (by decide +kernel) (by decide +kernel)⟩
theorem caX8_kept : am_cal mX8_kept 0 := ⟨lw_mem (i := 1017) (by decide +kernel) (by decide +kernel), lw_mem (i := 60) (by decide +kernel) (by decide +kernel), (by decide +kernel), Nat.le_of_ble_eq_true rfl⟩
theorem cvX8_kept : am_cV mX8_kept := ⟨lw_mem (i := 1015) (by decide +kernel) (by decide +kernel), lw_mem (i := 1016) (by decide +kernel) (by decide +kernel)⟩
theorem caX8_noSide : am_cal mX8_noSide 1 := ⟨lw_mem (i := 1024) (by decide +kernel) (by decide +kernel), lw_mem (i := 60) (by decide +kernel) (by decide +kernel), (by decide +kernel), Nat.le_of_ble_eq_true rfl⟩
theorem csX8_noSide : am_cS mX8_noSide := lw_mem (i := 1023) (by decide +kernel) (by decide +kernel)
theorem caX8_votes : am_cal mX8_votes 3 := ⟨lw_mem (i := 1021) (by decide +kernel) (by decide +kernel), lw_mem (i := 60) (by decide +kernel) (by decide +kernel), (by decide +kernel), Nat.le_of_ble_eq_true rfl⟩
theorem cvX8_votes : am_cV mX8_votes := ⟨lw_mem (i := 1019) (by decide +kernel) (by decide +kernel), lw_mem (i := 1020) (by decide +kernel) (by decide +kernel)⟩
theorem caX8_most : am_cal mX8_most 3 := ⟨lw_mem (i := 1035) (by decide +kernel) (by decide +kernel), lw_mem (i := 60) (by decide +kernel) (by decide +kernel), (by decide +kernel), Nat.le_of_ble_eq_true rfl⟩
theorem csX8_most : am_cS mX8_most := lw_mem (i := 1034) (by decide +kernel) (by decide +kernel)
theorem caX8_winner : am_cal mX8_winner 1 := ⟨lw_mem (i := 1032) (by decide +kernel) (by decide +kernel), lw_mem (i := 60) (by decide +kernel) (by decide +kernel), (by decide +kernel), Nat.le_of_ble_eq_true rfl⟩
theorem cvX8_winner : am_cV mX8_winner := ⟨lw_mem (i := 1031) (by decide +kernel) (by decide +kernel), lw_mem (i := 48) (by decide +kernel) (by decide +kernel)⟩
theorem caX8_won : am_cal mX8_won 1 := ⟨lw_mem (i := 1028) (by decide +kernel) (by decide +kernel), lw_mem (i := 60) (by decide +kernel) (by decide +kernel), (by decide +kernel), Nat.le_of_ble_eq_true rfl⟩
theorem cvX8_won : am_cV mX8_won := ⟨lw_mem (i := 1026) (by decide +kernel) (by decide +kernel), lw_mem (i := 1027) (by decide +kernel) (by decide +kernel)⟩
theorem caX8_sum : am_cal mX8_sum 2 := ⟨lw_mem (i := 1043) (by decide +kernel) (by decide +kernel), lw_mem (i := 60) (by decide +kernel) (by decide +kernel), (by decide +kernel), Nat.le_of_ble_eq_true rfl⟩
theorem cvX8_sum : am_cV mX8_sum := ⟨lw_mem (i := 1042) (by decide +kernel) (by decide +kernel), lw_mem (i := 49) (by decide +kernel) (by decide +kernel)⟩
theorem caX8_has : am_cal mX8_has 2 := ⟨lw_mem (i := 1039) (by decide +kernel) (by decide +kernel), lw_mem (i := 60) (by decide +kernel) (by decide +kernel), (by decide +kernel), Nat.le_of_ble_eq_true rfl⟩
theorem cvX8_has : am_cV mX8_has := ⟨lw_mem (i := 1037) (by decide +kernel) (by decide +kernel), lw_mem (i := 1038) (by decide +kernel) (by decide +kernel)⟩
theorem caX8_leader : am_cal mX8_leader 1 := ⟨lw_mem (i := 1051) (by decide +kernel) (by decide +kernel), lw_mem (i := 60) (by decide +kernel) (by decide +kernel), (by decide +kernel), Nat.le_of_ble_eq_true rfl⟩
theorem cvX8_leader : am_cV mX8_leader := ⟨lw_mem (i := 1050) (by decide +kernel) (by decide +kernel), lw_mem (i := 50) (by decide +kernel) (by decide +kernel)⟩
theorem caX8_ahead : am_cal mX8_ahead 1 := ⟨lw_mem (i := 1047) (by decide +kernel) (by decide +kernel), lw_mem (i := 60) (by decide +kernel) (by decide +kernel), (by decide +kernel), Nat.le_of_ble_eq_true rfl⟩
theorem cvX8_ahead : am_cV mX8_ahead := ⟨lw_mem (i := 1045) (by decide +kernel) (by decide +kernel), lw_mem (i := 1046) (by decide +kernel) (by decide +kernel)⟩
theorem caX8_turn : am_cal mX8_turn 1 := ⟨lw_mem (i := 1055) (by decide +kernel) (by decide +kernel), lw_mem (i := 60) (by decide +kernel) (by decide +kernel), (by decide +kernel), Nat.le_of_ble_eq_true rfl⟩
theorem cvX8_turn : am_cV mX8_turn := ⟨lw_mem (i := 1053) (by decide +kernel) (by decide +kernel), lw_mem (i := 1054) (by decide +kernel) (by decide +kernel)⟩
theorem caX8_count : am_cal mX8_count 1 := ⟨lw_mem (i := 1059) (by decide +kernel) (by decide +kernel), lw_mem (i := 60) (by decide +kernel) (by decide +kernel), (by decide +kernel), Nat.le_of_ble_eq_true rfl⟩
theorem cvX8_count : am_cV mX8_count := ⟨lw_mem (i := 1057) (by decide +kernel) (by decide +kernel), lw_mem (i := 1058) (by decide +kernel) (by decide +kernel)⟩
theorem caJ13_bitCount_95d88 : am_cal mJ13_bitCount_95d88 1 := ⟨lw_mem (i := 341) (by decide +kernel) (by decide +kernel), lw_mem (i := 62) (by decide +kernel) (by decide +kernel), (by decide +kernel), Nat.le_of_ble_eq_true rfl⟩
theorem csJ13_bitCount_95d88 : am_cS mJ13_bitCount_95d88 := lw_mem (i := 340) (by decide +kernel) (by decide +kernel)
theorem caJ9_abs_0f7a4 : am_cal mJ9_abs_0f7a4 1 := ⟨lw_mem (i := 457) (by decide +kernel) (by decide +kernel), lw_mem (i := 64) (by decide +kernel) (by decide +kernel), (by decide +kernel), Nat.le_of_ble_eq_true rfl⟩
theorem csJ9_abs_0f7a4 : am_cS mJ9_abs_0f7a4 := lw_mem (i := 456) (by decide +kernel) (by decide +kernel)
theorem caJ9_max_7cf53 : am_cal mJ9_max_7cf53 2 := ⟨lw_mem (i := 460) (by decide +kernel) (by decide +kernel), lw_mem (i := 64) (by decide +kernel) (by decide +kernel), (by decide +kernel), Nat.le_of_ble_eq_true rfl⟩
theorem csJ9_max_7cf53 : am_cS mJ9_max_7cf53 := lw_mem (i := 459) (by decide +kernel) (by decide +kernel)
theorem caJ9_min_7cf53 : am_cal mJ9_min_7cf53 2 := ⟨lw_mem (i := 519) (by decide +kernel) (by decide +kernel), lw_mem (i := 64) (by decide +kernel) (by decide +kernel), (by decide +kernel), Nat.le_of_ble_eq_true rfl⟩
theorem csJ9_min_7cf53 : am_cS mJ9_min_7cf53 := lw_mem (i := 518) (by decide +kernel) (by decide +kernel)
theorem caJ7_fill_d0a16 : am_cal mJ7_fill_d0a16 2 := ⟨lw_mem (i := 278) (by decide +kernel) (by decide +kernel), lw_mem (i := 61) (by decide +kernel) (by decide +kernel), (by decide +kernel), Nat.le_of_ble_eq_true rfl⟩
theorem csJ7_fill_d0a16 : am_cS mJ7_fill_d0a16 := lw_mem (i := 277) (by decide +kernel) (by decide +kernel)
theorem caJ7_fill_53178 : am_cal mJ7_fill_53178 2 := ⟨lw_mem (i := 400) (by decide +kernel) (by decide +kernel), lw_mem (i := 61) (by decide +kernel) (by decide +kernel), (by decide +kernel), Nat.le_of_ble_eq_true rfl⟩
theorem csJ7_fill_53178 : am_cS mJ7_fill_53178 := lw_mem (i := 399) (by decide +kernel) (by decide +kernel)
theorem sL_9 : am_siI RL 9 mX7_init 0 := ⟨Or.inl (lw_mem (i := 67) (by decide +kernel) (by decide +kernel)), caX7_init, lw_mem (i := 68) (by decide +kernel) (by decide +kernel)⟩
theorem sX7_11 : am_siI RX7 11 mX1_init 2 := ⟨Or.inl (lw_mem (i := 75) (by decide +kernel) (by decide +kernel)), caX1_init, lw_mem (i := 76) (by decide +kernel) (by decide +kernel)⟩
theorem sX1_9 : am_siV RX1 9 mX1_lay 2 := ⟨lw_mem (i := 79) (by decide +kernel) (by decide +kernel), caX1_lay, cvX1_lay⟩
theorem sX7_20 : am_siI RX7 20 mX5_init 1 := ⟨Or.inl (lw_mem (i := 104) (by decide +kernel) (by decide +kernel)), caX5_init, lw_mem (i := 105) (by decide +kernel) (by decide +kernel)⟩
theorem sX7_32 : am_siI RX7 32 mX0_init 0 := ⟨Or.inr (by decide +kernel), caX0_init, lw_mem (i := 119) (by decide +kernel) (by decide +kernel)⟩
theorem sX7_39 : am_siI RX7 39 mX2_init 3 := ⟨Or.inl (lw_mem (i := 142) (by decide +kernel) (by decide +kernel)), caX2_init, lw_mem (i := 143) (by decide +kernel) (by decide +kernel)⟩
theorem sX7_48 : am_siI RX7 48 mX3_init 0 := ⟨Or.inr (by decide +kernel), caX3_init, lw_mem (i := 170) (by decide +kernel) (by decide +kernel)⟩
theorem sX7_55 : am_siI RX7 55 mX6_init 2 := ⟨Or.inl (lw_mem (i := 203) (by decide +kernel) (by decide +kernel)), caX6_init, lw_mem (i := 204) (by decide +kernel) (by decide +kernel)⟩
theorem sX6_25 : am_siI RX6 25 mX5_init 1 := ⟨Or.inl (lw_mem (i := 208) (by decide +kernel) (by decide +kernel)), caX5_init, lw_mem (i := 105) (by decide +kernel) (by decide +kernel)⟩
theorem sX7_64 : am_siI RX7 64 mX4_init 0 := ⟨Or.inr (by decide +kernel), caX4_init, lw_mem (i := 226) (by decide +kernel) (by decide +kernel)⟩
theorem sL_13 : am_siV RL 13 mX7_field 2 := ⟨lw_mem (i := 264) (by decide +kernel) (by decide +kernel), caX7_field, cvX7_field⟩
theorem sX7_69 : am_siS RX7 69 mX7_isEdge 1 := ⟨Or.inl (lw_mem (i := 268) (by decide +kernel) (by decide +kernel)), caX7_isEdge, csX7_isEdge⟩
theorem sX7_73 : am_siV RX7 73 mX1_lay 2 := ⟨lw_mem (i := 271) (by decide +kernel) (by decide +kernel), caX1_lay, cvX1_lay⟩
theorem sX7_76 : am_siV RX7 76 mX5_clear 0 := ⟨lw_mem (i := 272) (by decide +kernel) (by decide +kernel), caX5_clear, cvX5_clear⟩
theorem sX5_19 : am_siS RX5 19 mJ7_fill_d0a16 2 := ⟨Or.inl (lw_mem (i := 276) (by decide +kernel) (by decide +kernel)), caJ7_fill_d0a16, csJ7_fill_d0a16⟩
theorem sX7_79 : am_siV RX7 79 mX1_size 0 := ⟨lw_mem (i := 279) (by decide +kernel) (by decide +kernel), caX1_size, cvX1_size⟩
theorem sL_18 : am_siV RL 18 mX7_give 3 := ⟨lw_mem (i := 283) (by decide +kernel) (by decide +kernel), caX7_give, cvX7_give⟩
theorem sX7_83 : am_siV RX7 83 mX1_knows 1 := ⟨lw_mem (i := 287) (by decide +kernel) (by decide +kernel), caX1_knows, cvX1_knows⟩
theorem sX1_32 : am_siV RX1 32 mX1_size 0 := ⟨lw_mem (i := 291) (by decide +kernel) (by decide +kernel), caX1_size, cvX1_size⟩
theorem sX7_86 : am_siS RX7 86 mX7_isOwner 1 := ⟨Or.inl (lw_mem (i := 292) (by decide +kernel) (by decide +kernel)), caX7_isOwner, csX7_isOwner⟩
theorem sX7_131 : am_siS RX7 131 mX7_isLand 1 := ⟨Or.inl (lw_mem (i := 295) (by decide +kernel) (by decide +kernel)), caX7_isLand, csX7_isLand⟩
theorem sX7_89 : am_siV RX7 89 mX7_sheetOf 1 := ⟨lw_mem (i := 298) (by decide +kernel) (by decide +kernel), caX7_sheetOf, cvX7_sheetOf⟩
theorem sX7_93 : am_siV RX7 93 mX5_ownerOf 1 := ⟨lw_mem (i := 302) (by decide +kernel) (by decide +kernel), caX5_ownerOf, cvX5_ownerOf⟩
theorem sX7_97 : am_siV RX7 97 mX5_put 2 := ⟨lw_mem (i := 306) (by decide +kernel) (by decide +kernel), caX5_put, cvX5_put⟩
theorem sL_23 : am_siV RL 23 mX7_box 4 := ⟨lw_mem (i := 311) (by decide +kernel) (by decide +kernel), caX7_box, cvX7_box⟩
theorem sX7_101 : am_siV RX7 101 mX1_columnOf 1 := ⟨lw_mem (i := 315) (by decide +kernel) (by decide +kernel), caX1_columnOf, cvX1_columnOf⟩
theorem sX7_104 : am_siV RX7 104 mX1_rowOf 1 := ⟨lw_mem (i := 319) (by decide +kernel) (by decide +kernel), caX1_rowOf, cvX1_rowOf⟩
theorem sX7_107 : am_siV RX7 107 mX1_boxed 2 := ⟨lw_mem (i := 323) (by decide +kernel) (by decide +kernel), caX1_boxed, cvX1_boxed⟩
theorem sX1_45 : am_siV RX1 45 mX1_rowOf 1 := ⟨lw_mem (i := 327) (by decide +kernel) (by decide +kernel), caX1_rowOf, cvX1_rowOf⟩
theorem sX1_36 : am_siV RX1 36 mX1_columnOf 1 := ⟨lw_mem (i := 328) (by decide +kernel) (by decide +kernel), caX1_columnOf, cvX1_columnOf⟩
theorem sX7_111 : am_siV RX7 111 mX5_cellsOf 1 := ⟨lw_mem (i := 329) (by decide +kernel) (by decide +kernel), caX5_cellsOf, cvX5_cellsOf⟩
theorem sX5_33 : am_siS RX5 33 mX7_isLand 1 := ⟨Or.inr (by decide +kernel), caX7_isLand, csX7_isLand⟩
theorem sX5_43 : am_siV RX5 43 mX5_landCells 0 := ⟨lw_mem (i := 334) (by decide +kernel) (by decide +kernel), caX5_landCells, cvX5_landCells⟩
theorem sX7_117 : am_siS RX7 117 mJ13_bitCount_95d88 1 := ⟨Or.inl (lw_mem (i := 339) (by decide +kernel) (by decide +kernel)), caJ13_bitCount_95d88, csJ13_bitCount_95d88⟩
theorem sL_28 : am_siV RL 28 mX7_at 2 := ⟨lw_mem (i := 345) (by decide +kernel) (by decide +kernel), caX7_at, cvX7_at⟩
theorem sL_33 : am_siV RL 33 mX7_trace 0 := ⟨lw_mem (i := 349) (by decide +kernel) (by decide +kernel), caX7_trace, cvX7_trace⟩
theorem sX7_123 : am_siV RX7 123 mX7_unlikeCells 0 := ⟨lw_mem (i := 353) (by decide +kernel) (by decide +kernel), caX7_unlikeCells, cvX7_unlikeCells⟩
theorem sX7_127 : am_siV RX7 127 mX5_copy 1 := ⟨lw_mem (i := 357) (by decide +kernel) (by decide +kernel), caX5_copy, cvX5_copy⟩
theorem sL_38 : am_siV RL 38 mX7_cells 2 := ⟨lw_mem (i := 364) (by decide +kernel) (by decide +kernel), caX7_cells, cvX7_cells⟩
theorem sX7_134 : am_siV RX7 134 mX5_sizeOf 1 := ⟨lw_mem (i := 368) (by decide +kernel) (by decide +kernel), caX5_sizeOf, cvX5_sizeOf⟩
theorem sX5_47 : am_siV RX5 47 mX5_cellsOf 1 := ⟨lw_mem (i := 372) (by decide +kernel) (by decide +kernel), caX5_cellsOf, cvX5_cellsOf⟩
theorem sX5_51 : am_siS RX5 51 mJ13_bitCount_95d88 1 := ⟨Or.inl (lw_mem (i := 373) (by decide +kernel) (by decide +kernel)), caJ13_bitCount_95d88, csJ13_bitCount_95d88⟩
theorem sL_42 : am_siV RL 42 mX7_heads 2 := ⟨lw_mem (i := 374) (by decide +kernel) (by decide +kernel), caX7_heads, cvX7_heads⟩
theorem sX7_137 : am_siS RX7 137 mX7_isPeople 1 := ⟨Or.inl (lw_mem (i := 378) (by decide +kernel) (by decide +kernel)), caX7_isPeople, csX7_isPeople⟩
theorem sL_46 : am_siV RL 46 mX7_way 1 := ⟨lw_mem (i := 381) (by decide +kernel) (by decide +kernel), caX7_way, cvX7_way⟩
theorem sL_51 : am_siV RL 51 mX7_due 1 := ⟨lw_mem (i := 385) (by decide +kernel) (by decide +kernel), caX7_due, cvX7_due⟩
theorem sX7_148 : am_siV RX7 148 mX7_shareOut 0 := ⟨lw_mem (i := 389) (by decide +kernel) (by decide +kernel), caX7_shareOut, cvX7_shareOut⟩
theorem sX7_186 : am_siV RX7 186 mX5_landCells 0 := ⟨lw_mem (i := 393) (by decide +kernel) (by decide +kernel), caX5_landCells, cvX5_landCells⟩
theorem sX7_233 : am_siV RX7 233 mX0_shareOut 1 := ⟨lw_mem (i := 394) (by decide +kernel) (by decide +kernel), caX0_shareOut, cvX0_shareOut⟩
theorem sX0_21 : am_siS RX0 21 mJ7_fill_53178 2 := ⟨Or.inl (lw_mem (i := 398) (by decide +kernel) (by decide +kernel)), caJ7_fill_53178, csJ7_fill_53178⟩
theorem sX0_31 : am_siV RX0 31 mX0_shareByRests 1 := ⟨lw_mem (i := 401) (by decide +kernel) (by decide +kernel), caX0_shareByRests, cvX0_shareByRests⟩
theorem sX0_38 : am_siV RX0 38 mX0_allHeads 0 := ⟨lw_mem (i := 405) (by decide +kernel) (by decide +kernel), caX0_allHeads, cvX0_allHeads⟩
theorem sX0_35 : am_siV RX0 35 mX0_shareByDivisors 1 := ⟨lw_mem (i := 409) (by decide +kernel) (by decide +kernel), caX0_shareByDivisors, cvX0_shareByDivisors⟩
theorem sX0_42 : am_siV RX0 42 mX0_divisorOf 1 := ⟨lw_mem (i := 413) (by decide +kernel) (by decide +kernel), caX0_divisorOf, cvX0_divisorOf⟩
theorem sL_55 : am_siV RL 55 mX7_parts 1 := ⟨lw_mem (i := 417) (by decide +kernel) (by decide +kernel), caX7_parts, cvX7_parts⟩
theorem sX7_154 : am_siV RX7 154 mX1_partsOf 1 := ⟨lw_mem (i := 421) (by decide +kernel) (by decide +kernel), caX1_partsOf, cvX1_partsOf⟩
theorem sX1_50 : am_siV RX1 50 mX1_pieceFrom 2 := ⟨lw_mem (i := 425) (by decide +kernel) (by decide +kernel), caX1_pieceFrom, cvX1_pieceFrom⟩
theorem sX1_54 : am_siV RX1 54 mX1_rimOf 1 := ⟨lw_mem (i := 429) (by decide +kernel) (by decide +kernel), caX1_rimOf, cvX1_rimOf⟩
theorem sL_59 : am_siV RL 59 mX7_beside 3 := ⟨lw_mem (i := 434) (by decide +kernel) (by decide +kernel), caX7_beside, cvX7_beside⟩
theorem sX7_157 : am_siV RX7 157 mX5_areNeighbours 2 := ⟨lw_mem (i := 438) (by decide +kernel) (by decide +kernel), caX5_areNeighbours, cvX5_areNeighbours⟩
theorem sX5_57 : am_siV RX5 57 mX1_rimOf 1 := ⟨lw_mem (i := 442) (by decide +kernel) (by decide +kernel), caX1_rimOf, cvX1_rimOf⟩
theorem sL_63 : am_siV RL 63 mX7_faults 0 := ⟨lw_mem (i := 443) (by decide +kernel) (by decide +kernel), caX7_faults, cvX7_faults⟩
theorem sX7_161 : am_siV RX7 161 mX5_neighbourPairs 0 := ⟨lw_mem (i := 447) (by decide +kernel) (by decide +kernel), caX5_neighbourPairs, cvX5_neighbourPairs⟩
theorem sX7_164 : am_siV RX7 164 mX7_faultsAgainst 1 := ⟨lw_mem (i := 451) (by decide +kernel) (by decide +kernel), caX7_faultsAgainst, cvX7_faultsAgainst⟩
theorem sX7_244 : am_siS RX7 244 mJ9_abs_0f7a4 1 := ⟨Or.inl (lw_mem (i := 455) (by decide +kernel) (by decide +kernel)), caJ9_abs_0f7a4, csJ9_abs_0f7a4⟩
theorem sX7_249 : am_siS RX7 249 mJ9_max_7cf53 2 := ⟨Or.inl (lw_mem (i := 458) (by decide +kernel) (by decide +kernel)), caJ9_max_7cf53, csJ9_max_7cf53⟩
theorem sL_67 : am_siV RL 67 mX7_would 2 := ⟨lw_mem (i := 461) (by decide +kernel) (by decide +kernel), caX7_would, cvX7_would⟩
theorem sX7_167 : am_siV RX7 167 mX7_isChange 2 := ⟨lw_mem (i := 465) (by decide +kernel) (by decide +kernel), caX7_isChange, cvX7_isChange⟩
theorem sX7_240 : am_siV RX7 240 mX1_rimOf 1 := ⟨lw_mem (i := 469) (by decide +kernel) (by decide +kernel), caX1_rimOf, cvX1_rimOf⟩
theorem sX7_170 : am_siV RX7 170 mX7_faultsBehind 3 := ⟨lw_mem (i := 470) (by decide +kernel) (by decide +kernel), caX7_faultsBehind, cvX7_faultsBehind⟩
theorem sL_71 : am_siV RL 71 mX7_mend 0 := ⟨lw_mem (i := 474) (by decide +kernel) (by decide +kernel), caX7_mend, cvX7_mend⟩
theorem sL_75 : am_siV RL 75 mX7_mayHand 2 := ⟨lw_mem (i := 478) (by decide +kernel) (by decide +kernel), caX7_mayHand, cvX7_mayHand⟩
theorem sX7_174 : am_siV RX7 174 mX2_allows 2 := ⟨lw_mem (i := 482) (by decide +kernel) (by decide +kernel), caX2_allows, cvX2_allows⟩
theorem sX2_34 : am_siV RX2 34 mX5_ownerOf 1 := ⟨lw_mem (i := 486) (by decide +kernel) (by decide +kernel), caX5_ownerOf, cvX5_ownerOf⟩
theorem sX2_40 : am_siV RX2 40 mX1_rimOf 1 := ⟨lw_mem (i := 487) (by decide +kernel) (by decide +kernel), caX1_rimOf, cvX1_rimOf⟩
theorem sX2_46 : am_siV RX2 46 mX5_cellsOf 1 := ⟨lw_mem (i := 488) (by decide +kernel) (by decide +kernel), caX5_cellsOf, cvX5_cellsOf⟩
theorem sX2_50 : am_siV RX2 50 mX2_looseCells 2 := ⟨lw_mem (i := 489) (by decide +kernel) (by decide +kernel), caX2_looseCells, cvX2_looseCells⟩
theorem sX2_54 : am_siS RX2 54 mJ13_bitCount_95d88 1 := ⟨Or.inl (lw_mem (i := 493) (by decide +kernel) (by decide +kernel)), caJ13_bitCount_95d88, csJ13_bitCount_95d88⟩
theorem sX2_60 : am_siV RX2 60 mX1_partsOf 1 := ⟨lw_mem (i := 494) (by decide +kernel) (by decide +kernel), caX1_partsOf, cvX1_partsOf⟩
theorem sL_79 : am_siV RL 79 mX7_hand 2 := ⟨lw_mem (i := 496) (by decide +kernel) (by decide +kernel), caX7_hand, cvX7_hand⟩
theorem sL_83 : am_siV RL 83 mX7_chain 0 := ⟨lw_mem (i := 500) (by decide +kernel) (by decide +kernel), caX7_chain, cvX7_chain⟩
theorem sX7_177 : am_siV RX7 177 mX2_findChain 0 := ⟨lw_mem (i := 504) (by decide +kernel) (by decide +kernel), caX2_findChain, cvX2_findChain⟩
theorem sX2_65 : am_siV RX2 65 mX2_seeWhoHands 0 := ⟨lw_mem (i := 508) (by decide +kernel) (by decide +kernel), caX2_seeWhoHands, cvX2_seeWhoHands⟩
theorem sX2_68 : am_siV RX2 68 mX2_measureLengths 0 := ⟨lw_mem (i := 512) (by decide +kernel) (by decide +kernel), caX2_measureLengths, cvX2_measureLengths⟩
theorem sX2_71 : am_siV RX2 71 mX5_sizeOf 1 := ⟨lw_mem (i := 516) (by decide +kernel) (by decide +kernel), caX5_sizeOf, cvX5_sizeOf⟩
theorem sX2_86 : am_siS RX2 86 mJ9_min_7cf53 2 := ⟨Or.inl (lw_mem (i := 517) (by decide +kernel) (by decide +kernel)), caJ9_min_7cf53, csJ9_min_7cf53⟩
theorem sX2_79 : am_siV RX2 79 mX2_nextOf 1 := ⟨lw_mem (i := 520) (by decide +kernel) (by decide +kernel), caX2_nextOf, cvX2_nextOf⟩
theorem sL_87 : am_siV RL 87 mX7_link 1 := ⟨lw_mem (i := 524) (by decide +kernel) (by decide +kernel), caX7_link, cvX7_link⟩
theorem sL_91 : am_siV RL 91 mX7_pass 0 := ⟨lw_mem (i := 528) (by decide +kernel) (by decide +kernel), caX7_pass, cvX7_pass⟩
theorem sX7_183 : am_siV RX7 183 mX2_passAlong 1 := ⟨lw_mem (i := 532) (by decide +kernel) (by decide +kernel), caX2_passAlong, cvX2_passAlong⟩
theorem sX2_92 : am_siV RX2 92 mX2_cellsToHand 2 := ⟨lw_mem (i := 536) (by decide +kernel) (by decide +kernel), caX2_cellsToHand, cvX2_cellsToHand⟩
theorem sX2_96 : am_siS RX2 96 mX7_lowestCell 1 := ⟨Or.inr (by decide +kernel), caX7_lowestCell, csX7_lowestCell⟩
theorem sX2_99 : am_siV RX2 99 mX5_put 2 := ⟨lw_mem (i := 543) (by decide +kernel) (by decide +kernel), caX5_put, cvX5_put⟩
theorem sL_95 : am_siV RL 95 mX7_settle 0 := ⟨lw_mem (i := 544) (by decide +kernel) (by decide +kernel), caX7_settle, cvX7_settle⟩
theorem sL_99 : am_siV RL 99 mX7_changed 0 := ⟨lw_mem (i := 548) (by decide +kernel) (by decide +kernel), caX7_changed, cvX7_changed⟩
theorem sL_103 : am_siV RL 103 mX7_carried 1 := ⟨lw_mem (i := 552) (by decide +kernel) (by decide +kernel), caX7_carried, cvX7_carried⟩
theorem sX7_189 : am_siV RX7 189 mX7_leastSteps 2 := ⟨lw_mem (i := 556) (by decide +kernel) (by decide +kernel), caX7_leastSteps, cvX7_leastSteps⟩
theorem sX7_252 : am_siV RX7 252 mX3_begin 2 := ⟨lw_mem (i := 560) (by decide +kernel) (by decide +kernel), caX3_begin, cvX3_begin⟩
theorem sX7_200 : am_siS RX7 200 mX7_lowestCell 1 := ⟨Or.inl (lw_mem (i := 564) (by decide +kernel) (by decide +kernel)), caX7_lowestCell, csX7_lowestCell⟩
theorem sX7_255 : am_siV RX7 255 mX1_steps 2 := ⟨lw_mem (i := 565) (by decide +kernel) (by decide +kernel), caX1_steps, cvX1_steps⟩
theorem sX1_40 : am_siS RX1 40 mJ9_abs_0f7a4 1 := ⟨Or.inl (lw_mem (i := 569) (by decide +kernel) (by decide +kernel)), caJ9_abs_0f7a4, csJ9_abs_0f7a4⟩
theorem sX7_258 : am_siV RX7 258 mX3_setCost 3 := ⟨lw_mem (i := 570) (by decide +kernel) (by decide +kernel), caX3_setCost, cvX3_setCost⟩
theorem sX7_262 : am_siV RX7 262 mX3_solve 0 := ⟨lw_mem (i := 574) (by decide +kernel) (by decide +kernel), caX3_solve, cvX3_solve⟩
theorem sX3_38 : am_siS RX3 38 mJ7_fill_d0a16 2 := ⟨Or.inl (lw_mem (i := 578) (by decide +kernel) (by decide +kernel)), caJ7_fill_d0a16, csJ7_fill_d0a16⟩
theorem sX3_44 : am_siS RX3 44 mJ7_fill_53178 2 := ⟨Or.inl (lw_mem (i := 579) (by decide +kernel) (by decide +kernel)), caJ7_fill_53178, csJ7_fill_53178⟩
theorem sX3_47 : am_siV RX3 47 mX3_placeFor 1 := ⟨lw_mem (i := 580) (by decide +kernel) (by decide +kernel), caX3_placeFor, cvX3_placeFor⟩
theorem sX3_61 : am_siV RX3 61 mX3_tightenFrom 1 := ⟨lw_mem (i := 585) (by decide +kernel) (by decide +kernel), caX3_tightenFrom, cvX3_tightenFrom⟩
theorem sX3_72 : am_siV RX3 72 mX3_isReached 1 := ⟨lw_mem (i := 589) (by decide +kernel) (by decide +kernel), caX3_isReached, cvX3_isReached⟩
theorem sX3_64 : am_siV RX3 64 mX3_nearestColumn 0 := ⟨lw_mem (i := 593) (by decide +kernel) (by decide +kernel), caX3_nearestColumn, cvX3_nearestColumn⟩
theorem sX3_68 : am_siV RX3 68 mX3_movePrices 1 := ⟨lw_mem (i := 597) (by decide +kernel) (by decide +kernel), caX3_movePrices, cvX3_movePrices⟩
theorem sX3_51 : am_siV RX3 51 mX3_makeRoom 1 := ⟨lw_mem (i := 601) (by decide +kernel) (by decide +kernel), caX3_makeRoom, cvX3_makeRoom⟩
theorem sX7_265 : am_siV RX7 265 mX3_sum 0 := ⟨lw_mem (i := 605) (by decide +kernel) (by decide +kernel), caX3_sum, cvX3_sum⟩
theorem sL_107 : am_siV RL 107 mX7_off 0 := ⟨lw_mem (i := 609) (by decide +kernel) (by decide +kernel), caX7_off, cvX7_off⟩
theorem sX7_193 : am_siV RX7 193 mX6_findBest 1 := ⟨lw_mem (i := 613) (by decide +kernel) (by decide +kernel), caX6_findBest, cvX6_findBest⟩
theorem sX6_32 : am_siV RX6 32 mX5_landsWithCells 0 := ⟨lw_mem (i := 617) (by decide +kernel) (by decide +kernel), caX5_landsWithCells, cvX5_landsWithCells⟩
theorem sX6_36 : am_siV RX6 36 mX1_size 0 := ⟨lw_mem (i := 621) (by decide +kernel) (by decide +kernel), caX1_size, cvX1_size⟩
theorem sX6_41 : am_siV RX6 41 mX3_begin 2 := ⟨lw_mem (i := 622) (by decide +kernel) (by decide +kernel), caX3_begin, cvX3_begin⟩
theorem sX6_47 : am_siV RX6 47 mX5_sizeOf 1 := ⟨lw_mem (i := 623) (by decide +kernel) (by decide +kernel), caX5_sizeOf, cvX5_sizeOf⟩
theorem sX6_51 : am_siV RX6 51 mX5_cellsOf 1 := ⟨lw_mem (i := 624) (by decide +kernel) (by decide +kernel), caX5_cellsOf, cvX5_cellsOf⟩
theorem sX6_55 : am_siS RX6 55 mX6_digitOf 1 := ⟨Or.inl (lw_mem (i := 625) (by decide +kernel) (by decide +kernel)), caX6_digitOf, csX6_digitOf⟩
theorem sX6_58 : am_siV RX6 58 mX6_setCosts 3 := ⟨lw_mem (i := 629) (by decide +kernel) (by decide +kernel), caX6_setCosts, cvX6_setCosts⟩
theorem sX6_83 : am_siS RX6 83 mJ13_bitCount_95d88 1 := ⟨Or.inl (lw_mem (i := 633) (by decide +kernel) (by decide +kernel)), caJ13_bitCount_95d88, csJ13_bitCount_95d88⟩
theorem sX6_89 : am_siV RX6 89 mX1_columnOf 1 := ⟨lw_mem (i := 634) (by decide +kernel) (by decide +kernel), caX1_columnOf, cvX1_columnOf⟩
theorem sX6_92 : am_siV RX6 92 mX1_rowOf 1 := ⟨lw_mem (i := 635) (by decide +kernel) (by decide +kernel), caX1_rowOf, cvX1_rowOf⟩
theorem sX6_95 : am_siV RX6 95 mX3_setCost 3 := ⟨lw_mem (i := 637) (by decide +kernel) (by decide +kernel), caX3_setCost, cvX3_setCost⟩
theorem sX6_62 : am_siV RX6 62 mX3_solve 0 := ⟨lw_mem (i := 638) (by decide +kernel) (by decide +kernel), caX3_solve, cvX3_solve⟩
theorem sX6_65 : am_siV RX6 65 mX5_clear 0 := ⟨lw_mem (i := 639) (by decide +kernel) (by decide +kernel), caX5_clear, cvX5_clear⟩
theorem sX6_68 : am_siV RX6 68 mX3_rowIn 1 := ⟨lw_mem (i := 640) (by decide +kernel) (by decide +kernel), caX3_rowIn, cvX3_rowIn⟩
theorem sX6_71 : am_siV RX6 71 mX5_put 2 := ⟨lw_mem (i := 644) (by decide +kernel) (by decide +kernel), caX5_put, cvX5_put⟩
theorem sX6_75 : am_siV RX6 75 mX3_sum 0 := ⟨lw_mem (i := 645) (by decide +kernel) (by decide +kernel), caX3_sum, cvX3_sum⟩
theorem sL_111 : am_siV RL 111 mX7_tile 1 := ⟨lw_mem (i := 646) (by decide +kernel) (by decide +kernel), caX7_tile, cvX7_tile⟩
theorem sL_115 : am_siV RL 115 mX7_kept 0 := ⟨lw_mem (i := 650) (by decide +kernel) (by decide +kernel), caX7_kept, cvX7_kept⟩
theorem sL_119 : am_siV RL 119 mX7_votes 3 := ⟨lw_mem (i := 654) (by decide +kernel) (by decide +kernel), caX7_votes, cvX7_votes⟩
theorem sX7_203 : am_siS RX7 203 mX7_isSide 1 := ⟨Or.inl (lw_mem (i := 658) (by decide +kernel) (by decide +kernel)), caX7_isSide, csX7_isSide⟩
theorem sX7_206 : am_siV RX7 206 mX4_votesOf 2 := ⟨lw_mem (i := 661) (by decide +kernel) (by decide +kernel), caX4_votesOf, cvX4_votesOf⟩
theorem sX4_21 : am_siS RX4 21 mX7_isLand 1 := ⟨Or.inr (by decide +kernel), caX7_isLand, csX7_isLand⟩
theorem sX4_25 : am_siS RX4 25 mX7_isSide 1 := ⟨Or.inr (by decide +kernel), caX7_isSide, csX7_isSide⟩
theorem sX7_210 : am_siV RX7 210 mX4_setVotes 3 := ⟨lw_mem (i := 667) (by decide +kernel) (by decide +kernel), caX4_setVotes, cvX4_setVotes⟩
theorem sL_124 : am_siV RL 124 mX7_won 1 := ⟨lw_mem (i := 671) (by decide +kernel) (by decide +kernel), caX7_won, cvX7_won⟩
theorem sX7_214 : am_siV RX7 214 mX4_winnerOf 1 := ⟨lw_mem (i := 675) (by decide +kernel) (by decide +kernel), caX4_winnerOf, cvX4_winnerOf⟩
theorem sX4_28 : am_siV RX4 28 mX4_votesOf 2 := ⟨lw_mem (i := 679) (by decide +kernel) (by decide +kernel), caX4_votesOf, cvX4_votesOf⟩
theorem sX4_32 : am_siS RX4 32 mX7_leaderOf 3 := ⟨Or.inr (by decide +kernel), caX7_leaderOf, csX7_leaderOf⟩
theorem sL_128 : am_siV RL 128 mX7_has 2 := ⟨lw_mem (i := 683) (by decide +kernel) (by decide +kernel), caX7_has, cvX7_has⟩
theorem sX7_217 : am_siV RX7 217 mX7_tally 2 := ⟨lw_mem (i := 687) (by decide +kernel) (by decide +kernel), caX7_tally, cvX7_tally⟩
theorem sX7_268 : am_siV RX7 268 mX4_votesForAll 1 := ⟨lw_mem (i := 691) (by decide +kernel) (by decide +kernel), caX4_votesForAll, cvX4_votesForAll⟩
theorem sX7_271 : am_siV RX7 271 mX4_cellsWon 2 := ⟨lw_mem (i := 695) (by decide +kernel) (by decide +kernel), caX4_cellsWon, cvX4_cellsWon⟩
theorem sX4_36 : am_siV RX4 36 mX4_winnerOf 1 := ⟨lw_mem (i := 699) (by decide +kernel) (by decide +kernel), caX4_winnerOf, cvX4_winnerOf⟩
theorem sX4_40 : am_siV RX4 40 mX5_sizeOf 1 := ⟨lw_mem (i := 700) (by decide +kernel) (by decide +kernel), caX5_sizeOf, cvX5_sizeOf⟩
theorem sL_132 : am_siV RL 132 mX7_ahead 1 := ⟨lw_mem (i := 701) (by decide +kernel) (by decide +kernel), caX7_ahead, cvX7_ahead⟩
theorem sX7_220 : am_siV RX7 220 mX7_leaderBy 1 := ⟨lw_mem (i := 705) (by decide +kernel) (by decide +kernel), caX7_leaderBy, cvX7_leaderBy⟩
theorem sX7_275 : am_siS RX7 275 mX7_leaderOf 3 := ⟨Or.inl (lw_mem (i := 709) (by decide +kernel) (by decide +kernel)), caX7_leaderOf, csX7_leaderOf⟩
theorem sL_136 : am_siV RL 136 mX7_turn 1 := ⟨lw_mem (i := 710) (by decide +kernel) (by decide +kernel), caX7_turn, cvX7_turn⟩
theorem sX7_223 : am_siV RX7 223 mX4_fewestToTurn 3 := ⟨lw_mem (i := 714) (by decide +kernel) (by decide +kernel), caX4_fewestToTurn, cvX4_fewestToTurn⟩
theorem sX4_46 : am_siS RX4 46 mJ7_fill_53178 2 := ⟨Or.inl (lw_mem (i := 719) (by decide +kernel) (by decide +kernel)), caJ7_fill_53178, csJ7_fill_53178⟩
theorem sX4_52 : am_siV RX4 52 mX4_setPrices 3 := ⟨lw_mem (i := 720) (by decide +kernel) (by decide +kernel), caX4_setPrices, cvX4_setPrices⟩
theorem sX4_60 : am_siS RX4 60 mJ9_min_7cf53 2 := ⟨Or.inl (lw_mem (i := 724) (by decide +kernel) (by decide +kernel)), caJ9_min_7cf53, csJ9_min_7cf53⟩
theorem sX4_56 : am_siS RX4 56 mX4_cheapest 5 := ⟨Or.inl (lw_mem (i := 725) (by decide +kernel) (by decide +kernel)), caX4_cheapest, csX4_cheapest⟩
theorem sL_140 : am_siV RL 140 mX7_count 1 := ⟨lw_mem (i := 728) (by decide +kernel) (by decide +kernel), caX7_count, cvX7_count⟩
theorem sX7_227 : am_siV RX7 227 mX0_allHeads 0 := ⟨lw_mem (i := 732) (by decide +kernel) (by decide +kernel), caX0_allHeads, cvX0_allHeads⟩
theorem sX7_230 : am_siV RX7 230 mX5_landsWithCells 0 := ⟨lw_mem (i := 733) (by decide +kernel) (by decide +kernel), caX5_landsWithCells, cvX5_landsWithCells⟩
theorem sL_12 : am_siI RL 12 mX8_init 0 := ⟨Or.inl (lw_mem (i := 736) (by decide +kernel) (by decide +kernel)), caX8_init, lw_mem (i := 737) (by decide +kernel) (by decide +kernel)⟩
theorem sL_17 : am_siV RL 17 mX8_field 2 := ⟨lw_mem (i := 816) (by decide +kernel) (by decide +kernel), caX8_field, cvX8_field⟩
theorem sX8_81 : am_siS RX8 81 mX8_in 3 := ⟨Or.inl (lw_mem (i := 822) (by decide +kernel) (by decide +kernel)), caX8_in, csX8_in⟩
theorem sL_22 : am_siV RL 22 mX8_give 3 := ⟨lw_mem (i := 825) (by decide +kernel) (by decide +kernel), caX8_give, cvX8_give⟩
theorem sX8_91 : am_siV RX8 91 mX8_noCell 1 := ⟨lw_mem (i := 829) (by decide +kernel) (by decide +kernel), caX8_noCell, cvX8_noCell⟩
theorem sX8_95 : am_siV RX8 95 mX8_cellOf 2 := ⟨lw_mem (i := 833) (by decide +kernel) (by decide +kernel), caX8_cellOf, cvX8_cellOf⟩
theorem sX8_99 : am_siV RX8 99 mX8_put 3 := ⟨lw_mem (i := 837) (by decide +kernel) (by decide +kernel), caX8_put, cvX8_put⟩
theorem sL_27 : am_siV RL 27 mX8_box 4 := ⟨lw_mem (i := 841) (by decide +kernel) (by decide +kernel), caX8_box, cvX8_box⟩
theorem sL_32 : am_siV RL 32 mX8_at 2 := ⟨lw_mem (i := 845) (by decide +kernel) (by decide +kernel), caX8_at, cvX8_at⟩
theorem sL_37 : am_siV RL 37 mX8_trace 0 := ⟨lw_mem (i := 849) (by decide +kernel) (by decide +kernel), caX8_trace, cvX8_trace⟩
theorem sL_41 : am_siV RL 41 mX8_cells 2 := ⟨lw_mem (i := 853) (by decide +kernel) (by decide +kernel), caX8_cells, cvX8_cells⟩
theorem sX8_103 : am_siS RX8 103 mX8_noLand 1 := ⟨Or.inl (lw_mem (i := 857) (by decide +kernel) (by decide +kernel)), caX8_noLand, csX8_noLand⟩
theorem sX8_106 : am_siV RX8 106 mX8_manyOf 2 := ⟨lw_mem (i := 861) (by decide +kernel) (by decide +kernel), caX8_manyOf, cvX8_manyOf⟩
theorem sL_45 : am_siV RL 45 mX8_heads 2 := ⟨lw_mem (i := 865) (by decide +kernel) (by decide +kernel), caX8_heads, cvX8_heads⟩
theorem sL_50 : am_siV RL 50 mX8_way 1 := ⟨lw_mem (i := 870) (by decide +kernel) (by decide +kernel), caX8_way, cvX8_way⟩
theorem sL_54 : am_siV RL 54 mX8_due 1 := ⟨lw_mem (i := 874) (by decide +kernel) (by decide +kernel), caX8_due, cvX8_due⟩
theorem sX8_114 : am_siV RX8 114 mX8_share 0 := ⟨lw_mem (i := 878) (by decide +kernel) (by decide +kernel), caX8_share, cvX8_share⟩
theorem sL_58 : am_siV RL 58 mX8_parts 1 := ⟨lw_mem (i := 882) (by decide +kernel) (by decide +kernel), caX8_parts, cvX8_parts⟩
theorem sX8_125 : am_siV RX8 125 mX8_partsOf 1 := ⟨lw_mem (i := 886) (by decide +kernel) (by decide +kernel), caX8_partsOf, cvX8_partsOf⟩
theorem sX8_121 : am_siV RX8 121 mX8_isBeside 2 := ⟨lw_mem (i := 890) (by decide +kernel) (by decide +kernel), caX8_isBeside, cvX8_isBeside⟩
theorem sX8_117 : am_siS RX8 117 mX8_size 1 := ⟨Or.inl (lw_mem (i := 894) (by decide +kernel) (by decide +kernel)), caX8_size, csX8_size⟩
theorem sL_62 : am_siV RL 62 mX8_beside 3 := ⟨lw_mem (i := 897) (by decide +kernel) (by decide +kernel), caX8_beside, cvX8_beside⟩
theorem sX8_132 : am_siV RX8 132 mX8_areBeside 3 := ⟨lw_mem (i := 901) (by decide +kernel) (by decide +kernel), caX8_areBeside, cvX8_areBeside⟩
theorem sX8_128 : am_siV RX8 128 mX8_touches 3 := ⟨lw_mem (i := 905) (by decide +kernel) (by decide +kernel), caX8_touches, cvX8_touches⟩
theorem sL_66 : am_siV RL 66 mX8_faults 0 := ⟨lw_mem (i := 909) (by decide +kernel) (by decide +kernel), caX8_faults, cvX8_faults⟩
theorem sX8_135 : am_siV RX8 135 mX8_allFaults 0 := ⟨lw_mem (i := 913) (by decide +kernel) (by decide +kernel), caX8_allFaults, cvX8_allFaults⟩
theorem sL_70 : am_siV RL 70 mX8_would 2 := ⟨lw_mem (i := 917) (by decide +kernel) (by decide +kernel), caX8_would, cvX8_would⟩
theorem sX8_139 : am_siV RX8 139 mX8_isChange 2 := ⟨lw_mem (i := 921) (by decide +kernel) (by decide +kernel), caX8_isChange, cvX8_isChange⟩
theorem sX8_142 : am_siV RX8 142 mX8_faultsBy 2 := ⟨lw_mem (i := 925) (by decide +kernel) (by decide +kernel), caX8_faultsBy, cvX8_faultsBy⟩
theorem sL_74 : am_siV RL 74 mX8_mend 0 := ⟨lw_mem (i := 929) (by decide +kernel) (by decide +kernel), caX8_mend, cvX8_mend⟩
theorem sL_78 : am_siV RL 78 mX8_mayHand 2 := ⟨lw_mem (i := 934) (by decide +kernel) (by decide +kernel), caX8_mayHand, cvX8_mayHand⟩
theorem sX8_147 : am_siV RX8 147 mX8_may 2 := ⟨lw_mem (i := 938) (by decide +kernel) (by decide +kernel), caX8_may, cvX8_may⟩
theorem sL_82 : am_siV RL 82 mX8_hand 2 := ⟨lw_mem (i := 942) (by decide +kernel) (by decide +kernel), caX8_hand, cvX8_hand⟩
theorem sL_86 : am_siV RL 86 mX8_chain 0 := ⟨lw_mem (i := 946) (by decide +kernel) (by decide +kernel), caX8_chain, cvX8_chain⟩
theorem sX8_156 : am_siV RX8 156 mX8_linked 0 := ⟨lw_mem (i := 950) (by decide +kernel) (by decide +kernel), caX8_linked, cvX8_linked⟩
theorem sX8_150 : am_siV RX8 150 mX8_leastTo 2 := ⟨lw_mem (i := 954) (by decide +kernel) (by decide +kernel), caX8_leastTo, cvX8_leastTo⟩
theorem sL_90 : am_siV RL 90 mX8_link 1 := ⟨lw_mem (i := 958) (by decide +kernel) (by decide +kernel), caX8_link, cvX8_link⟩
theorem sL_94 : am_siV RL 94 mX8_pass 0 := ⟨lw_mem (i := 962) (by decide +kernel) (by decide +kernel), caX8_pass, cvX8_pass⟩
theorem sX8_160 : am_siV RX8 160 mX8_passOn 0 := ⟨lw_mem (i := 966) (by decide +kernel) (by decide +kernel), caX8_passOn, cvX8_passOn⟩
theorem sL_98 : am_siV RL 98 mX8_settle 0 := ⟨lw_mem (i := 970) (by decide +kernel) (by decide +kernel), caX8_settle, cvX8_settle⟩
theorem sL_102 : am_siV RL 102 mX8_changed 0 := ⟨lw_mem (i := 974) (by decide +kernel) (by decide +kernel), caX8_changed, cvX8_changed⟩
theorem sL_106 : am_siV RL 106 mX8_carried 1 := ⟨lw_mem (i := 978) (by decide +kernel) (by decide +kernel), caX8_carried, cvX8_carried⟩
theorem sX8_166 : am_siV RX8 166 mX8_assign 1 := ⟨lw_mem (i := 982) (by decide +kernel) (by decide +kernel), caX8_assign, cvX8_assign⟩
theorem sX8_163 : am_siV RX8 163 mX8_steps 2 := ⟨lw_mem (i := 986) (by decide +kernel) (by decide +kernel), caX8_steps, cvX8_steps⟩
theorem sL_110 : am_siV RL 110 mX8_off 0 := ⟨lw_mem (i := 990) (by decide +kernel) (by decide +kernel), caX8_off, cvX8_off⟩
theorem sX8_175 : am_siV RX8 175 mX8_leastOff 1 := ⟨lw_mem (i := 994) (by decide +kernel) (by decide +kernel), caX8_leastOff, cvX8_leastOff⟩
theorem sX8_169 : am_siV RX8 169 mX8_isThere 1 := ⟨lw_mem (i := 998) (by decide +kernel) (by decide +kernel), caX8_isThere, cvX8_isThere⟩
theorem sX8_172 : am_siV RX8 172 mX8_offOf 2 := ⟨lw_mem (i := 1002) (by decide +kernel) (by decide +kernel), caX8_offOf, cvX8_offOf⟩
theorem sL_114 : am_siV RL 114 mX8_tile 1 := ⟨lw_mem (i := 1006) (by decide +kernel) (by decide +kernel), caX8_tile, cvX8_tile⟩
theorem sX8_178 : am_siV RX8 178 mX8_layTiles 0 := ⟨lw_mem (i := 1010) (by decide +kernel) (by decide +kernel), caX8_layTiles, cvX8_layTiles⟩
theorem sL_118 : am_siV RL 118 mX8_kept 0 := ⟨lw_mem (i := 1014) (by decide +kernel) (by decide +kernel), caX8_kept, cvX8_kept⟩
theorem sL_123 : am_siV RL 123 mX8_votes 3 := ⟨lw_mem (i := 1018) (by decide +kernel) (by decide +kernel), caX8_votes, cvX8_votes⟩
theorem sX8_181 : am_siS RX8 181 mX8_noSide 1 := ⟨Or.inl (lw_mem (i := 1022) (by decide +kernel) (by decide +kernel)), caX8_noSide, csX8_noSide⟩
theorem sL_127 : am_siV RL 127 mX8_won 1 := ⟨lw_mem (i := 1025) (by decide +kernel) (by decide +kernel), caX8_won, cvX8_won⟩
theorem sX8_188 : am_siV RX8 188 mX8_winner 1 := ⟨lw_mem (i := 1029) (by decide +kernel) (by decide +kernel), caX8_winner, cvX8_winner⟩
theorem sX8_184 : am_siS RX8 184 mX8_most 3 := ⟨Or.inl (lw_mem (i := 1033) (by decide +kernel) (by decide +kernel)), caX8_most, csX8_most⟩
theorem sL_131 : am_siV RL 131 mX8_has 2 := ⟨lw_mem (i := 1036) (by decide +kernel) (by decide +kernel), caX8_has, cvX8_has⟩
theorem sX8_191 : am_siV RX8 191 mX8_sum 2 := ⟨lw_mem (i := 1040) (by decide +kernel) (by decide +kernel), caX8_sum, cvX8_sum⟩
theorem sL_135 : am_siV RL 135 mX8_ahead 1 := ⟨lw_mem (i := 1044) (by decide +kernel) (by decide +kernel), caX8_ahead, cvX8_ahead⟩
theorem sX8_194 : am_siV RX8 194 mX8_leader 1 := ⟨lw_mem (i := 1048) (by decide +kernel) (by decide +kernel), caX8_leader, cvX8_leader⟩
theorem sL_139 : am_siV RL 139 mX8_turn 1 := ⟨lw_mem (i := 1052) (by decide +kernel) (by decide +kernel), caX8_turn, cvX8_turn⟩
theorem sL_143 : am_siV RL 143 mX8_count 1 := ⟨lw_mem (i := 1056) (by decide +kernel) (by decide +kernel), caX8_count, cvX8_count⟩
