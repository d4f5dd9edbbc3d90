/-! THE WORLD AS NUMBERS: cells are counted from the first one that the law makes (cell 0); ints and longs lie in two tables, references are fixed but for one (the RULE of the Forge) -/
abbrev AV : Type := Value × Nat
abbrev LVs : Type := List (Option AV)
abbrev Mem : Type := (Nat → Nat → Int32) × (Nat → Nat → Int64) × Nat
/-- the surroundings: classes, array classes, first cell, script's cell, cells of the literals and of their bytes, script's length and values -/
abbrev EnvT : Type := va_G × (Nat → ClassId) × Nat × Nat × (Nat → Nat) × (Nat → Nat) × Nat × (Nat → Int32)
def eD (E : EnvT) : va_G := E.1
def eC (E : EnvT) : Nat → ClassId := E.2.1
def eBase (E : EnvT) : Nat := E.2.2.1
def eScr (E : EnvT) : Nat := E.2.2.2.1
def eK (E : EnvT) : Nat → Nat := E.2.2.2.2.1
def eV (E : EnvT) : Nat → Nat := E.2.2.2.2.2.1
def eL (E : EnvT) : Nat := E.2.2.2.2.2.2.1
def eX (E : EnvT) : Nat → Int32 := E.2.2.2.2.2.2.2
/-- an instruction: place, what it is, length, then what is read off it: two numbers, the place of its word in lw_tbl, an int, a long -/
abbrev Ent : Type := Nat × Instr × Nat × Nat × Nat × Nat × Int32 × Int64
def gI (σ : Mem) (c j : Nat) : Int32 := σ.1 c j
def gL (σ : Mem) (c j : Nat) : Int64 := σ.2.1 c j
def gR (σ : Mem) : Nat := σ.2.2
def sI (σ : Mem) (c j : Nat) (v : Int32) : Mem := (fun c' j' => if c' = c ∧ j' = j then v else σ.1 c' j', σ.2.1, σ.2.2)
def sL (σ : Mem) (c j : Nat) (v : Int64) : Mem := (σ.1, fun c' j' => if c' = c ∧ j' = j then v else σ.2.1 c' j', σ.2.2)
def sR (σ : Mem) (r : Nat) : Mem := (σ.1, σ.2.1, r)
def remI (x y : Int32) : Int32 := x - x / y * y
def remL (x y : Int64) : Int64 := x - x / y * y
def mxI (x y : Int32) : Int32 := if x < y then y else x
def mnI (x y : Int32) : Int32 := if y < x then y else x
def usI (x y : Int32) : Int32 := (x.toUInt32 >>> (y.toUInt32 &&& Int32.toUInt32 31)).toInt32
def kdL : List Nat := [11, 8, 100, 4, 101, 102, 102, 102, 102, 102, 102, 101, 125, 126, 127, 103, 10, 4, 101, 102, 102, 102, 102, 102, 102, 101, 7, 101, 101, 101, 101, 101, 102, 102, 102, 104, 3, 105, 105, 105, 2, 101, 106, 104, 107, 6, 7, 101, 101, 101, 101, 101, 102, 102, 102, 104, 0, 128, 108, 108, 108, 7, 101, 101, 101, 101, 101, 102, 102, 102, 104, 7, 101, 101, 101, 101, 101, 102, 102, 102, 104, 7, 101, 101, 101, 101, 101, 102, 102, 102, 104, 7, 101, 101, 101, 101, 101, 102, 102, 102, 104, 7, 101, 101, 101, 101, 101, 102, 102, 102, 104, 7, 101, 101, 101, 101, 101, 102, 102, 102, 104, 9, 7, 101, 101, 101, 101, 101, 102, 102, 102, 104, 109, 101, 101, 1, 7, 101, 101, 101, 101, 101, 102, 102, 102, 104, 101, 129, 110, 110, 110, 5, 100, 111, 111, 111, 112, 5, 100, 111, 111, 111, 112, 5, 100, 111, 111, 111, 112, 5, 100, 111, 111, 111, 112, 5, 100, 111, 111, 111, 112, 5, 100, 111, 111, 111, 112, 7, 101, 101, 101, 101, 101, 102, 102, 102, 104, 7, 101, 101, 101, 101, 101, 102, 102, 102, 104, 7, 101, 101, 101, 101, 101, 102, 102, 102, 104, 7, 101, 101, 101, 101, 101, 102, 102, 102, 104, 7, 101, 101, 101, 101, 101, 102, 102, 102, 104, 7, 101, 101, 101, 101, 101, 102, 102, 102, 104, 7, 101, 101, 101, 101, 101, 102, 102, 102, 104, 7, 101, 101, 101, 101, 101, 102, 102, 102, 104, 7, 101, 101, 101, 101, 101, 102, 102, 102, 104, 7, 101, 101, 101, 101, 101, 102, 102, 102, 104, 7, 101, 101, 101, 101, 101, 102, 102, 102, 104, 7, 101, 101, 101, 101, 101, 102, 102, 102, 104, 7, 101, 101, 101, 101, 101, 102, 102, 102, 104, 7, 101, 101, 101, 101, 101, 102, 102, 102, 104, 7, 101, 101, 101, 101, 101, 102, 102, 102, 104, 7, 101, 101, 101, 101, 101, 102, 102, 102, 104, 7, 101, 101, 101, 101, 101, 102, 102, 102, 104, 7, 101, 101, 101, 101, 101, 102, 102, 102, 104, 7, 101, 101, 101, 101, 101, 102, 102, 102, 104, 7, 101, 101, 101, 101, 101, 102, 102, 102, 104, 10, 4, 101, 102, 102, 102, 102, 102, 102, 101, 7, 101, 101, 101, 101, 101, 102, 102, 102, 104, 3, 105, 105, 105, 10, 4, 101, 102, 102, 102, 102, 102, 102, 101, 7, 101, 101, 101, 101, 101, 102, 102, 102, 104, 3, 105, 105, 105, 10, 4, 101, 102, 102, 102, 102, 102, 102, 101, 7, 101, 101, 101, 101, 101, 102, 102, 102, 104, 3, 105, 105, 105, 10, 4, 101, 102, 102, 102, 102, 102, 102, 101, 7, 101, 101, 101, 101, 101, 102, 102, 102, 104, 3, 105, 105, 105, 12, 113, 114, 110, 115, 116, 117, 100, 118, 107, 119, 101, 101, 101, 120, 121, 101, 101, 102, 108, 108, 122, 123, 124, 104, 104, 103]
def akL : List (Nat × Nat × Nat × Nat × Nat) := [(0, 400, 0, 0, 0), (0, 3, 0, 0, 0), (0, 8, 0, 0, 0), (2, 4, 0, 0, 0), (0, 4, 0, 0, 0), (0, 10, 0, 0, 0), (2, 3, 0, 0, 0), (3, 13, 0, 0, 0), (0, 5, 0, 0, 0), (2, 300, 0, 0, 0), (0, 7, 0, 0, 0), (0, 12, 0, 0, 0), (3, 61, 0, 0, 0), (1, 400, 0, 0, 0), (0, 2400, 0, 0, 0), (0, 288, 0, 0, 0), (0, 6, 0, 0, 0), (0, 101, 0, 0, 0), (3, 64, 0, 0, 0), (0, 132, 0, 0, 0), (0, 1960, 0, 0, 0), (0, 98, 0, 0, 0), (2, 7, 0, 0, 0), (0, 21, 0, 0, 0), (0, 528, 0, 0, 0), (4, 6, 151, 6, 50), (5, 20, 187, 10, 7), (6, 4, 387, 24, 10), (5, 6, 61, 10, 7), (7, 3, 148, 1, 110)]
def fkL : List (List (Nat × Nat × Nat)) := [[(3, 17, 4), (3, 40, 2), (2, 1, 128), (2, 2, 108), (2, 3, 108), (2, 4, 108), (0, 0, 0), (0, 0, 0), (0, 0, 0), (0, 0, 0)], [(3, 17, 4), (3, 40, 2), (2, 1, 7), (2, 11, 101), (2, 12, 129), (0, 0, 0), (0, 0, 0)], [(3, 17, 4), (4, 0, 0), (0, 0, 0), (0, 0, 0), (0, 1, 0), (0, 1, 0), (0, 1, 0), (2, 1, 101), (2, 2, 106), (2, 3, 104), (2, 4, 107), (0, 0, 0), (0, 0, 0), (0, 0, 0)], [(0, 0, 0), (2, 1, 105), (2, 2, 105), (2, 3, 105)], [(0, 1, 0), (0, 0, 0), (0, 0, 0), (0, 0, 0), (0, 0, 0), (0, 0, 0), (2, 1, 101), (2, 2, 102), (2, 3, 102), (2, 4, 102), (2, 5, 102), (2, 6, 102), (2, 7, 102), (2, 8, 101)], [(2, 1, 100), (0, 0, 0), (0, 0, 0), (0, 0, 0), (2, 2, 111), (2, 3, 111), (2, 4, 111), (2, 5, 112)], [(3, 17, 4), (3, 40, 2), (2, 1, 7), (0, 0, 0), (0, 0, 0)], [(0, 0, 0), (2, 1, 101), (2, 2, 101), (2, 3, 101), (2, 4, 101), (2, 5, 101), (2, 6, 102), (2, 7, 102), (2, 8, 102), (2, 9, 104)], [(2, 1, 100), (0, 0, 0), (0, 0, 0), (0, 0, 0)], [(3, 17, 4), (3, 40, 2), (2, 1, 7), (2, 11, 109), (2, 12, 101), (2, 13, 101)], [(2, 1, 4), (2, 10, 7), (2, 20, 3), (0, 0, 0), (0, 0, 0)], [(2, 1, 8), (2, 3, 4), (2, 16, 10), (2, 12, 125), (0, 0, 0), (2, 13, 126), (0, 0, 0), (0, 0, 0), (2, 14, 127), (2, 15, 103), (2, 40, 2), (2, 45, 6), (2, 56, 0), (2, 121, 9), (2, 135, 1)], [(2, 1, 113), (0, 0, 0), (0, 0, 0), (2, 2, 114), (2, 3, 110), (2, 4, 115), (2, 5, 116), (2, 6, 117), (0, 0, 0), (0, 0, 0), (0, 0, 0), (0, 0, 0), (0, 0, 0), (0, 0, 0), (0, 0, 0), (2, 7, 100), (0, 0, 0), (2, 8, 118), (0, 0, 0), (2, 9, 107), (2, 10, 119), (0, 0, 0), (0, 0, 0), (0, 0, 0), (0, 0, 0), (0, 1, 0), (0, 1, 0), (0, 0, 0), (0, 1, 0), (2, 11, 101), (2, 12, 101), (2, 13, 101), (0, 1, 0), (2, 14, 120), (0, 0, 0), (2, 15, 121), (2, 16, 101), (2, 17, 101), (0, 0, 0), (0, 0, 0), (2, 18, 102), (2, 19, 108), (2, 20, 108), (2, 21, 122), (2, 22, 123), (1, 0, 0), (2, 23, 124), (2, 24, 104), (2, 25, 104), (2, 26, 103)]]
def bytS : List (List Int32) := [[115, 109, 105, 116, 104, 121, 32, 115, 109, 105, 116, 104, 32, 106, 111, 98, 32, 112, 97, 114, 116], [102, 97, 99, 101, 32, 98, 101, 97, 107, 32, 104, 101, 101, 108, 32, 119, 101, 108, 100], [115, 116, 114, 105, 107, 101], [115, 109, 105, 116, 104, 32, 104, 101, 97, 116, 32, 104, 111, 116, 32, 110, 101, 101, 100, 32, 108, 101, 102, 116, 32, 112, 97, 121, 32, 113, 117, 105, 99, 107, 32, 109, 111, 109, 101, 110, 116, 32, 119, 111, 114, 110, 32, 114, 105, 118, 97, 108, 115, 32, 119, 97, 105, 116, 115, 32, 98, 117, 114, 110, 32, 100, 111, 110, 101], [105, 102], [110, 111, 116], [97, 110, 100, 32, 111, 114]]
def mTab : List (MethodName × ByteArray × Nat × Option FieldType) := [(yX0_keepRow, cX0_keepRow, 2, none),
  (yX0_bestRota, cX0_bestRota, 4, (some .int)),
  (yX0_chooseSets, cX0_chooseSets, 6, none),
  (yX0_workers, cX0_workers, 4, (some .int)),
  (yX0_bestOrder, cX0_bestOrder, 5, (some .int)),
  (yX0_chooseJobs, cX0_chooseJobs, 6, none),
  (yX0_putFirst, cX0_putFirst, 4, none),
  (yX0_bestBeside, cX0_bestBeside, 4, (some .int)),
  (yX0_chooseBeside, cX0_chooseBeside, 6, none),
  (yX1_weigh, cX1_weigh, 7, none),
  (yX1_fits, cX1_fits, 6, (some .boolean)),
  (yX1_mostAlike, cX1_mostAlike, 6, (some .int)),
  (yX1_partingPart, cX1_partingPart, 3, (some .int)),
  (yX2_plain, cX2_plain, 2, none),
  (yX2_go, cX2_go, 3, none),
  (yX2_assign, cX2_assign, 3, none),
  (yX2_willsToStrike, cX2_willsToStrike, 3, (some .boolean)),
  (yX2_isHot, cX2_isHot, 3, (some .boolean)),
  (yX2_fillWords, cX2_fillWords, 4, none),
  (yX2_rivals, cX2_rivals, 4, (some .int)),
  (yX2_work, cX2_work, 3, none),
  (yX2_heatUp, cX2_heatUp, 3, none),
  (yX2_takes, cX2_takes, 5, (some .boolean)),
  (yX2_isFree, cX2_isFree, 3, (some .boolean)),
  (yX2_strikeOnce, cX2_strikeOnce, 5, none),
  (yX3_copyFrom, cX3_copyFrom, 3, none),
  (yX3_add, cX3_add, 4, none),
  (yX3_latest, cX3_latest, 3, (some .int)),
  (yX3_agree, cX3_agree, 4, (some .boolean)),
  (yX4_copyFrom, cX4_copyFrom, 3, none),
  (yX4_read, cX4_read, 4, (some .int)),
  (yX4_readClause, cX4_readClause, 6, none),
  (yX4_readJob, cX4_readJob, 3, none),
  (yX5_read, cX5_read, 4, (some .int)),
  (yX5_passStrike, cX5_passStrike, 2, none),
  (yX5_put, cX5_put, 2, none),
  (yX5_readTest, cX5_readTest, 6, none),
  (yX5_readFact, cX5_readFact, 6, none),
  (yX5_readSign, cX5_readSign, 4, (some .int)),
  (yX5_readSum, cX5_readSum, 6, none),
  (yX5_signOf, cX5_signOf, 1, (some .int)),
  (yX5_readValue, cX5_readValue, 6, none),
  (yX5_strikes, cX5_strikes, 3, (some .boolean)),
  (yX5_worked, cX5_worked, 11, (some .long)),
  (yX6_goOn, cX6_goOn, 4, (some (.object "OneAnvil$State"))),
  (yX6_readyAt, cX6_readyAt, 4, (some .int)),
  (yX6_untilAll, cX6_untilAll, 3, (some .int)),
  (yX6_blowsOfOthers, cX6_blowsOfOthers, 6, (some .int)),
  (yX6_splitting, cX6_splitting, 6, (some .int)),
  (yX6_live, cX6_live, 9, none),
  (yX7_copyFrom, cX7_copyFrom, 3, none),
  (yX7_begin, cX7_begin, 3, none),
  (yX7_isToDo, cX7_isToDo, 4, (some .boolean)),
  (yX7_jobOf, cX7_jobOf, 5, (some .int)),
  (yX7_toDo, cX7_toDo, 5, (some .int)),
  (yX7_putLast, cX7_putLast, 6, none),
  (yX7_doneBits, cX7_doneBits, 4, (some .int)),
  (yX7_allDone, cX7_allDone, 3, (some .boolean)),
  (yX7_earnedBy, cX7_earnedBy, 5, (some .int)),
  (yX8_add, cX8_add, 3, none),
  (yX8_rewind, cX8_rewind, 1, none),
  (yX8_fail, cX8_fail, 3, none),
  (yX8_next, cX8_next, 1, (some .int)),
  (yX8_run, cX8_run, 4, (some .int)),
  (yX8_word, cX8_word, 8, (some .int)),
  (yX8_passWord, cX8_passWord, 1, none),
  (yX8_number, cX8_number, 6, (some .int)),
  (yX9_turn, cX9_turn, 6, (some .int)),
  (yX9_fillStrikes, cX9_fillStrikes, 4, none),
  (yX9_spinOnce, cX9_spinOnce, 3, none),
  (yX9_setMark, cX9_setMark, 2, none),
  (yX9_isAtMark, cX9_isAtMark, 2, (some .boolean)),
  (yX10_copyFrom, cX10_copyFrom, 2, none),
  (yX11_feed, cX11_feed, 6, (some .int)),
  (yX11_end, cX11_end, 2, (some .int)),
  (yX11_smithy, cX11_smithy, 2, (some .int)),
  (yX11_rule, cX11_rule, 2, (some .int)),
  (yX11_force, cX11_force, 3, (some .int)),
  (yX11_smith, cX11_smith, 5, (some .int)),
  (yX11_job, cX11_job, 3, (some .int)),
  (yX11_worn, cX11_worn, 2, (some .int)),
  (yX11_count, cX11_count, 3, (some .int)),
  (yX11_moment, cX11_moment, 1, (some .int)),
  (yX11_quench, cX11_quench, 3, (some .int)),
  (yX11_mend, cX11_mend, 2, (some .int)),
  (yX11_aside, cX11_aside, 2, (some .int)),
  (yX11_undo, cX11_undo, 1, (some .int)),
  (yX11_ahead, cX11_ahead, 6, (some .int)),
  (yX11_ready, cX11_ready, 2, (some .int)),
  (yX11_all, cX11_all, 2, (some .int)),
  (yX11_rota, cX11_rota, 3, (some .int)),
  (yX11_round, cX11_round, 2, (some .int)),
  (yX11_beside, cX11_beside, 2, (some .int)),
  (yX11_worth, cX11_worth, 4, (some .int)),
  (yX11_splits, cX11_splits, 3, (some .int)),
  (yX11_order, cX11_order, 3, (some .int)),
  (yX11_second, cX11_second, 2, (some .int)),
  (yX11_seed, cX11_seed, 3, (some .int)),
  (yX11_days, cX11_days, 5, (some .int)),
  (yX11_note, cX11_note, 4, (some .int)),
  (yX11_ruled, cX11_ruled, 2, (some .int)),
  (yX11_look, cX11_look, 4, (some .int)),
  (yX11_image, cX11_image, 2, (some .int)),
  (yX11_back, cX11_back, 2, (some .int)),
  (yX11_hasSmith, cX11_hasSmith, 2, (some .boolean)),
  (yX11_hasJob, cX11_hasJob, 2, (some .boolean)),
  (yX11_hasPart, cX11_hasPart, 2, (some .boolean)),
  (yX11_ruleInForce, cX11_ruleInForce, 2, (some (.object "OneAnvil$Program"))),
  (yX11_remember, cX11_remember, 1, none),
  (yX11_earnedByAll, cX11_earnedByAll, 3, (some .int)),
  (yX11_splitBits, cX11_splitBits, 3, (some .int)),
  (yX12_in, cX12_in, 6, (some .boolean)),
  (yX12_isOf, cX12_isOf, 2, (some .boolean)),
  (yX12_four, cX12_four, 3, none),
  (yX12_feed, cX12_feed, 6, (some .int)),
  (yX12_end, cX12_end, 2, (some .int)),
  (yX12_fails, cX12_fails, 3, (some .boolean)),
  (yX12_see, cX12_see, 1, (some .int)),
  (yX12_isDigit, cX12_isDigit, 2, (some .boolean)),
  (yX12_isLetter, cX12_isLetter, 2, (some .boolean)),
  (yX12_isWord, cX12_isWord, 6, (some .boolean)),
  (yX12_passWord, cX12_passWord, 1, none),
  (yX12_takesWord, cX12_takesWord, 3, (some .boolean)),
  (yX12_numberHere, cX12_numberHere, 5, (some .boolean)),
  (yX12_wordHere, cX12_wordHere, 1, (some .int)),
  (yX12_puts, cX12_puts, 3, none),
  (yX12_makes, cX12_makes, 2, (some .boolean)),
  (yX12_opens, cX12_opens, 2, (some .boolean)),
  (yX12_strength, cX12_strength, 1, (some .int)),
  (yX12_settles, cX12_settles, 2, none),
  (yX12_value, cX12_value, 3, (some .boolean)),
  (yX12_term, cX12_term, 2, (some .boolean)),
  (yX12_sum, cX12_sum, 2, (some .boolean)),
  (yX12_compare, cX12_compare, 5, (some .boolean)),
  (yX12_fact, cX12_fact, 3, (some .boolean)),
  (yX12_isInside, cX12_isInside, 2, (some .boolean)),
  (yX12_closes, cX12_closes, 1, none),
  (yX12_tested, cX12_tested, 3, (some .boolean)),
  (yX12_isStrikeHere, cX12_isStrikeHere, 2, (some .boolean)),
  (yX12_cellHere, cX12_cellHere, 4, (some .boolean)),
  (yX12_isSmithyHere, cX12_isSmithyHere, 3, (some .boolean)),
  (yX12_isSmithHere, cX12_isSmithHere, 4, (some .boolean)),
  (yX12_partHere, cX12_partHere, 1, (some .int)),
  (yX12_isJobHere, cX12_isJobHere, 4, (some .boolean)),
  (yX12_isPartHere, cX12_isPartHere, 1, (some .boolean)),
  (yX12_smithyLineHere, cX12_smithyLineHere, 2, (some .boolean)),
  (yX12_isSmithyWord, cX12_isSmithyWord, 1, (some .boolean)),
  (yX12_clauseHere, cX12_clauseHere, 3, (some .boolean)),
  (yX12_readsAll, cX12_readsAll, 2, (some .boolean)),
  (yX12_rule, cX12_rule, 1, (some .int)),
  (yX12_smithy, cX12_smithy, 2, (some .int)),
  (yX12_isRule, cX12_isRule, 2, (some .boolean)),
  (yX12_push, cX12_push, 3, none),
  (yX12_pop, cX12_pop, 1, (some .long)),
  (yX12_one, cX12_one, 5, (some .long)),
  (yX12_reckons, cX12_reckons, 11, (some .long)),
  (yX12_isSmithy, cX12_isSmithy, 1, (some .boolean)),
  (yX12_isSmith, cX12_isSmith, 2, (some .boolean)),
  (yX12_isJob, cX12_isJob, 2, (some .boolean)),
  (yX12_smithOf, cX12_smithOf, 3, (some .int)),
  (yX12_jobOf, cX12_jobOf, 3, (some .int)),
  (yX12_isOpen, cX12_isOpen, 3, (some .boolean)),
  (yX12_jobNow, cX12_jobNow, 4, (some .int)),
  (yX12_isHot, cX12_isHot, 3, (some .boolean)),
  (yX12_needs, cX12_needs, 2, (some .int)),
  (yX12_splitParts, cX12_splitParts, 3, (some .int)),
  (yX12_force, cX12_force, 3, (some .int)),
  (yX12_smith, cX12_smith, 3, (some .int)),
  (yX12_job, cX12_job, 3, (some .int)),
  (yX12_worn, cX12_worn, 2, (some .int)),
  (yX12_rivalsOf, cX12_rivalsOf, 4, (some .int)),
  (yX12_wornFor, cX12_wornFor, 4, (some .int)),
  (yX12_words, cX12_words, 3, none),
  (yX12_summedBy, cX12_summedBy, 4, (some .long)),
  (yX12_willsStrike, cX12_willsStrike, 2, (some .boolean)),
  (yX12_takesTurns, cX12_takesTurns, 5, none),
  (yX12_heats, cX12_heats, 4, none),
  (yX12_strikes, cX12_strikes, 5, none),
  (yX12_goesOn, cX12_goesOn, 5, none),
  (yX12_wears, cX12_wears, 2, none),
  (yX12_passes, cX12_passes, 3, (some .int)),
  (yX12_keepsAct, cX12_keepsAct, 2, none),
  (yX12_undo, cX12_undo, 2, (some .int)),
  (yX12_moment, cX12_moment, 1, (some .int)),
  (yX12_quench, cX12_quench, 3, (some .int)),
  (yX12_mend, cX12_mend, 2, (some .int)),
  (yX12_openMany, cX12_openMany, 4, (some .int)),
  (yX12_putsBehind, cX12_putsBehind, 4, none),
  (yX12_aside, cX12_aside, 2, (some .int)),
  (yX12_keeps, cX12_keeps, 2, none),
  (yX12_laysBack, cX12_laysBack, 2, none),
  (yX12_ahead, cX12_ahead, 6, (some .int)),
  (yX12_ready, cX12_ready, 3, (some .int)),
  (yX12_areDone, cX12_areDone, 2, (some .boolean)),
  (yX12_momentsLeft, cX12_momentsLeft, 2, (some .int)),
  (yX12_all, cX12_all, 2, (some .int)),
  (yX12_power, cX12_power, 4, (some .int)),
  (yX12_setIn, cX12_setIn, 4, (some .int)),
  (yX12_blowsBy, cX12_blowsBy, 5, (some .int)),
  (yX12_rota, cX12_rota, 7, (some .int)),
  (yX12_heatsThen, cX12_heatsThen, 5, (some .int)),
  (yX12_roundNow, cX12_roundNow, 5, (some .int)),
  (yX12_round, cX12_round, 3, (some .int)),
  (yX12_ninth, cX12_ninth, 3, (some .int)),
  (yX12_jobIn, cX12_jobIn, 3, (some .int)),
  (yX12_countsBeside, cX12_countsBeside, 7, none),
  (yX12_beside, cX12_beside, 3, (some .int)),
  (yX12_othersBlows, cX12_othersBlows, 6, (some .int)),
  (yX12_worth, cX12_worth, 5, (some .int)),
  (yX12_splits, cX12_splits, 6, (some .int)),
  (yX12_orders, cX12_orders, 3, (some .int)),
  (yX12_laysOrder, cX12_laysOrder, 8, none),
  (yX12_momentsBy, cX12_momentsBy, 5, (some .int)),
  (yX12_order, cX12_order, 8, (some .int)),
  (yX12_note, cX12_note, 5, (some .int)),
  (yX12_begins, cX12_begins, 3, none),
  (yX12_areNotesSo, cX12_areNotesSo, 3, (some .boolean)),
  (yX12_gathersRules, cX12_gathersRules, 6, none),
  (yX12_ruled, cX12_ruled, 5, (some .int)),
  (yX12_alikeOf, cX12_alikeOf, 6, (some .int)),
  (yX12_look, cX12_look, 5, (some .int)),
  (yX12_second, cX12_second, 3, (some .int)),
  (yX12_seed, cX12_seed, 3, (some .int)),
  (yX12_draw, cX12_draw, 2, (some .int)),
  (yX12_countOf, cX12_countOf, 4, (some .int)),
  (yX12_days, cX12_days, 10, (some .int)),
  (yX12_count, cX12_count, 4, (some .int)),
  (yX12_image, cX12_image, 3, (some .int)),
  (yX12_back, cX12_back, 3, (some .int)),
  (yJ6_bitCount_0f7a4, cJ6_bitCount_0f7a4, 1, (some .int)),
  (⟨RL, "law", "([I)Z"⟩, cL_law, 4, some .boolean)]
def mOiL : List Nat := [0, 0, 0, 0, 0, 0, 0, 0, 0, 1, 1, 1, 1, 2, 2, 2, 2, 2, 2, 2, 2, 2, 2, 2, 2, 3, 3, 3, 3, 4, 4, 4, 4, 5, 5, 5, 5, 5, 5, 5, 5, 5, 5, 5, 6, 6, 6, 6, 6, 6, 7, 7, 7, 7, 7, 7, 7, 7, 7, 8, 8, 8, 8, 8, 8, 8, 8, 9, 9, 9, 9, 9, 10, 11, 11, 11, 11, 11, 11, 11, 11, 11, 11, 11, 11, 11, 11, 11, 11, 11, 11, 11, 11, 11, 11, 11, 11, 11, 11, 11, 11, 11, 11, 11, 11, 11, 11, 11, 11, 11, 11, 12, 12, 12, 12, 12, 12, 12, 12, 12, 12, 12, 12, 12, 12, 12, 12, 12, 12, 12, 12, 12, 12, 12, 12, 12, 12, 12, 12, 12, 12, 12, 12, 12, 12, 12, 12, 12, 12, 12, 12, 12, 12, 12, 12, 12, 12, 12, 12, 12, 12, 12, 12, 12, 12, 12, 12, 12, 12, 12, 12, 12, 12, 12, 12, 12, 12, 12, 12, 12, 12, 12, 12, 12, 12, 12, 12, 12, 12, 12, 12, 12, 12, 12, 12, 12, 12, 12, 12, 12, 12, 12, 12, 12, 12, 12, 12, 12, 12, 12, 12, 12, 12, 12, 12, 12, 12, 12, 12, 12, 12, 12, 12, 12, 12, 12, 12, 12, 12, 13, 14]
def mOi (x : Nat) : Nat := mOiL.getD x 99
def swTab : List (Nat × Nat × List (Int32 × Nat)) := [(40, 1, [(37, 72), (38, 75), (39, 75), (40, 75), (41, 75), (42, 66), (43, 60), (44, 75), (45, 63), (46, 75), (47, 69)]), (43, 143, [((-31), 366), ((-30), 376), ((-29), 348), ((-28), 330), ((-27), 312), ((-26), 294), ((-25), 276), ((-24), 255), ((-23), 234), ((-22), 224), ((-21), 214), ((-20), 204)]), (78, 34, [(0, 84), (1, 91), (2, 94), (3, 128), (4, 135), (5, 142), (6, 155), (7, 162), (8, 175)]), (79, 12, [(0, 52), (1, 65), (2, 78), (3, 91), (4, 104), (5, 117)]), (81, 9, [(0, 84), (1, 89), (2, 94), (3, 99), (4, 104), (5, 109), (6, 114), (7, 122), (8, 133), (9, 145), (10, 150), (11, 155), (12, 166), (13, 171), (14, 179)]), (154, 1, [(2, 68), (3, 72), (4, 76), (5, 80), (6, 108), (7, 120), (8, 132), (9, 144), (10, 156), (11, 172), (12, 168), (13, 172), (14, 94)]), (167, 12, [(0, 64), (1, 71), (2, 77), (3, 91), (4, 91), (5, 91), (6, 91), (7, 91), (8, 91)]), (226, 3, [(0, 76), (1, 76), (2, 76), (3, 76), (4, 76), (5, 83), (6, 88), (7, 93), (8, 100), (9, 139), (10, 145), (11, 161), (12, 170), (13, 175), (14, 180)]), (230, 33, [(0, 172), (1, 235), (2, 258), (3, 271), (4, 284), (5, 307), (6, 340), (7, 373), (8, 396), (9, 409), (10, 432), (11, 455), (12, 478), (13, 491), (14, 534), (15, 557), (16, 570), (17, 603), (18, 626), (19, 649), (20, 682), (21, 715), (22, 748), (23, 791), (24, 814), (25, 847), (26, 860), (27, 883), (28, 936), (29, 959), (30, 982)])]
def swL (m pc : Nat) : List (Int32 × Nat) := ((swTab.find? (fun q => Nat.beq q.1 m && Nat.beq q.2.1 pc)).map (fun q => q.2.2)).getD []
def kd (c : Nat) : Nat := kdL.getD c 999
def ak (k : Nat) : Nat × Nat × Nat × Nat × Nat := bif Nat.ble 100 k then akL.getD (k - 100) (9, 0, 0, 0, 0) else (9, 0, 0, 0, 0)
def fk (ci j : Nat) : Nat × Nat × Nat := (fkL.getD ci []).getD j (9, 0, 0)
def nf (ci : Nat) : Nat := (fkL.getD ci []).length
def atyp : Nat → FieldType
  | 0 => .int
  | 1 => .byte
  | 2 => .boolean
  | 3 => .long
  | 4 => .object "OneAnvil$Program"
  | 5 => .object "OneAnvil$State"
  | 6 => .object "OneAnvil$World"
  | _ => .array .int
def tysL (E : EnvT) : List (ClassId × FieldType) := (List.range 8).map fun t => (eC E t, atyp t)
/-- an abstract value as the machine has it -/
def conc (E : EnvT) : AV → Value
  | (.ref c, k) => if k = 60 then .ref (eScr E) else if k = 61 then .ref (eK E c) else if k = 50 ∧ c = 0 then .null else .ref (eBase E + c)
  | (v, _) => v
def concF (E : EnvT) (σ : Mem) (c ci j : Nat) : Value := match fk ci j with
  | (0, _, _) => .int (gI σ c j)
  | (1, _, _) => .long (gL σ c j)
  | (2, d, _) => .ref (eBase E + (c + d))
  | (3, a, _) => .ref (eBase E + a)
  | (4, _, _) => conc E (.ref (gR σ), 50)
  | _ => .null
def elt (E : EnvT) (σ : Mem) (c : Nat) : va_E :=
  if kd c < 13 then .inr (kd c, (List.range (nf (kd c))).map (concF E σ c (kd c)))
  else match ak (kd c) with
    | (t, n, f, s, _) => if t < 3 then .inl (eC E t, n, .inl (gI σ c)) else if t = 3 then .inl (eC E t, n, .inr (.inl (gL σ c))) else .inl (eC E t, n, .inr (.inr (.inr (.inr (fun i => some (eBase E + (f + s * i)))))))
def wsM (E : EnvT) (σ : Mem) : va_W := (List.range kdL.length).map fun c => (eBase E + c, elt E σ c)
def Rel (E : EnvT) (σ : Mem) (H : Heap) : Prop := va_P (eD E) vwCl (wsM E σ) H
def eA (E : EnvT) : Nat → Prop := fun q => eBase E ≤ q
/-- a reference is of the kind that it is said to be -/
def wk : AV → Prop
  | (.ref c, k) => k = 60 ∨ (k = 61 ∧ c < 7) ∨ (k = 50 ∧ (c = 0 ∨ kd c = 5)) ∨ (k ≠ 50 ∧ k ≠ 60 ∧ k ≠ 61 ∧ kd c = k)
  | _ => True
def wkS (st : List AV) : Prop := ∀ a ∈ st, wk a
def wkL (lv : LVs) : Prop := ∀ a, some a ∈ lv → wk a
/-- locals by place -/
def nth : LVs → Nat → Option AV
  | [], _ => none
  | o :: _, 0 => o
  | _ :: t, k + 1 => nth t k
def clr : Option AV → Option AV
  | some (.long _, _) => none
  | some (.double _, _) => none
  | o => o
def lset : LVs → Nat → AV → LVs
  | [], _, _ => []
  | _ :: t, 0, a => some a :: t
  | o :: t, k + 1, a => (match k with | 0 => clr o | _ => o) :: lset t k a
def lnone : LVs → Nat → LVs
  | [], _ => []
  | _ :: t, 0 => none :: t
  | o :: t, k + 1 => o :: lnone t k
def catS : List AV → Nat
  | [] => 0
  | (.long _, _) :: t => 2 + catS t
  | (.double _, _) :: t => 2 + catS t
  | _ :: t => 1 + catS t
def lok (E : EnvT) (ls : Array Slot) (nL : Nat) (lv : LVs) : Prop := lv.length = nL ∧ ls.size = nL ∧ lv_wf ls ∧ ∀ (i : Nat) (a : AV), nth lv i = some a → ls[i]? = some (.val (conc E a))
def ALLg : List Cond := lw_tbl.filter goodWord
def sOwn : Nat → String
  | 0 => "OneAnvil$Plan"
  | 1 => "OneAnvil$Plan"
  | _ => "OneAnvil$Program"
def sIdx : Nat → Nat
  | 0 => 79
  | 1 => 96
  | 2 => 78
  | 3 => 106
  | 4 => 55
  | 5 => 89
  | _ => 83
def sTxt : Nat → String
  | 0 => "smithy smith job part"
  | 1 => "face beak heel weld"
  | 2 => "strike"
  | 3 => "smith heat hot need left pay quick moment worn rivals waits burn done"
  | 4 => "if"
  | 5 => "not"
  | _ => "and or"
def lenS : List Nat := [21, 19, 6, 69, 2, 3, 6]
def EnvOK (E : EnvT) (U : State) (H : Heap) : Prop := va_X (eScr E) (eL E) (eX E) U H ∧ eScr E < eBase E ∧ eBase E ≤ H.size ∧ eL E ≤ 3072 ∧ vk_S 7 lenS bytS (eK E) (eV E) (eA E) U H ∧ (∀ i, i < 7 → vk_R (sOwn i) (sIdx i) (sTxt i) (eK E i) U) ∧
  va_Z "java/lang/String" "COMPACT_STRINGS" "Z" (.int 1) (eA E) U H ∧ va_Zq "jdk/internal/util/Preconditions" "SIOOBE_FORMATTER" "Ljava/util/function/BiFunction;" (eA E) U H
def rmH (h : Nat) : Room := { frames := h, cells := 0, slots := 0, locals := 40 * h }
def mNm (i : Nat) : MethodName := (mTab.getD i (⟨"", "", ""⟩, ⟨#[]⟩, 0, none)).1
def mCd (i : Nat) : ByteArray := (mTab.getD i (⟨"", "", ""⟩, ⟨#[]⟩, 0, none)).2.1
def mML (i : Nat) : Nat := (mTab.getD i (⟨"", "", ""⟩, ⟨#[]⟩, 0, none)).2.2.1
def mRt (i : Nat) : Option FieldType := (mTab.getD i (⟨"", "", ""⟩, ⟨#[]⟩, 0, none)).2.2.2
def mWs (i : Nat) : List Cond := .code (mNm i) (mCd i) (mML i) (mRt i) :: ALLg
/-- THE CONTRACT of a method at one start: from the numbers σ, with these arguments, it ends with v, and the numbers are σ' -/
def MetAt (E : EnvT) (h i : Nat) (as : List AV) (σ : Mem) (v : Option AV) (σ' : Mem) : Prop :=
  wkS as → (∀ a, v = some a → wk a) ∧ ∀ l : Launch, Met l (mNm i) (mWs i) (rmH h) (va_Pc (as.map (conc E)) (fun U => Rel E σ U.heap ∧ va_K (eD E) vwCl (tysL E) U ∧ EnvOK E U U.heap))
    (fun _ st oc t => oc = .returned (v.map (conc E)) ∧ Rel E σ' t.heap ∧ va_F (eA E) st t) 0 0 (eA E)
abbrev GT : Type := Nat → LVs → List AV → Mem → Prop
def rk (k : Nat) : Nat := bif Nat.beq k 50 then 5 else k
def swP (G : GT) (lv : LVs) (st : List AV) (σ : Mem) (x : Int32) (d : Nat) : List (Int32 × Nat) → Prop
  | [] => G d lv st σ
  | (k, t) :: ts => (x = k → G t lv st σ) ∧ (¬ x = k → swP G lv st σ x d ts)
def brP (G : GT) (c : Prop) (t f : Nat) (lv : LVs) (st : List AV) (σ : Mem) : Prop := (c → G t lv st σ) ∧ (¬ c → G f lv st σ)
/-- what must hold at a state for the machine's next step to lead on (G: what holds behind; RP: at a return) -/
def stepP (E : EnvT) (m h : Nat) (G : GT) (RP : Option AV → Mem → Prop) (q : Ent) (lv : LVs) (st : List AV) (σ : Mem) : Prop := match q with
  | (pc, i, len, x, y, _, v, w) => match i with
    | .iload k => match nth lv k with
      | some (.int a, n) => G (pc + len) lv ((.int a, n) :: st) σ
      | _ => False
    | .iload_n k => match nth lv k.val with
      | some (.int a, n) => G (pc + len) lv ((.int a, n) :: st) σ
      | _ => False
    | .aload k => match nth lv k with
      | some (.ref a, n) => G (pc + len) lv ((.ref a, n) :: st) σ
      | _ => False
    | .aload_n k => match nth lv k.val with
      | some (.ref a, n) => G (pc + len) lv ((.ref a, n) :: st) σ
      | _ => False
    | .lload k => match nth lv k with
      | some (.long a, n) => G (pc + len) lv ((.long a, n) :: st) σ
      | _ => False
    | .lload_n k => match nth lv k.val with
      | some (.long a, n) => G (pc + len) lv ((.long a, n) :: st) σ
      | _ => False
    | .iconst _ | .bipush _ | .sipush _ | .ldc_w _ => G (pc + len) lv ((.int v, 0) :: st) σ
    | .ldc _ => match y with
      | 0 => G (pc + len) lv ((.int v, 0) :: st) σ
      | _ => G (pc + len) lv ((.ref x, 61) :: st) σ
    | .lconst _ | .ldc2_w _ => G (pc + len) lv ((.long w, 0) :: st) σ
    | .aconst_null => G (pc + len) lv ((.ref 0, 50) :: st) σ
    | .istore k => match st with
      | (.int a, _) :: st => G (pc + len) (lset lv k (.int a, 0)) st σ
      | _ => False
    | .istore_n k => match st with
      | (.int a, _) :: st => G (pc + len) (lset lv k.val (.int a, 0)) st σ
      | _ => False
    | .lstore k => match st with
      | (.long a, _) :: st => G (pc + len) (lnone (lset lv k (.long a, 0)) (k + 1)) st σ
      | _ => False
    | .lstore_n k => match st with
      | (.long a, _) :: st => G (pc + len) (lnone (lset lv k.val (.long a, 0)) (k.val + 1)) st σ
      | _ => False
    | .astore k => match st with
      | (.ref a, kk) :: st => G (pc + len) (lset lv k (.ref a, kk)) st σ
      | _ => False
    | .astore_n k => match st with
      | (.ref a, kk) :: st => G (pc + len) (lset lv k.val (.ref a, kk)) st σ
      | _ => False
    | .iinc k _ => match nth lv k with
      | some (.int a, _) => G (pc + len) (lset lv k (.int (a + v), 0)) st σ
      | _ => False
    | .iadd => match st with
      | (.int b, _) :: (.int a, _) :: st => G (pc + len) lv ((.int (a + b), 0) :: st) σ
      | _ => False
    | .isub => match st with
      | (.int b, _) :: (.int a, _) :: st => G (pc + len) lv ((.int (a - b), 0) :: st) σ
      | _ => False
    | .imul => match st with
      | (.int b, _) :: (.int a, _) :: st => G (pc + len) lv ((.int (a * b), 0) :: st) σ
      | _ => False
    | .iand => match st with
      | (.int b, _) :: (.int a, _) :: st => G (pc + len) lv ((.int (a &&& b), 0) :: st) σ
      | _ => False
    | .ior => match st with
      | (.int b, _) :: (.int a, _) :: st => G (pc + len) lv ((.int (a ||| b), 0) :: st) σ
      | _ => False
    | .ixor => match st with
      | (.int b, _) :: (.int a, _) :: st => G (pc + len) lv ((.int (a ^^^ b), 0) :: st) σ
      | _ => False
    | .ishl => match st with
      | (.int b, _) :: (.int a, _) :: st => G (pc + len) lv ((.int (a <<< (b &&& 31)), 0) :: st) σ
      | _ => False
    | .ishr => match st with
      | (.int b, _) :: (.int a, _) :: st => G (pc + len) lv ((.int (a >>> (b &&& 31)), 0) :: st) σ
      | _ => False
    | .iushr => match st with
      | (.int b, _) :: (.int a, _) :: st => G (pc + len) lv ((.int (usI a b), 0) :: st) σ
      | _ => False
    | .idiv => match st with
      | (.int b, _) :: (.int a, _) :: st => ¬ b = 0 ∧ G (pc + len) lv ((.int (a / b), 0) :: st) σ
      | _ => False
    | .irem => match st with
      | (.int b, _) :: (.int a, _) :: st => ¬ b = 0 ∧ G (pc + len) lv ((.int (remI a b), 0) :: st) σ
      | _ => False
    | .i2l => match st with
      | (.int a, _) :: st => G (pc + len) lv ((.long a.toInt64, 0) :: st) σ
      | _ => False
    | .i2b => match st with
      | (.int a, _) :: st => G (pc + len) lv ((.int a.toInt8.toInt32, 0) :: st) σ
      | _ => False
    | .l2i => match st with
      | (.long a, _) :: st => G (pc + len) lv ((.int a.toInt32, 0) :: st) σ
      | _ => False
    | .ladd => match st with
      | (.long b, _) :: (.long a, _) :: st => G (pc + len) lv ((.long (a + b), 0) :: st) σ
      | _ => False
    | .lsub => match st with
      | (.long b, _) :: (.long a, _) :: st => G (pc + len) lv ((.long (a - b), 0) :: st) σ
      | _ => False
    | .lmul => match st with
      | (.long b, _) :: (.long a, _) :: st => G (pc + len) lv ((.long (a * b), 0) :: st) σ
      | _ => False
    | .land => match st with
      | (.long b, _) :: (.long a, _) :: st => G (pc + len) lv ((.long (a &&& b), 0) :: st) σ
      | _ => False
    | .lor => match st with
      | (.long b, _) :: (.long a, _) :: st => G (pc + len) lv ((.long (a ||| b), 0) :: st) σ
      | _ => False
    | .ldiv => match st with
      | (.long b, _) :: (.long a, _) :: st => ¬ b = 0 ∧ G (pc + len) lv ((.long (a / b), 0) :: st) σ
      | _ => False
    | .lrem => match st with
      | (.long b, _) :: (.long a, _) :: st => ¬ b = 0 ∧ G (pc + len) lv ((.long (remL a b), 0) :: st) σ
      | _ => False
    | .lshl => match st with
      | (.int b, _) :: (.long a, _) :: st => G (pc + len) lv ((.long (a <<< (b.toInt64 &&& 63)), 0) :: st) σ
      | _ => False
    | .lcmp => match st with
      | (.long b, _) :: (.long a, _) :: st => G (pc + len) lv ((.int (lg_cmp a b), 0) :: st) σ
      | _ => False
    | .goto _ => G x lv st σ
    | .ifCond k _ => match st with
      | (.int a, _) :: st => match k with
        | .eq => brP G (a = 0) x (pc + len) lv st σ
        | .ne => brP G (a = 0) (pc + len) x lv st σ
        | .lt => brP G (a < 0) x (pc + len) lv st σ
        | .ge => brP G (0 ≤ a) x (pc + len) lv st σ
        | .gt => brP G (0 < a) x (pc + len) lv st σ
        | .le => brP G (a ≤ 0) x (pc + len) lv st σ
      | _ => False
    | .if_icmp k _ => match st with
      | (.int b, _) :: (.int a, _) :: st => match k with
        | .eq => brP G (a = b) x (pc + len) lv st σ
        | .ne => brP G (a = b) (pc + len) x lv st σ
        | .lt => brP G (a < b) x (pc + len) lv st σ
        | .ge => brP G (b ≤ a) x (pc + len) lv st σ
        | .gt => brP G (b < a) x (pc + len) lv st σ
        | .le => brP G (a ≤ b) x (pc + len) lv st σ
      | _ => False
    | .ifnonnull _ => match st with
      | (.ref c, kk) :: st => bif Nat.beq kk 50 then brP G (c = 0) (pc + len) x lv st σ else False
      | _ => False
    | .tableswitch _ _ _ _ => match st with
      | (.int a, _) :: st => swP G lv st σ a x (swL m pc)
      | _ => False
    | .dup => match st with
      | (.int a, k) :: st => G (pc + len) lv ((.int a, k) :: (.int a, k) :: st) σ
      | (.ref a, k) :: st => G (pc + len) lv ((.ref a, k) :: (.ref a, k) :: st) σ
      | _ => False
    | .dup2 => match st with
      | (.int a, k) :: (.ref b, n) :: st => G (pc + len) lv ((.int a, k) :: (.ref b, n) :: (.int a, k) :: (.ref b, n) :: st) σ
      | _ => False
    | .pop => match st with
      | (.int _, _) :: st => G (pc + len) lv st σ
      | _ => False
    | .arraylength => match st with
      | (.ref c, k) :: st => bif Nat.beq k 60 then G (pc + len) lv ((.int (nI (eL E)), 0) :: st) σ else (match ak k with
            | (t, n, _, _, _) => bif Nat.blt t 8 then G (pc + len) lv ((.int (nI n), 0) :: st) σ else False)
      | _ => False
    | .iaload => match st with
      | (.int j, _) :: (.ref c, k) :: st => bif Nat.beq k 60 then vp_in j (eL E) ∧ G (pc + len) lv ((.int (eX E j.toNatClampNeg), 0) :: st) σ else
          (match ak k with
            | (0, n, _, _, _) => vp_in j n ∧ G (pc + len) lv ((.int (gI σ c j.toNatClampNeg), 0) :: st) σ
            | _ => False)
      | _ => False
    | .baload => match st with
      | (.int j, _) :: (.ref c, k) :: st => match ak k with
        | (1, n, _, _, _) => vp_in j n ∧ G (pc + len) lv ((.int (gI σ c j.toNatClampNeg), 0) :: st) σ
        | (2, n, _, _, _) => vp_in j n ∧ G (pc + len) lv ((.int (gI σ c j.toNatClampNeg), 0) :: st) σ
        | _ => False
      | _ => False
    | .laload => match st with
      | (.int j, _) :: (.ref c, k) :: st => match ak k with
        | (3, n, _, _, _) => vp_in j n ∧ G (pc + len) lv ((.long (gL σ c j.toNatClampNeg), 0) :: st) σ
        | _ => False
      | _ => False
    | .aaload => match st with
      | (.int j, _) :: (.ref c, k) :: st => match ak k with
        | (t, n, f, s, e) => bif Nat.ble 4 t && Nat.blt t 8 then vp_in j n ∧ G (pc + len) lv ((.ref (f + s * j.toNatClampNeg), e) :: st) σ else False
      | _ => False
    | .iastore => match st with
      | (.int a, _) :: (.int j, _) :: (.ref c, k) :: st => match ak k with
        | (0, n, _, _, _) => vp_in j n ∧ G (pc + len) lv st (sI σ c j.toNatClampNeg a)
        | _ => False
      | _ => False
    | .bastore => match st with
      | (.int a, _) :: (.int j, _) :: (.ref c, k) :: st => match ak k with
        | (1, n, _, _, _) => vp_in j n ∧ G (pc + len) lv st (sI σ c j.toNatClampNeg a.toInt8.toInt32)
        | (2, n, _, _, _) => vp_in j n ∧ G (pc + len) lv st (sI σ c j.toNatClampNeg (a &&& 1))
        | _ => False
      | _ => False
    | .lastore => match st with
      | (.long a, _) :: (.int j, _) :: (.ref c, k) :: st => match ak k with
        | (3, n, _, _, _) => vp_in j n ∧ G (pc + len) lv st (sL σ c j.toNatClampNeg a)
        | _ => False
      | _ => False
    | .getfield _ => match st with
      | (.ref c, k) :: st => bif Nat.beq k x then (match fk x y with
        | (0, _, _) => G (pc + len) lv ((.int (gI σ c y), 0) :: st) σ
        | (1, _, _) => G (pc + len) lv ((.long (gL σ c y), 0) :: st) σ
        | (2, d, e) => G (pc + len) lv ((.ref (c + d), e) :: st) σ
        | (3, a, e) => G (pc + len) lv ((.ref a, e) :: st) σ
        | (4, _, _) => (gR σ = 0 ∨ kd (gR σ) = 5) ∧ G (pc + len) lv ((.ref (gR σ), 50) :: st) σ
        | _ => False) else False
      | _ => False
    | .putfield _ => match st with
      | (.int a, _) :: (.ref c, k) :: st => bif Nat.beq k x then (match fk x y with
        | (0, 0, _) => G (pc + len) lv st (sI σ c y a)
        | (0, 1, _) => (a = 0 ∨ a = 1) ∧ G (pc + len) lv st (sI σ c y a)
        | _ => False) else False
      | (.long a, _) :: (.ref c, k) :: st => bif Nat.beq k x then (match fk x y with
        | (1, _, _) => G (pc + len) lv st (sL σ c y a)
        | _ => False) else False
      | (.ref r, 50) :: (.ref c, k) :: st => bif Nat.beq k x then (match fk x y with
        | (4, _, _) => G (pc + len) lv st (sR σ r)
        | _ => False) else False
      | _ => False
    | .invokevirtual _ => match x with
      | 910 => match st with
        | (.ref c, 61) :: rest => bif Nat.ble (catS rest) 8 && Nat.ble 4 h then G (pc + len) lv ((.int (nI (lenS.getD c 0)), 0) :: rest) σ else False
        | _ => False
      | 911 => match st with
        | (.int j, _) :: (.ref c, 61) :: rest => bif Nat.ble (catS rest) 8 && Nat.ble 4 h then vp_in j (lenS.getD c 0) ∧ G (pc + len) lv ((.int ((bytS.getD c []).getD j.toNatClampNeg 0), 0) :: rest) σ else False
        | _ => False
      | x => match st.drop y with
        | (.ref c, k) :: rest => bif Nat.ble (catS rest) 8 && Nat.beq (rk k) (mOi x) then ∃ (a : Option AV) (σ' : Mem) (h' : Nat), MetAt E h' x ((.ref c, rk k) :: (st.take y).reverse) σ a σ' ∧ h' + 1 ≤ h ∧ (k = 50 → ¬ c = 0) ∧ G (pc + len) lv (a.toList ++ rest) σ' else False
        | _ => False
    | .invokestatic _ => match x with
      | 900 => match st with
        | (.int b, _) :: (.int a, _) :: st => bif Nat.ble (catS st) 8 && Nat.ble 1 h then G (pc + len) lv ((.int (mxI a b), 0) :: st) σ else False
        | _ => False
      | 901 => match st with
        | (.int b, _) :: (.int a, _) :: st => bif Nat.ble (catS st) 8 && Nat.ble 1 h then G (pc + len) lv ((.int (mnI a b), 0) :: st) σ else False
        | _ => False
      | x => bif Nat.ble (catS (st.drop y)) 8 && Nat.ble y st.length then ∃ (a : Option AV) (σ' : Mem) (h' : Nat), MetAt E h' x (st.take y).reverse σ a σ' ∧ h' + 1 ≤ h ∧ G (pc + len) lv (a.toList ++ st.drop y) σ' else False
    | .ireturn => match st with
      | [(.int a, _)] => match y with
        | 0 => RP (some (.int a, 0)) σ
        | _ => (a = 0 ∨ a = 1) ∧ RP (some (.int a, 0)) σ
      | _ => False
    | .lreturn => match st with
      | [(.long a, _)] => RP (some (.long a, 0)) σ
      | _ => False
    | .areturn => match st with
      | [(.ref c, k)] => RP (some (.ref c, k)) σ
      | _ => False
    | .return_ => match st with
      | [] => RP none σ
      | _ => False
    | _ => False
def seek (tb : List Ent) (pc : Nat) : List Ent := tb.dropWhile fun q => !(Nat.beq q.1 pc)
def go (tb is : List Ent) (pc : Nat) : List Ent := match is with
  | q :: _ => bif Nat.beq q.1 pc then is else seek tb pc
  | [] => seek tb pc
/-- a stretch of code: step by step, up to the places of cut -/
def wpB (E : EnvT) (m h : Nat) (tb : List Ent) (cut : List Nat) (G : GT) (RP : Option AV → Mem → Prop) : Nat → List Ent → LVs → List AV → Mem → Prop
  | 0, _, _, _, _ => False
  | _ + 1, [], _, _, _ => False
  | b + 1, q :: is, lv, st, σ => stepP E m h (fun pc lv st σ => bif cut.any (Nat.beq pc) then G pc lv st σ else wpB E m h tb cut G RP b (go tb is pc) lv st σ) RP q lv st σ
