/-! THE TABLES ARE THE CLAIM'S OWN: names, bytes, words of the methods by their numbers, and rows by which a program holds the tables against the class files (printed by wip/p50/gen10.py) -/
def lt_y (m : Nat) : MethodName := bif Nat.blt m 75 then (bif Nat.blt m 37 then (bif Nat.blt m 18 then (bif Nat.blt m 9 then (bif Nat.blt m 4 then (bif Nat.blt m 2 then (bif Nat.blt m 1 then (yX0_init) else (yX0_cache)) else (bif Nat.blt m 3 then (yX0_isAnywhere) else (yX0_lapseAt))) else (bif Nat.blt m 6 then (bif Nat.blt m 5 then (yX0_ask) else (yX0_emptyCaches)) else (bif Nat.blt m 7 then (yX0_feedAnew) else (bif Nat.blt m 8 then (yX0_copyBench) else (yX1_init))))) else (bif Nat.blt m 13 then (bif Nat.blt m 11 then (bif Nat.blt m 10 then (yX1_setUp) else (yX1_share)) else (bif Nat.blt m 12 then (yX1_empty) else (yX1_feed))) else (bif Nat.blt m 15 then (bif Nat.blt m 14 then (yX1_meet) else (yX1_use)) else (bif Nat.blt m 16 then (yX1_comeIn) else (bif Nat.blt m 17 then (yX1_writeTo) else (yX1_canFetch)))))) else (bif Nat.blt m 27 then (bif Nat.blt m 22 then (bif Nat.blt m 20 then (bif Nat.blt m 19 then (yX1_makeRoom) else (yX1_canGo)) else (bif Nat.blt m 21 then (yX1_hasShares) else (yX1_ownersBeyond))) else (bif Nat.blt m 24 then (bif Nat.blt m 23 then (yX1_putOut) else (yX1_turnQueue)) else (bif Nat.blt m 25 then (yX1_choose) else (bif Nat.blt m 26 then (yX1_remember) else (yX1_takeOut))))) else (bif Nat.blt m 32 then (bif Nat.blt m 29 then (bif Nat.blt m 28 then (yX1_lapseAt) else (yX1_writeDirty)) else (bif Nat.blt m 30 then (yX1_leansToLastUse) else (bif Nat.blt m 31 then (yX1_firstOutFor) else (yX1_firstOf)))) else (bif Nat.blt m 34 then (bif Nat.blt m 33 then (yX1_copyCache) else (yX2_init)) else (bif Nat.blt m 35 then (yX2_close) else (bif Nat.blt m 36 then (yX3_init) else (yX3_tell))))))) else (bif Nat.blt m 56 then (bif Nat.blt m 46 then (bif Nat.blt m 41 then (bif Nat.blt m 39 then (bif Nat.blt m 38 then (yX3_units) else (yX3_ofOwner)) else (bif Nat.blt m 40 then (yX3_worthOf) else (yX3_copyKeys))) else (bif Nat.blt m 43 then (bif Nat.blt m 42 then (yX4_init) else (yX4_append)) else (bif Nat.blt m 44 then (yX4_timesAsked) else (bif Nat.blt m 45 then (yX4_distanceOf) else (yX4_phasesUpTo))))) else (bif Nat.blt m 51 then (bif Nat.blt m 48 then (bif Nat.blt m 47 then (yX4_copyRow) else (yX5_init)) else (bif Nat.blt m 49 then (yX5_start) else (bif Nat.blt m 50 then (yX5_feed) else (yX5_copyShadow)))) else (bif Nat.blt m 53 then (bif Nat.blt m 52 then (yX6_init) else (yX6_look)) else (bif Nat.blt m 54 then (yX6_goOn) else (bif Nat.blt m 55 then (yX6_keep) else (yX6_offer)))))) else (bif Nat.blt m 65 then (bif Nat.blt m 60 then (bif Nat.blt m 58 then (bif Nat.blt m 57 then (yX6_placeIn) else (yX6_behind)) else (bif Nat.blt m 59 then (yX6_turned) else (yX7_init))) else (bif Nat.blt m 62 then (bif Nat.blt m 61 then (yX7_feed) else (yX7_rankBehind)) else (bif Nat.blt m 63 then (yX7_lookAhead) else (bif Nat.blt m 64 then (yX7_hitsBy) else (yX7_brokenSizes))))) else (bif Nat.blt m 70 then (bif Nat.blt m 67 then (bif Nat.blt m 66 then (yX7_countDistances) else (yX8_init)) else (bif Nat.blt m 68 then (yX8_start) else (bif Nat.blt m 69 then (yX8_noteAsked) else (yX8_noteOutcome)))) else (bif Nat.blt m 72 then (bif Nat.blt m 71 then (yX8_outcomeAt) else (yX8_copyTally)) else (bif Nat.blt m 73 then (yX9_init) else (bif Nat.blt m 74 then (yX10_init) else (yX10_setKey)))))))) else (bif Nat.blt m 112 then (bif Nat.blt m 93 then (bif Nat.blt m 84 then (bif Nat.blt m 79 then (bif Nat.blt m 77 then (bif Nat.blt m 76 then (yX10_pass) else (yX10_request)) else (bif Nat.blt m 78 then (yX10_draw) else (yX10_clearRow))) else (bif Nat.blt m 81 then (bif Nat.blt m 80 then (yX10_setCache) else (yX10_setShares)) else (bif Nat.blt m 82 then (yX10_flush) else (bif Nat.blt m 83 then (yX10_replay) else (yX10_undo))))) else (bif Nat.blt m 88 then (bif Nat.blt m 86 then (bif Nat.blt m 85 then (yX10_keyAt) else (yX10_holds)) else (bif Nat.blt m 87 then (yX10_isDirty) else (yX10_cacheAt))) else (bif Nat.blt m 90 then (bif Nat.blt m 89 then (yX10_keyInOrder) else (yX10_victim)) else (bif Nat.blt m 91 then (yX10_count) else (bif Nat.blt m 92 then (yX10_countOf) else (yX10_hitsBetween)))))) else (bif Nat.blt m 102 then (bif Nat.blt m 97 then (bif Nat.blt m 95 then (bif Nat.blt m 94 then (yX10_distance) else (yX10_hits)) else (bif Nat.blt m 96 then (yX10_holdsAfter) else (yX10_bestVictim))) else (bif Nat.blt m 99 then (bif Nat.blt m 98 then (yX10_phases) else (yX10_phaseOf)) else (bif Nat.blt m 100 then (yX10_slack) else (bif Nat.blt m 101 then (yX10_shame) else (yX10_shameAt))))) else (bif Nat.blt m 107 then (bif Nat.blt m 104 then (bif Nat.blt m 103 then (yX10_errors) else (yX10_checkKey)) else (bif Nat.blt m 105 then (yX10_checkCache) else (bif Nat.blt m 106 then (yX10_checkRequest) else (yX10_checkRange)))) else (bif Nat.blt m 109 then (bif Nat.blt m 108 then (yX10_checkStudyRule) else (yX10_checkRowTakes)) else (bif Nat.blt m 110 then (yX10_beginChange) else (bif Nat.blt m 111 then (yX10_keepForUndo) else (yX10_nextDraw))))))) else (bif Nat.blt m 131 then (bif Nat.blt m 121 then (bif Nat.blt m 116 then (bif Nat.blt m 114 then (bif Nat.blt m 113 then (yX10_bit) else (yX10_has)) else (bif Nat.blt m 115 then (yX10_at) else (yX10_at_))) else (bif Nat.blt m 118 then (bif Nat.blt m 117 then (yX10_put) else (yX10_put_)) else (bif Nat.blt m 119 then (yX10_add) else (bif Nat.blt m 120 then (yX10_copy) else (yX10_copy_))))) else (bif Nat.blt m 126 then (bif Nat.blt m 123 then (bif Nat.blt m 122 then (yX10_least) else (yX10_rankAskedAgain)) else (bif Nat.blt m 124 then (yX11_init) else (bif Nat.blt m 125 then (yX11_n) else (yX12_init)))) else (bif Nat.blt m 128 then (bif Nat.blt m 127 then (yX12_out) else (yX12_in)) else (bif Nat.blt m 129 then (yX12_ask) else (bif Nat.blt m 130 then (yX12_isSame) else (yJ6_bitCount_0f7a4)))))) else (bif Nat.blt m 140 then (bif Nat.blt m 135 then (bif Nat.blt m 133 then (bif Nat.blt m 132 then (yJ9_max_7cf53) else (yJ9_max_f86c9)) else (bif Nat.blt m 134 then (yJ9_min_7cf53) else (yJ7_fill_d0a16))) else (bif Nat.blt m 137 then (bif Nat.blt m 136 then (yJ7_fill_53178) else (yL_row)) else (bif Nat.blt m 138 then (yL_others) else (bif Nat.blt m 139 then (yL_fewestMisses) else (yL_phases))))) else (bif Nat.blt m 145 then (bif Nat.blt m 142 then (bif Nat.blt m 141 then (yL_isRow) else (yL_isHeld)) else (bif Nat.blt m 143 then (yL_isWhole) else (bif Nat.blt m 144 then (yL_print) else (yL_areCaches)))) else (bif Nat.blt m 147 then (bif Nat.blt m 146 then (yL_turns) else (yL_hits)) else (bif Nat.blt m 148 then (yL_some) else (bif Nat.blt m 149 then (yL_isShamed) else (yL_law))))))))
def lt_by (m : Nat) : ByteArray := bif Nat.blt m 75 then (bif Nat.blt m 37 then (bif Nat.blt m 18 then (bif Nat.blt m 9 then (bif Nat.blt m 4 then (bif Nat.blt m 2 then (bif Nat.blt m 1 then (cX0_init) else (cX0_cache)) else (bif Nat.blt m 3 then (cX0_isAnywhere) else (cX0_lapseAt))) else (bif Nat.blt m 6 then (bif Nat.blt m 5 then (cX0_ask) else (cX0_emptyCaches)) else (bif Nat.blt m 7 then (cX0_feedAnew) else (bif Nat.blt m 8 then (cX0_copyBench) else (cX1_init))))) else (bif Nat.blt m 13 then (bif Nat.blt m 11 then (bif Nat.blt m 10 then (cX1_setUp) else (cX1_share)) else (bif Nat.blt m 12 then (cX1_empty) else (cX1_feed))) else (bif Nat.blt m 15 then (bif Nat.blt m 14 then (cX1_meet) else (cX1_use)) else (bif Nat.blt m 16 then (cX1_comeIn) else (bif Nat.blt m 17 then (cX1_writeTo) else (cX1_canFetch)))))) else (bif Nat.blt m 27 then (bif Nat.blt m 22 then (bif Nat.blt m 20 then (bif Nat.blt m 19 then (cX1_makeRoom) else (cX1_canGo)) else (bif Nat.blt m 21 then (cX1_hasShares) else (cX1_ownersBeyond))) else (bif Nat.blt m 24 then (bif Nat.blt m 23 then (cX1_putOut) else (cX1_turnQueue)) else (bif Nat.blt m 25 then (cX1_choose) else (bif Nat.blt m 26 then (cX1_remember) else (cX1_takeOut))))) else (bif Nat.blt m 32 then (bif Nat.blt m 29 then (bif Nat.blt m 28 then (cX1_lapseAt) else (cX1_writeDirty)) else (bif Nat.blt m 30 then (cX1_leansToLastUse) else (bif Nat.blt m 31 then (cX1_firstOutFor) else (cX1_firstOf)))) else (bif Nat.blt m 34 then (bif Nat.blt m 33 then (cX1_copyCache) else (cX2_init)) else (bif Nat.blt m 35 then (cX2_close) else (bif Nat.blt m 36 then (cX3_init) else (cX3_tell))))))) else (bif Nat.blt m 56 then (bif Nat.blt m 46 then (bif Nat.blt m 41 then (bif Nat.blt m 39 then (bif Nat.blt m 38 then (cX3_units) else (cX3_ofOwner)) else (bif Nat.blt m 40 then (cX3_worthOf) else (cX3_copyKeys))) else (bif Nat.blt m 43 then (bif Nat.blt m 42 then (cX4_init) else (cX4_append)) else (bif Nat.blt m 44 then (cX4_timesAsked) else (bif Nat.blt m 45 then (cX4_distanceOf) else (cX4_phasesUpTo))))) else (bif Nat.blt m 51 then (bif Nat.blt m 48 then (bif Nat.blt m 47 then (cX4_copyRow) else (cX5_init)) else (bif Nat.blt m 49 then (cX5_start) else (bif Nat.blt m 50 then (cX5_feed) else (cX5_copyShadow)))) else (bif Nat.blt m 53 then (bif Nat.blt m 52 then (cX6_init) else (cX6_look)) else (bif Nat.blt m 54 then (cX6_goOn) else (bif Nat.blt m 55 then (cX6_keep) else (cX6_offer)))))) else (bif Nat.blt m 65 then (bif Nat.blt m 60 then (bif Nat.blt m 58 then (bif Nat.blt m 57 then (cX6_placeIn) else (cX6_behind)) else (bif Nat.blt m 59 then (cX6_turned) else (cX7_init))) else (bif Nat.blt m 62 then (bif Nat.blt m 61 then (cX7_feed) else (cX7_rankBehind)) else (bif Nat.blt m 63 then (cX7_lookAhead) else (bif Nat.blt m 64 then (cX7_hitsBy) else (cX7_brokenSizes))))) else (bif Nat.blt m 70 then (bif Nat.blt m 67 then (bif Nat.blt m 66 then (cX7_countDistances) else (cX8_init)) else (bif Nat.blt m 68 then (cX8_start) else (bif Nat.blt m 69 then (cX8_noteAsked) else (cX8_noteOutcome)))) else (bif Nat.blt m 72 then (bif Nat.blt m 71 then (cX8_outcomeAt) else (cX8_copyTally)) else (bif Nat.blt m 73 then (cX9_init) else (bif Nat.blt m 74 then (cX10_init) else (cX10_setKey)))))))) else (bif Nat.blt m 112 then (bif Nat.blt m 93 then (bif Nat.blt m 84 then (bif Nat.blt m 79 then (bif Nat.blt m 77 then (bif Nat.blt m 76 then (cX10_pass) else (cX10_request)) else (bif Nat.blt m 78 then (cX10_draw) else (cX10_clearRow))) else (bif Nat.blt m 81 then (bif Nat.blt m 80 then (cX10_setCache) else (cX10_setShares)) else (bif Nat.blt m 82 then (cX10_flush) else (bif Nat.blt m 83 then (cX10_replay) else (cX10_undo))))) else (bif Nat.blt m 88 then (bif Nat.blt m 86 then (bif Nat.blt m 85 then (cX10_keyAt) else (cX10_holds)) else (bif Nat.blt m 87 then (cX10_isDirty) else (cX10_cacheAt))) else (bif Nat.blt m 90 then (bif Nat.blt m 89 then (cX10_keyInOrder) else (cX10_victim)) else (bif Nat.blt m 91 then (cX10_count) else (bif Nat.blt m 92 then (cX10_countOf) else (cX10_hitsBetween)))))) else (bif Nat.blt m 102 then (bif Nat.blt m 97 then (bif Nat.blt m 95 then (bif Nat.blt m 94 then (cX10_distance) else (cX10_hits)) else (bif Nat.blt m 96 then (cX10_holdsAfter) else (cX10_bestVictim))) else (bif Nat.blt m 99 then (bif Nat.blt m 98 then (cX10_phases) else (cX10_phaseOf)) else (bif Nat.blt m 100 then (cX10_slack) else (bif Nat.blt m 101 then (cX10_shame) else (cX10_shameAt))))) else (bif Nat.blt m 107 then (bif Nat.blt m 104 then (bif Nat.blt m 103 then (cX10_errors) else (cX10_checkKey)) else (bif Nat.blt m 105 then (cX10_checkCache) else (bif Nat.blt m 106 then (cX10_checkRequest) else (cX10_checkRange)))) else (bif Nat.blt m 109 then (bif Nat.blt m 108 then (cX10_checkStudyRule) else (cX10_checkRowTakes)) else (bif Nat.blt m 110 then (cX10_beginChange) else (bif Nat.blt m 111 then (cX10_keepForUndo) else (cX10_nextDraw))))))) else (bif Nat.blt m 131 then (bif Nat.blt m 121 then (bif Nat.blt m 116 then (bif Nat.blt m 114 then (bif Nat.blt m 113 then (cX10_bit) else (cX10_has)) else (bif Nat.blt m 115 then (cX10_at) else (cX10_at_))) else (bif Nat.blt m 118 then (bif Nat.blt m 117 then (cX10_put) else (cX10_put_)) else (bif Nat.blt m 119 then (cX10_add) else (bif Nat.blt m 120 then (cX10_copy) else (cX10_copy_))))) else (bif Nat.blt m 126 then (bif Nat.blt m 123 then (bif Nat.blt m 122 then (cX10_least) else (cX10_rankAskedAgain)) else (bif Nat.blt m 124 then (cX11_init) else (bif Nat.blt m 125 then (cX11_n) else (cX12_init)))) else (bif Nat.blt m 128 then (bif Nat.blt m 127 then (cX12_out) else (cX12_in)) else (bif Nat.blt m 129 then (cX12_ask) else (bif Nat.blt m 130 then (cX12_isSame) else (cJ6_bitCount_0f7a4)))))) else (bif Nat.blt m 140 then (bif Nat.blt m 135 then (bif Nat.blt m 133 then (bif Nat.blt m 132 then (cJ9_max_7cf53) else (cJ9_max_f86c9)) else (bif Nat.blt m 134 then (cJ9_min_7cf53) else (cJ7_fill_d0a16))) else (bif Nat.blt m 137 then (bif Nat.blt m 136 then (cJ7_fill_53178) else (cL_row)) else (bif Nat.blt m 138 then (cL_others) else (bif Nat.blt m 139 then (cL_fewestMisses) else (cL_phases))))) else (bif Nat.blt m 145 then (bif Nat.blt m 142 then (bif Nat.blt m 141 then (cL_isRow) else (cL_isHeld)) else (bif Nat.blt m 143 then (cL_isWhole) else (bif Nat.blt m 144 then (cL_print) else (cL_areCaches)))) else (bif Nat.blt m 147 then (bif Nat.blt m 146 then (cL_turns) else (cL_hits)) else (bif Nat.blt m 148 then (cL_some) else (bif Nat.blt m 149 then (cL_isShamed) else (cL_law))))))))
def lt_ret (m : Nat) : Option FieldType := bif Nat.blt m 75 then (bif Nat.blt m 37 then (bif Nat.blt m 18 then (bif Nat.blt m 9 then (bif Nat.blt m 4 then (bif Nat.blt m 2 then (bif Nat.blt m 1 then ((none : Option FieldType)) else ((some (FieldType.object "Cachebench$Cache")))) else (bif Nat.blt m 3 then ((some FieldType.boolean)) else ((some FieldType.int)))) else (bif Nat.blt m 6 then (bif Nat.blt m 5 then ((some FieldType.int)) else ((none : Option FieldType))) else (bif Nat.blt m 7 then ((some FieldType.int)) else (bif Nat.blt m 8 then ((none : Option FieldType)) else ((none : Option FieldType)))))) else (bif Nat.blt m 13 then (bif Nat.blt m 11 then (bif Nat.blt m 10 then ((none : Option FieldType)) else ((none : Option FieldType))) else (bif Nat.blt m 12 then ((none : Option FieldType)) else ((some FieldType.boolean)))) else (bif Nat.blt m 15 then (bif Nat.blt m 14 then ((none : Option FieldType)) else ((none : Option FieldType))) else (bif Nat.blt m 16 then ((none : Option FieldType)) else (bif Nat.blt m 17 then ((none : Option FieldType)) else ((some FieldType.boolean))))))) else (bif Nat.blt m 27 then (bif Nat.blt m 22 then (bif Nat.blt m 20 then (bif Nat.blt m 19 then ((none : Option FieldType)) else ((some FieldType.int))) else (bif Nat.blt m 21 then ((some FieldType.boolean)) else ((some FieldType.int)))) else (bif Nat.blt m 24 then (bif Nat.blt m 23 then ((none : Option FieldType)) else ((none : Option FieldType))) else (bif Nat.blt m 25 then ((some FieldType.int)) else (bif Nat.blt m 26 then ((none : Option FieldType)) else ((none : Option FieldType)))))) else (bif Nat.blt m 32 then (bif Nat.blt m 29 then (bif Nat.blt m 28 then ((some FieldType.int)) else ((some FieldType.int))) else (bif Nat.blt m 30 then ((some FieldType.boolean)) else (bif Nat.blt m 31 then ((some FieldType.int)) else ((some FieldType.int))))) else (bif Nat.blt m 34 then (bif Nat.blt m 33 then ((none : Option FieldType)) else ((none : Option FieldType))) else (bif Nat.blt m 35 then ((none : Option FieldType)) else (bif Nat.blt m 36 then ((none : Option FieldType)) else ((some FieldType.int)))))))) else (bif Nat.blt m 56 then (bif Nat.blt m 46 then (bif Nat.blt m 41 then (bif Nat.blt m 39 then (bif Nat.blt m 38 then ((some FieldType.int)) else ((some FieldType.int))) else (bif Nat.blt m 40 then ((some FieldType.int)) else ((none : Option FieldType)))) else (bif Nat.blt m 43 then (bif Nat.blt m 42 then ((none : Option FieldType)) else ((none : Option FieldType))) else (bif Nat.blt m 44 then ((some FieldType.int)) else (bif Nat.blt m 45 then ((some FieldType.int)) else ((some FieldType.int)))))) else (bif Nat.blt m 51 then (bif Nat.blt m 48 then (bif Nat.blt m 47 then ((none : Option FieldType)) else ((none : Option FieldType))) else (bif Nat.blt m 49 then ((none : Option FieldType)) else (bif Nat.blt m 50 then ((none : Option FieldType)) else ((none : Option FieldType))))) else (bif Nat.blt m 53 then (bif Nat.blt m 52 then ((none : Option FieldType)) else ((some FieldType.int))) else (bif Nat.blt m 54 then ((some FieldType.boolean)) else (bif Nat.blt m 55 then ((none : Option FieldType)) else ((none : Option FieldType))))))) else (bif Nat.blt m 65 then (bif Nat.blt m 60 then (bif Nat.blt m 58 then (bif Nat.blt m 57 then ((some FieldType.int)) else ((some FieldType.int))) else (bif Nat.blt m 59 then ((some FieldType.int)) else ((none : Option FieldType)))) else (bif Nat.blt m 62 then (bif Nat.blt m 61 then ((none : Option FieldType)) else ((some FieldType.long))) else (bif Nat.blt m 63 then ((none : Option FieldType)) else (bif Nat.blt m 64 then ((some FieldType.int)) else ((some FieldType.int)))))) else (bif Nat.blt m 70 then (bif Nat.blt m 67 then (bif Nat.blt m 66 then ((none : Option FieldType)) else ((none : Option FieldType))) else (bif Nat.blt m 68 then ((none : Option FieldType)) else (bif Nat.blt m 69 then ((none : Option FieldType)) else ((none : Option FieldType))))) else (bif Nat.blt m 72 then (bif Nat.blt m 71 then ((some FieldType.int)) else ((none : Option FieldType))) else (bif Nat.blt m 73 then ((none : Option FieldType)) else (bif Nat.blt m 74 then ((none : Option FieldType)) else ((some FieldType.int))))))))) else (bif Nat.blt m 112 then (bif Nat.blt m 93 then (bif Nat.blt m 84 then (bif Nat.blt m 79 then (bif Nat.blt m 77 then (bif Nat.blt m 76 then ((some FieldType.int)) else ((some FieldType.int))) else (bif Nat.blt m 78 then ((some FieldType.int)) else ((some FieldType.int)))) else (bif Nat.blt m 81 then (bif Nat.blt m 80 then ((some FieldType.int)) else ((some FieldType.int))) else (bif Nat.blt m 82 then ((some FieldType.int)) else (bif Nat.blt m 83 then ((some FieldType.int)) else ((some FieldType.int)))))) else (bif Nat.blt m 88 then (bif Nat.blt m 86 then (bif Nat.blt m 85 then ((some FieldType.int)) else ((some FieldType.boolean))) else (bif Nat.blt m 87 then ((some FieldType.boolean)) else ((some FieldType.int)))) else (bif Nat.blt m 90 then (bif Nat.blt m 89 then ((some FieldType.int)) else ((some FieldType.int))) else (bif Nat.blt m 91 then ((some FieldType.int)) else (bif Nat.blt m 92 then ((some FieldType.int)) else ((some FieldType.int))))))) else (bif Nat.blt m 102 then (bif Nat.blt m 97 then (bif Nat.blt m 95 then (bif Nat.blt m 94 then ((some FieldType.int)) else ((some FieldType.int))) else (bif Nat.blt m 96 then ((some FieldType.boolean)) else ((some FieldType.int)))) else (bif Nat.blt m 99 then (bif Nat.blt m 98 then ((some FieldType.int)) else ((some FieldType.int))) else (bif Nat.blt m 100 then ((some FieldType.int)) else (bif Nat.blt m 101 then ((some FieldType.int)) else ((some FieldType.int)))))) else (bif Nat.blt m 107 then (bif Nat.blt m 104 then (bif Nat.blt m 103 then ((some FieldType.int)) else ((none : Option FieldType))) else (bif Nat.blt m 105 then ((none : Option FieldType)) else (bif Nat.blt m 106 then ((none : Option FieldType)) else ((none : Option FieldType))))) else (bif Nat.blt m 109 then (bif Nat.blt m 108 then ((none : Option FieldType)) else ((none : Option FieldType))) else (bif Nat.blt m 110 then ((none : Option FieldType)) else (bif Nat.blt m 111 then ((none : Option FieldType)) else ((some FieldType.int)))))))) else (bif Nat.blt m 131 then (bif Nat.blt m 121 then (bif Nat.blt m 116 then (bif Nat.blt m 114 then (bif Nat.blt m 113 then ((some FieldType.int)) else ((some FieldType.boolean))) else (bif Nat.blt m 115 then ((some FieldType.int)) else ((some FieldType.long)))) else (bif Nat.blt m 118 then (bif Nat.blt m 117 then ((none : Option FieldType)) else ((none : Option FieldType))) else (bif Nat.blt m 119 then ((none : Option FieldType)) else (bif Nat.blt m 120 then ((none : Option FieldType)) else ((none : Option FieldType)))))) else (bif Nat.blt m 126 then (bif Nat.blt m 123 then (bif Nat.blt m 122 then ((some FieldType.int)) else ((some FieldType.long))) else (bif Nat.blt m 124 then ((none : Option FieldType)) else (bif Nat.blt m 125 then ((some FieldType.int)) else ((none : Option FieldType))))) else (bif Nat.blt m 128 then (bif Nat.blt m 127 then ((none : Option FieldType)) else ((none : Option FieldType))) else (bif Nat.blt m 129 then ((none : Option FieldType)) else (bif Nat.blt m 130 then ((some FieldType.boolean)) else ((some FieldType.int))))))) else (bif Nat.blt m 140 then (bif Nat.blt m 135 then (bif Nat.blt m 133 then (bif Nat.blt m 132 then ((some FieldType.int)) else ((some FieldType.long))) else (bif Nat.blt m 134 then ((some FieldType.int)) else ((none : Option FieldType)))) else (bif Nat.blt m 137 then (bif Nat.blt m 136 then ((none : Option FieldType)) else ((some (FieldType.array FieldType.int)))) else (bif Nat.blt m 138 then ((some FieldType.int)) else (bif Nat.blt m 139 then ((some FieldType.int)) else ((some FieldType.int)))))) else (bif Nat.blt m 145 then (bif Nat.blt m 142 then (bif Nat.blt m 141 then ((some FieldType.boolean)) else ((some FieldType.boolean))) else (bif Nat.blt m 143 then ((some FieldType.boolean)) else (bif Nat.blt m 144 then ((some FieldType.long)) else ((some FieldType.boolean))))) else (bif Nat.blt m 147 then (bif Nat.blt m 146 then ((some FieldType.boolean)) else ((some FieldType.int))) else (bif Nat.blt m 148 then ((some FieldType.boolean)) else (bif Nat.blt m 149 then ((some FieldType.boolean)) else ((some .boolean)))))))))
def lt_hh (m : Nat) : List (Nat × Nat × Nat × Nat) := bif Nat.blt m 75 then (bif Nat.blt m 37 then (bif Nat.blt m 18 then (bif Nat.blt m 9 then (bif Nat.blt m 4 then (bif Nat.blt m 2 then (bif Nat.blt m 1 then ([]) else ([])) else (bif Nat.blt m 3 then ([]) else ([]))) else (bif Nat.blt m 6 then (bif Nat.blt m 5 then ([]) else ([])) else (bif Nat.blt m 7 then ([]) else (bif Nat.blt m 8 then ([]) else ([]))))) else (bif Nat.blt m 13 then (bif Nat.blt m 11 then (bif Nat.blt m 10 then ([]) else ([])) else (bif Nat.blt m 12 then ([]) else ([]))) else (bif Nat.blt m 15 then (bif Nat.blt m 14 then ([]) else ([])) else (bif Nat.blt m 16 then ([]) else (bif Nat.blt m 17 then ([]) else ([])))))) else (bif Nat.blt m 27 then (bif Nat.blt m 22 then (bif Nat.blt m 20 then (bif Nat.blt m 19 then ([]) else ([])) else (bif Nat.blt m 21 then ([]) else ([]))) else (bif Nat.blt m 24 then (bif Nat.blt m 23 then ([]) else ([])) else (bif Nat.blt m 25 then ([]) else (bif Nat.blt m 26 then ([]) else ([]))))) else (bif Nat.blt m 32 then (bif Nat.blt m 29 then (bif Nat.blt m 28 then ([]) else ([])) else (bif Nat.blt m 30 then ([]) else (bif Nat.blt m 31 then ([]) else ([])))) else (bif Nat.blt m 34 then (bif Nat.blt m 33 then ([]) else ([])) else (bif Nat.blt m 35 then ([]) else (bif Nat.blt m 36 then ([]) else ([]))))))) else (bif Nat.blt m 56 then (bif Nat.blt m 46 then (bif Nat.blt m 41 then (bif Nat.blt m 39 then (bif Nat.blt m 38 then ([]) else ([])) else (bif Nat.blt m 40 then ([]) else ([]))) else (bif Nat.blt m 43 then (bif Nat.blt m 42 then ([]) else ([])) else (bif Nat.blt m 44 then ([]) else (bif Nat.blt m 45 then ([]) else ([]))))) else (bif Nat.blt m 51 then (bif Nat.blt m 48 then (bif Nat.blt m 47 then ([]) else ([])) else (bif Nat.blt m 49 then ([]) else (bif Nat.blt m 50 then ([]) else ([])))) else (bif Nat.blt m 53 then (bif Nat.blt m 52 then ([]) else ([])) else (bif Nat.blt m 54 then ([]) else (bif Nat.blt m 55 then ([]) else ([])))))) else (bif Nat.blt m 65 then (bif Nat.blt m 60 then (bif Nat.blt m 58 then (bif Nat.blt m 57 then ([]) else ([])) else (bif Nat.blt m 59 then ([]) else ([]))) else (bif Nat.blt m 62 then (bif Nat.blt m 61 then ([]) else ([])) else (bif Nat.blt m 63 then ([]) else (bif Nat.blt m 64 then ([]) else ([]))))) else (bif Nat.blt m 70 then (bif Nat.blt m 67 then (bif Nat.blt m 66 then ([]) else ([])) else (bif Nat.blt m 68 then ([]) else (bif Nat.blt m 69 then ([]) else ([])))) else (bif Nat.blt m 72 then (bif Nat.blt m 71 then ([]) else ([])) else (bif Nat.blt m 73 then ([]) else (bif Nat.blt m 74 then ([]) else ([])))))))) else (bif Nat.blt m 112 then (bif Nat.blt m 93 then (bif Nat.blt m 84 then (bif Nat.blt m 79 then (bif Nat.blt m 77 then (bif Nat.blt m 76 then ([]) else ([])) else (bif Nat.blt m 78 then ([]) else ([]))) else (bif Nat.blt m 81 then (bif Nat.blt m 80 then ([]) else ([])) else (bif Nat.blt m 82 then ([]) else (bif Nat.blt m 83 then ([]) else ([]))))) else (bif Nat.blt m 88 then (bif Nat.blt m 86 then (bif Nat.blt m 85 then ([]) else ([])) else (bif Nat.blt m 87 then ([]) else ([]))) else (bif Nat.blt m 90 then (bif Nat.blt m 89 then ([]) else ([])) else (bif Nat.blt m 91 then ([]) else (bif Nat.blt m 92 then ([]) else ([])))))) else (bif Nat.blt m 102 then (bif Nat.blt m 97 then (bif Nat.blt m 95 then (bif Nat.blt m 94 then ([]) else ([])) else (bif Nat.blt m 96 then ([]) else ([]))) else (bif Nat.blt m 99 then (bif Nat.blt m 98 then ([]) else ([])) else (bif Nat.blt m 100 then ([]) else (bif Nat.blt m 101 then ([]) else ([]))))) else (bif Nat.blt m 107 then (bif Nat.blt m 104 then (bif Nat.blt m 103 then ([]) else ([])) else (bif Nat.blt m 105 then ([]) else (bif Nat.blt m 106 then ([]) else ([])))) else (bif Nat.blt m 109 then (bif Nat.blt m 108 then ([]) else ([])) else (bif Nat.blt m 110 then ([]) else (bif Nat.blt m 111 then ([]) else ([]))))))) else (bif Nat.blt m 131 then (bif Nat.blt m 121 then (bif Nat.blt m 116 then (bif Nat.blt m 114 then (bif Nat.blt m 113 then ([]) else ([])) else (bif Nat.blt m 115 then ([]) else ([]))) else (bif Nat.blt m 118 then (bif Nat.blt m 117 then ([]) else ([])) else (bif Nat.blt m 119 then ([]) else (bif Nat.blt m 120 then ([]) else ([]))))) else (bif Nat.blt m 126 then (bif Nat.blt m 123 then (bif Nat.blt m 122 then ([]) else ([])) else (bif Nat.blt m 124 then ([]) else (bif Nat.blt m 125 then ([]) else ([])))) else (bif Nat.blt m 128 then (bif Nat.blt m 127 then ([]) else ([])) else (bif Nat.blt m 129 then ([]) else (bif Nat.blt m 130 then ([]) else ([])))))) else (bif Nat.blt m 140 then (bif Nat.blt m 135 then (bif Nat.blt m 133 then (bif Nat.blt m 132 then ([]) else ([])) else (bif Nat.blt m 134 then ([]) else ([]))) else (bif Nat.blt m 137 then (bif Nat.blt m 136 then ([]) else ([])) else (bif Nat.blt m 138 then ([]) else (bif Nat.blt m 139 then ([]) else ([]))))) else (bif Nat.blt m 145 then (bif Nat.blt m 142 then (bif Nat.blt m 141 then ([]) else ([])) else (bif Nat.blt m 143 then ([]) else (bif Nat.blt m 144 then ([]) else ([])))) else (bif Nat.blt m 147 then (bif Nat.blt m 146 then ([]) else ([])) else (bif Nat.blt m 148 then ([]) else (bif Nat.blt m 149 then ([]) else ([]))))))))
def lt_cn (m : Nat) : String := bif Nat.blt m 8 then (bif Nat.blt m 4 then (bif Nat.blt m 2 then (bif Nat.blt m 1 then (RX0) else (RX1)) else (bif Nat.blt m 3 then (RX2) else (RX3))) else (bif Nat.blt m 6 then (bif Nat.blt m 5 then (RX4) else (RX5)) else (bif Nat.blt m 7 then (RX6) else (RX7)))) else (bif Nat.blt m 12 then (bif Nat.blt m 10 then (bif Nat.blt m 9 then (RX8) else (RX9)) else (bif Nat.blt m 11 then (RX10) else (RX11))) else (bif Nat.blt m 14 then (bif Nat.blt m 13 then (RX12) else (RL)) else (bif Nat.blt m 15 then (RJ6) else (bif Nat.blt m 16 then (RJ9) else (RJ7)))))
/-- what the fields of a class hold -/
def lt_fts (m : Nat) : List Nat := bif Nat.blt m 6 then (bif Nat.blt m 3 then (bif Nat.blt m 1 then ([2, 2, 2, 2, 0]) else (bif Nat.blt m 2 then ([0, 0, 0, 0, 2, 0, 0, 0, 0, 0, 0, 1, 0, 2, 2, 2, 2, 2, 2, 2]) else ([3, 3, 0, 0, 0, 2]))) else (bif Nat.blt m 4 then ([2, 2, 2]) else (bif Nat.blt m 5 then ([2, 2, 2, 0]) else ([0, 0])))) else (bif Nat.blt m 9 then (bif Nat.blt m 7 then ([2, 0, 3, 0, 0, 0, 0, 2, 2, 2, 2, 2]) else (bif Nat.blt m 8 then ([0, 0, 0, 2, 2, 2, 2]) else ([2, 2, 2, 2, 2, 2, 0, 0]))) else (bif Nat.blt m 11 then (bif Nat.blt m 10 then ([2, 0, 0, 2, 2, 2, 2]) else ([2, 2, 0, 0, 2, 2, 2, 2])) else (bif Nat.blt m 12 then ([1]) else ([0, 0, 2, 2, 2, 0, 0, 0]))))
def lt_ft (c k : Nat) : Nat := (lt_fts c).getD k 0
/-- an instruction's length -/
def lt_len : Instr → Nat → Nat
  | .iload _, _ => 2
  | .aload _, _ => 2
  | .lload _, _ => 2
  | .dload _, _ => 2
  | .istore _, _ => 2
  | .astore _, _ => 2
  | .lstore _, _ => 2
  | .dstore _, _ => 2
  | .bipush _, _ => 2
  | .ldc _, _ => 2
  | .newarray _, _ => 2
  | .iinc _ _, _ => 3
  | .sipush _, _ => 3
  | .ldc_w _, _ => 3
  | .ldc2_w _, _ => 3
  | .goto _, _ => 3
  | .ifCond _ _, _ => 3
  | .if_icmp _ _, _ => 3
  | .ifnull _, _ => 3
  | .ifnonnull _, _ => 3
  | .getfield _, _ => 3
  | .putfield _, _ => 3
  | .anewarray _, _ => 3
  | .new _, _ => 3
  | .invokestatic _, _ => 3
  | .invokevirtual _, _ => 3
  | .invokespecial _, _ => 3
  | .multianewarray _ _, _ => 4
  | .tableswitch _ _ _ _, k => k
  | .lookupswitch _ _, k => k
  | _, _ => 1
/-- targets and constants -/
def lt_chi (pc tg : Nat) (cn : Int32) : Instr → Bool
  | .goto o => decide ((pc : Int) + o = (tg : Int))
  | .ifCond _ o => decide ((pc : Int) + o = (tg : Int))
  | .if_icmp _ o => decide ((pc : Int) + o = (tg : Int))
  | .ifnull o => decide ((pc : Int) + o = (tg : Int))
  | .ifnonnull o => decide ((pc : Int) + o = (tg : Int))
  | .iconst n => decide (Int32.ofInt n = cn)
  | .bipush n => decide ((Int8.ofInt n).toInt32 = cn)
  | .sipush n => decide ((Int16.ofInt n).toInt32 = cn)
  | .iinc _ n => decide (Int32.ofInt n = cn)
  | .tableswitch d lo hi os => decide (hi + 1 - lo = (os.toList.length : Int)) && (decide (0 ≤ (pc : Int) + d) && os.toList.all fun o => decide (0 ≤ (pc : Int) + o))
  | .lookupswitch d ps => (ps.toList.zip (ps.toList.drop 1)).all (fun (a, next) => decide (a.1 < next.1)) && (decide (0 ≤ (pc : Int) + d) && ps.toList.all fun q => decide (0 ≤ (pc : Int) + q.2))
  | _ => true
def lt_chk (b : ByteArray) (e : Nat × Instr × Nat × Bool × Nat × Int32) : Bool :=
  decide (decode b e.1 = .ok (e.2.1, lt_len e.2.1 (e.2.2.1 - e.1))) && (Nat.beq e.2.2.1 (e.1 + lt_len e.2.1 (e.2.2.1 - e.1)) && lt_chi e.1 e.2.2.2.2.1 e.2.2.2.2.2 e.2.1)
def lt_chm (m : Nat) : Bool := (lt_body m).all fun ch => ch.2.all fun e => lt_chk (lt_by m) e
theorem lt_ck0 : lt_chm 0 = true := by decide +kernel
theorem lt_ck1 : lt_chm 1 = true := by decide +kernel
theorem lt_ck2 : lt_chm 2 = true := by decide +kernel
theorem lt_ck3 : lt_chm 3 = true := by decide +kernel
theorem lt_ck4 : lt_chm 4 = true := by decide +kernel
theorem lt_ck5 : lt_chm 5 = true := by decide +kernel
theorem lt_ck6 : lt_chm 6 = true := by decide +kernel
theorem lt_ck7 : lt_chm 7 = true := by decide +kernel
theorem lt_ck8 : lt_chm 8 = true := by decide +kernel
theorem lt_ck9 : lt_chm 9 = true := by decide +kernel
theorem lt_ck10 : lt_chm 10 = true := by decide +kernel
theorem lt_ck11 : lt_chm 11 = true := by decide +kernel
theorem lt_ck12 : lt_chm 12 = true := by decide +kernel
theorem lt_ck13 : lt_chm 13 = true := by decide +kernel
theorem lt_ck14 : lt_chm 14 = true := by decide +kernel
theorem lt_ck15 : lt_chm 15 = true := by decide +kernel
theorem lt_ck16 : lt_chm 16 = true := by decide +kernel
theorem lt_ck17 : lt_chm 17 = true := by decide +kernel
theorem lt_ck18 : lt_chm 18 = true := by decide +kernel
theorem lt_ck19 : lt_chm 19 = true := by decide +kernel
theorem lt_ck20 : lt_chm 20 = true := by decide +kernel
theorem lt_ck21 : lt_chm 21 = true := by decide +kernel
theorem lt_ck22 : lt_chm 22 = true := by decide +kernel
theorem lt_ck23 : lt_chm 23 = true := by decide +kernel
theorem lt_ck24 : lt_chm 24 = true := by decide +kernel
theorem lt_ck25 : lt_chm 25 = true := by decide +kernel
theorem lt_ck26 : lt_chm 26 = true := by decide +kernel
theorem lt_ck27 : lt_chm 27 = true := by decide +kernel
theorem lt_ck28 : lt_chm 28 = true := by decide +kernel
theorem lt_ck29 : lt_chm 29 = true := by decide +kernel
theorem lt_ck30 : lt_chm 30 = true := by decide +kernel
theorem lt_ck31 : lt_chm 31 = true := by decide +kernel
theorem lt_ck32 : lt_chm 32 = true := by decide +kernel
theorem lt_ck33 : lt_chm 33 = true := by decide +kernel
theorem lt_ck34 : lt_chm 34 = true := by decide +kernel
theorem lt_ck35 : lt_chm 35 = true := by decide +kernel
theorem lt_ck36 : lt_chm 36 = true := by decide +kernel
theorem lt_ck37 : lt_chm 37 = true := by decide +kernel
theorem lt_ck38 : lt_chm 38 = true := by decide +kernel
theorem lt_ck39 : lt_chm 39 = true := by decide +kernel
theorem lt_ck40 : lt_chm 40 = true := by decide +kernel
theorem lt_ck41 : lt_chm 41 = true := by decide +kernel
theorem lt_ck42 : lt_chm 42 = true := by decide +kernel
theorem lt_ck43 : lt_chm 43 = true := by decide +kernel
theorem lt_ck44 : lt_chm 44 = true := by decide +kernel
theorem lt_ck45 : lt_chm 45 = true := by decide +kernel
theorem lt_ck46 : lt_chm 46 = true := by decide +kernel
theorem lt_ck47 : lt_chm 47 = true := by decide +kernel
theorem lt_ck48 : lt_chm 48 = true := by decide +kernel
theorem lt_ck49 : lt_chm 49 = true := by decide +kernel
theorem lt_ck50 : lt_chm 50 = true := by decide +kernel
theorem lt_ck51 : lt_chm 51 = true := by decide +kernel
theorem lt_ck52 : lt_chm 52 = true := by decide +kernel
theorem lt_ck53 : lt_chm 53 = true := by decide +kernel
theorem lt_ck54 : lt_chm 54 = true := by decide +kernel
theorem lt_ck55 : lt_chm 55 = true := by decide +kernel
theorem lt_ck56 : lt_chm 56 = true := by decide +kernel
theorem lt_ck57 : lt_chm 57 = true := by decide +kernel
theorem lt_ck58 : lt_chm 58 = true := by decide +kernel
theorem lt_ck59 : lt_chm 59 = true := by decide +kernel
theorem lt_ck60 : lt_chm 60 = true := by decide +kernel
theorem lt_ck61 : lt_chm 61 = true := by decide +kernel
theorem lt_ck62 : lt_chm 62 = true := by decide +kernel
theorem lt_ck63 : lt_chm 63 = true := by decide +kernel
theorem lt_ck64 : lt_chm 64 = true := by decide +kernel
theorem lt_ck65 : lt_chm 65 = true := by decide +kernel
theorem lt_ck66 : lt_chm 66 = true := by decide +kernel
theorem lt_ck67 : lt_chm 67 = true := by decide +kernel
theorem lt_ck68 : lt_chm 68 = true := by decide +kernel
theorem lt_ck69 : lt_chm 69 = true := by decide +kernel
theorem lt_ck70 : lt_chm 70 = true := by decide +kernel
theorem lt_ck71 : lt_chm 71 = true := by decide +kernel
theorem lt_ck72 : lt_chm 72 = true := by decide +kernel
theorem lt_ck73 : lt_chm 73 = true := by decide +kernel
theorem lt_ck74 : lt_chm 74 = true := by decide +kernel
theorem lt_ck75 : lt_chm 75 = true := by decide +kernel
theorem lt_ck76 : lt_chm 76 = true := by decide +kernel
theorem lt_ck77 : lt_chm 77 = true := by decide +kernel
theorem lt_ck78 : lt_chm 78 = true := by decide +kernel
theorem lt_ck79 : lt_chm 79 = true := by decide +kernel
theorem lt_ck80 : lt_chm 80 = true := by decide +kernel
theorem lt_ck81 : lt_chm 81 = true := by decide +kernel
theorem lt_ck82 : lt_chm 82 = true := by decide +kernel
theorem lt_ck83 : lt_chm 83 = true := by decide +kernel
theorem lt_ck84 : lt_chm 84 = true := by decide +kernel
theorem lt_ck85 : lt_chm 85 = true := by decide +kernel
theorem lt_ck86 : lt_chm 86 = true := by decide +kernel
theorem lt_ck87 : lt_chm 87 = true := by decide +kernel
theorem lt_ck88 : lt_chm 88 = true := by decide +kernel
theorem lt_ck89 : lt_chm 89 = true := by decide +kernel
theorem lt_ck90 : lt_chm 90 = true := by decide +kernel
theorem lt_ck91 : lt_chm 91 = true := by decide +kernel
theorem lt_ck92 : lt_chm 92 = true := by decide +kernel
theorem lt_ck93 : lt_chm 93 = true := by decide +kernel
theorem lt_ck94 : lt_chm 94 = true := by decide +kernel
theorem lt_ck95 : lt_chm 95 = true := by decide +kernel
theorem lt_ck96 : lt_chm 96 = true := by decide +kernel
theorem lt_ck97 : lt_chm 97 = true := by decide +kernel
theorem lt_ck98 : lt_chm 98 = true := by decide +kernel
theorem lt_ck99 : lt_chm 99 = true := by decide +kernel
theorem lt_ck100 : lt_chm 100 = true := by decide +kernel
theorem lt_ck101 : lt_chm 101 = true := by decide +kernel
theorem lt_ck102 : lt_chm 102 = true := by decide +kernel
theorem lt_ck103 : lt_chm 103 = true := by decide +kernel
theorem lt_ck104 : lt_chm 104 = true := by decide +kernel
theorem lt_ck105 : lt_chm 105 = true := by decide +kernel
theorem lt_ck106 : lt_chm 106 = true := by decide +kernel
theorem lt_ck107 : lt_chm 107 = true := by decide +kernel
theorem lt_ck108 : lt_chm 108 = true := by decide +kernel
theorem lt_ck109 : lt_chm 109 = true := by decide +kernel
theorem lt_ck110 : lt_chm 110 = true := by decide +kernel
theorem lt_ck111 : lt_chm 111 = true := by decide +kernel
theorem lt_ck112 : lt_chm 112 = true := by decide +kernel
theorem lt_ck113 : lt_chm 113 = true := by decide +kernel
theorem lt_ck114 : lt_chm 114 = true := by decide +kernel
theorem lt_ck115 : lt_chm 115 = true := by decide +kernel
theorem lt_ck116 : lt_chm 116 = true := by decide +kernel
theorem lt_ck117 : lt_chm 117 = true := by decide +kernel
theorem lt_ck118 : lt_chm 118 = true := by decide +kernel
theorem lt_ck119 : lt_chm 119 = true := by decide +kernel
theorem lt_ck120 : lt_chm 120 = true := by decide +kernel
theorem lt_ck121 : lt_chm 121 = true := by decide +kernel
theorem lt_ck122 : lt_chm 122 = true := by decide +kernel
theorem lt_ck123 : lt_chm 123 = true := by decide +kernel
theorem lt_ck124 : lt_chm 124 = true := by decide +kernel
theorem lt_ck125 : lt_chm 125 = true := by decide +kernel
theorem lt_ck126 : lt_chm 126 = true := by decide +kernel
theorem lt_ck127 : lt_chm 127 = true := by decide +kernel
theorem lt_ck128 : lt_chm 128 = true := by decide +kernel
theorem lt_ck129 : lt_chm 129 = true := by decide +kernel
theorem lt_ck130 : lt_chm 130 = true := by decide +kernel
theorem lt_ck131 : lt_chm 131 = true := by decide +kernel
theorem lt_ck132 : lt_chm 132 = true := by decide +kernel
theorem lt_ck133 : lt_chm 133 = true := by decide +kernel
theorem lt_ck134 : lt_chm 134 = true := by decide +kernel
theorem lt_ck135 : lt_chm 135 = true := by decide +kernel
theorem lt_ck136 : lt_chm 136 = true := by decide +kernel
theorem lt_ck137 : lt_chm 137 = true := by decide +kernel
theorem lt_ck138 : lt_chm 138 = true := by decide +kernel
theorem lt_ck139 : lt_chm 139 = true := by decide +kernel
theorem lt_ck140 : lt_chm 140 = true := by decide +kernel
theorem lt_ck141 : lt_chm 141 = true := by decide +kernel
theorem lt_ck142 : lt_chm 142 = true := by decide +kernel
theorem lt_ck143 : lt_chm 143 = true := by decide +kernel
theorem lt_ck144_0 : (lt_B144_0.all fun e => lt_chk (lt_by 144) e) = true := by decide +kernel
theorem lt_ck144_1 : (lt_B144_1.all fun e => lt_chk (lt_by 144) e) = true := by decide +kernel
theorem lt_ck144_2 : (lt_B144_2.all fun e => lt_chk (lt_by 144) e) = true := by decide +kernel
theorem lt_ck144_3 : (lt_B144_3.all fun e => lt_chk (lt_by 144) e) = true := by decide +kernel
theorem lt_ck144_4 : (lt_B144_4.all fun e => lt_chk (lt_by 144) e) = true := by decide +kernel
theorem lt_ck144_5 : (lt_B144_5.all fun e => lt_chk (lt_by 144) e) = true := by decide +kernel
theorem lt_ck144_6 : (lt_B144_6.all fun e => lt_chk (lt_by 144) e) = true := by decide +kernel
theorem lt_ck144_7 : (lt_B144_7.all fun e => lt_chk (lt_by 144) e) = true := by decide +kernel
theorem lt_ck144_8 : (lt_B144_8.all fun e => lt_chk (lt_by 144) e) = true := by decide +kernel
theorem lt_ck144_9 : (lt_B144_9.all fun e => lt_chk (lt_by 144) e) = true := by decide +kernel
theorem lt_ck144_10 : (lt_B144_10.all fun e => lt_chk (lt_by 144) e) = true := by decide +kernel
theorem lt_ck144_11 : (lt_B144_11.all fun e => lt_chk (lt_by 144) e) = true := by decide +kernel
theorem lt_ck144_12 : (lt_B144_12.all fun e => lt_chk (lt_by 144) e) = true := by decide +kernel
theorem lt_ck144_13 : (lt_B144_13.all fun e => lt_chk (lt_by 144) e) = true := by decide +kernel
theorem lt_ck144_14 : (lt_B144_14.all fun e => lt_chk (lt_by 144) e) = true := by decide +kernel
theorem lt_ck144_15 : (lt_B144_15.all fun e => lt_chk (lt_by 144) e) = true := by decide +kernel
theorem lt_ck144_16 : (lt_B144_16.all fun e => lt_chk (lt_by 144) e) = true := by decide +kernel
theorem lt_ck144_17 : (lt_B144_17.all fun e => lt_chk (lt_by 144) e) = true := by decide +kernel
theorem lt_ck144_18 : (lt_B144_18.all fun e => lt_chk (lt_by 144) e) = true := by decide +kernel
theorem lt_ck144_19 : (lt_B144_19.all fun e => lt_chk (lt_by 144) e) = true := by decide +kernel
theorem lt_ck144_20 : (lt_B144_20.all fun e => lt_chk (lt_by 144) e) = true := by decide +kernel
theorem lt_ck144_21 : (lt_B144_21.all fun e => lt_chk (lt_by 144) e) = true := by decide +kernel
theorem lt_ck144_22 : (lt_B144_22.all fun e => lt_chk (lt_by 144) e) = true := by decide +kernel
theorem lt_ck144_23 : (lt_B144_23.all fun e => lt_chk (lt_by 144) e) = true := by decide +kernel
theorem lt_ck144_24 : (lt_B144_24.all fun e => lt_chk (lt_by 144) e) = true := by decide +kernel
theorem lt_ck144 : lt_chm 144 = true := by
  show (lt_B144.all fun ch => ch.2.all fun e => lt_chk (lt_by 144) e) = true
  simp only [lt_B144, List.all_cons, List.all_nil, Bool.and_true, lt_ck144_0, lt_ck144_1, lt_ck144_2, lt_ck144_3, lt_ck144_4, lt_ck144_5, lt_ck144_6, lt_ck144_7, lt_ck144_8, lt_ck144_9, lt_ck144_10, lt_ck144_11, lt_ck144_12, lt_ck144_13, lt_ck144_14, lt_ck144_15, lt_ck144_16, lt_ck144_17, lt_ck144_18, lt_ck144_19, lt_ck144_20, lt_ck144_21, lt_ck144_22, lt_ck144_23, lt_ck144_24]
theorem lt_ck145 : lt_chm 145 = true := by decide +kernel
theorem lt_ck146 : lt_chm 146 = true := by decide +kernel
theorem lt_ck147 : lt_chm 147 = true := by decide +kernel
theorem lt_ck148 : lt_chm 148 = true := by decide +kernel
theorem lt_ck149 : lt_chm 149 = true := by decide +kernel
theorem lt_cg0 : ∀ m ∈ [0, 1, 2, 3, 4, 5, 6, 7, 8, 9, 10, 11, 12, 13, 14, 15], lt_chm m = true := List.forall_mem_cons.mpr ⟨lt_ck0, List.forall_mem_cons.mpr ⟨lt_ck1, List.forall_mem_cons.mpr ⟨lt_ck2, List.forall_mem_cons.mpr ⟨lt_ck3, List.forall_mem_cons.mpr ⟨lt_ck4, List.forall_mem_cons.mpr ⟨lt_ck5, List.forall_mem_cons.mpr ⟨lt_ck6, List.forall_mem_cons.mpr ⟨lt_ck7, List.forall_mem_cons.mpr ⟨lt_ck8, List.forall_mem_cons.mpr ⟨lt_ck9, List.forall_mem_cons.mpr ⟨lt_ck10, List.forall_mem_cons.mpr ⟨lt_ck11, List.forall_mem_cons.mpr ⟨lt_ck12, List.forall_mem_cons.mpr ⟨lt_ck13, List.forall_mem_cons.mpr ⟨lt_ck14, List.forall_mem_cons.mpr ⟨lt_ck15, fun _ h => absurd h List.not_mem_nil⟩⟩⟩⟩⟩⟩⟩⟩⟩⟩⟩⟩⟩⟩⟩⟩
theorem lt_cg1 : ∀ m ∈ [16, 17, 18, 19, 20, 21, 22, 23, 24, 25, 26, 27, 28, 29, 30, 31], lt_chm m = true := List.forall_mem_cons.mpr ⟨lt_ck16, List.forall_mem_cons.mpr ⟨lt_ck17, List.forall_mem_cons.mpr ⟨lt_ck18, List.forall_mem_cons.mpr ⟨lt_ck19, List.forall_mem_cons.mpr ⟨lt_ck20, List.forall_mem_cons.mpr ⟨lt_ck21, List.forall_mem_cons.mpr ⟨lt_ck22, List.forall_mem_cons.mpr ⟨lt_ck23, List.forall_mem_cons.mpr ⟨lt_ck24, List.forall_mem_cons.mpr ⟨lt_ck25, List.forall_mem_cons.mpr ⟨lt_ck26, List.forall_mem_cons.mpr ⟨lt_ck27, List.forall_mem_cons.mpr ⟨lt_ck28, List.forall_mem_cons.mpr ⟨lt_ck29, List.forall_mem_cons.mpr ⟨lt_ck30, List.forall_mem_cons.mpr ⟨lt_ck31, fun _ h => absurd h List.not_mem_nil⟩⟩⟩⟩⟩⟩⟩⟩⟩⟩⟩⟩⟩⟩⟩⟩
theorem lt_cg2 : ∀ m ∈ [32, 33, 34, 35, 36, 37, 38, 39, 40, 41, 42, 43, 44, 45, 46, 47], lt_chm m = true := List.forall_mem_cons.mpr ⟨lt_ck32, List.forall_mem_cons.mpr ⟨lt_ck33, List.forall_mem_cons.mpr ⟨lt_ck34, List.forall_mem_cons.mpr ⟨lt_ck35, List.forall_mem_cons.mpr ⟨lt_ck36, List.forall_mem_cons.mpr ⟨lt_ck37, List.forall_mem_cons.mpr ⟨lt_ck38, List.forall_mem_cons.mpr ⟨lt_ck39, List.forall_mem_cons.mpr ⟨lt_ck40, List.forall_mem_cons.mpr ⟨lt_ck41, List.forall_mem_cons.mpr ⟨lt_ck42, List.forall_mem_cons.mpr ⟨lt_ck43, List.forall_mem_cons.mpr ⟨lt_ck44, List.forall_mem_cons.mpr ⟨lt_ck45, List.forall_mem_cons.mpr ⟨lt_ck46, List.forall_mem_cons.mpr ⟨lt_ck47, fun _ h => absurd h List.not_mem_nil⟩⟩⟩⟩⟩⟩⟩⟩⟩⟩⟩⟩⟩⟩⟩⟩
theorem lt_cg3 : ∀ m ∈ [48, 49, 50, 51, 52, 53, 54, 55, 56, 57, 58, 59, 60, 61, 62, 63], lt_chm m = true := List.forall_mem_cons.mpr ⟨lt_ck48, List.forall_mem_cons.mpr ⟨lt_ck49, List.forall_mem_cons.mpr ⟨lt_ck50, List.forall_mem_cons.mpr ⟨lt_ck51, List.forall_mem_cons.mpr ⟨lt_ck52, List.forall_mem_cons.mpr ⟨lt_ck53, List.forall_mem_cons.mpr ⟨lt_ck54, List.forall_mem_cons.mpr ⟨lt_ck55, List.forall_mem_cons.mpr ⟨lt_ck56, List.forall_mem_cons.mpr ⟨lt_ck57, List.forall_mem_cons.mpr ⟨lt_ck58, List.forall_mem_cons.mpr ⟨lt_ck59, List.forall_mem_cons.mpr ⟨lt_ck60, List.forall_mem_cons.mpr ⟨lt_ck61, List.forall_mem_cons.mpr ⟨lt_ck62, List.forall_mem_cons.mpr ⟨lt_ck63, fun _ h => absurd h List.not_mem_nil⟩⟩⟩⟩⟩⟩⟩⟩⟩⟩⟩⟩⟩⟩⟩⟩
theorem lt_cg4 : ∀ m ∈ [64, 65, 66, 67, 68, 69, 70, 71, 72, 73, 74, 75, 76, 77, 78, 79], lt_chm m = true := List.forall_mem_cons.mpr ⟨lt_ck64, List.forall_mem_cons.mpr ⟨lt_ck65, List.forall_mem_cons.mpr ⟨lt_ck66, List.forall_mem_cons.mpr ⟨lt_ck67, List.forall_mem_cons.mpr ⟨lt_ck68, List.forall_mem_cons.mpr ⟨lt_ck69, List.forall_mem_cons.mpr ⟨lt_ck70, List.forall_mem_cons.mpr ⟨lt_ck71, List.forall_mem_cons.mpr ⟨lt_ck72, List.forall_mem_cons.mpr ⟨lt_ck73, List.forall_mem_cons.mpr ⟨lt_ck74, List.forall_mem_cons.mpr ⟨lt_ck75, List.forall_mem_cons.mpr ⟨lt_ck76, List.forall_mem_cons.mpr ⟨lt_ck77, List.forall_mem_cons.mpr ⟨lt_ck78, List.forall_mem_cons.mpr ⟨lt_ck79, fun _ h => absurd h List.not_mem_nil⟩⟩⟩⟩⟩⟩⟩⟩⟩⟩⟩⟩⟩⟩⟩⟩
theorem lt_cg5 : ∀ m ∈ [80, 81, 82, 83, 84, 85, 86, 87, 88, 89, 90, 91, 92, 93, 94, 95], lt_chm m = true := List.forall_mem_cons.mpr ⟨lt_ck80, List.forall_mem_cons.mpr ⟨lt_ck81, List.forall_mem_cons.mpr ⟨lt_ck82, List.forall_mem_cons.mpr ⟨lt_ck83, List.forall_mem_cons.mpr ⟨lt_ck84, List.forall_mem_cons.mpr ⟨lt_ck85, List.forall_mem_cons.mpr ⟨lt_ck86, List.forall_mem_cons.mpr ⟨lt_ck87, List.forall_mem_cons.mpr ⟨lt_ck88, List.forall_mem_cons.mpr ⟨lt_ck89, List.forall_mem_cons.mpr ⟨lt_ck90, List.forall_mem_cons.mpr ⟨lt_ck91, List.forall_mem_cons.mpr ⟨lt_ck92, List.forall_mem_cons.mpr ⟨lt_ck93, List.forall_mem_cons.mpr ⟨lt_ck94, List.forall_mem_cons.mpr ⟨lt_ck95, fun _ h => absurd h List.not_mem_nil⟩⟩⟩⟩⟩⟩⟩⟩⟩⟩⟩⟩⟩⟩⟩⟩
theorem lt_cg6 : ∀ m ∈ [96, 97, 98, 99, 100, 101, 102, 103, 104, 105, 106, 107, 108, 109, 110, 111], lt_chm m = true := List.forall_mem_cons.mpr ⟨lt_ck96, List.forall_mem_cons.mpr ⟨lt_ck97, List.forall_mem_cons.mpr ⟨lt_ck98, List.forall_mem_cons.mpr ⟨lt_ck99, List.forall_mem_cons.mpr ⟨lt_ck100, List.forall_mem_cons.mpr ⟨lt_ck101, List.forall_mem_cons.mpr ⟨lt_ck102, List.forall_mem_cons.mpr ⟨lt_ck103, List.forall_mem_cons.mpr ⟨lt_ck104, List.forall_mem_cons.mpr ⟨lt_ck105, List.forall_mem_cons.mpr ⟨lt_ck106, List.forall_mem_cons.mpr ⟨lt_ck107, List.forall_mem_cons.mpr ⟨lt_ck108, List.forall_mem_cons.mpr ⟨lt_ck109, List.forall_mem_cons.mpr ⟨lt_ck110, List.forall_mem_cons.mpr ⟨lt_ck111, fun _ h => absurd h List.not_mem_nil⟩⟩⟩⟩⟩⟩⟩⟩⟩⟩⟩⟩⟩⟩⟩⟩
theorem lt_cg7 : ∀ m ∈ [112, 113, 114, 115, 116, 117, 118, 119, 120, 121, 122, 123, 124, 125, 126, 127], lt_chm m = true := List.forall_mem_cons.mpr ⟨lt_ck112, List.forall_mem_cons.mpr ⟨lt_ck113, List.forall_mem_cons.mpr ⟨lt_ck114, List.forall_mem_cons.mpr ⟨lt_ck115, List.forall_mem_cons.mpr ⟨lt_ck116, List.forall_mem_cons.mpr ⟨lt_ck117, List.forall_mem_cons.mpr ⟨lt_ck118, List.forall_mem_cons.mpr ⟨lt_ck119, List.forall_mem_cons.mpr ⟨lt_ck120, List.forall_mem_cons.mpr ⟨lt_ck121, List.forall_mem_cons.mpr ⟨lt_ck122, List.forall_mem_cons.mpr ⟨lt_ck123, List.forall_mem_cons.mpr ⟨lt_ck124, List.forall_mem_cons.mpr ⟨lt_ck125, List.forall_mem_cons.mpr ⟨lt_ck126, List.forall_mem_cons.mpr ⟨lt_ck127, fun _ h => absurd h List.not_mem_nil⟩⟩⟩⟩⟩⟩⟩⟩⟩⟩⟩⟩⟩⟩⟩⟩
theorem lt_cg8 : ∀ m ∈ [128, 129, 130, 131, 132, 133, 134, 135, 136, 137, 138, 139, 140, 141, 142, 143], lt_chm m = true := List.forall_mem_cons.mpr ⟨lt_ck128, List.forall_mem_cons.mpr ⟨lt_ck129, List.forall_mem_cons.mpr ⟨lt_ck130, List.forall_mem_cons.mpr ⟨lt_ck131, List.forall_mem_cons.mpr ⟨lt_ck132, List.forall_mem_cons.mpr ⟨lt_ck133, List.forall_mem_cons.mpr ⟨lt_ck134, List.forall_mem_cons.mpr ⟨lt_ck135, List.forall_mem_cons.mpr ⟨lt_ck136, List.forall_mem_cons.mpr ⟨lt_ck137, List.forall_mem_cons.mpr ⟨lt_ck138, List.forall_mem_cons.mpr ⟨lt_ck139, List.forall_mem_cons.mpr ⟨lt_ck140, List.forall_mem_cons.mpr ⟨lt_ck141, List.forall_mem_cons.mpr ⟨lt_ck142, List.forall_mem_cons.mpr ⟨lt_ck143, fun _ h => absurd h List.not_mem_nil⟩⟩⟩⟩⟩⟩⟩⟩⟩⟩⟩⟩⟩⟩⟩⟩
theorem lt_cg9 : ∀ m ∈ [144, 145, 146, 147, 148, 149], lt_chm m = true := List.forall_mem_cons.mpr ⟨lt_ck144, List.forall_mem_cons.mpr ⟨lt_ck145, List.forall_mem_cons.mpr ⟨lt_ck146, List.forall_mem_cons.mpr ⟨lt_ck147, List.forall_mem_cons.mpr ⟨lt_ck148, List.forall_mem_cons.mpr ⟨lt_ck149, fun _ h => absurd h List.not_mem_nil⟩⟩⟩⟩⟩⟩
theorem lt_cgs : ∀ m ∈ [0, 1, 2, 3, 4, 5, 6, 7, 8, 9, 10, 11, 12, 13, 14, 15] ++ ([16, 17, 18, 19, 20, 21, 22, 23, 24, 25, 26, 27, 28, 29, 30, 31] ++ ([32, 33, 34, 35, 36, 37, 38, 39, 40, 41, 42, 43, 44, 45, 46, 47] ++ ([48, 49, 50, 51, 52, 53, 54, 55, 56, 57, 58, 59, 60, 61, 62, 63] ++ ([64, 65, 66, 67, 68, 69, 70, 71, 72, 73, 74, 75, 76, 77, 78, 79] ++ ([80, 81, 82, 83, 84, 85, 86, 87, 88, 89, 90, 91, 92, 93, 94, 95] ++ ([96, 97, 98, 99, 100, 101, 102, 103, 104, 105, 106, 107, 108, 109, 110, 111] ++ ([112, 113, 114, 115, 116, 117, 118, 119, 120, 121, 122, 123, 124, 125, 126, 127] ++ ([128, 129, 130, 131, 132, 133, 134, 135, 136, 137, 138, 139, 140, 141, 142, 143] ++ ([144, 145, 146, 147, 148, 149]))))))))), lt_chm m = true := List.forall_mem_append.mpr ⟨lt_cg0, List.forall_mem_append.mpr ⟨lt_cg1, List.forall_mem_append.mpr ⟨lt_cg2, List.forall_mem_append.mpr ⟨lt_cg3, List.forall_mem_append.mpr ⟨lt_cg4, List.forall_mem_append.mpr ⟨lt_cg5, List.forall_mem_append.mpr ⟨lt_cg6, List.forall_mem_append.mpr ⟨lt_cg7, List.forall_mem_append.mpr ⟨lt_cg8, lt_cg9⟩⟩⟩⟩⟩⟩⟩⟩⟩
theorem lt_cka {m : Nat} (h : m < 150) : lt_chm m = true := lt_cgs m (by
  have e : [0, 1, 2, 3, 4, 5, 6, 7, 8, 9, 10, 11, 12, 13, 14, 15] ++ ([16, 17, 18, 19, 20, 21, 22, 23, 24, 25, 26, 27, 28, 29, 30, 31] ++ ([32, 33, 34, 35, 36, 37, 38, 39, 40, 41, 42, 43, 44, 45, 46, 47] ++ ([48, 49, 50, 51, 52, 53, 54, 55, 56, 57, 58, 59, 60, 61, 62, 63] ++ ([64, 65, 66, 67, 68, 69, 70, 71, 72, 73, 74, 75, 76, 77, 78, 79] ++ ([80, 81, 82, 83, 84, 85, 86, 87, 88, 89, 90, 91, 92, 93, 94, 95] ++ ([96, 97, 98, 99, 100, 101, 102, 103, 104, 105, 106, 107, 108, 109, 110, 111] ++ ([112, 113, 114, 115, 116, 117, 118, 119, 120, 121, 122, 123, 124, 125, 126, 127] ++ ([128, 129, 130, 131, 132, 133, 134, 135, 136, 137, 138, 139, 140, 141, 142, 143] ++ ([144, 145, 146, 147, 148, 149]))))))))) = List.range 150 := by decide +kernel
  rw [e]; exact List.mem_range.mpr h)
theorem lt_code_ok {m pc nx tg : Nat} {i : Instr} {fl : Bool} {cn : Int32} (hm : m < 150) (h : lt_code m pc = some (i, nx, fl, tg, cn)) :
    decode (lt_by m) pc = .ok (i, lt_len i (nx - pc)) ∧ nx = pc + lt_len i (nx - pc) ∧ lt_chi pc tg cn i = true := by
  unfold lt_code at h
  split at h
  · next l hl =>
    have h1 := lt_cka hm
    unfold lt_chm at h1
    have h2 := List.all_eq_true.mp (List.all_eq_true.mp h1 _ (lt_find_mem hl)) _ (lt_find_mem h)
    unfold lt_chk at h2
    rw [Bool.and_eq_true, Bool.and_eq_true] at h2
    exact ⟨of_decide_eq_true h2.1, Nat.eq_of_beq_eq_true h2.2.1, h2.2.2⟩
  · cases h
