/-! the methods: names, bytes, answers, room -/
def kt_nm : Nat → MethodName := fun y => bif Nat.ble y 94 then (bif Nat.ble y 46 then (bif Nat.ble y 22 then (bif Nat.ble y 10 then (bif Nat.ble y 4 then (bif Nat.ble y 1 then (bif Nat.ble y 0 then (yX0_init) else (yX0_begin)) else (bif Nat.ble y 2 then (yX0_weigh) else (bif Nat.ble y 3 then (yX1_init) else (yX1_kindNumber)))) else (bif Nat.ble y 7 then (bif Nat.ble y 5 then (yX1_measured) else (bif Nat.ble y 6 then (yX1_told) else (yX2_init))) else (bif Nat.ble y 8 then (yX2_kindNumber) else (bif Nat.ble y 9 then (yX2_hasStation) else (yX2_takeParts))))) else (bif Nat.ble y 16 then (bif Nat.ble y 13 then (bif Nat.ble y 11 then (yX2_takeTurned) else (bif Nat.ble y 12 then (yX2_measured) else (yX2_drowned))) else (bif Nat.ble y 14 then (yX2_told) else (bif Nat.ble y 15 then (yX2_toldAsHull) else (yX2_launched)))) else (bif Nat.ble y 19 then (bif Nat.ble y 17 then (yX3_init) else (bif Nat.ble y 18 then (yX3_hasWord) else (yX3_owedBy))) else (bif Nat.ble y 20 then (yX4_init) else (bif Nat.ble y 21 then (yX4_read) else (yX4_readWord)))))) else (bif Nat.ble y 34 then (bif Nat.ble y 28 then (bif Nat.ble y 25 then (bif Nat.ble y 23 then (yX4_readFactor) else (bif Nat.ble y 24 then (yX4_readNumber) else (yX4_takes))) else (bif Nat.ble y 26 then (yX4_code) else (bif Nat.ble y 27 then (yX4_failAt) else (yX4_isDigit)))) else (bif Nat.ble y 31 then (bif Nat.ble y 29 then (yX4_measureOf) else (bif Nat.ble y 30 then (yX5_init) else (yX5_has))) else (bif Nat.ble y 32 then (yX5_allows) else (bif Nat.ble y 33 then (yX5_costOf) else (yX5_freeWorth))))) else (bif Nat.ble y 40 then (bif Nat.ble y 37 then (bif Nat.ble y 35 then (yX5_firstBroken) else (bif Nat.ble y 36 then (yX6_init) else (yX6_kindNumber))) else (bif Nat.ble y 38 then (yX6_measured) else (bif Nat.ble y 39 then (yX6_told) else (yX6_launched)))) else (bif Nat.ble y 43 then (bif Nat.ble y 41 then (yX7_init) else (bif Nat.ble y 42 then (yX7_clear) else (yX7_seek))) else (bif Nat.ble y 44 then (yX7_run) else (bif Nat.ble y 45 then (yX7_lossOf) else (yX7_leastLoss))))))) else (bif Nat.ble y 70 then (bif Nat.ble y 58 then (bif Nat.ble y 52 then (bif Nat.ble y 49 then (bif Nat.ble y 47 then (yX7_countAll) else (bif Nat.ble y 48 then (yX7_countOwing) else (yX7_firstShape))) else (bif Nat.ble y 50 then (yX7_nextShape) else (bif Nat.ble y 51 then (yX8_init) else (yX8_begin)))) else (bif Nat.ble y 55 then (bif Nat.ble y 53 then (yX8_store) else (bif Nat.ble y 54 then (yX8_hasCells) else (yX8_faultOfCells))) else (bif Nat.ble y 56 then (yX8_hasOnlyParts) else (bif Nat.ble y 57 then (yX9_init) else (yX9_leave))))) else (bif Nat.ble y 64 then (bif Nat.ble y 61 then (bif Nat.ble y 59 then (yX10_init) else (bif Nat.ble y 60 then (yX10_clear) else (yX10_addNumber))) else (bif Nat.ble y 62 then (yX10_addLetter) else (bif Nat.ble y 63 then (yX10_makes) else (yX11_init)))) else (bif Nat.ble y 67 then (bif Nat.ble y 65 then (yX11_hull) else (bif Nat.ble y 66 then (yX11_ofHull) else (yX11_station))) else (bif Nat.ble y 68 then (yX11_build) else (bif Nat.ble y 69 then (yX11_law) else (yX11_words)))))) else (bif Nat.ble y 82 then (bif Nat.ble y 76 then (bif Nat.ble y 73 then (bif Nat.ble y 71 then (yX11_owes) else (bif Nat.ble y 72 then (yX11_word) else (yX11_need))) else (bif Nat.ble y 74 then (yX11_broken) else (bif Nat.ble y 75 then (yX11_worth) else (yX11_risk)))) else (bif Nat.ble y 79 then (bif Nat.ble y 77 then (yX11_best) else (bif Nat.ble y 78 then (yX11_shape) else (yX11_shapes))) else (bif Nat.ble y 80 then (yX11_without) else (bif Nat.ble y 81 then (yX11_mend) else (yX11_crowd))))) else (bif Nat.ble y 88 then (bif Nat.ble y 85 then (bif Nat.ble y 83 then (yX11_step) else (bif Nat.ble y 84 then (yX11_trim) else (yX11_route))) else (bif Nat.ble y 86 then (yX11_paid) else (bif Nat.ble y 87 then (yX11_sheet) else (yX11_lose)))) else (bif Nat.ble y 91 then (bif Nat.ble y 89 then (yX11_put) else (bif Nat.ble y 90 then (yX11_cell) else (yX11_copy))) else (bif Nat.ble y 92 then (yX11_tell) else (bif Nat.ble y 93 then (yX11_launch) else (yX11_as)))))))) else (bif Nat.ble y 141 then (bif Nat.ble y 117 then (bif Nat.ble y 105 then (bif Nat.ble y 99 then (bif Nat.ble y 96 then (bif Nat.ble y 95 then (yX11_trace) else (yX11_fault)) else (bif Nat.ble y 97 then (yX11_many) else (bif Nat.ble y 98 then (yX11_hullAt) else (yX11_lawAt)))) else (bif Nat.ble y 102 then (bif Nat.ble y 100 then (yX11_isLawOrNone) else (bif Nat.ble y 101 then (yX11_sheetAt) else (yX11_faulted))) else (bif Nat.ble y 103 then (yX11_worthBy) else (bif Nat.ble y 104 then (yX11_bestBy) else (yX11_hullThatGoes))))) else (bif Nat.ble y 111 then (bif Nat.ble y 108 then (bif Nat.ble y 106 then (yX11_wordsOfAll) else (bif Nat.ble y 107 then (yX11_newHull) else (yX11_isOfKind))) else (bif Nat.ble y 109 then (yX11_isKind) else (bif Nat.ble y 110 then (yX11_isLane) else (yX11_isPart)))) else (bif Nat.ble y 114 then (bif Nat.ble y 112 then (yX11_areShapes) else (bif Nat.ble y 113 then (yX11_commonDivisor) else (yX12_init))) else (bif Nat.ble y 115 then (yX12_in) else (bif Nat.ble y 116 then (yX12_lost) else (yX12_greater)))))) else (bif Nat.ble y 129 then (bif Nat.ble y 123 then (bif Nat.ble y 120 then (bif Nat.ble y 118 then (yX12_share) else (bif Nat.ble y 119 then (yX12_refused) else (yX12_failed))) else (bif Nat.ble y 121 then (yX12_failedLong) else (bif Nat.ble y 122 then (yX12_barred) else (yX12_isLane)))) else (bif Nat.ble y 126 then (bif Nat.ble y 124 then (yX12_isKind) else (bif Nat.ble y 125 then (yX12_noHull) else (yX12_noStation))) else (bif Nat.ble y 127 then (yX12_hull) else (bif Nat.ble y 128 then (yX12_takeUp) else (yX12_measure))))) else (bif Nat.ble y 135 then (bif Nat.ble y 132 then (bif Nat.ble y 130 then (yX12_room) else (bif Nat.ble y 131 then (yX12_price) else (yX12_ofHull))) else (bif Nat.ble y 133 then (yX12_station) else (bif Nat.ble y 134 then (yX12_build) else (yX12_noLaw)))) else (bif Nat.ble y 138 then (bif Nat.ble y 136 then (yX12_letterBy) else (bif Nat.ble y 137 then (yX12_codeAt) else (yX12_takes))) else (bif Nat.ble y 139 then (yX12_number) else (bif Nat.ble y 140 then (yX12_factor) else (yX12_readsWord))))))) else (bif Nat.ble y 165 then (bif Nat.ble y 153 then (bif Nat.ble y 147 then (bif Nat.ble y 144 then (bif Nat.ble y 142 then (yX12_readLaw) else (bif Nat.ble y 143 then (yX12_law) else (yX12_words))) else (bif Nat.ble y 145 then (yX12_wordSum) else (bif Nat.ble y 146 then (yX12_toll) else (yX12_owes)))) else (bif Nat.ble y 150 then (bif Nat.ble y 148 then (yX12_word) else (bif Nat.ble y 149 then (yX12_greatestOf) else (yX12_need))) else (bif Nat.ble y 151 then (yX12_breaksAt) else (bif Nat.ble y 152 then (yX12_firstBroken) else (yX12_broken))))) else (bif Nat.ble y 159 then (bif Nat.ble y 156 then (bif Nat.ble y 154 then (yX12_value) else (bif Nat.ble y 155 then (yX12_noneLaw) else (yX12_worth))) else (bif Nat.ble y 157 then (yX12_risk) else (bif Nat.ble y 158 then (yX12_isSort) else (yX12_manyRows)))) else (bif Nat.ble y 162 then (bif Nat.ble y 160 then (yX12_takeRow) else (bif Nat.ble y 161 then (yX12_layBest) else (yX12_loss))) else (bif Nat.ble y 163 then (yX12_best) else (bif Nat.ble y 164 then (yX12_shape) else (yX12_shapes)))))) else (bif Nat.ble y 177 then (bif Nat.ble y 171 then (bif Nat.ble y 168 then (bif Nat.ble y 166 then (yX12_without) else (bif Nat.ble y 167 then (yX12_mend) else (yX12_crowd))) else (bif Nat.ble y 169 then (yX12_change) else (bif Nat.ble y 170 then (yX12_step) else (yX12_trim)))) else (bif Nat.ble y 174 then (bif Nat.ble y 172 then (yX12_goesFor) else (bif Nat.ble y 173 then (yX12_route) else (yX12_paid))) else (bif Nat.ble y 175 then (yX12_noSheet) else (bif Nat.ble y 176 then (yX12_sheet) else (yX12_lose))))) else (bif Nat.ble y 183 then (bif Nat.ble y 180 then (bif Nat.ble y 178 then (yX12_noCell) else (bif Nat.ble y 179 then (yX12_put) else (yX12_cell))) else (bif Nat.ble y 181 then (yX12_isBeyond) else (bif Nat.ble y 182 then (yX12_copy) else (yX12_traced)))) else (bif Nat.ble y 186 then (bif Nat.ble y 184 then (yX12_tell) else (bif Nat.ble y 185 then (yX12_launch) else (yX12_as))) else (bif Nat.ble y 187 then (yX12_trace) else (bif Nat.ble y 188 then (yX12_fault) else (yX12_many))))))))
def kt_by : Nat → ByteArray := fun y => bif Nat.ble y 94 then (bif Nat.ble y 46 then (bif Nat.ble y 22 then (bif Nat.ble y 10 then (bif Nat.ble y 4 then (bif Nat.ble y 1 then (bif Nat.ble y 0 then (cX0_init) else (cX0_begin)) else (bif Nat.ble y 2 then (cX0_weigh) else (bif Nat.ble y 3 then (cX1_init) else (cX1_kindNumber)))) else (bif Nat.ble y 7 then (bif Nat.ble y 5 then (cX1_measured) else (bif Nat.ble y 6 then (cX1_told) else (cX2_init))) else (bif Nat.ble y 8 then (cX2_kindNumber) else (bif Nat.ble y 9 then (cX2_hasStation) else (cX2_takeParts))))) else (bif Nat.ble y 16 then (bif Nat.ble y 13 then (bif Nat.ble y 11 then (cX2_takeTurned) else (bif Nat.ble y 12 then (cX2_measured) else (cX2_drowned))) else (bif Nat.ble y 14 then (cX2_told) else (bif Nat.ble y 15 then (cX2_toldAsHull) else (cX2_launched)))) else (bif Nat.ble y 19 then (bif Nat.ble y 17 then (cX3_init) else (bif Nat.ble y 18 then (cX3_hasWord) else (cX3_owedBy))) else (bif Nat.ble y 20 then (cX4_init) else (bif Nat.ble y 21 then (cX4_read) else (cX4_readWord)))))) else (bif Nat.ble y 34 then (bif Nat.ble y 28 then (bif Nat.ble y 25 then (bif Nat.ble y 23 then (cX4_readFactor) else (bif Nat.ble y 24 then (cX4_readNumber) else (cX4_takes))) else (bif Nat.ble y 26 then (cX4_code) else (bif Nat.ble y 27 then (cX4_failAt) else (cX4_isDigit)))) else (bif Nat.ble y 31 then (bif Nat.ble y 29 then (cX4_measureOf) else (bif Nat.ble y 30 then (cX5_init) else (cX5_has))) else (bif Nat.ble y 32 then (cX5_allows) else (bif Nat.ble y 33 then (cX5_costOf) else (cX5_freeWorth))))) else (bif Nat.ble y 40 then (bif Nat.ble y 37 then (bif Nat.ble y 35 then (cX5_firstBroken) else (bif Nat.ble y 36 then (cX6_init) else (cX6_kindNumber))) else (bif Nat.ble y 38 then (cX6_measured) else (bif Nat.ble y 39 then (cX6_told) else (cX6_launched)))) else (bif Nat.ble y 43 then (bif Nat.ble y 41 then (cX7_init) else (bif Nat.ble y 42 then (cX7_clear) else (cX7_seek))) else (bif Nat.ble y 44 then (cX7_run) else (bif Nat.ble y 45 then (cX7_lossOf) else (cX7_leastLoss))))))) else (bif Nat.ble y 70 then (bif Nat.ble y 58 then (bif Nat.ble y 52 then (bif Nat.ble y 49 then (bif Nat.ble y 47 then (cX7_countAll) else (bif Nat.ble y 48 then (cX7_countOwing) else (cX7_firstShape))) else (bif Nat.ble y 50 then (cX7_nextShape) else (bif Nat.ble y 51 then (cX8_init) else (cX8_begin)))) else (bif Nat.ble y 55 then (bif Nat.ble y 53 then (cX8_store) else (bif Nat.ble y 54 then (cX8_hasCells) else (cX8_faultOfCells))) else (bif Nat.ble y 56 then (cX8_hasOnlyParts) else (bif Nat.ble y 57 then (cX9_init) else (cX9_leave))))) else (bif Nat.ble y 64 then (bif Nat.ble y 61 then (bif Nat.ble y 59 then (cX10_init) else (bif Nat.ble y 60 then (cX10_clear) else (cX10_addNumber))) else (bif Nat.ble y 62 then (cX10_addLetter) else (bif Nat.ble y 63 then (cX10_makes) else (cX11_init)))) else (bif Nat.ble y 67 then (bif Nat.ble y 65 then (cX11_hull) else (bif Nat.ble y 66 then (cX11_ofHull) else (cX11_station))) else (bif Nat.ble y 68 then (cX11_build) else (bif Nat.ble y 69 then (cX11_law) else (cX11_words)))))) else (bif Nat.ble y 82 then (bif Nat.ble y 76 then (bif Nat.ble y 73 then (bif Nat.ble y 71 then (cX11_owes) else (bif Nat.ble y 72 then (cX11_word) else (cX11_need))) else (bif Nat.ble y 74 then (cX11_broken) else (bif Nat.ble y 75 then (cX11_worth) else (cX11_risk)))) else (bif Nat.ble y 79 then (bif Nat.ble y 77 then (cX11_best) else (bif Nat.ble y 78 then (cX11_shape) else (cX11_shapes))) else (bif Nat.ble y 80 then (cX11_without) else (bif Nat.ble y 81 then (cX11_mend) else (cX11_crowd))))) else (bif Nat.ble y 88 then (bif Nat.ble y 85 then (bif Nat.ble y 83 then (cX11_step) else (bif Nat.ble y 84 then (cX11_trim) else (cX11_route))) else (bif Nat.ble y 86 then (cX11_paid) else (bif Nat.ble y 87 then (cX11_sheet) else (cX11_lose)))) else (bif Nat.ble y 91 then (bif Nat.ble y 89 then (cX11_put) else (bif Nat.ble y 90 then (cX11_cell) else (cX11_copy))) else (bif Nat.ble y 92 then (cX11_tell) else (bif Nat.ble y 93 then (cX11_launch) else (cX11_as)))))))) else (bif Nat.ble y 141 then (bif Nat.ble y 117 then (bif Nat.ble y 105 then (bif Nat.ble y 99 then (bif Nat.ble y 96 then (bif Nat.ble y 95 then (cX11_trace) else (cX11_fault)) else (bif Nat.ble y 97 then (cX11_many) else (bif Nat.ble y 98 then (cX11_hullAt) else (cX11_lawAt)))) else (bif Nat.ble y 102 then (bif Nat.ble y 100 then (cX11_isLawOrNone) else (bif Nat.ble y 101 then (cX11_sheetAt) else (cX11_faulted))) else (bif Nat.ble y 103 then (cX11_worthBy) else (bif Nat.ble y 104 then (cX11_bestBy) else (cX11_hullThatGoes))))) else (bif Nat.ble y 111 then (bif Nat.ble y 108 then (bif Nat.ble y 106 then (cX11_wordsOfAll) else (bif Nat.ble y 107 then (cX11_newHull) else (cX11_isOfKind))) else (bif Nat.ble y 109 then (cX11_isKind) else (bif Nat.ble y 110 then (cX11_isLane) else (cX11_isPart)))) else (bif Nat.ble y 114 then (bif Nat.ble y 112 then (cX11_areShapes) else (bif Nat.ble y 113 then (cX11_commonDivisor) else (cX12_init))) else (bif Nat.ble y 115 then (cX12_in) else (bif Nat.ble y 116 then (cX12_lost) else (cX12_greater)))))) else (bif Nat.ble y 129 then (bif Nat.ble y 123 then (bif Nat.ble y 120 then (bif Nat.ble y 118 then (cX12_share) else (bif Nat.ble y 119 then (cX12_refused) else (cX12_failed))) else (bif Nat.ble y 121 then (cX12_failedLong) else (bif Nat.ble y 122 then (cX12_barred) else (cX12_isLane)))) else (bif Nat.ble y 126 then (bif Nat.ble y 124 then (cX12_isKind) else (bif Nat.ble y 125 then (cX12_noHull) else (cX12_noStation))) else (bif Nat.ble y 127 then (cX12_hull) else (bif Nat.ble y 128 then (cX12_takeUp) else (cX12_measure))))) else (bif Nat.ble y 135 then (bif Nat.ble y 132 then (bif Nat.ble y 130 then (cX12_room) else (bif Nat.ble y 131 then (cX12_price) else (cX12_ofHull))) else (bif Nat.ble y 133 then (cX12_station) else (bif Nat.ble y 134 then (cX12_build) else (cX12_noLaw)))) else (bif Nat.ble y 138 then (bif Nat.ble y 136 then (cX12_letterBy) else (bif Nat.ble y 137 then (cX12_codeAt) else (cX12_takes))) else (bif Nat.ble y 139 then (cX12_number) else (bif Nat.ble y 140 then (cX12_factor) else (cX12_readsWord))))))) else (bif Nat.ble y 165 then (bif Nat.ble y 153 then (bif Nat.ble y 147 then (bif Nat.ble y 144 then (bif Nat.ble y 142 then (cX12_readLaw) else (bif Nat.ble y 143 then (cX12_law) else (cX12_words))) else (bif Nat.ble y 145 then (cX12_wordSum) else (bif Nat.ble y 146 then (cX12_toll) else (cX12_owes)))) else (bif Nat.ble y 150 then (bif Nat.ble y 148 then (cX12_word) else (bif Nat.ble y 149 then (cX12_greatestOf) else (cX12_need))) else (bif Nat.ble y 151 then (cX12_breaksAt) else (bif Nat.ble y 152 then (cX12_firstBroken) else (cX12_broken))))) else (bif Nat.ble y 159 then (bif Nat.ble y 156 then (bif Nat.ble y 154 then (cX12_value) else (bif Nat.ble y 155 then (cX12_noneLaw) else (cX12_worth))) else (bif Nat.ble y 157 then (cX12_risk) else (bif Nat.ble y 158 then (cX12_isSort) else (cX12_manyRows)))) else (bif Nat.ble y 162 then (bif Nat.ble y 160 then (cX12_takeRow) else (bif Nat.ble y 161 then (cX12_layBest) else (cX12_loss))) else (bif Nat.ble y 163 then (cX12_best) else (bif Nat.ble y 164 then (cX12_shape) else (cX12_shapes)))))) else (bif Nat.ble y 177 then (bif Nat.ble y 171 then (bif Nat.ble y 168 then (bif Nat.ble y 166 then (cX12_without) else (bif Nat.ble y 167 then (cX12_mend) else (cX12_crowd))) else (bif Nat.ble y 169 then (cX12_change) else (bif Nat.ble y 170 then (cX12_step) else (cX12_trim)))) else (bif Nat.ble y 174 then (bif Nat.ble y 172 then (cX12_goesFor) else (bif Nat.ble y 173 then (cX12_route) else (cX12_paid))) else (bif Nat.ble y 175 then (cX12_noSheet) else (bif Nat.ble y 176 then (cX12_sheet) else (cX12_lose))))) else (bif Nat.ble y 183 then (bif Nat.ble y 180 then (bif Nat.ble y 178 then (cX12_noCell) else (bif Nat.ble y 179 then (cX12_put) else (cX12_cell))) else (bif Nat.ble y 181 then (cX12_isBeyond) else (bif Nat.ble y 182 then (cX12_copy) else (cX12_traced)))) else (bif Nat.ble y 186 then (bif Nat.ble y 184 then (cX12_tell) else (bif Nat.ble y 185 then (cX12_launch) else (cX12_as))) else (bif Nat.ble y 187 then (cX12_trace) else (bif Nat.ble y 188 then (cX12_fault) else (cX12_many))))))))
def kt_rt : Nat → Option FieldType := fun y => bif Nat.ble y 94 then (bif Nat.ble y 46 then (bif Nat.ble y 22 then (bif Nat.ble y 10 then (bif Nat.ble y 4 then (bif Nat.ble y 1 then (bif Nat.ble y 0 then (none) else (none)) else (bif Nat.ble y 2 then (none) else (bif Nat.ble y 3 then (none) else ((Option.some FieldType.int))))) else (bif Nat.ble y 7 then (bif Nat.ble y 5 then ((Option.some (FieldType.array FieldType.int))) else (bif Nat.ble y 6 then ((Option.some FieldType.int)) else (none))) else (bif Nat.ble y 8 then ((Option.some FieldType.int)) else (bif Nat.ble y 9 then ((Option.some FieldType.boolean)) else (none))))) else (bif Nat.ble y 16 then (bif Nat.ble y 13 then (bif Nat.ble y 11 then (none) else (bif Nat.ble y 12 then ((Option.some (FieldType.array FieldType.int))) else ((Option.some FieldType.int)))) else (bif Nat.ble y 14 then ((Option.some FieldType.int)) else (bif Nat.ble y 15 then ((Option.some FieldType.int)) else ((Option.some FieldType.int))))) else (bif Nat.ble y 19 then (bif Nat.ble y 17 then (none) else (bif Nat.ble y 18 then ((Option.some FieldType.boolean)) else ((Option.some FieldType.int)))) else (bif Nat.ble y 20 then (none) else (bif Nat.ble y 21 then ((Option.some FieldType.int)) else (none)))))) else (bif Nat.ble y 34 then (bif Nat.ble y 28 then (bif Nat.ble y 25 then (bif Nat.ble y 23 then (none) else (bif Nat.ble y 24 then ((Option.some FieldType.int)) else ((Option.some FieldType.boolean)))) else (bif Nat.ble y 26 then ((Option.some FieldType.int)) else (bif Nat.ble y 27 then (none) else ((Option.some FieldType.boolean))))) else (bif Nat.ble y 31 then (bif Nat.ble y 29 then ((Option.some FieldType.int)) else (bif Nat.ble y 30 then (none) else ((Option.some FieldType.boolean)))) else (bif Nat.ble y 32 then ((Option.some FieldType.boolean)) else (bif Nat.ble y 33 then ((Option.some FieldType.int)) else ((Option.some FieldType.int)))))) else (bif Nat.ble y 40 then (bif Nat.ble y 37 then (bif Nat.ble y 35 then ((Option.some FieldType.int)) else (bif Nat.ble y 36 then (none) else ((Option.some FieldType.int)))) else (bif Nat.ble y 38 then ((Option.some (FieldType.array FieldType.int))) else (bif Nat.ble y 39 then ((Option.some FieldType.int)) else ((Option.some FieldType.int))))) else (bif Nat.ble y 43 then (bif Nat.ble y 41 then (none) else (bif Nat.ble y 42 then (none) else ((Option.some (FieldType.object "KeelTolls$Best"))))) else (bif Nat.ble y 44 then (none) else (bif Nat.ble y 45 then ((Option.some FieldType.int)) else ((Option.some FieldType.int)))))))) else (bif Nat.ble y 70 then (bif Nat.ble y 58 then (bif Nat.ble y 52 then (bif Nat.ble y 49 then (bif Nat.ble y 47 then ((Option.some FieldType.int)) else (bif Nat.ble y 48 then ((Option.some FieldType.int)) else ((Option.some FieldType.int)))) else (bif Nat.ble y 50 then (none) else (bif Nat.ble y 51 then (none) else (none)))) else (bif Nat.ble y 55 then (bif Nat.ble y 53 then (none) else (bif Nat.ble y 54 then ((Option.some FieldType.boolean)) else ((Option.some FieldType.int)))) else (bif Nat.ble y 56 then ((Option.some FieldType.boolean)) else (bif Nat.ble y 57 then (none) else (none))))) else (bif Nat.ble y 64 then (bif Nat.ble y 61 then (bif Nat.ble y 59 then (none) else (bif Nat.ble y 60 then (none) else (none))) else (bif Nat.ble y 62 then (none) else (bif Nat.ble y 63 then ((Option.some FieldType.int)) else (none)))) else (bif Nat.ble y 67 then (bif Nat.ble y 65 then ((Option.some FieldType.int)) else (bif Nat.ble y 66 then ((Option.some FieldType.int)) else ((Option.some FieldType.int)))) else (bif Nat.ble y 68 then ((Option.some FieldType.int)) else (bif Nat.ble y 69 then ((Option.some FieldType.int)) else ((Option.some FieldType.int))))))) else (bif Nat.ble y 82 then (bif Nat.ble y 76 then (bif Nat.ble y 73 then (bif Nat.ble y 71 then ((Option.some FieldType.int)) else (bif Nat.ble y 72 then ((Option.some FieldType.int)) else ((Option.some FieldType.int)))) else (bif Nat.ble y 74 then ((Option.some FieldType.int)) else (bif Nat.ble y 75 then ((Option.some FieldType.long)) else ((Option.some FieldType.long))))) else (bif Nat.ble y 79 then (bif Nat.ble y 77 then ((Option.some FieldType.long)) else (bif Nat.ble y 78 then ((Option.some FieldType.int)) else ((Option.some FieldType.int)))) else (bif Nat.ble y 80 then ((Option.some FieldType.long)) else (bif Nat.ble y 81 then ((Option.some FieldType.int)) else ((Option.some FieldType.int)))))) else (bif Nat.ble y 88 then (bif Nat.ble y 85 then (bif Nat.ble y 83 then ((Option.some FieldType.int)) else (bif Nat.ble y 84 then ((Option.some FieldType.int)) else ((Option.some FieldType.int)))) else (bif Nat.ble y 86 then ((Option.some FieldType.int)) else (bif Nat.ble y 87 then ((Option.some FieldType.int)) else ((Option.some FieldType.int))))) else (bif Nat.ble y 91 then (bif Nat.ble y 89 then ((Option.some FieldType.int)) else (bif Nat.ble y 90 then ((Option.some FieldType.long)) else ((Option.some FieldType.int)))) else (bif Nat.ble y 92 then ((Option.some FieldType.int)) else (bif Nat.ble y 93 then ((Option.some FieldType.int)) else ((Option.some FieldType.int))))))))) else (bif Nat.ble y 141 then (bif Nat.ble y 117 then (bif Nat.ble y 105 then (bif Nat.ble y 99 then (bif Nat.ble y 96 then (bif Nat.ble y 95 then ((Option.some FieldType.int)) else ((Option.some FieldType.int))) else (bif Nat.ble y 97 then ((Option.some FieldType.int)) else (bif Nat.ble y 98 then ((Option.some (FieldType.object "KeelTolls$Hull"))) else ((Option.some (FieldType.object "KeelTolls$Law")))))) else (bif Nat.ble y 102 then (bif Nat.ble y 100 then ((Option.some FieldType.boolean)) else (bif Nat.ble y 101 then ((Option.some (FieldType.object "KeelTolls$Sheet"))) else ((Option.some FieldType.int)))) else (bif Nat.ble y 103 then ((Option.some FieldType.int)) else (bif Nat.ble y 104 then ((Option.some (FieldType.object "KeelTolls$Best"))) else ((Option.some FieldType.int)))))) else (bif Nat.ble y 111 then (bif Nat.ble y 108 then (bif Nat.ble y 106 then ((Option.some FieldType.int)) else (bif Nat.ble y 107 then ((Option.some (FieldType.object "KeelTolls$Hull"))) else ((Option.some FieldType.boolean)))) else (bif Nat.ble y 109 then ((Option.some FieldType.boolean)) else (bif Nat.ble y 110 then ((Option.some FieldType.boolean)) else ((Option.some FieldType.boolean))))) else (bif Nat.ble y 114 then (bif Nat.ble y 112 then ((Option.some FieldType.boolean)) else (bif Nat.ble y 113 then ((Option.some FieldType.int)) else (none))) else (bif Nat.ble y 115 then ((Option.some FieldType.boolean)) else (bif Nat.ble y 116 then ((Option.some FieldType.long)) else ((Option.some FieldType.int))))))) else (bif Nat.ble y 129 then (bif Nat.ble y 123 then (bif Nat.ble y 120 then (bif Nat.ble y 118 then ((Option.some FieldType.long)) else (bif Nat.ble y 119 then ((Option.some FieldType.int)) else ((Option.some FieldType.int)))) else (bif Nat.ble y 121 then ((Option.some FieldType.long)) else (bif Nat.ble y 122 then ((Option.some FieldType.int)) else ((Option.some FieldType.boolean))))) else (bif Nat.ble y 126 then (bif Nat.ble y 124 then ((Option.some FieldType.boolean)) else (bif Nat.ble y 125 then ((Option.some FieldType.boolean)) else ((Option.some FieldType.boolean)))) else (bif Nat.ble y 127 then ((Option.some FieldType.int)) else (bif Nat.ble y 128 then (none) else ((Option.some FieldType.int)))))) else (bif Nat.ble y 135 then (bif Nat.ble y 132 then (bif Nat.ble y 130 then ((Option.some FieldType.int)) else (bif Nat.ble y 131 then ((Option.some FieldType.int)) else ((Option.some FieldType.int)))) else (bif Nat.ble y 133 then ((Option.some FieldType.int)) else (bif Nat.ble y 134 then ((Option.some FieldType.int)) else ((Option.some FieldType.boolean))))) else (bif Nat.ble y 138 then (bif Nat.ble y 136 then ((Option.some FieldType.int)) else (bif Nat.ble y 137 then ((Option.some FieldType.int)) else ((Option.some FieldType.boolean)))) else (bif Nat.ble y 139 then ((Option.some FieldType.int)) else (bif Nat.ble y 140 then ((Option.some FieldType.int)) else ((Option.some FieldType.boolean)))))))) else (bif Nat.ble y 165 then (bif Nat.ble y 153 then (bif Nat.ble y 147 then (bif Nat.ble y 144 then (bif Nat.ble y 142 then ((Option.some FieldType.int)) else (bif Nat.ble y 143 then ((Option.some FieldType.int)) else ((Option.some FieldType.int)))) else (bif Nat.ble y 145 then ((Option.some FieldType.int)) else (bif Nat.ble y 146 then ((Option.some FieldType.int)) else ((Option.some FieldType.int))))) else (bif Nat.ble y 150 then (bif Nat.ble y 148 then ((Option.some FieldType.int)) else (bif Nat.ble y 149 then ((Option.some FieldType.int)) else ((Option.some FieldType.int)))) else (bif Nat.ble y 151 then ((Option.some FieldType.int)) else (bif Nat.ble y 152 then ((Option.some FieldType.int)) else ((Option.some FieldType.int)))))) else (bif Nat.ble y 159 then (bif Nat.ble y 156 then (bif Nat.ble y 154 then ((Option.some FieldType.int)) else (bif Nat.ble y 155 then ((Option.some FieldType.boolean)) else ((Option.some FieldType.long)))) else (bif Nat.ble y 157 then ((Option.some FieldType.long)) else (bif Nat.ble y 158 then ((Option.some FieldType.boolean)) else ((Option.some FieldType.int))))) else (bif Nat.ble y 162 then (bif Nat.ble y 160 then (none) else (bif Nat.ble y 161 then (none) else ((Option.some FieldType.int)))) else (bif Nat.ble y 163 then ((Option.some FieldType.long)) else (bif Nat.ble y 164 then ((Option.some FieldType.int)) else ((Option.some FieldType.int))))))) else (bif Nat.ble y 177 then (bif Nat.ble y 171 then (bif Nat.ble y 168 then (bif Nat.ble y 166 then ((Option.some FieldType.long)) else (bif Nat.ble y 167 then ((Option.some FieldType.int)) else ((Option.some FieldType.int)))) else (bif Nat.ble y 169 then (none) else (bif Nat.ble y 170 then ((Option.some FieldType.int)) else ((Option.some FieldType.int))))) else (bif Nat.ble y 174 then (bif Nat.ble y 172 then ((Option.some FieldType.int)) else (bif Nat.ble y 173 then ((Option.some FieldType.int)) else ((Option.some FieldType.int)))) else (bif Nat.ble y 175 then ((Option.some FieldType.boolean)) else (bif Nat.ble y 176 then ((Option.some FieldType.int)) else ((Option.some FieldType.int)))))) else (bif Nat.ble y 183 then (bif Nat.ble y 180 then (bif Nat.ble y 178 then ((Option.some FieldType.int)) else (bif Nat.ble y 179 then ((Option.some FieldType.int)) else ((Option.some FieldType.long)))) else (bif Nat.ble y 181 then ((Option.some FieldType.boolean)) else (bif Nat.ble y 182 then ((Option.some FieldType.int)) else (none)))) else (bif Nat.ble y 186 then (bif Nat.ble y 184 then ((Option.some FieldType.int)) else (bif Nat.ble y 185 then ((Option.some FieldType.int)) else ((Option.some FieldType.int)))) else (bif Nat.ble y 187 then ((Option.some FieldType.int)) else (bif Nat.ble y 188 then ((Option.some FieldType.int)) else ((Option.some FieldType.int)))))))))
def kt_fn : Nat → Nat := fun y => bif Nat.ble y 94 then (bif Nat.ble y 46 then (bif Nat.ble y 22 then (bif Nat.ble y 10 then (bif Nat.ble y 4 then (bif Nat.ble y 1 then (bif Nat.ble y 0 then (1) else (0)) else (bif Nat.ble y 2 then (2) else (bif Nat.ble y 3 then (2) else (0)))) else (bif Nat.ble y 7 then (bif Nat.ble y 5 then (1) else (bif Nat.ble y 6 then (3) else (1))) else (bif Nat.ble y 8 then (0) else (bif Nat.ble y 9 then (0) else (1))))) else (bif Nat.ble y 16 then (bif Nat.ble y 13 then (bif Nat.ble y 11 then (0) else (bif Nat.ble y 12 then (0) else (1))) else (bif Nat.ble y 14 then (2) else (bif Nat.ble y 15 then (1) else (1)))) else (bif Nat.ble y 19 then (bif Nat.ble y 17 then (2) else (bif Nat.ble y 18 then (0) else (1))) else (bif Nat.ble y 20 then (1) else (bif Nat.ble y 21 then (4) else (3)))))) else (bif Nat.ble y 34 then (bif Nat.ble y 28 then (bif Nat.ble y 25 then (bif Nat.ble y 23 then (2) else (bif Nat.ble y 24 then (1) else (1))) else (bif Nat.ble y 26 then (0) else (bif Nat.ble y 27 then (0) else (0)))) else (bif Nat.ble y 31 then (bif Nat.ble y 29 then (0) else (bif Nat.ble y 30 then (1) else (0))) else (bif Nat.ble y 32 then (0) else (bif Nat.ble y 33 then (0) else (1))))) else (bif Nat.ble y 40 then (bif Nat.ble y 37 then (bif Nat.ble y 35 then (1) else (bif Nat.ble y 36 then (3) else (0))) else (bif Nat.ble y 38 then (2) else (bif Nat.ble y 39 then (4) else (1)))) else (bif Nat.ble y 43 then (bif Nat.ble y 41 then (2) else (bif Nat.ble y 42 then (1) else (1))) else (bif Nat.ble y 44 then (3) else (bif Nat.ble y 45 then (0) else (1))))))) else (bif Nat.ble y 70 then (bif Nat.ble y 58 then (bif Nat.ble y 52 then (bif Nat.ble y 49 then (bif Nat.ble y 47 then (3) else (bif Nat.ble y 48 then (3) else (0))) else (bif Nat.ble y 50 then (0) else (bif Nat.ble y 51 then (1) else (0)))) else (bif Nat.ble y 55 then (bif Nat.ble y 53 then (0) else (bif Nat.ble y 54 then (0) else (1))) else (bif Nat.ble y 56 then (1) else (bif Nat.ble y 57 then (1) else (0))))) else (bif Nat.ble y 64 then (bif Nat.ble y 61 then (bif Nat.ble y 59 then (1) else (bif Nat.ble y 60 then (0) else (0))) else (bif Nat.ble y 62 then (0) else (bif Nat.ble y 63 then (0) else (4)))) else (bif Nat.ble y 67 then (bif Nat.ble y 65 then (5) else (bif Nat.ble y 66 then (3) else (1))) else (bif Nat.ble y 68 then (1) else (bif Nat.ble y 69 then (5) else (1)))))) else (bif Nat.ble y 82 then (bif Nat.ble y 76 then (bif Nat.ble y 73 then (bif Nat.ble y 71 then (3) else (bif Nat.ble y 72 then (3) else (1))) else (bif Nat.ble y 74 then (3) else (bif Nat.ble y 75 then (3) else (2)))) else (bif Nat.ble y 79 then (bif Nat.ble y 77 then (5) else (bif Nat.ble y 78 then (5) else (4))) else (bif Nat.ble y 80 then (5) else (bif Nat.ble y 81 then (4) else (4))))) else (bif Nat.ble y 88 then (bif Nat.ble y 85 then (bif Nat.ble y 83 then (3) else (bif Nat.ble y 84 then (3) else (4))) else (bif Nat.ble y 86 then (4) else (bif Nat.ble y 87 then (1) else (1)))) else (bif Nat.ble y 91 then (bif Nat.ble y 89 then (1) else (bif Nat.ble y 90 then (2) else (1))) else (bif Nat.ble y 92 then (5) else (bif Nat.ble y 93 then (2) else (1)))))))) else (bif Nat.ble y 141 then (bif Nat.ble y 117 then (bif Nat.ble y 105 then (bif Nat.ble y 99 then (bif Nat.ble y 96 then (bif Nat.ble y 95 then (0) else (0)) else (bif Nat.ble y 97 then (1) else (bif Nat.ble y 98 then (0) else (0)))) else (bif Nat.ble y 102 then (bif Nat.ble y 100 then (1) else (bif Nat.ble y 101 then (0) else (0))) else (bif Nat.ble y 103 then (2) else (bif Nat.ble y 104 then (4) else (3))))) else (bif Nat.ble y 111 then (bif Nat.ble y 108 then (bif Nat.ble y 106 then (0) else (bif Nat.ble y 107 then (4) else (0))) else (bif Nat.ble y 109 then (0) else (bif Nat.ble y 110 then (0) else (0)))) else (bif Nat.ble y 114 then (bif Nat.ble y 112 then (1) else (bif Nat.ble y 113 then (0) else (1))) else (bif Nat.ble y 115 then (0) else (bif Nat.ble y 116 then (0) else (0)))))) else (bif Nat.ble y 129 then (bif Nat.ble y 123 then (bif Nat.ble y 120 then (bif Nat.ble y 118 then (0) else (bif Nat.ble y 119 then (0) else (0))) else (bif Nat.ble y 121 then (1) else (bif Nat.ble y 122 then (1) else (1)))) else (bif Nat.ble y 126 then (bif Nat.ble y 124 then (1) else (bif Nat.ble y 125 then (1) else (2))) else (bif Nat.ble y 127 then (2) else (bif Nat.ble y 128 then (0) else (1))))) else (bif Nat.ble y 135 then (bif Nat.ble y 132 then (bif Nat.ble y 130 then (2) else (bif Nat.ble y 131 then (2) else (3))) else (bif Nat.ble y 133 then (3) else (bif Nat.ble y 134 then (4) else (1)))) else (bif Nat.ble y 138 then (bif Nat.ble y 136 then (0) else (bif Nat.ble y 137 then (0) else (1))) else (bif Nat.ble y 139 then (1) else (bif Nat.ble y 140 then (2) else (3))))))) else (bif Nat.ble y 165 then (bif Nat.ble y 153 then (bif Nat.ble y 147 then (bif Nat.ble y 144 then (bif Nat.ble y 142 then (4) else (bif Nat.ble y 143 then (5) else (2))) else (bif Nat.ble y 145 then (2) else (bif Nat.ble y 146 then (3) else (4)))) else (bif Nat.ble y 150 then (bif Nat.ble y 148 then (3) else (bif Nat.ble y 149 then (0) else (1))) else (bif Nat.ble y 151 then (3) else (bif Nat.ble y 152 then (4) else (5))))) else (bif Nat.ble y 159 then (bif Nat.ble y 156 then (bif Nat.ble y 154 then (4) else (bif Nat.ble y 155 then (2) else (5))) else (bif Nat.ble y 157 then (2) else (bif Nat.ble y 158 then (2) else (0)))) else (bif Nat.ble y 162 then (bif Nat.ble y 160 then (0) else (bif Nat.ble y 161 then (5) else (6))) else (bif Nat.ble y 163 then (7) else (bif Nat.ble y 164 then (6) else (5)))))) else (bif Nat.ble y 177 then (bif Nat.ble y 171 then (bif Nat.ble y 168 then (bif Nat.ble y 166 then (7) else (bif Nat.ble y 167 then (7) else (5))) else (bif Nat.ble y 169 then (0) else (bif Nat.ble y 170 then (5) else (4)))) else (bif Nat.ble y 174 then (bif Nat.ble y 172 then (5) else (bif Nat.ble y 173 then (6) else (6))) else (bif Nat.ble y 175 then (1) else (bif Nat.ble y 176 then (2) else (2))))) else (bif Nat.ble y 183 then (bif Nat.ble y 180 then (bif Nat.ble y 178 then (1) else (bif Nat.ble y 179 then (2) else (2))) else (bif Nat.ble y 181 then (0) else (bif Nat.ble y 182 then (2) else (0)))) else (bif Nat.ble y 186 then (bif Nat.ble y 184 then (2) else (bif Nat.ble y 185 then (2) else (2))) else (bif Nat.ble y 187 then (0) else (bif Nat.ble y 188 then (0) else (0))))))))
def kt_ln : Nat → Nat := fun y => bif Nat.ble y 94 then (bif Nat.ble y 46 then (bif Nat.ble y 22 then (bif Nat.ble y 10 then (bif Nat.ble y 4 then (bif Nat.ble y 1 then (bif Nat.ble y 0 then (20) else (0)) else (bif Nat.ble y 2 then (60) else (bif Nat.ble y 3 then (41) else (0)))) else (bif Nat.ble y 7 then (bif Nat.ble y 5 then (28) else (bif Nat.ble y 6 then (63) else (20))) else (bif Nat.ble y 8 then (0) else (bif Nat.ble y 9 then (0) else (60))))) else (bif Nat.ble y 16 then (bif Nat.ble y 13 then (bif Nat.ble y 11 then (0) else (bif Nat.ble y 12 then (0) else (21))) else (bif Nat.ble y 14 then (42) else (bif Nat.ble y 15 then (21) else (21)))) else (bif Nat.ble y 19 then (bif Nat.ble y 17 then (40) else (bif Nat.ble y 18 then (0) else (23))) else (bif Nat.ble y 20 then (20) else (bif Nat.ble y 21 then (90) else (68)))))) else (bif Nat.ble y 34 then (bif Nat.ble y 28 then (bif Nat.ble y 25 then (bif Nat.ble y 23 then (46) else (bif Nat.ble y 24 then (21) else (20))) else (bif Nat.ble y 26 then (0) else (bif Nat.ble y 27 then (0) else (0)))) else (bif Nat.ble y 31 then (bif Nat.ble y 29 then (0) else (bif Nat.ble y 30 then (20) else (0))) else (bif Nat.ble y 32 then (0) else (bif Nat.ble y 33 then (0) else (21))))) else (bif Nat.ble y 40 then (bif Nat.ble y 37 then (bif Nat.ble y 35 then (21) else (bif Nat.ble y 36 then (62) else (0))) else (bif Nat.ble y 38 then (49) else (bif Nat.ble y 39 then (84) else (21)))) else (bif Nat.ble y 43 then (bif Nat.ble y 41 then (40) else (bif Nat.ble y 42 then (22) else (22))) else (bif Nat.ble y 44 then (84) else (bif Nat.ble y 45 then (0) else (21))))))) else (bif Nat.ble y 70 then (bif Nat.ble y 58 then (bif Nat.ble y 52 then (bif Nat.ble y 49 then (bif Nat.ble y 47 then (70) else (bif Nat.ble y 48 then (70) else (0))) else (bif Nat.ble y 50 then (0) else (bif Nat.ble y 51 then (20) else (0)))) else (bif Nat.ble y 55 then (bif Nat.ble y 53 then (0) else (bif Nat.ble y 54 then (0) else (23))) else (bif Nat.ble y 56 then (20) else (bif Nat.ble y 57 then (20) else (0))))) else (bif Nat.ble y 64 then (bif Nat.ble y 61 then (bif Nat.ble y 59 then (20) else (bif Nat.ble y 60 then (0) else (0))) else (bif Nat.ble y 62 then (0) else (bif Nat.ble y 63 then (0) else (83)))) else (bif Nat.ble y 67 then (bif Nat.ble y 65 then (104) else (bif Nat.ble y 66 then (70) else (21))) else (bif Nat.ble y 68 then (21) else (bif Nat.ble y 69 then (116) else (21)))))) else (bif Nat.ble y 82 then (bif Nat.ble y 76 then (bif Nat.ble y 73 then (bif Nat.ble y 71 then (70) else (bif Nat.ble y 72 then (70) else (22))) else (bif Nat.ble y 74 then (70) else (bif Nat.ble y 75 then (71) else (43)))) else (bif Nat.ble y 79 then (bif Nat.ble y 77 then (138) else (bif Nat.ble y 78 then (138) else (96))) else (bif Nat.ble y 80 then (138) else (bif Nat.ble y 81 then (112) else (99))))) else (bif Nat.ble y 88 then (bif Nat.ble y 85 then (bif Nat.ble y 83 then (83) else (bif Nat.ble y 84 then (70) else (98))) else (bif Nat.ble y 86 then (98) else (bif Nat.ble y 87 then (23) else (21)))) else (bif Nat.ble y 91 then (bif Nat.ble y 89 then (23) else (bif Nat.ble y 90 then (47) else (60))) else (bif Nat.ble y 92 then (106) else (bif Nat.ble y 93 then (42) else (21)))))))) else (bif Nat.ble y 141 then (bif Nat.ble y 117 then (bif Nat.ble y 105 then (bif Nat.ble y 99 then (bif Nat.ble y 96 then (bif Nat.ble y 95 then (0) else (0)) else (bif Nat.ble y 97 then (22) else (bif Nat.ble y 98 then (0) else (0)))) else (bif Nat.ble y 102 then (bif Nat.ble y 100 then (21) else (bif Nat.ble y 101 then (0) else (0))) else (bif Nat.ble y 103 then (47) else (bif Nat.ble y 104 then (112) else (71))))) else (bif Nat.ble y 111 then (bif Nat.ble y 108 then (bif Nat.ble y 106 then (0) else (bif Nat.ble y 107 then (83) else (0))) else (bif Nat.ble y 109 then (0) else (bif Nat.ble y 110 then (0) else (0)))) else (bif Nat.ble y 114 then (bif Nat.ble y 112 then (20) else (bif Nat.ble y 113 then (0) else (20))) else (bif Nat.ble y 115 then (0) else (bif Nat.ble y 116 then (0) else (0)))))) else (bif Nat.ble y 129 then (bif Nat.ble y 123 then (bif Nat.ble y 120 then (bif Nat.ble y 118 then (0) else (bif Nat.ble y 119 then (0) else (0))) else (bif Nat.ble y 121 then (19) else (bif Nat.ble y 122 then (23) else (25)))) else (bif Nat.ble y 126 then (bif Nat.ble y 124 then (25) else (bif Nat.ble y 125 then (25) else (46))) else (bif Nat.ble y 127 then (48) else (bif Nat.ble y 128 then (0) else (21))))) else (bif Nat.ble y 135 then (bif Nat.ble y 132 then (bif Nat.ble y 130 then (46) else (bif Nat.ble y 131 then (46) else (68))) else (bif Nat.ble y 133 then (68) else (bif Nat.ble y 134 then (91) else (25)))) else (bif Nat.ble y 138 then (bif Nat.ble y 136 then (0) else (bif Nat.ble y 137 then (0) else (22))) else (bif Nat.ble y 139 then (25) else (bif Nat.ble y 140 then (50) else (75))))))) else (bif Nat.ble y 165 then (bif Nat.ble y 153 then (bif Nat.ble y 147 then (bif Nat.ble y 144 then (bif Nat.ble y 142 then (101) else (bif Nat.ble y 143 then (124) else (46))) else (bif Nat.ble y 145 then (46) else (bif Nat.ble y 146 then (72) else (96)))) else (bif Nat.ble y 150 then (bif Nat.ble y 148 then (72) else (bif Nat.ble y 149 then (0) else (25))) else (bif Nat.ble y 151 then (68) else (bif Nat.ble y 152 then (94) else (115))))) else (bif Nat.ble y 159 then (bif Nat.ble y 156 then (bif Nat.ble y 154 then (96) else (bif Nat.ble y 155 then (46) else (119))) else (bif Nat.ble y 157 then (46) else (bif Nat.ble y 158 then (45) else (0)))) else (bif Nat.ble y 162 then (bif Nat.ble y 160 then (0) else (bif Nat.ble y 161 then (119) else (147))) else (bif Nat.ble y 163 then (173) else (bif Nat.ble y 164 then (147) else (115)))))) else (bif Nat.ble y 177 then (bif Nat.ble y 171 then (bif Nat.ble y 168 then (bif Nat.ble y 166 then (173) else (bif Nat.ble y 167 then (173) else (115))) else (bif Nat.ble y 169 then (0) else (bif Nat.ble y 170 then (119) else (96)))) else (bif Nat.ble y 174 then (bif Nat.ble y 172 then (119) else (bif Nat.ble y 173 then (145) else (145))) else (bif Nat.ble y 175 then (25) else (bif Nat.ble y 176 then (45) else (45))))) else (bif Nat.ble y 183 then (bif Nat.ble y 180 then (bif Nat.ble y 178 then (25) else (bif Nat.ble y 179 then (47) else (47))) else (bif Nat.ble y 181 then (0) else (bif Nat.ble y 182 then (45) else (0)))) else (bif Nat.ble y 186 then (bif Nat.ble y 184 then (46) else (bif Nat.ble y 185 then (46) else (46))) else (bif Nat.ble y 187 then (0) else (bif Nat.ble y 188 then (0) else (0))))))))
def kt_wy (y : Nat) : List Cond := Cond.code (kt_nm y) (kt_by y) (kt_mx y) (kt_rt y) :: kt_gw
def kt_met (l : Launch) (dC : Nat → ClassId) (dI : Nat → Nat → Nat) (dA : Nat → ClassId) (tS : Nat → Nat) (B : Nat) (y : Nat) (as : List Value) (σ : kt_H) (v : Option Value) (σ' : kt_H) : Prop :=
  Met l (kt_nm y) (kt_wy y) ({ frames := kt_fn y, cells := σ'.2.1 - σ.2.1, slots := σ'.2.2 - σ.2.2, locals := kt_ln y } : Room) (va_Pc (as.map (kt_cv (kt_al B tS))) (kt_pre dC dI dA tS B σ)) (kt_post dC dI dA tS B v σ') (σ'.2.1 - σ.2.1) (σ'.2.2 - σ.2.2) (fun q => B ≤ q)
/-- a step is kept by the machine -/
def kt_okr (maxL : Nat) (p : Program) (l : Launch) (e : Env) (R : Room) (s : State) (m : MethodId) (args : Array Value) (below : List Frame) (meth : Method) (c : Code) (dC : Nat → ClassId) (dI : Nat → Nat → Nat) (dA : Nat → ClassId) (tS : Nat → Nat) (B n0 ns0 : Nat) (Q : State → Prop) (pc : Nat) (L : kt_L) (S : List Value) (σ : kt_H) (r : kt_F ⊕ (((Nat × List Value) × kt_F) ⊕ (Option Value × kt_H))) : Prop := match r with
  | .inl fr => σ.2.1 ≤ fr.2.2.2.2.1 ∧ σ.2.2 ≤ fr.2.2.2.2.2 ∧ (fr.2.2.2.2.1 ≤ n0 + R.cells → fr.2.2.2.2.2 ≤ ns0 + R.slots → kt_gd maxL p l e R s m args below meth c dC dI dA tS B n0 ns0 Q fr → kt_gd maxL p l e R s m args below meth c dC dI dA tS B n0 ns0 Q (pc, L, S, σ))
  | .inr (.inl q) => q.2.2.2.2 = σ ∧ ∀ (v : Option Value) (τ : kt_H), σ.2.1 ≤ τ.2.1 → σ.2.2 ≤ τ.2.2 → τ.2.1 ≤ n0 + R.cells → τ.2.2 ≤ ns0 + R.slots → kt_met l dC dI dA tS B q.1.1 q.1.2 σ v τ → kt_gd maxL p l e R s m args below meth c dC dI dA tS B n0 ns0 Q (q.2.1, q.2.2.1, kt_push v q.2.2.2.1, τ) → kt_gd maxL p l e R s m args below meth c dC dI dA tS B n0 ns0 Q (pc, L, S, σ)
  | .inr (.inr q) => q.2 = σ ∧ (Q = MQ below (kt_post dC dI dA tS B q.1 q.2) args s (q.2.2.1 - n0) (q.2.2.2 - ns0) (fun z => B ≤ z) → kt_gd maxL p l e R s m args below meth c dC dI dA tS B n0 ns0 Q (pc, L, S, σ))
def kt_sa (own nm : String) (cc : ByteArray) (maxL : Nat) (ret : Option FieldType) (fn ln pc : Nat) (f : kt_S) : Prop :=
  ∀ (p : Program) (l : Launch) (e : Env) (R : Room) (s : State) (m : MethodId) (args : Array Value) (below : List Frame) (meth : Method) (c : Code) (dC : Nat → ClassId) (dI : Nat → Nat → Nat) (dA : Nat → ClassId) (tS : Nat → Nat) (B n0 ns0 : Nat) (Q : State → Prop),
    kt_cx own cc maxL p R s m args c dC dI dA tS B n0 → meth.sig.returnType = ret → meth.locks = false → meth.name = nm → fn ≤ R.frames → ln ≤ R.locals → ∀ (L : kt_L) (S : List Value) (σ : kt_H) (r : kt_F ⊕ (((Nat × List Value) × kt_F) ⊕ (Option Value × kt_H))), f L S σ = some r → kt_okr maxL p l e R s m args below meth c dC dI dA tS B n0 ns0 Q pc L S σ r
section KT1
variable {maxL : Nat} {p : Program} {l : Launch} {e : Env} {R : Room} {s : State} {m : MethodId} {args : Array Value} {below : List Frame} {meth : Method} {c : Code} {dC : Nat → ClassId} {dI : Nat → Nat → Nat} {dA : Nat → ClassId} {tS : Nat → Nat} {B n0 ns0 : Nat} {Q : State → Prop} {pc nx : Nat} {L : kt_L} {S S' : List Value} {σ : kt_H}
theorem kt_pu (hk : ∀ (H : Heap) (locs : List Loc) (cells slots : Nat) (ls : Array Slot), W p l e R s m args below meth c H locs cells slots Q (F0 m nx ls (S'.map (kt_cv (kt_al B tS)))) → W p l e R s m args below meth c H locs cells slots Q (F0 m pc ls (S.map (kt_cv (kt_al B tS))))) : kt_okr maxL p l e R s m args below meth c dC dI dA tS B n0 ns0 Q pc L S σ (.inl (nx, L, S', σ)) :=
  ⟨Nat.le_refl _, Nat.le_refl _, fun _ _ g H locs cells slots ls h1 h2 h3 h4 h5 h6 h7 h8 => hk H locs cells slots ls (g H locs cells slots ls h1 h2 h3 h4 h5 h6 h7 h8)⟩
/-- the same, with the locals -/
theorem kt_pl (hk : ∀ (H : Heap) (locs : List Loc) (cells slots : Nat) (ls : Array Slot), kt_lo (kt_al B tS) ls maxL L → W p l e R s m args below meth c H locs cells slots Q (F0 m nx ls (S'.map (kt_cv (kt_al B tS)))) → W p l e R s m args below meth c H locs cells slots Q (F0 m pc ls (S.map (kt_cv (kt_al B tS))))) : kt_okr maxL p l e R s m args below meth c dC dI dA tS B n0 ns0 Q pc L S σ (.inl (nx, L, S', σ)) :=
  ⟨Nat.le_refl _, Nat.le_refl _, fun _ _ g H locs cells slots ls h1 h2 h3 h4 h5 h6 h7 h8 => hk H locs cells slots ls h8 (g H locs cells slots ls h1 h2 h3 h4 h5 h6 h7 h8)⟩
/-- the same, storing into the locals -/
theorem kt_ps {M : kt_L} (hk : ∀ (H : Heap) (locs : List Loc) (cells slots : Nat) (ls : Array Slot), kt_lo (kt_al B tS) ls maxL L → (∀ ls' : Array Slot, kt_lo (kt_al B tS) ls' maxL M → W p l e R s m args below meth c H locs cells slots Q (F0 m nx ls' (S'.map (kt_cv (kt_al B tS))))) → W p l e R s m args below meth c H locs cells slots Q (F0 m pc ls (S.map (kt_cv (kt_al B tS))))) : kt_okr maxL p l e R s m args below meth c dC dI dA tS B n0 ns0 Q pc L S σ (.inl (nx, M, S', σ)) :=
  ⟨Nat.le_refl _, Nat.le_refl _, fun _ _ g H locs cells slots ls h1 h2 h3 h4 h5 h6 h7 h8 => hk H locs cells slots ls h8 (fun ls' h9 => g H locs cells slots ls' h1 h2 h3 h4 h5 h6 h7 h9)⟩
/-- the same, reading the heap -/
theorem kt_pr (hk : ∀ (H : Heap) (locs : List Loc) (cells slots : Nat) (ls : Array Slot), va_P (dC, dI) vwCl (kt_ws (kt_al B tS) dA σ) H → kt_wf σ → va_S (fun q => B ≤ q) s.heap H locs → W p l e R s m args below meth c H locs cells slots Q (F0 m nx ls (S'.map (kt_cv (kt_al B tS)))) → W p l e R s m args below meth c H locs cells slots Q (F0 m pc ls (S.map (kt_cv (kt_al B tS))))) : kt_okr maxL p l e R s m args below meth c dC dI dA tS B n0 ns0 Q pc L S σ (.inl (nx, L, S', σ)) :=
  ⟨Nat.le_refl _, Nat.le_refl _, fun _ _ g H locs cells slots ls h1 h2 h3 h4 h5 h6 h7 h8 => hk H locs cells slots ls h2 h3 h4 (g H locs cells slots ls h1 h2 h3 h4 h5 h6 h7 h8)⟩
/-- the same, writing the cell a -/
theorem kt_sz {H : Heap} {locs : List Loc} {cells slots : Nat} {g : JFrame} (hB : s.heap.size = B + n0) (hn : σ.2.1 ≤ 600000) (hP : va_P (dC, dI) vwCl (kt_ws (kt_al B tS) dA σ) H) (hS : va_S (fun q => B ≤ q) s.heap H locs) (hc : n0 + cells = σ.2.1) (k : H.size = B + σ.2.1 → W p l e R s m args below meth c H locs cells slots Q g) : W p l e R s m args below meth c H locs cells slots Q g := by
  intro T hT X
  have h1 := X.heapSize
  rw [hT, hB] at h1
  have h2 : B + σ.2.1 ≤ H.size := by
    rcases Nat.eq_zero_or_pos σ.2.1 with h0 | h0
    · have := hS.1
      omega
    · have h3 := (hP _ _ (kt_ws_at (kt_al B tS) dA σ (σ.2.1 - 1) (by omega))).lt
      have h4 : kt_al B tS (σ.2.1 - 1) = B + (σ.2.1 - 1) := if_pos (by omega)
      dsimp only at h3
      rw [h4] at h3
      omega
  exact k (by omega) T hT X
theorem kt_pw {a : Nat} {x : kt_C} (ha : σ.1 a ≠ kt_no) (hB : s.heap.size = B + n0) (hcap : n0 + R.cells ≤ 600000) (hk : ∀ (H : Heap) (locs : List Loc) (cells slots : Nat) (ls : Array Slot), a < σ.2.1 → va_P (dC, dI) vwCl (kt_ws (kt_al B tS) dA σ) H → va_D (fun q => B ≤ q) (kt_ws (kt_al B tS) dA σ) → kt_wf σ → va_S (fun q => B ≤ q) s.heap H locs → kt_lo (kt_al B tS) ls maxL L → (∀ (H1 : Heap) (locs1 : List Loc), va_P (dC, dI) vwCl ((kt_ws (kt_al B tS) dA σ).set a (kt_al B tS a, kt_cc (kt_al B tS) dA x)) H1 → va_S (fun q => B ≤ q) s.heap H1 locs1 → W p l e R s m args below meth c H1 locs1 cells slots Q (F0 m nx ls (S'.map (kt_cv (kt_al B tS))))) → W p l e R s m args below meth c H locs cells slots Q (F0 m pc ls (S.map (kt_cv (kt_al B tS))))) : kt_okr maxL p l e R s m args below meth c dC dI dA tS B n0 ns0 Q pc L S σ (.inl (nx, L, S', kt_put σ a x)) := by
  refine ⟨Nat.le_refl _, Nat.le_refl _, fun _ _ g H locs cells slots ls h1 h2 h3 h4 h5 h6 h7 h8 => ?_⟩
  have hlt : a < σ.2.1 := kt_wf_lt h3 ha
  refine hk H locs cells slots ls hlt h2 (kt_ws_D (Nat.le_trans h7 (Nat.le_trans hcap (by decide)))) h3 h4 h8 (fun H1 locs1 hP hS => ?_)
  have hP1 : va_P (dC, dI) vwCl (kt_ws (kt_al B tS) dA (kt_put σ a x)) H1 := by rw [kt_ws_set _ _ _ _ _ hlt]; exact hP
  refine kt_sz (σ := kt_put σ a x) hB (Nat.le_trans h7 hcap) hP1 hS h5 (fun z1 => ?_)
  exact g H1 locs1 cells slots ls z1 hP1 (kt_wf_put h3 hlt) hS h5 h6 h7 h8
/-- a new cell -/
theorem kt_pn {x : kt_C} {j : Nat} (hB : s.heap.size = B + n0) (hcap : n0 + R.cells ≤ 600000) (hk : ∀ (H : Heap) (locs : List Loc) (cells slots : Nat) (ls : Array Slot), va_P (dC, dI) vwCl (kt_ws (kt_al B tS) dA σ) H → va_D (fun q => B ≤ q) (kt_ws (kt_al B tS) dA σ) → va_S (fun q => B ≤ q) s.heap H locs → cells + 1 ≤ R.cells → slots + j ≤ R.slots → (∀ (q : Nat) (H1 : Heap), va_P (dC, dI) vwCl (kt_ws (kt_al B tS) dA σ ++ [(q, kt_cc (kt_al B tS) dA x)]) H1 → va_D (fun q => B ≤ q) (kt_ws (kt_al B tS) dA σ ++ [(q, kt_cc (kt_al B tS) dA x)]) → va_S (fun q => B ≤ q) s.heap H1 locs → W p l e R s m args below meth c H1 locs (cells + 1) (slots + j) Q (F0 m nx ls (.ref q :: S'.map (kt_cv (kt_al B tS))))) → W p l e R s m args below meth c H locs cells slots Q (F0 m pc ls (S.map (kt_cv (kt_al B tS))))) : kt_okr maxL p l e R s m args below meth c dC dI dA tS B n0 ns0 Q pc L S σ (.inl (nx, L, .ref σ.2.1 :: S', kt_new σ x j)) := by
  refine ⟨Nat.le_succ _, Nat.le_add_right _ _, fun hc1 hc2 g H locs cells slots ls h1 h2 h3 h4 h5 h6 h7 h8 => ?_⟩
  dsimp only at h1 h2 h3 h5 h6 h7 h8
  have hc1 : σ.2.1 + 1 ≤ n0 + R.cells := hc1
  have hc2 : σ.2.2 + j ≤ ns0 + R.slots := hc2
  refine hk H locs cells slots ls h2 (kt_ws_D (Nat.le_trans h7 (Nat.le_trans hcap (by decide)))) h4 (by omega) (by omega) (fun q H1 hP hD hS => ?_)
  intro T hT X
  have b1 := X.heapSize
  rw [hT, hB] at b1
  have hlen : (kt_ws (kt_al B tS) dA σ).length = σ.2.1 := by simp [kt_ws]
  have e1 : (kt_ws (kt_al B tS) dA σ ++ [(q, kt_cc (kt_al B tS) dA x)])[σ.2.1]? = some (q, kt_cc (kt_al B tS) dA x) := by
    rw [List.getElem?_append_right (by omega), hlen, Nat.sub_self]; rfl
  have b2 := (hP _ _ e1).lt
  have b3 := hD.2 _ _ e1
  dsimp only at b2 b3
  have hq : q = B + σ.2.1 := by
    rcases Nat.lt_or_ge q (B + σ.2.1) with b4 | b4
    · have e2 : (kt_ws (kt_al B tS) dA σ ++ [(q, kt_cc (kt_al B tS) dA x)])[q - B]? = some (kt_al B tS (q - B), kt_cc (kt_al B tS) dA (σ.1 (q - B))) := by
        rw [List.getElem?_append_left (by omega)]
        exact kt_ws_at _ _ _ _ (by omega)
      have e3 := hD.1 _ _ _ _ e1 e2 (by
        show q = kt_al B tS (q - B)
        rw [show kt_al B tS (q - B) = B + (q - B) from if_pos (by omega)]
        omega)
      omega
    · omega
  have hal : kt_al B tS σ.2.1 = B + σ.2.1 := if_pos (by omega)
  subst hq
  rw [← hal] at hP
  have hP1 : va_P (dC, dI) vwCl (kt_ws (kt_al B tS) dA (kt_new σ x j)) H1 := by rw [kt_ws_push]; exact hP
  have fin : W p l e R s m args below meth c H1 locs (cells + 1) (slots + j) Q (F0 m nx ls (.ref (B + σ.2.1) :: S'.map (kt_cv (kt_al B tS)))) := by
    refine kt_sz (σ := kt_new σ x j) hB (Nat.le_trans hc1 hcap) hP1 hS (by show n0 + (cells + 1) = σ.2.1 + 1; omega) (fun z1 => ?_)
    have := g H1 locs (cells + 1) (slots + j) ls z1 hP1 (kt_wf_new h3) hS (by show n0 + (cells + 1) = σ.2.1 + 1; omega) (by show ns0 + (slots + j) = σ.2.2 + j; omega) hc1 h8
    dsimp only at this
    rw [List.map_cons, show kt_cv (kt_al B tS) (.ref σ.2.1) = .ref (B + σ.2.1) by rw [← hal]; rfl] at this
    exact this
  exact fin T hT X
end KT1
theorem d_iconst {own nm : String} {cc : ByteArray} {maxL : Nat} {ret : Option FieldType} {fn ln pc : Nat} {n : Int} {v : Int32} (hv : Int32.ofInt n = v) (hd : decode cc pc = .ok (.iconst n, 1)) : kt_sa own nm cc maxL ret fn ln pc (s_ic v (pc + 1)) := by
  intro p l e R s m args below meth c dC dI dA tS B n0 ns0 Q hc hr hlk hnm hfr hln L S σ r h
  obtain ⟨hx, hb, hml, hown, hts, hot, hcap, hB⟩ := hc
  unfold s_ic at h
  cases h
  exact kt_pu (fun H locs cells slots ls k => lv_iconst hx hb hd hv k)
theorem d_bipush {own nm : String} {cc : ByteArray} {maxL : Nat} {ret : Option FieldType} {fn ln pc : Nat} {n : Int} {v : Int32} (hv : (Int8.ofInt n).toInt32 = v) (hd : decode cc pc = .ok (.bipush n, 2)) : kt_sa own nm cc maxL ret fn ln pc (s_ic v (pc + 2)) := by
  intro p l e R s m args below meth c dC dI dA tS B n0 ns0 Q hc hr hlk hnm hfr hln L S σ r h
  obtain ⟨hx, hb, hml, hown, hts, hot, hcap, hB⟩ := hc
  unfold s_ic at h
  cases h
  exact kt_pu (fun H locs cells slots ls k => lv_bipush hx hb hd hv k)
theorem d_sipush {own nm : String} {cc : ByteArray} {maxL : Nat} {ret : Option FieldType} {fn ln pc : Nat} {n : Int} {v : Int32} (hv : (Int16.ofInt n).toInt32 = v) (hd : decode cc pc = .ok (.sipush n, 3)) : kt_sa own nm cc maxL ret fn ln pc (s_ic v (pc + 3)) := by
  intro p l e R s m args below meth c dC dI dA tS B n0 ns0 Q hc hr hlk hnm hfr hln L S σ r h
  obtain ⟨hx, hb, hml, hown, hts, hot, hcap, hB⟩ := hc
  unfold s_ic at h
  cases h
  exact kt_pu (fun H locs cells slots ls k => lv_sipush hx hb hd hv k)
theorem d_ldc {own nm : String} {cc : ByteArray} {maxL : Nat} {ret : Option FieldType} {fn ln pc : Nat} {i : Nat} {v : Int32} (hw : Cond.constant own i v ∈ kt_gw) (hd : decode cc pc = .ok (.ldc i, 2)) : kt_sa own nm cc maxL ret fn ln pc (s_ic v (pc + 2)) := by
  intro p l e R s m args below meth c dC dI dA tS B n0 ns0 Q hc hr hlk hnm hfr hln L S σ r h
  obtain ⟨hx, hb, hml, hown, hts, hot, hcap, hB⟩ := hc
  unfold s_ic at h
  cases h
  exact kt_pu (fun H locs cells slots ls k => lv_ldc hx hb hown (hts _ hw) hd k)
theorem d_ldc2 {own nm : String} {cc : ByteArray} {maxL : Nat} {ret : Option FieldType} {fn ln pc : Nat} {i : Nat} {v : Int64} (hw : Cond.constantLong own i v ∈ kt_gw) (hd : decode cc pc = .ok (.ldc2_w i, 3)) : kt_sa own nm cc maxL ret fn ln pc (s_lc v (pc + 3)) := by
  intro p l e R s m args below meth c dC dI dA tS B n0 ns0 Q hc hr hlk hnm hfr hln L S σ r h
  obtain ⟨hx, hb, hml, hown, hts, hot, hcap, hB⟩ := hc
  unfold s_lc at h
  cases h
  exact kt_pu (fun H locs cells slots ls k => lv_ldc2 hx hb hown (hts _ hw) hd k)
theorem d_lconst {own nm : String} {cc : ByteArray} {maxL : Nat} {ret : Option FieldType} {fn ln pc : Nat} {n : Fin 2} {v : Int64} (hv : Int64.ofNat (n : Nat) = v) (hd : decode cc pc = .ok (.lconst n, 1)) : kt_sa own nm cc maxL ret fn ln pc (s_lc v (pc + 1)) := by
  intro p l e R s m args below meth c dC dI dA tS B n0 ns0 Q hc hr hlk hnm hfr hln L S σ r h
  obtain ⟨hx, hb, hml, hown, hts, hot, hcap, hB⟩ := hc
  unfold s_lc at h
  cases h
  exact kt_pu (fun H locs cells slots ls k => lv_lconst hx hb hd hv k)
theorem d_nul {own nm : String} {cc : ByteArray} {maxL : Nat} {ret : Option FieldType} {fn ln pc : Nat}  (hd : decode cc pc = .ok (.aconst_null, 1)) : kt_sa own nm cc maxL ret fn ln pc (s_nul (pc + 1)) := by
  intro p l e R s m args below meth c dC dI dA tS B n0 ns0 Q hc hr hlk hnm hfr hln L S σ r h
  obtain ⟨hx, hb, hml, hown, hts, hot, hcap, hB⟩ := hc
  unfold s_nul at h
  cases h
  exact kt_pu (fun H locs cells slots ls k => lv_null hx hb hd k)
theorem d_il_n {own nm : String} {cc : ByteArray} {maxL : Nat} {ret : Option FieldType} {fn ln pc : Nat} {i : Fin 4} {j : Nat} (hj : (i : Nat) = j) (hd : decode cc pc = .ok (.iload_n i, 1)) : kt_sa own nm cc maxL ret fn ln pc (s_il j (pc + 1)) := by
  intro p l e R s m args below meth c dC dI dA tS B n0 ns0 Q hc hr hlk hnm hfr hln L S σ r h
  obtain ⟨hx, hb, hml, hown, hts, hot, hcap, hB⟩ := hc
  unfold s_il at h
  split at h
  · rename_i x hat
    cases h
    exact kt_pl (fun H locs cells slots ls hl k => lv_iload_n hx hb hd hj (hl.2.2.2 _ _ hat) k)
  · cases h
theorem d_il {own nm : String} {cc : ByteArray} {maxL : Nat} {ret : Option FieldType} {fn ln pc : Nat} {j : Nat} (hd : decode cc pc = .ok (.iload j, 2)) : kt_sa own nm cc maxL ret fn ln pc (s_il j (pc + 2)) := by
  intro p l e R s m args below meth c dC dI dA tS B n0 ns0 Q hc hr hlk hnm hfr hln L S σ r h
  obtain ⟨hx, hb, hml, hown, hts, hot, hcap, hB⟩ := hc
  unfold s_il at h
  split at h
  · rename_i x hat
    cases h
    exact kt_pl (fun H locs cells slots ls hl k => lv_iload hx hb hd (hl.2.2.2 _ _ hat) k)
  · cases h
theorem d_ll_n {own nm : String} {cc : ByteArray} {maxL : Nat} {ret : Option FieldType} {fn ln pc : Nat} {i : Fin 4} {j : Nat} (hj : (i : Nat) = j) (hd : decode cc pc = .ok (.lload_n i, 1)) : kt_sa own nm cc maxL ret fn ln pc (s_ll j (pc + 1)) := by
  intro p l e R s m args below meth c dC dI dA tS B n0 ns0 Q hc hr hlk hnm hfr hln L S σ r h
  obtain ⟨hx, hb, hml, hown, hts, hot, hcap, hB⟩ := hc
  unfold s_ll at h
  split at h
  · rename_i x hat
    cases h
    exact kt_pl (fun H locs cells slots ls hl k => lv_lload_n hx hb hd hj (hl.2.2.2 _ _ hat) k)
  · cases h
theorem d_ll {own nm : String} {cc : ByteArray} {maxL : Nat} {ret : Option FieldType} {fn ln pc : Nat} {j : Nat} (hd : decode cc pc = .ok (.lload j, 2)) : kt_sa own nm cc maxL ret fn ln pc (s_ll j (pc + 2)) := by
  intro p l e R s m args below meth c dC dI dA tS B n0 ns0 Q hc hr hlk hnm hfr hln L S σ r h
  obtain ⟨hx, hb, hml, hown, hts, hot, hcap, hB⟩ := hc
  unfold s_ll at h
  split at h
  · rename_i x hat
    cases h
    exact kt_pl (fun H locs cells slots ls hl k => lv_lload hx hb hd (hl.2.2.2 _ _ hat) k)
  · cases h
theorem d_al_n {own nm : String} {cc : ByteArray} {maxL : Nat} {ret : Option FieldType} {fn ln pc : Nat} {i : Fin 4} {j : Nat} (hj : (i : Nat) = j) (hd : decode cc pc = .ok (.aload_n i, 1)) : kt_sa own nm cc maxL ret fn ln pc (s_al j (pc + 1)) := by
  intro p l e R s m args below meth c dC dI dA tS B n0 ns0 Q hc hr hlk hnm hfr hln L S σ r h
  obtain ⟨hx, hb, hml, hown, hts, hot, hcap, hB⟩ := hc
  unfold s_al at h
  split at h
  · rename_i x hat
    cases h
    exact kt_pl (fun H locs cells slots ls hl k => lv_aload_n hx hb hd hj (hl.2.2.2 _ _ hat) k)
  · rename_i hat
    cases h
    exact kt_pl (fun H locs cells slots ls hl k => lv_aload_nN hx hb hd hj (hl.2.2.2 _ _ hat) k)
  · cases h
theorem d_al {own nm : String} {cc : ByteArray} {maxL : Nat} {ret : Option FieldType} {fn ln pc : Nat} {j : Nat} (hd : decode cc pc = .ok (.aload j, 2)) : kt_sa own nm cc maxL ret fn ln pc (s_al j (pc + 2)) := by
  intro p l e R s m args below meth c dC dI dA tS B n0 ns0 Q hc hr hlk hnm hfr hln L S σ r h
  obtain ⟨hx, hb, hml, hown, hts, hot, hcap, hB⟩ := hc
  unfold s_al at h
  split at h
  · rename_i x hat
    cases h
    exact kt_pl (fun H locs cells slots ls hl k => lv_aload hx hb hd (hl.2.2.2 _ _ hat) k)
  · rename_i hat
    cases h
    exact kt_pl (fun H locs cells slots ls hl k => lv_aloadN hx hb hd (hl.2.2.2 _ _ hat) k)
  · cases h
theorem d_is_n {own nm : String} {cc : ByteArray} {maxL : Nat} {ret : Option FieldType} {fn ln pc : Nat} {i : Fin 4} {j : Nat} (hj : (i : Nat) = j) (hd : decode cc pc = .ok (.istore_n i, 1)) : kt_sa own nm cc maxL ret fn ln pc (s_is j (pc + 1)) := by
  intro p l e R s m args below meth c dC dI dA tS B n0 ns0 Q hc hr hlk hnm hfr hln L S σ r h
  obtain ⟨hx, hb, hml, hown, hts, hot, hcap, hB⟩ := hc
  unfold s_is at h
  split at h
  · split at h
    · rename_i M hs hk
      cases h
      exact kt_ps (fun H locs cells slots ls hl k => lv_istore_n hx hb hd hj (kt_lo_has hl) (hl.2.1 ▸ (kt_set_ok _ _ _ _ hs).2.1) rfl (fun ls' h' => k ls' (kt_lo_st hl.2.1 hs hk h')))
    · cases h
  · cases h
theorem d_is {own nm : String} {cc : ByteArray} {maxL : Nat} {ret : Option FieldType} {fn ln pc : Nat} {j : Nat} (hd : decode cc pc = .ok (.istore j, 2)) : kt_sa own nm cc maxL ret fn ln pc (s_is j (pc + 2)) := by
  intro p l e R s m args below meth c dC dI dA tS B n0 ns0 Q hc hr hlk hnm hfr hln L S σ r h
  obtain ⟨hx, hb, hml, hown, hts, hot, hcap, hB⟩ := hc
  unfold s_is at h
  split at h
  · split at h
    · rename_i M hs hk
      cases h
      exact kt_ps (fun H locs cells slots ls hl k => lv_istore hx hb hd (kt_lo_has hl) (hl.2.1 ▸ (kt_set_ok _ _ _ _ hs).2.1) rfl (fun ls' h' => k ls' (kt_lo_st hl.2.1 hs hk h')))
    · cases h
  · cases h
theorem d_as_n {own nm : String} {cc : ByteArray} {maxL : Nat} {ret : Option FieldType} {fn ln pc : Nat} {i : Fin 4} {j : Nat} (hj : (i : Nat) = j) (hd : decode cc pc = .ok (.astore_n i, 1)) : kt_sa own nm cc maxL ret fn ln pc (s_as j (pc + 1)) := by
  intro p l e R s m args below meth c dC dI dA tS B n0 ns0 Q hc hr hlk hnm hfr hln L S σ r h
  obtain ⟨hx, hb, hml, hown, hts, hot, hcap, hB⟩ := hc
  unfold s_as at h
  split at h
  · split at h
    · rename_i M hs hk
      cases h
      exact kt_ps (fun H locs cells slots ls hl k => lv_astore_n hx hb hd hj (kt_lo_has hl) (hl.2.1 ▸ (kt_set_ok _ _ _ _ hs).2.1) rfl (fun ls' h' => k ls' (kt_lo_st hl.2.1 hs hk h')))
    · cases h
  · split at h
    · rename_i M hs hk
      cases h
      exact kt_ps (fun H locs cells slots ls hl k => lv_astore_nN hx hb hd hj (kt_lo_has hl) (hl.2.1 ▸ (kt_set_ok _ _ _ _ hs).2.1) rfl (fun ls' h' => k ls' (kt_lo_st hl.2.1 hs hk h')))
    · cases h
  · cases h
theorem d_as {own nm : String} {cc : ByteArray} {maxL : Nat} {ret : Option FieldType} {fn ln pc : Nat} {j : Nat} (hd : decode cc pc = .ok (.astore j, 2)) : kt_sa own nm cc maxL ret fn ln pc (s_as j (pc + 2)) := by
  intro p l e R s m args below meth c dC dI dA tS B n0 ns0 Q hc hr hlk hnm hfr hln L S σ r h
  obtain ⟨hx, hb, hml, hown, hts, hot, hcap, hB⟩ := hc
  unfold s_as at h
  split at h
  · split at h
    · rename_i M hs hk
      cases h
      exact kt_ps (fun H locs cells slots ls hl k => lv_astore hx hb hd (kt_lo_has hl) (hl.2.1 ▸ (kt_set_ok _ _ _ _ hs).2.1) rfl (fun ls' h' => k ls' (kt_lo_st hl.2.1 hs hk h')))
    · cases h
  · split at h
    · rename_i M hs hk
      cases h
      exact kt_ps (fun H locs cells slots ls hl k => lv_astoreN hx hb hd (kt_lo_has hl) (hl.2.1 ▸ (kt_set_ok _ _ _ _ hs).2.1) rfl (fun ls' h' => k ls' (kt_lo_st hl.2.1 hs hk h')))
    · cases h
  · cases h
theorem d_ls {own nm : String} {cc : ByteArray} {maxL : Nat} {ret : Option FieldType} {fn ln pc : Nat} {j : Nat} (hd : decode cc pc = .ok (.lstore j, 2)) : kt_sa own nm cc maxL ret fn ln pc (s_ls j (pc + 2)) := by
  intro p l e R s m args below meth c dC dI dA tS B n0 ns0 Q hc hr hlk hnm hfr hln L S σ r h
  obtain ⟨hx, hb, hml, hown, hts, hot, hcap, hB⟩ := hc
  unfold s_ls at h
  split at h
  · split at h
    · rename_i M hs hk
      split at h
      · rename_i M' hs'
        cases h
        exact kt_ps (fun H locs cells slots ls hl k => lv_lstore hx hb hd (kt_lo_has hl) (by have h1 := (kt_set_ok _ _ _ _ hs').2.1; have h2 := (kt_set_ok _ _ _ _ hs).1; have h3 := hl.2.1; omega) rfl (fun ls' h' => k ls' (kt_lo_stl hl.2.1 hs hs' hk h')))
      · cases h
    · cases h
  · cases h
theorem d_inc {own nm : String} {cc : ByteArray} {maxL : Nat} {ret : Option FieldType} {fn ln pc : Nat} {j : Nat} {n : Int} {v : Int32} (hv : Int32.ofInt n = v) (hd : decode cc pc = .ok (.iinc j n, 3)) : kt_sa own nm cc maxL ret fn ln pc (s_inc j v (pc + 3)) := by
  intro p l e R s m args below meth c dC dI dA tS B n0 ns0 Q hc hr hlk hnm hfr hln L S σ r h
  obtain ⟨hx, hb, hml, hown, hts, hot, hcap, hB⟩ := hc
  unfold s_inc at h
  split at h
  · rename_i x hat
    split at h
    · rename_i M hs hk
      cases h
      refine kt_ps (fun H locs cells slots ls hl k => ?_)
      obtain ⟨q, hq⟩ := List.getElem?_of_mem (kt_lv_mem (α := kt_al B tS) hat)
      exact lv_iinc hx hb hd (kt_lo_has hl) hq (by rw [hv]) (hl.2.1 ▸ (kt_set_ok _ _ _ _ hs).2.1) rfl (fun ls' h' => k ls' (kt_lo_st hl.2.1 hs hk h'))
    · cases h
  · cases h
theorem d_dup {own nm : String} {cc : ByteArray} {maxL : Nat} {ret : Option FieldType} {fn ln pc : Nat}  (hd : decode cc pc = .ok (.dup, 1)) : kt_sa own nm cc maxL ret fn ln pc (s_dup (pc + 1)) := by
  intro p l e R s m args below meth c dC dI dA tS B n0 ns0 Q hc hr hlk hnm hfr hln L S σ r h
  obtain ⟨hx, hb, hml, hown, hts, hot, hcap, hB⟩ := hc
  unfold s_dup at h
  split at h
  · cases h
    exact kt_pu (fun H locs cells slots ls k => lv_dup hx hb hd rfl k)
  · cases h
    exact kt_pu (fun H locs cells slots ls k => lv_dup hx hb hd rfl k)
  · cases h
theorem d_dup2 {own nm : String} {cc : ByteArray} {maxL : Nat} {ret : Option FieldType} {fn ln pc : Nat}  (hd : decode cc pc = .ok (.dup2, 1)) : kt_sa own nm cc maxL ret fn ln pc (s_dup2 (pc + 1)) := by
  intro p l e R s m args below meth c dC dI dA tS B n0 ns0 Q hc hr hlk hnm hfr hln L S σ r h
  obtain ⟨hx, hb, hml, hown, hts, hot, hcap, hB⟩ := hc
  unfold s_dup2 at h
  split at h
  · cases h
    exact kt_pu (fun H locs cells slots ls k => lv_dup2_11 hx hb hd rfl rfl k)
  · cases h
theorem d_pop {own nm : String} {cc : ByteArray} {maxL : Nat} {ret : Option FieldType} {fn ln pc : Nat}  (hd : decode cc pc = .ok (.pop, 1)) : kt_sa own nm cc maxL ret fn ln pc (s_pop (pc + 1)) := by
  intro p l e R s m args below meth c dC dI dA tS B n0 ns0 Q hc hr hlk hnm hfr hln L S σ r h
  obtain ⟨hx, hb, hml, hown, hts, hot, hcap, hB⟩ := hc
  unfold s_pop at h
  split at h
  · cases h
    exact kt_pu (fun H locs cells slots ls k => lv_pop hx hb hd rfl k)
  · cases h
    exact kt_pu (fun H locs cells slots ls k => lv_pop hx hb hd rfl k)
  · cases h
    exact kt_pu (fun H locs cells slots ls k => lv_pop hx hb hd rfl k)
  · cases h
theorem d_add {own nm : String} {cc : ByteArray} {maxL : Nat} {ret : Option FieldType} {fn ln pc : Nat}  (hd : decode cc pc = .ok (.iadd, 1)) : kt_sa own nm cc maxL ret fn ln pc (s_add (pc + 1)) := by
  intro p l e R s m args below meth c dC dI dA tS B n0 ns0 Q hc hr hlk hnm hfr hln L S σ r h
  obtain ⟨hx, hb, hml, hown, hts, hot, hcap, hB⟩ := hc
  unfold s_add at h
  split at h
  · cases h
    exact kt_pu (fun H locs cells slots ls k => lv_iadd hx hb hd k)
  · cases h
theorem d_sub {own nm : String} {cc : ByteArray} {maxL : Nat} {ret : Option FieldType} {fn ln pc : Nat}  (hd : decode cc pc = .ok (.isub, 1)) : kt_sa own nm cc maxL ret fn ln pc (s_sub (pc + 1)) := by
  intro p l e R s m args below meth c dC dI dA tS B n0 ns0 Q hc hr hlk hnm hfr hln L S σ r h
  obtain ⟨hx, hb, hml, hown, hts, hot, hcap, hB⟩ := hc
  unfold s_sub at h
  split at h
  · cases h
    exact kt_pu (fun H locs cells slots ls k => lv_isub hx hb hd k)
  · cases h
theorem d_mul {own nm : String} {cc : ByteArray} {maxL : Nat} {ret : Option FieldType} {fn ln pc : Nat}  (hd : decode cc pc = .ok (.imul, 1)) : kt_sa own nm cc maxL ret fn ln pc (s_mul (pc + 1)) := by
  intro p l e R s m args below meth c dC dI dA tS B n0 ns0 Q hc hr hlk hnm hfr hln L S σ r h
  obtain ⟨hx, hb, hml, hown, hts, hot, hcap, hB⟩ := hc
  unfold s_mul at h
  split at h
  · cases h
    exact kt_pu (fun H locs cells slots ls k => lv_imul hx hb hd k)
  · cases h
theorem d_and {own nm : String} {cc : ByteArray} {maxL : Nat} {ret : Option FieldType} {fn ln pc : Nat}  (hd : decode cc pc = .ok (.iand, 1)) : kt_sa own nm cc maxL ret fn ln pc (s_and (pc + 1)) := by
  intro p l e R s m args below meth c dC dI dA tS B n0 ns0 Q hc hr hlk hnm hfr hln L S σ r h
  obtain ⟨hx, hb, hml, hown, hts, hot, hcap, hB⟩ := hc
  unfold s_and at h
  split at h
  · cases h
    exact kt_pu (fun H locs cells slots ls k => lv_iand hx hb hd k)
  · cases h
theorem d_neg {own nm : String} {cc : ByteArray} {maxL : Nat} {ret : Option FieldType} {fn ln pc : Nat}  (hd : decode cc pc = .ok (.ineg, 1)) : kt_sa own nm cc maxL ret fn ln pc (s_neg (pc + 1)) := by
  intro p l e R s m args below meth c dC dI dA tS B n0 ns0 Q hc hr hlk hnm hfr hln L S σ r h
  obtain ⟨hx, hb, hml, hown, hts, hot, hcap, hB⟩ := hc
  unfold s_neg at h
  split at h
  · cases h
    exact kt_pu (fun H locs cells slots ls k => lv_ineg hx hb hd k)
  · cases h
theorem d_ladd {own nm : String} {cc : ByteArray} {maxL : Nat} {ret : Option FieldType} {fn ln pc : Nat}  (hd : decode cc pc = .ok (.ladd, 1)) : kt_sa own nm cc maxL ret fn ln pc (s_ladd (pc + 1)) := by
  intro p l e R s m args below meth c dC dI dA tS B n0 ns0 Q hc hr hlk hnm hfr hln L S σ r h
  obtain ⟨hx, hb, hml, hown, hts, hot, hcap, hB⟩ := hc
  unfold s_ladd at h
  split at h
  · cases h
    exact kt_pu (fun H locs cells slots ls k => lv_ladd hx hb hd k)
  · cases h
theorem d_lsub {own nm : String} {cc : ByteArray} {maxL : Nat} {ret : Option FieldType} {fn ln pc : Nat}  (hd : decode cc pc = .ok (.lsub, 1)) : kt_sa own nm cc maxL ret fn ln pc (s_lsub (pc + 1)) := by
  intro p l e R s m args below meth c dC dI dA tS B n0 ns0 Q hc hr hlk hnm hfr hln L S σ r h
  obtain ⟨hx, hb, hml, hown, hts, hot, hcap, hB⟩ := hc
  unfold s_lsub at h
  split at h
  · cases h
    exact kt_pu (fun H locs cells slots ls k => lv_lsub hx hb hd k)
  · cases h
theorem d_lmul {own nm : String} {cc : ByteArray} {maxL : Nat} {ret : Option FieldType} {fn ln pc : Nat}  (hd : decode cc pc = .ok (.lmul, 1)) : kt_sa own nm cc maxL ret fn ln pc (s_lmul (pc + 1)) := by
  intro p l e R s m args below meth c dC dI dA tS B n0 ns0 Q hc hr hlk hnm hfr hln L S σ r h
  obtain ⟨hx, hb, hml, hown, hts, hot, hcap, hB⟩ := hc
  unfold s_lmul at h
  split at h
  · cases h
    exact kt_pu (fun H locs cells slots ls k => lv_lmul hx hb hd k)
  · cases h
theorem d_i2l {own nm : String} {cc : ByteArray} {maxL : Nat} {ret : Option FieldType} {fn ln pc : Nat}  (hd : decode cc pc = .ok (.i2l, 1)) : kt_sa own nm cc maxL ret fn ln pc (s_i2l (pc + 1)) := by
  intro p l e R s m args below meth c dC dI dA tS B n0 ns0 Q hc hr hlk hnm hfr hln L S σ r h
  obtain ⟨hx, hb, hml, hown, hts, hot, hcap, hB⟩ := hc
  unfold s_i2l at h
  split at h
  · cases h
    exact kt_pu (fun H locs cells slots ls k => lv_i2l hx hb hd rfl k)
  · cases h
theorem d_i2b {own nm : String} {cc : ByteArray} {maxL : Nat} {ret : Option FieldType} {fn ln pc : Nat}  (hd : decode cc pc = .ok (.i2b, 1)) : kt_sa own nm cc maxL ret fn ln pc (s_i2b (pc + 1)) := by
  intro p l e R s m args below meth c dC dI dA tS B n0 ns0 Q hc hr hlk hnm hfr hln L S σ r h
  obtain ⟨hx, hb, hml, hown, hts, hot, hcap, hB⟩ := hc
  unfold s_i2b at h
  split at h
  · cases h
    exact kt_pu (fun H locs cells slots ls k => lv_i2b hx hb hd rfl k)
  · cases h
theorem d_i2s {own nm : String} {cc : ByteArray} {maxL : Nat} {ret : Option FieldType} {fn ln pc : Nat}  (hd : decode cc pc = .ok (.i2s, 1)) : kt_sa own nm cc maxL ret fn ln pc (s_i2s (pc + 1)) := by
  intro p l e R s m args below meth c dC dI dA tS B n0 ns0 Q hc hr hlk hnm hfr hln L S σ r h
  obtain ⟨hx, hb, hml, hown, hts, hot, hcap, hB⟩ := hc
  unfold s_i2s at h
  split at h
  · cases h
    exact kt_pu (fun H locs cells slots ls k => lv_i2s hx hb hd rfl k)
  · cases h
theorem d_lcmp {own nm : String} {cc : ByteArray} {maxL : Nat} {ret : Option FieldType} {fn ln pc : Nat}  (hd : decode cc pc = .ok (.lcmp, 1)) : kt_sa own nm cc maxL ret fn ln pc (s_lcmp (pc + 1)) := by
  intro p l e R s m args below meth c dC dI dA tS B n0 ns0 Q hc hr hlk hnm hfr hln L S σ r h
  obtain ⟨hx, hb, hml, hown, hts, hot, hcap, hB⟩ := hc
  unfold s_lcmp at h
  split at h
  · cases h
    exact kt_pu (fun H locs cells slots ls k => W.lcmp hx hb hd k)
  · cases h
theorem d_div {own nm : String} {cc : ByteArray} {maxL : Nat} {ret : Option FieldType} {fn ln pc : Nat}  (hd : decode cc pc = .ok (.idiv, 1)) : kt_sa own nm cc maxL ret fn ln pc (s_div (pc + 1)) := by
  intro p l e R s m args below meth c dC dI dA tS B n0 ns0 Q hc hr hlk hnm hfr hln L S σ r h
  obtain ⟨hx, hb, hml, hown, hts, hot, hcap, hB⟩ := hc
  unfold s_div at h
  split at h
  · split at h
    · cases h
    · rename_i hz
      cases h
      exact kt_pu (fun H locs cells slots ls k => lv_idiv hx hb hd hz k)
  · cases h
theorem d_rem {own nm : String} {cc : ByteArray} {maxL : Nat} {ret : Option FieldType} {fn ln pc : Nat}  (hd : decode cc pc = .ok (.irem, 1)) : kt_sa own nm cc maxL ret fn ln pc (s_rem (pc + 1)) := by
  intro p l e R s m args below meth c dC dI dA tS B n0 ns0 Q hc hr hlk hnm hfr hln L S σ r h
  obtain ⟨hx, hb, hml, hown, hts, hot, hcap, hB⟩ := hc
  unfold s_rem at h
  split at h
  · split at h
    · cases h
    · rename_i hz
      cases h
      exact kt_pu (fun H locs cells slots ls k => lv_irem hx hb hd hz k)
  · cases h
theorem d_ldiv {own nm : String} {cc : ByteArray} {maxL : Nat} {ret : Option FieldType} {fn ln pc : Nat}  (hd : decode cc pc = .ok (.ldiv, 1)) : kt_sa own nm cc maxL ret fn ln pc (s_ldiv (pc + 1)) := by
  intro p l e R s m args below meth c dC dI dA tS B n0 ns0 Q hc hr hlk hnm hfr hln L S σ r h
  obtain ⟨hx, hb, hml, hown, hts, hot, hcap, hB⟩ := hc
  unfold s_ldiv at h
  split at h
  · split at h
    · cases h
    · rename_i hz
      cases h
      exact kt_pu (fun H locs cells slots ls k => lv_ldiv hx hb hd hz k)
  · cases h
theorem d_lrem {own nm : String} {cc : ByteArray} {maxL : Nat} {ret : Option FieldType} {fn ln pc : Nat}  (hd : decode cc pc = .ok (.lrem, 1)) : kt_sa own nm cc maxL ret fn ln pc (s_lrem (pc + 1)) := by
  intro p l e R s m args below meth c dC dI dA tS B n0 ns0 Q hc hr hlk hnm hfr hln L S σ r h
  obtain ⟨hx, hb, hml, hown, hts, hot, hcap, hB⟩ := hc
  unfold s_lrem at h
  split at h
  · split at h
    · cases h
    · rename_i hz
      cases h
      exact kt_pu (fun H locs cells slots ls k => lv_lrem hx hb hd hz k)
  · cases h
theorem d_goto {own nm : String} {cc : ByteArray} {maxL : Nat} {ret : Option FieldType} {fn ln pc : Nat} {off : Int} {t : Nat} (ht : (pc : Int) + off = (t : Int)) (hd : decode cc pc = .ok (.goto off, 3)) : kt_sa own nm cc maxL ret fn ln pc (s_goto t) := by
  intro p l e R s m args below meth c dC dI dA tS B n0 ns0 Q hc hr hlk hnm hfr hln L S σ r h
  obtain ⟨hx, hb, hml, hown, hts, hot, hcap, hB⟩ := hc
  unfold s_goto at h
  cases h
  exact kt_pu (fun H locs cells slots ls k => lv_goto hx hb hd ht k)
theorem d_feq {own nm : String} {cc : ByteArray} {maxL : Nat} {ret : Option FieldType} {fn ln pc : Nat} {off : Int} {t : Nat} (ht : (pc : Int) + off = (t : Int)) (hd : decode cc pc = .ok (.ifCond .eq off, 3)) : kt_sa own nm cc maxL ret fn ln pc (s_feq t (pc + 3)) := by
  intro p l e R s m args below meth c dC dI dA tS B n0 ns0 Q hc hr hlk hnm hfr hln L S σ r h
  obtain ⟨hx, hb, hml, hown, hts, hot, hcap, hB⟩ := hc
  unfold s_feq at h
  split at h
  · rename_i x SS
    cases h
    by_cases hz : x = 0
    · rw [if_pos hz]
      exact kt_pu (fun H locs cells slots ls k => lv_if_eq hx hb hd ht (fun _ => k) (fun h' => absurd hz h'))
    · rw [if_neg hz]
      exact kt_pu (fun H locs cells slots ls k => lv_if_eq hx hb hd ht (fun h' => absurd h' hz) (fun _ => k))
  · cases h
theorem d_flt {own nm : String} {cc : ByteArray} {maxL : Nat} {ret : Option FieldType} {fn ln pc : Nat} {off : Int} {t : Nat} (ht : (pc : Int) + off = (t : Int)) (hd : decode cc pc = .ok (.ifCond .lt off, 3)) : kt_sa own nm cc maxL ret fn ln pc (s_flt t (pc + 3)) := by
  intro p l e R s m args below meth c dC dI dA tS B n0 ns0 Q hc hr hlk hnm hfr hln L S σ r h
  obtain ⟨hx, hb, hml, hown, hts, hot, hcap, hB⟩ := hc
  unfold s_flt at h
  split at h
  · rename_i x SS
    cases h
    by_cases hz : x < 0
    · rw [if_pos hz]
      exact kt_pu (fun H locs cells slots ls k => lv_if_lt hx hb hd ht (fun _ => k) (fun h' => absurd hz h'))
    · rw [if_neg hz]
      exact kt_pu (fun H locs cells slots ls k => lv_if_lt hx hb hd ht (fun h' => absurd h' hz) (fun _ => k))
  · cases h
theorem d_fge {own nm : String} {cc : ByteArray} {maxL : Nat} {ret : Option FieldType} {fn ln pc : Nat} {off : Int} {t : Nat} (ht : (pc : Int) + off = (t : Int)) (hd : decode cc pc = .ok (.ifCond .ge off, 3)) : kt_sa own nm cc maxL ret fn ln pc (s_fge t (pc + 3)) := by
  intro p l e R s m args below meth c dC dI dA tS B n0 ns0 Q hc hr hlk hnm hfr hln L S σ r h
  obtain ⟨hx, hb, hml, hown, hts, hot, hcap, hB⟩ := hc
  unfold s_fge at h
  split at h
  · rename_i x SS
    cases h
    by_cases hz : 0 ≤ x
    · rw [if_pos hz]
      exact kt_pu (fun H locs cells slots ls k => lv_if_ge hx hb hd ht (fun _ => k) (fun h' => absurd hz h'))
    · rw [if_neg hz]
      exact kt_pu (fun H locs cells slots ls k => lv_if_ge hx hb hd ht (fun h' => absurd h' hz) (fun _ => k))
  · cases h
theorem d_fgt {own nm : String} {cc : ByteArray} {maxL : Nat} {ret : Option FieldType} {fn ln pc : Nat} {off : Int} {t : Nat} (ht : (pc : Int) + off = (t : Int)) (hd : decode cc pc = .ok (.ifCond .gt off, 3)) : kt_sa own nm cc maxL ret fn ln pc (s_fgt t (pc + 3)) := by
  intro p l e R s m args below meth c dC dI dA tS B n0 ns0 Q hc hr hlk hnm hfr hln L S σ r h
  obtain ⟨hx, hb, hml, hown, hts, hot, hcap, hB⟩ := hc
  unfold s_fgt at h
  split at h
  · rename_i x SS
    cases h
    by_cases hz : 0 < x
    · rw [if_pos hz]
      exact kt_pu (fun H locs cells slots ls k => lv_if_gt hx hb hd ht (fun _ => k) (fun h' => absurd hz h'))
    · rw [if_neg hz]
      exact kt_pu (fun H locs cells slots ls k => lv_if_gt hx hb hd ht (fun h' => absurd h' hz) (fun _ => k))
  · cases h
theorem d_fle {own nm : String} {cc : ByteArray} {maxL : Nat} {ret : Option FieldType} {fn ln pc : Nat} {off : Int} {t : Nat} (ht : (pc : Int) + off = (t : Int)) (hd : decode cc pc = .ok (.ifCond .le off, 3)) : kt_sa own nm cc maxL ret fn ln pc (s_fle t (pc + 3)) := by
  intro p l e R s m args below meth c dC dI dA tS B n0 ns0 Q hc hr hlk hnm hfr hln L S σ r h
  obtain ⟨hx, hb, hml, hown, hts, hot, hcap, hB⟩ := hc
  unfold s_fle at h
  split at h
  · rename_i x SS
    cases h
    by_cases hz : x ≤ 0
    · rw [if_pos hz]
      exact kt_pu (fun H locs cells slots ls k => lv_if_le hx hb hd ht (fun _ => k) (fun h' => absurd hz h'))
    · rw [if_neg hz]
      exact kt_pu (fun H locs cells slots ls k => lv_if_le hx hb hd ht (fun h' => absurd h' hz) (fun _ => k))
  · cases h
theorem d_fne {own nm : String} {cc : ByteArray} {maxL : Nat} {ret : Option FieldType} {fn ln pc : Nat} {off : Int} {t : Nat} (ht : (pc : Int) + off = (t : Int)) (hd : decode cc pc = .ok (.ifCond .ne off, 3)) : kt_sa own nm cc maxL ret fn ln pc (s_fne t (pc + 3)) := by
  intro p l e R s m args below meth c dC dI dA tS B n0 ns0 Q hc hr hlk hnm hfr hln L S σ r h
  obtain ⟨hx, hb, hml, hown, hts, hot, hcap, hB⟩ := hc
  unfold s_fne at h
  split at h
  · rename_i x SS
    cases h
    by_cases hz : x = 0
    · rw [if_pos hz]
      exact kt_pu (fun H locs cells slots ls k => lv_if_ne hx hb hd ht (fun h' => absurd hz h') (fun _ => k))
    · rw [if_neg hz]
      exact kt_pu (fun H locs cells slots ls k => lv_if_ne hx hb hd ht (fun _ => k) (fun h' => absurd h' hz))
  · cases h
theorem d_ceq {own nm : String} {cc : ByteArray} {maxL : Nat} {ret : Option FieldType} {fn ln pc : Nat} {off : Int} {t : Nat} (ht : (pc : Int) + off = (t : Int)) (hd : decode cc pc = .ok (.if_icmp .eq off, 3)) : kt_sa own nm cc maxL ret fn ln pc (s_ceq t (pc + 3)) := by
  intro p l e R s m args below meth c dC dI dA tS B n0 ns0 Q hc hr hlk hnm hfr hln L S σ r h
  obtain ⟨hx, hb, hml, hown, hts, hot, hcap, hB⟩ := hc
  unfold s_ceq at h
  split at h
  · rename_i y x SS
    cases h
    by_cases hz : x = y
    · rw [if_pos hz]
      exact kt_pu (fun H locs cells slots ls k => lv_icmp_eq hx hb hd ht (fun _ => k) (fun h' => absurd hz h'))
    · rw [if_neg hz]
      exact kt_pu (fun H locs cells slots ls k => lv_icmp_eq hx hb hd ht (fun h' => absurd h' hz) (fun _ => k))
  · cases h
theorem d_clt {own nm : String} {cc : ByteArray} {maxL : Nat} {ret : Option FieldType} {fn ln pc : Nat} {off : Int} {t : Nat} (ht : (pc : Int) + off = (t : Int)) (hd : decode cc pc = .ok (.if_icmp .lt off, 3)) : kt_sa own nm cc maxL ret fn ln pc (s_clt t (pc + 3)) := by
  intro p l e R s m args below meth c dC dI dA tS B n0 ns0 Q hc hr hlk hnm hfr hln L S σ r h
  obtain ⟨hx, hb, hml, hown, hts, hot, hcap, hB⟩ := hc
  unfold s_clt at h
  split at h
  · rename_i y x SS
    cases h
    by_cases hz : x < y
    · rw [if_pos hz]
      exact kt_pu (fun H locs cells slots ls k => lv_icmp_lt hx hb hd ht (fun _ => k) (fun h' => absurd hz h'))
    · rw [if_neg hz]
      exact kt_pu (fun H locs cells slots ls k => lv_icmp_lt hx hb hd ht (fun h' => absurd h' hz) (fun _ => k))
  · cases h
theorem d_cge {own nm : String} {cc : ByteArray} {maxL : Nat} {ret : Option FieldType} {fn ln pc : Nat} {off : Int} {t : Nat} (ht : (pc : Int) + off = (t : Int)) (hd : decode cc pc = .ok (.if_icmp .ge off, 3)) : kt_sa own nm cc maxL ret fn ln pc (s_cge t (pc + 3)) := by
  intro p l e R s m args below meth c dC dI dA tS B n0 ns0 Q hc hr hlk hnm hfr hln L S σ r h
  obtain ⟨hx, hb, hml, hown, hts, hot, hcap, hB⟩ := hc
  unfold s_cge at h
  split at h
  · rename_i y x SS
    cases h
    by_cases hz : y ≤ x
    · rw [if_pos hz]
      exact kt_pu (fun H locs cells slots ls k => lv_icmp_ge hx hb hd ht (fun _ => k) (fun h' => absurd hz h'))
    · rw [if_neg hz]
      exact kt_pu (fun H locs cells slots ls k => lv_icmp_ge hx hb hd ht (fun h' => absurd h' hz) (fun _ => k))
  · cases h
theorem d_cgt {own nm : String} {cc : ByteArray} {maxL : Nat} {ret : Option FieldType} {fn ln pc : Nat} {off : Int} {t : Nat} (ht : (pc : Int) + off = (t : Int)) (hd : decode cc pc = .ok (.if_icmp .gt off, 3)) : kt_sa own nm cc maxL ret fn ln pc (s_cgt t (pc + 3)) := by
  intro p l e R s m args below meth c dC dI dA tS B n0 ns0 Q hc hr hlk hnm hfr hln L S σ r h
  obtain ⟨hx, hb, hml, hown, hts, hot, hcap, hB⟩ := hc
  unfold s_cgt at h
  split at h
  · rename_i y x SS
    cases h
    by_cases hz : y < x
    · rw [if_pos hz]
      exact kt_pu (fun H locs cells slots ls k => lv_icmp_gt hx hb hd ht (fun _ => k) (fun h' => absurd hz h'))
    · rw [if_neg hz]
      exact kt_pu (fun H locs cells slots ls k => lv_icmp_gt hx hb hd ht (fun h' => absurd h' hz) (fun _ => k))
  · cases h
theorem d_cle {own nm : String} {cc : ByteArray} {maxL : Nat} {ret : Option FieldType} {fn ln pc : Nat} {off : Int} {t : Nat} (ht : (pc : Int) + off = (t : Int)) (hd : decode cc pc = .ok (.if_icmp .le off, 3)) : kt_sa own nm cc maxL ret fn ln pc (s_cle t (pc + 3)) := by
  intro p l e R s m args below meth c dC dI dA tS B n0 ns0 Q hc hr hlk hnm hfr hln L S σ r h
  obtain ⟨hx, hb, hml, hown, hts, hot, hcap, hB⟩ := hc
  unfold s_cle at h
  split at h
  · rename_i y x SS
    cases h
    by_cases hz : x ≤ y
    · rw [if_pos hz]
      exact kt_pu (fun H locs cells slots ls k => lv_icmp_le hx hb hd ht (fun _ => k) (fun h' => absurd hz h'))
    · rw [if_neg hz]
      exact kt_pu (fun H locs cells slots ls k => lv_icmp_le hx hb hd ht (fun h' => absurd h' hz) (fun _ => k))
  · cases h
theorem d_cne {own nm : String} {cc : ByteArray} {maxL : Nat} {ret : Option FieldType} {fn ln pc : Nat} {off : Int} {t : Nat} (ht : (pc : Int) + off = (t : Int)) (hd : decode cc pc = .ok (.if_icmp .ne off, 3)) : kt_sa own nm cc maxL ret fn ln pc (s_cne t (pc + 3)) := by
  intro p l e R s m args below meth c dC dI dA tS B n0 ns0 Q hc hr hlk hnm hfr hln L S σ r h
  obtain ⟨hx, hb, hml, hown, hts, hot, hcap, hB⟩ := hc
  unfold s_cne at h
  split at h
  · rename_i y x SS
    cases h
    by_cases hz : x = y
    · rw [if_pos hz]
      exact kt_pu (fun H locs cells slots ls k => lv_icmp_ne hx hb hd ht (fun h' => absurd hz h') (fun _ => k))
    · rw [if_neg hz]
      exact kt_pu (fun H locs cells slots ls k => lv_icmp_ne hx hb hd ht (fun _ => k) (fun h' => absurd h' hz))
  · cases h
theorem d_fnul {own nm : String} {cc : ByteArray} {maxL : Nat} {ret : Option FieldType} {fn ln pc : Nat} {off : Int} {t : Nat} (ht : (pc : Int) + off = (t : Int)) (hd : decode cc pc = .ok (.ifnull off, 3)) : kt_sa own nm cc maxL ret fn ln pc (s_fnul t (pc + 3)) := by
  intro p l e R s m args below meth c dC dI dA tS B n0 ns0 Q hc hr hlk hnm hfr hln L S σ r h
  obtain ⟨hx, hb, hml, hown, hts, hot, hcap, hB⟩ := hc
  unfold s_fnul at h
  split at h
  · cases h
    exact kt_pu (fun H locs cells slots ls k => lv_ifnullN hx hb hd ht k)
  · cases h
    exact kt_pu (fun H locs cells slots ls k => lv_ifnull hx hb hd k)
  · cases h
theorem d_fnn {own nm : String} {cc : ByteArray} {maxL : Nat} {ret : Option FieldType} {fn ln pc : Nat} {off : Int} {t : Nat} (ht : (pc : Int) + off = (t : Int)) (hd : decode cc pc = .ok (.ifnonnull off, 3)) : kt_sa own nm cc maxL ret fn ln pc (s_fnn t (pc + 3)) := by
  intro p l e R s m args below meth c dC dI dA tS B n0 ns0 Q hc hr hlk hnm hfr hln L S σ r h
  obtain ⟨hx, hb, hml, hown, hts, hot, hcap, hB⟩ := hc
  unfold s_fnn at h
  split at h
  · cases h
    exact kt_pu (fun H locs cells slots ls k => lv_ifnonnullN hx hb hd k)
  · cases h
    exact kt_pu (fun H locs cells slots ls k => lv_ifnonnull hx hb hd ht k)
  · cases h
theorem d_tsw {own nm : String} {cc : ByteArray} {maxL : Nat} {ret : Option FieldType} {fn ln pc : Nat} {dflt lo hi : Int} {offs : Array Int} {len d : Nat} {ts : List Nat} (ht : (pc : Int) + dflt = (d : Int)) (hs : offs.toList.map (fun o => (pc : Int) + o) = ts.map (fun t : Nat => (t : Int))) (hn : (ts.length : Int) = hi - lo + 1) (hd : decode cc pc = .ok (.tableswitch dflt lo hi offs, len)) : kt_sa own nm cc maxL ret fn ln pc (s_tsw lo hi ts d) := by
  intro p l e R s m args below meth c dC dI dA tS B n0 ns0 Q hc hr hlk hnm hfr hln L S σ r h
  obtain ⟨hx, hb, hml, hown, hts, hot, hcap, hB⟩ := hc
  unfold s_tsw at h
  split at h
  · rename_i x SS
    cases h
    unfold kt_sw
    by_cases hz : x.toInt < lo ∨ hi < x.toInt
    · simp only [hz, if_true]
      exact kt_pu (fun H locs cells slots ls k => lv_tableOut hx hb hd hz ht k)
    · simp only [hz, if_false]
      have h1 : ¬ x.toInt < lo := fun q => hz (Or.inl q)
      have h2 : ¬ hi < x.toInt := fun q => hz (Or.inr q)
      have hl : (x.toInt - lo).toNat < ts.length := by omega
      have h3 := congrArg (fun z => z[(x.toInt - lo).toNat]?) hs
      simp only [List.getElem?_map] at h3
      rw [List.getElem?_eq_getElem hl] at h3
      cases ho : offs.toList[(x.toInt - lo).toNat]? with
      | none => rw [ho] at h3; cases h3
      | some off =>
        rw [ho] at h3
        have h4 : (pc : Int) + off = (ts[(x.toInt - lo).toNat] : Int) := Option.some.inj h3
        have h5 : ts.getD (x.toInt - lo).toNat d = ts[(x.toInt - lo).toNat] := by simp [List.getD, List.getElem?_eq_getElem hl]
        rw [h5]
        exact kt_pu (fun H locs cells slots ls k => lv_tableIn hx hb hd h1 h2 (by rw [← Array.getElem?_toList]; exact ho) h4 k)
  · cases h
theorem d_ri {own nm : String} {cc : ByteArray} {maxL : Nat} {fn ln pc : Nat}  (hd : decode cc pc = .ok (.ireturn, 1)) : kt_sa own nm cc maxL (some .int) fn ln pc s_ri := by
  intro p l e R s m args below meth c dC dI dA tS B n0 ns0 Q hc hr hlk hnm hfr hln L S σ r h
  obtain ⟨hx, hb, hml, hown, hts, hot, hcap, hB⟩ := hc
  unfold s_ri at h
  split at h
  · cases h
    refine ⟨rfl, fun hQ H locs cells slots ls h1 h2 h3 h4 h5 h6 h7 h8 => ?_⟩
    subst hQ
    dsimp only at h1 h2 h3 h5 h6 ⊢
    rw [show σ.2.1 - n0 = cells by omega, show σ.2.2 - ns0 = slots by omega]
    exact W.iret hx hb hr (fun t ht hW => ⟨rfl, by rw [ht]; exact h1, by rw [ht]; exact h2, h3, h4.F ht⟩) h4.2.2 hd hlk
  · cases h
theorem d_rl {own nm : String} {cc : ByteArray} {maxL : Nat} {fn ln pc : Nat}  (hd : decode cc pc = .ok (.lreturn, 1)) : kt_sa own nm cc maxL (some .long) fn ln pc s_rl := by
  intro p l e R s m args below meth c dC dI dA tS B n0 ns0 Q hc hr hlk hnm hfr hln L S σ r h
  obtain ⟨hx, hb, hml, hown, hts, hot, hcap, hB⟩ := hc
  unfold s_rl at h
  split at h
  · cases h
    refine ⟨rfl, fun hQ H locs cells slots ls h1 h2 h3 h4 h5 h6 h7 h8 => ?_⟩
    subst hQ
    dsimp only at h1 h2 h3 h5 h6 ⊢
    rw [show σ.2.1 - n0 = cells by omega, show σ.2.2 - ns0 = slots by omega]
    exact W.lret hx hb hr (fun t ht hW => ⟨rfl, by rw [ht]; exact h1, by rw [ht]; exact h2, h3, h4.F ht⟩) h4.2.2 hd hlk
  · cases h
theorem d_rv {own nm : String} {cc : ByteArray} {maxL : Nat} {fn ln pc : Nat}  (hd : decode cc pc = .ok (.return_, 1)) : kt_sa own nm cc maxL none fn ln pc s_rv := by
  intro p l e R s m args below meth c dC dI dA tS B n0 ns0 Q hc hr hlk hnm hfr hln L S σ r h
  obtain ⟨hx, hb, hml, hown, hts, hot, hcap, hB⟩ := hc
  unfold s_rv at h
  split at h
  · cases h
    refine ⟨rfl, fun hQ H locs cells slots ls h1 h2 h3 h4 h5 h6 h7 h8 => ?_⟩
    subst hQ
    dsimp only at h1 h2 h3 h5 h6 ⊢
    rw [show σ.2.1 - n0 = cells by omega, show σ.2.2 - ns0 = slots by omega]
    exact W.vret hx hb hr (fun t ht hW => ⟨rfl, by rw [ht]; exact h1, by rw [ht]; exact h2, h3, h4.F ht⟩) h4.2.2 hd hlk
  · cases h
theorem d_ra {own nm : String} {cc : ByteArray} {maxL : Nat} {fn ln pc : Nat} {rt : FieldType} (hrt : (∃ n, rt = .object n) ∨ ∃ t, rt = .array t) (hd : decode cc pc = .ok (.areturn, 1)) : kt_sa own nm cc maxL (some rt) fn ln pc s_ra := by
  intro p l e R s m args below meth c dC dI dA tS B n0 ns0 Q hc hr hlk hnm hfr hln L S σ r h
  obtain ⟨hx, hb, hml, hown, hts, hot, hcap, hB⟩ := hc
  unfold s_ra at h
  split at h
  · cases h
    refine ⟨rfl, fun hQ H locs cells slots ls h1 h2 h3 h4 h5 h6 h7 h8 => ?_⟩
    subst hQ
    dsimp only at h1 h2 h3 h5 h6 ⊢
    rw [show σ.2.1 - n0 = cells by omega, show σ.2.2 - ns0 = slots by omega]
    exact W.aret hx hb hr hrt (Or.inr ⟨_, rfl⟩) (fun t ht hW => ⟨rfl, by rw [ht]; exact h1, by rw [ht]; exact h2, h3, h4.F ht⟩) h4.2.2 hd hlk
  · cases h
    refine ⟨rfl, fun hQ H locs cells slots ls h1 h2 h3 h4 h5 h6 h7 h8 => ?_⟩
    subst hQ
    dsimp only at h1 h2 h3 h5 h6 ⊢
    rw [show σ.2.1 - n0 = cells by omega, show σ.2.2 - ns0 = slots by omega]
    exact W.aret hx hb hr hrt (Or.inl rfl) (fun t ht hW => ⟨rfl, by rw [ht]; exact h1, by rw [ht]; exact h2, h3, h4.F ht⟩) h4.2.2 hd hlk
  · cases h
theorem d_rz {own nm : String} {cc : ByteArray} {maxL : Nat} {fn ln pc : Nat}  (hd : decode cc pc = .ok (.ireturn, 1)) : kt_sa own nm cc maxL (some .boolean) fn ln pc s_rz := by
  intro p l e R s m args below meth c dC dI dA tS B n0 ns0 Q hc hr hlk hnm hfr hln L S σ r h
  obtain ⟨hx, hb, hml, hown, hts, hot, hcap, hB⟩ := hc
  unfold s_rz at h
  split at h
  · split at h
    · rename_i v hz
      cases h
      refine ⟨rfl, fun hQ H locs cells slots ls h1 h2 h3 h4 h5 h6 h7 h8 => ?_⟩
      subst hQ
      dsimp only at h1 h2 h3 h5 h6 ⊢
      rw [show σ.2.1 - n0 = cells by omega, show σ.2.2 - ns0 = slots by omega]
      exact W.zret hx hb hr (by rcases hz with rfl | rfl <;> rfl) (fun t ht hW => ⟨rfl, by rw [ht]; exact h1, by rw [ht]; exact h2, h3, h4.F ht⟩) h4.2.2 hd hlk
    · cases h
  · cases h
