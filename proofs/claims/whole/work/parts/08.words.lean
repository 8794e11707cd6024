theorem code_T_init : Cond.code yT_init bT_init 3 none ∈ uW := uW_in (List.mem_of_getElem? (i := 53) rfl) rfl
theorem code_T_create : Cond.code yT_create bT_create 4 (some .int) ∈ uW := uW_in (List.mem_of_getElem? (i := 137) rfl) rfl
theorem code_T_write : Cond.code yT_write bT_write 4 (some .int) ∈ uW := uW_in (List.mem_of_getElem? (i := 172) rfl) rfl
theorem code_T_read : Cond.code yT_read bT_read 3 (some .long) ∈ uW := uW_in (List.mem_of_getElem? (i := 199) rfl) rfl
theorem code_T_remove : Cond.code yT_remove bT_remove 2 (some .int) ∈ uW := uW_in (List.mem_of_getElem? (i := 206) rfl) rfl
theorem code_T_backUp : Cond.code yT_backUp bT_backUp 3 (some .int) ∈ uW := uW_in (List.mem_of_getElem? (i := 210) rfl) rfl
theorem code_T_tidy : Cond.code yT_tidy bT_tidy 4 (some .int) ∈ uW := uW_in (List.mem_of_getElem? (i := 231) rfl) rfl
theorem code_T_ask : Cond.code yT_ask bT_ask 2 (some .int) ∈ uW := uW_in (List.mem_of_getElem? (i := 238) rfl) rfl
theorem code_T_serve : Cond.code yT_serve bT_serve 3 (some .int) ∈ uW := uW_in (List.mem_of_getElem? (i := 246) rfl) rfl
theorem code_T_empty : Cond.code yT_empty bT_empty 3 (some .int) ∈ uW := uW_in (List.mem_of_getElem? (i := 274) rfl) rfl
theorem code_T_lose : Cond.code yT_lose bT_lose 4 (some .int) ∈ uW := uW_in (List.mem_of_getElem? (i := 300) rfl) rfl
theorem code_T_file : Cond.code yT_file bT_file 4 (some .int) ∈ uW := uW_in (List.mem_of_getElem? (i := 308) rfl) rfl
theorem code_T_cartridge : Cond.code yT_cartridge bT_cartridge 3 (some .int) ∈ uW := uW_in (List.mem_of_getElem? (i := 316) rfl) rfl
theorem code_T_count : Cond.code yT_count bT_count 2 (some .int) ∈ uW := uW_in (List.mem_of_getElem? (i := 324) rfl) rfl
theorem code_T_isFileNumber : Cond.code yT_isFileNumber bT_isFileNumber 1 (some .boolean) ∈ uW := uW_in (List.mem_of_getElem? (i := 140) rfl) rfl
theorem code_T_isCartridgeNumber : Cond.code yT_isCartridgeNumber bT_isCartridgeNumber 1 (some .boolean) ∈ uW := uW_in (List.mem_of_getElem? (i := 277) rfl) rfl
theorem code_T_isUnits : Cond.code yT_isUnits bT_isUnits 1 (some .boolean) ∈ uW := uW_in (List.mem_of_getElem? (i := 234) rfl) rfl
theorem code_T_isPresent : Cond.code yT_isPresent bT_isPresent 2 (some .boolean) ∈ uW := uW_in (List.mem_of_getElem? (i := 180) rfl) rfl
theorem code_T_isCell : Cond.code yT_isCell bT_isCell 3 (some .boolean) ∈ uW := uW_in (List.mem_of_getElem? (i := 176) rfl) rfl
theorem code_T_isOnDisk : Cond.code yT_isOnDisk bT_isOnDisk 2 (some .boolean) ∈ uW := uW_in (List.mem_of_getElem? (i := 156) rfl) rfl
theorem code_T_hasCopy : Cond.code yT_hasCopy bT_hasCopy 2 (some .boolean) ∈ uW := uW_in (List.mem_of_getElem? (i := 266) rfl) rfl
theorem code_T_hasCopyOn : Cond.code yT_hasCopyOn bT_hasCopyOn 3 (some .boolean) ∈ uW := uW_in (List.mem_of_getElem? (i := 262) rfl) rfl
theorem code_T_use : Cond.code yT_use bT_use 2 none ∈ uW := uW_in (List.mem_of_getElem? (i := 168) rfl) rfl
theorem code_T_usedSince : Cond.code yT_usedSince bT_usedSince 4 (some .int) ∈ uW := uW_in (List.mem_of_getElem? (i := 312) rfl) rfl
theorem code_T_longestUnused : Cond.code yT_longestUnused bT_longestUnused 4 (some .int) ∈ uW := uW_in (List.mem_of_getElem? (i := 164) rfl) rfl
theorem code_T_unitsTaken : Cond.code yT_unitsTaken bT_unitsTaken 3 (some .int) ∈ uW := uW_in (List.mem_of_getElem? (i := 152) rfl) rfl
theorem code_T_liveUnits : Cond.code yT_liveUnits bT_liveUnits 4 (some .int) ∈ uW := uW_in (List.mem_of_getElem? (i := 320) rfl) rfl
theorem code_T_filesWaiting : Cond.code yT_filesWaiting bT_filesWaiting 3 (some .int) ∈ uW := uW_in (List.mem_of_getElem? (i := 242) rfl) rfl
theorem code_T_stubOldestDouble : Cond.code yT_stubOldestDouble bT_stubOldestDouble 2 (some .boolean) ∈ uW := uW_in (List.mem_of_getElem? (i := 160) rfl) rfl
theorem code_T_hasRoom : Cond.code yT_hasRoom bT_hasRoom 2 (some .boolean) ∈ uW := uW_in (List.mem_of_getElem? (i := 148) rfl) rfl
theorem code_T_makeRoom : Cond.code yT_makeRoom bT_makeRoom 3 (some .boolean) ∈ uW := uW_in (List.mem_of_getElem? (i := 144) rfl) rfl
theorem code_T_bringToDisk : Cond.code yT_bringToDisk bT_bringToDisk 2 (some .boolean) ∈ uW := uW_in (List.mem_of_getElem? (i := 184) rfl) rfl
theorem code_T_putCopy : Cond.code yT_putCopy bT_putCopy 3 none ∈ uW := uW_in (List.mem_of_getElem? (i := 222) rfl) rfl
theorem code_T_moveCopy : Cond.code yT_moveCopy bT_moveCopy 4 none ∈ uW := uW_in (List.mem_of_getElem? (i := 296) rfl) rfl
theorem code_T_listedFitBeside : Cond.code yT_listedFitBeside bT_listedFitBeside 3 (some .boolean) ∈ uW := uW_in (List.mem_of_getElem? (i := 281) rfl) rfl
theorem code_T_listWaitingStubs : Cond.code yT_listWaitingStubs bT_listWaitingStubs 3 none ∈ uW := uW_in (List.mem_of_getElem? (i := 250) rfl) rfl
theorem code_T_listCopiesOn : Cond.code yT_listCopiesOn bT_listCopiesOn 4 none ∈ uW := uW_in (List.mem_of_getElem? (i := 254) rfl) rfl
theorem code_T_fileWithCopyAt : Cond.code yT_fileWithCopyAt bT_fileWithCopyAt 4 (some .int) ∈ uW := uW_in (List.mem_of_getElem? (i := 258) rfl) rfl
theorem code_T_keepWaitingStubs : Cond.code yT_keepWaitingStubs bT_keepWaitingStubs 4 none ∈ uW := uW_in (List.mem_of_getElem? (i := 270) rfl) rfl
theorem code_P_init : Cond.code yP_init bP_init 2 none ∈ uW := uW_in (List.mem_of_getElem? (i := 69) rfl) rfl
theorem code_P_goTo : Cond.code yP_goTo bP_goTo 3 none ∈ uW := uW_in (List.mem_of_getElem? (i := 192) rfl) rfl
theorem code_P_pass : Cond.code yP_pass bP_pass 4 none ∈ uW := uW_in (List.mem_of_getElem? (i := 188) rfl) rfl
theorem code_P_append : Cond.code yP_append bP_append 4 (some .int) ∈ uW := uW_in (List.mem_of_getElem? (i := 226) rfl) rfl
theorem code_P_cartridgeFor : Cond.code yP_cartridgeFor bP_cartridgeFor 3 (some .int) ∈ uW := uW_in (List.mem_of_getElem? (i := 214) rfl) rfl
theorem code_P_firstFitting : Cond.code yP_firstFitting bP_firstFitting 5 (some .int) ∈ uW := uW_in (List.mem_of_getElem? (i := 218) rfl) rfl
theorem code_P_startTrial : Cond.code yP_startTrial bP_startTrial 1 none ∈ uW := uW_in (List.mem_of_getElem? (i := 285) rfl) rfl
theorem code_P_tryBeside : Cond.code yP_tryBeside bP_tryBeside 4 (some .boolean) ∈ uW := uW_in (List.mem_of_getElem? (i := 292) rfl) rfl
theorem code_P_replace : Cond.code yP_replace bP_replace 2 none ∈ uW := uW_in (List.mem_of_getElem? (i := 304) rfl) rfl
theorem code_M_init : Cond.code yM_init bM_init 3 none ∈ uW := uW_in (List.mem_of_getElem? (i := 332) rfl) rfl
theorem code_M_in : Cond.code yM_in bM_in 2 (some .boolean) ∈ uW := uW_in (List.mem_of_getElem? (i := 389) rfl) rfl
theorem code_M_there : Cond.code yM_there bM_there 2 (some .boolean) ∈ uW := uW_in (List.mem_of_getElem? (i := 413) rfl) rfl
theorem code_M_taken : Cond.code yM_taken bM_taken 3 (some .int) ∈ uW := uW_in (List.mem_of_getElem? (i := 397) rfl) rfl
theorem code_M_use : Cond.code yM_use bM_use 2 none ∈ uW := uW_in (List.mem_of_getElem? (i := 405) rfl) rfl
theorem code_M_oldest : Cond.code yM_oldest bM_oldest 4 (some .int) ∈ uW := uW_in (List.mem_of_getElem? (i := 401) rfl) rfl
theorem code_M_makeRoom : Cond.code yM_makeRoom bM_makeRoom 4 (some .boolean) ∈ uW := uW_in (List.mem_of_getElem? (i := 393) rfl) rfl
theorem code_M_move : Cond.code yM_move bM_move 4 none ∈ uW := uW_in (List.mem_of_getElem? (i := 421) rfl) rfl
theorem code_M_bringBack : Cond.code yM_bringBack bM_bringBack 2 (some .boolean) ∈ uW := uW_in (List.mem_of_getElem? (i := 417) rfl) rfl
theorem code_M_copy : Cond.code yM_copy bM_copy 5 (some .boolean) ∈ uW := uW_in (List.mem_of_getElem? (i := 440) rfl) rfl
theorem code_M_create : Cond.code yM_create bM_create 4 (some .int) ∈ uW := uW_in (List.mem_of_getElem? (i := 386) rfl) rfl
theorem code_M_write : Cond.code yM_write bM_write 4 (some .int) ∈ uW := uW_in (List.mem_of_getElem? (i := 409) rfl) rfl
theorem code_M_read : Cond.code yM_read bM_read 3 (some .long) ∈ uW := uW_in (List.mem_of_getElem? (i := 425) rfl) rfl
theorem code_M_remove : Cond.code yM_remove bM_remove 2 (some .int) ∈ uW := uW_in (List.mem_of_getElem? (i := 432) rfl) rfl
theorem code_M_backUp : Cond.code yM_backUp bM_backUp 2 (some .int) ∈ uW := uW_in (List.mem_of_getElem? (i := 436) rfl) rfl
theorem code_M_tidy : Cond.code yM_tidy bM_tidy 7 (some .int) ∈ uW := uW_in (List.mem_of_getElem? (i := 444) rfl) rfl
theorem code_M_waiting : Cond.code yM_waiting bM_waiting 3 (some .int) ∈ uW := uW_in (List.mem_of_getElem? (i := 452) rfl) rfl
theorem code_M_ask : Cond.code yM_ask bM_ask 2 (some .int) ∈ uW := uW_in (List.mem_of_getElem? (i := 448) rfl) rfl
theorem code_M_rank : Cond.code yM_rank bM_rank 2 (some .int) ∈ uW := uW_in (List.mem_of_getElem? (i := 460) rfl) rfl
theorem code_M_serve : Cond.code yM_serve bM_serve 5 (some .int) ∈ uW := uW_in (List.mem_of_getElem? (i := 456) rfl) rfl
theorem code_M_copied : Cond.code yM_copied bM_copied 2 (some .boolean) ∈ uW := uW_in (List.mem_of_getElem? (i := 476) rfl) rfl
theorem code_M_next : Cond.code yM_next bM_next 6 (some .int) ∈ uW := uW_in (List.mem_of_getElem? (i := 472) rfl) rfl
theorem code_M_canEmpty : Cond.code yM_canEmpty bM_canEmpty 6 (some .boolean) ∈ uW := uW_in (List.mem_of_getElem? (i := 468) rfl) rfl
theorem code_M_empty : Cond.code yM_empty bM_empty 5 (some .int) ∈ uW := uW_in (List.mem_of_getElem? (i := 464) rfl) rfl
theorem code_M_lose : Cond.code yM_lose bM_lose 4 (some .int) ∈ uW := uW_in (List.mem_of_getElem? (i := 480) rfl) rfl
theorem code_M_file : Cond.code yM_file bM_file 5 (some .int) ∈ uW := uW_in (List.mem_of_getElem? (i := 484) rfl) rfl
theorem code_M_cartridge : Cond.code yM_cartridge bM_cartridge 5 (some .int) ∈ uW := uW_in (List.mem_of_getElem? (i := 488) rfl) rfl
theorem code_M_count : Cond.code yM_count bM_count 2 (some .int) ∈ uW := uW_in (List.mem_of_getElem? (i := 492) rfl) rfl
theorem code_L_cell : Cond.code yL_cell bL_cell 2 (some .int) ∈ uW := uW_in (List.mem_of_getElem? (i := 327) rfl) rfl
