section
-- ===== PART A: goes FIRST, ahead of the names: the tables' words, and 'selects' of the private methods out of them =====
/-- a private method of a class that the tables say can be made, by its rows of tables_1 -/
def lw_okq (q : MethodName × Nat) : Prop := (q.1.cls ≠ "java/lang/invoke/MethodHandle" ∧ q.1.cls ≠ "java/lang/invoke/VarHandle") ∧ Cond.instantiable q.1.cls q.2 ∈ tables_1 ∧ Cond.privateMethod q.1 ∈ tables_1 ∧ Cond.instanceMethod q.1 ∈ tables_1
theorem lw_p0 : lw_okq (⟨"TierStore", "makeRoom", "(I)Z"⟩, 12) := ⟨⟨by decide +kernel, by decide +kernel⟩, List.mem_of_getElem? (i := 7) (by decide +kernel), List.mem_of_getElem? (i := 99) (by decide +kernel), List.mem_of_getElem? (i := 100) (by decide +kernel)⟩
theorem lw_p1 : lw_okq (⟨"TierStore", "hasRoom", "(I)Z"⟩, 12) := ⟨⟨by decide +kernel, by decide +kernel⟩, List.mem_of_getElem? (i := 7) (by decide +kernel), List.mem_of_getElem? (i := 103) (by decide +kernel), List.mem_of_getElem? (i := 104) (by decide +kernel)⟩
theorem lw_p2 : lw_okq (⟨"TierStore", "unitsTaken", "()I"⟩, 12) := ⟨⟨by decide +kernel, by decide +kernel⟩, List.mem_of_getElem? (i := 7) (by decide +kernel), List.mem_of_getElem? (i := 107) (by decide +kernel), List.mem_of_getElem? (i := 108) (by decide +kernel)⟩
theorem lw_p3 : lw_okq (⟨"TierStore", "isOnDisk", "(I)Z"⟩, 12) := ⟨⟨by decide +kernel, by decide +kernel⟩, List.mem_of_getElem? (i := 7) (by decide +kernel), List.mem_of_getElem? (i := 111) (by decide +kernel), List.mem_of_getElem? (i := 112) (by decide +kernel)⟩
theorem lw_p4 : lw_okq (⟨"TierStore", "stubOldestDouble", "()Z"⟩, 12) := ⟨⟨by decide +kernel, by decide +kernel⟩, List.mem_of_getElem? (i := 7) (by decide +kernel), List.mem_of_getElem? (i := 115) (by decide +kernel), List.mem_of_getElem? (i := 116) (by decide +kernel)⟩
theorem lw_p5 : lw_okq (⟨"TierStore", "longestUnused", "(I)I"⟩, 12) := ⟨⟨by decide +kernel, by decide +kernel⟩, List.mem_of_getElem? (i := 7) (by decide +kernel), List.mem_of_getElem? (i := 119) (by decide +kernel), List.mem_of_getElem? (i := 120) (by decide +kernel)⟩
theorem lw_p6 : lw_okq (⟨"TierStore", "use", "(I)V"⟩, 12) := ⟨⟨by decide +kernel, by decide +kernel⟩, List.mem_of_getElem? (i := 7) (by decide +kernel), List.mem_of_getElem? (i := 123) (by decide +kernel), List.mem_of_getElem? (i := 124) (by decide +kernel)⟩
theorem lw_p7 : lw_okq (⟨"TierStore", "isCell", "(II)Z"⟩, 12) := ⟨⟨by decide +kernel, by decide +kernel⟩, List.mem_of_getElem? (i := 7) (by decide +kernel), List.mem_of_getElem? (i := 131) (by decide +kernel), List.mem_of_getElem? (i := 132) (by decide +kernel)⟩
theorem lw_p8 : lw_okq (⟨"TierStore", "isPresent", "(I)Z"⟩, 12) := ⟨⟨by decide +kernel, by decide +kernel⟩, List.mem_of_getElem? (i := 7) (by decide +kernel), List.mem_of_getElem? (i := 135) (by decide +kernel), List.mem_of_getElem? (i := 136) (by decide +kernel)⟩
theorem lw_p9 : lw_okq (⟨"TierStore", "bringToDisk", "(I)Z"⟩, 12) := ⟨⟨by decide +kernel, by decide +kernel⟩, List.mem_of_getElem? (i := 7) (by decide +kernel), List.mem_of_getElem? (i := 139) (by decide +kernel), List.mem_of_getElem? (i := 140) (by decide +kernel)⟩
theorem lw_p10 : lw_okq (⟨"TierStore$Tapes", "pass", "(III)V"⟩, 6) := ⟨⟨by decide +kernel, by decide +kernel⟩, List.mem_of_getElem? (i := 23) (by decide +kernel), List.mem_of_getElem? (i := 143) (by decide +kernel), List.mem_of_getElem? (i := 144) (by decide +kernel)⟩
theorem lw_p11 : lw_okq (⟨"TierStore$Tapes", "goTo", "(II)V"⟩, 6) := ⟨⟨by decide +kernel, by decide +kernel⟩, List.mem_of_getElem? (i := 23) (by decide +kernel), List.mem_of_getElem? (i := 147) (by decide +kernel), List.mem_of_getElem? (i := 148) (by decide +kernel)⟩
theorem lw_p12 : lw_okq (⟨"TierStore$Tapes", "cartridgeFor", "(II)I"⟩, 6) := ⟨⟨by decide +kernel, by decide +kernel⟩, List.mem_of_getElem? (i := 23) (by decide +kernel), List.mem_of_getElem? (i := 169) (by decide +kernel), List.mem_of_getElem? (i := 170) (by decide +kernel)⟩
theorem lw_p13 : lw_okq (⟨"TierStore$Tapes", "firstFitting", "([III)I"⟩, 6) := ⟨⟨by decide +kernel, by decide +kernel⟩, List.mem_of_getElem? (i := 23) (by decide +kernel), List.mem_of_getElem? (i := 173) (by decide +kernel), List.mem_of_getElem? (i := 174) (by decide +kernel)⟩
theorem lw_p14 : lw_okq (⟨"TierStore", "putCopy", "(II)V"⟩, 12) := ⟨⟨by decide +kernel, by decide +kernel⟩, List.mem_of_getElem? (i := 7) (by decide +kernel), List.mem_of_getElem? (i := 177) (by decide +kernel), List.mem_of_getElem? (i := 178) (by decide +kernel)⟩
theorem lw_p15 : lw_okq (⟨"TierStore$Tapes", "append", "(II)I"⟩, 6) := ⟨⟨by decide +kernel, by decide +kernel⟩, List.mem_of_getElem? (i := 23) (by decide +kernel), List.mem_of_getElem? (i := 181) (by decide +kernel), List.mem_of_getElem? (i := 182) (by decide +kernel)⟩
def lw_privs_1 : List (MethodName × Nat) := [(⟨"TierStore", "makeRoom", "(I)Z"⟩, 12), (⟨"TierStore", "hasRoom", "(I)Z"⟩, 12), (⟨"TierStore", "unitsTaken", "()I"⟩, 12), (⟨"TierStore", "isOnDisk", "(I)Z"⟩, 12), (⟨"TierStore", "stubOldestDouble", "()Z"⟩, 12), (⟨"TierStore", "longestUnused", "(I)I"⟩, 12), (⟨"TierStore", "use", "(I)V"⟩, 12), (⟨"TierStore", "isCell", "(II)Z"⟩, 12), (⟨"TierStore", "isPresent", "(I)Z"⟩, 12), (⟨"TierStore", "bringToDisk", "(I)Z"⟩, 12), (⟨"TierStore$Tapes", "pass", "(III)V"⟩, 6), (⟨"TierStore$Tapes", "goTo", "(II)V"⟩, 6), (⟨"TierStore$Tapes", "cartridgeFor", "(II)I"⟩, 6), (⟨"TierStore$Tapes", "firstFitting", "([III)I"⟩, 6), (⟨"TierStore", "putCopy", "(II)V"⟩, 12), (⟨"TierStore$Tapes", "append", "(II)I"⟩, 6)]
theorem lw_r1 : ∀ q ∈ lw_privs_1, lw_okq q := List.forall_mem_cons.mpr ⟨lw_p0, List.forall_mem_cons.mpr ⟨lw_p1, List.forall_mem_cons.mpr ⟨lw_p2, List.forall_mem_cons.mpr ⟨lw_p3, List.forall_mem_cons.mpr ⟨lw_p4, List.forall_mem_cons.mpr ⟨lw_p5, List.forall_mem_cons.mpr ⟨lw_p6, List.forall_mem_cons.mpr ⟨lw_p7, List.forall_mem_cons.mpr ⟨lw_p8, List.forall_mem_cons.mpr ⟨lw_p9, List.forall_mem_cons.mpr ⟨lw_p10, List.forall_mem_cons.mpr ⟨lw_p11, List.forall_mem_cons.mpr ⟨lw_p12, List.forall_mem_cons.mpr ⟨lw_p13, List.forall_mem_cons.mpr ⟨lw_p14, List.forall_mem_cons.mpr ⟨lw_p15, fun _ h => absurd h List.not_mem_nil⟩⟩⟩⟩⟩⟩⟩⟩⟩⟩⟩⟩⟩⟩⟩⟩
theorem lw_p16 : lw_okq (⟨"TierStore", "filesWaiting", "()I"⟩, 12) := ⟨⟨by decide +kernel, by decide +kernel⟩, List.mem_of_getElem? (i := 7) (by decide +kernel), List.mem_of_getElem? (i := 197) (by decide +kernel), List.mem_of_getElem? (i := 198) (by decide +kernel)⟩
theorem lw_p17 : lw_okq (⟨"TierStore", "listWaitingStubs", "()V"⟩, 12) := ⟨⟨by decide +kernel, by decide +kernel⟩, List.mem_of_getElem? (i := 7) (by decide +kernel), List.mem_of_getElem? (i := 205) (by decide +kernel), List.mem_of_getElem? (i := 206) (by decide +kernel)⟩
theorem lw_p18 : lw_okq (⟨"TierStore", "listCopiesOn", "(I)V"⟩, 12) := ⟨⟨by decide +kernel, by decide +kernel⟩, List.mem_of_getElem? (i := 7) (by decide +kernel), List.mem_of_getElem? (i := 209) (by decide +kernel), List.mem_of_getElem? (i := 210) (by decide +kernel)⟩
theorem lw_p19 : lw_okq (⟨"TierStore", "fileWithCopyAt", "(II)I"⟩, 12) := ⟨⟨by decide +kernel, by decide +kernel⟩, List.mem_of_getElem? (i := 7) (by decide +kernel), List.mem_of_getElem? (i := 213) (by decide +kernel), List.mem_of_getElem? (i := 214) (by decide +kernel)⟩
theorem lw_p20 : lw_okq (⟨"TierStore", "hasCopyOn", "(II)Z"⟩, 12) := ⟨⟨by decide +kernel, by decide +kernel⟩, List.mem_of_getElem? (i := 7) (by decide +kernel), List.mem_of_getElem? (i := 217) (by decide +kernel), List.mem_of_getElem? (i := 218) (by decide +kernel)⟩
theorem lw_p21 : lw_okq (⟨"TierStore", "hasCopy", "(I)Z"⟩, 12) := ⟨⟨by decide +kernel, by decide +kernel⟩, List.mem_of_getElem? (i := 7) (by decide +kernel), List.mem_of_getElem? (i := 221) (by decide +kernel), List.mem_of_getElem? (i := 222) (by decide +kernel)⟩
theorem lw_p22 : lw_okq (⟨"TierStore", "keepWaitingStubs", "()V"⟩, 12) := ⟨⟨by decide +kernel, by decide +kernel⟩, List.mem_of_getElem? (i := 7) (by decide +kernel), List.mem_of_getElem? (i := 225) (by decide +kernel), List.mem_of_getElem? (i := 226) (by decide +kernel)⟩
theorem lw_p23 : lw_okq (⟨"TierStore", "listedFitBeside", "(I)Z"⟩, 12) := ⟨⟨by decide +kernel, by decide +kernel⟩, List.mem_of_getElem? (i := 7) (by decide +kernel), List.mem_of_getElem? (i := 236) (by decide +kernel), List.mem_of_getElem? (i := 237) (by decide +kernel)⟩
theorem lw_p24 : lw_okq (⟨"TierStore$Tapes", "startTrial", "()V"⟩, 6) := ⟨⟨by decide +kernel, by decide +kernel⟩, List.mem_of_getElem? (i := 23) (by decide +kernel), List.mem_of_getElem? (i := 240) (by decide +kernel), List.mem_of_getElem? (i := 241) (by decide +kernel)⟩
theorem lw_p25 : lw_okq (⟨"TierStore$Tapes", "tryBeside", "(II)Z"⟩, 6) := ⟨⟨by decide +kernel, by decide +kernel⟩, List.mem_of_getElem? (i := 23) (by decide +kernel), List.mem_of_getElem? (i := 247) (by decide +kernel), List.mem_of_getElem? (i := 248) (by decide +kernel)⟩
theorem lw_p26 : lw_okq (⟨"TierStore", "moveCopy", "(II)V"⟩, 12) := ⟨⟨by decide +kernel, by decide +kernel⟩, List.mem_of_getElem? (i := 7) (by decide +kernel), List.mem_of_getElem? (i := 251) (by decide +kernel), List.mem_of_getElem? (i := 252) (by decide +kernel)⟩
theorem lw_p27 : lw_okq (⟨"TierStore$Tapes", "replace", "(I)V"⟩, 6) := ⟨⟨by decide +kernel, by decide +kernel⟩, List.mem_of_getElem? (i := 23) (by decide +kernel), List.mem_of_getElem? (i := 259) (by decide +kernel), List.mem_of_getElem? (i := 260) (by decide +kernel)⟩
theorem lw_p28 : lw_okq (⟨"TierStore", "usedSince", "(I)I"⟩, 12) := ⟨⟨by decide +kernel, by decide +kernel⟩, List.mem_of_getElem? (i := 7) (by decide +kernel), List.mem_of_getElem? (i := 267) (by decide +kernel), List.mem_of_getElem? (i := 268) (by decide +kernel)⟩
theorem lw_p29 : lw_okq (⟨"TierStore", "liveUnits", "(I)I"⟩, 12) := ⟨⟨by decide +kernel, by decide +kernel⟩, List.mem_of_getElem? (i := 7) (by decide +kernel), List.mem_of_getElem? (i := 275) (by decide +kernel), List.mem_of_getElem? (i := 276) (by decide +kernel)⟩
theorem lw_p30 : lw_okq (⟨"TierStoreModel", "makeRoom", "(I)Z"⟩, 16) := ⟨⟨by decide +kernel, by decide +kernel⟩, List.mem_of_getElem? (i := 286) (by decide +kernel), List.mem_of_getElem? (i := 348) (by decide +kernel), List.mem_of_getElem? (i := 349) (by decide +kernel)⟩
theorem lw_p31 : lw_okq (⟨"TierStoreModel", "taken", "()I"⟩, 16) := ⟨⟨by decide +kernel, by decide +kernel⟩, List.mem_of_getElem? (i := 286) (by decide +kernel), List.mem_of_getElem? (i := 352) (by decide +kernel), List.mem_of_getElem? (i := 353) (by decide +kernel)⟩
def lw_privs_2 : List (MethodName × Nat) := [(⟨"TierStore", "filesWaiting", "()I"⟩, 12), (⟨"TierStore", "listWaitingStubs", "()V"⟩, 12), (⟨"TierStore", "listCopiesOn", "(I)V"⟩, 12), (⟨"TierStore", "fileWithCopyAt", "(II)I"⟩, 12), (⟨"TierStore", "hasCopyOn", "(II)Z"⟩, 12), (⟨"TierStore", "hasCopy", "(I)Z"⟩, 12), (⟨"TierStore", "keepWaitingStubs", "()V"⟩, 12), (⟨"TierStore", "listedFitBeside", "(I)Z"⟩, 12), (⟨"TierStore$Tapes", "startTrial", "()V"⟩, 6), (⟨"TierStore$Tapes", "tryBeside", "(II)Z"⟩, 6), (⟨"TierStore", "moveCopy", "(II)V"⟩, 12), (⟨"TierStore$Tapes", "replace", "(I)V"⟩, 6), (⟨"TierStore", "usedSince", "(I)I"⟩, 12), (⟨"TierStore", "liveUnits", "(I)I"⟩, 12), (⟨"TierStoreModel", "makeRoom", "(I)Z"⟩, 16), (⟨"TierStoreModel", "taken", "()I"⟩, 16)]
theorem lw_r2 : ∀ q ∈ lw_privs_2, lw_okq q := List.forall_mem_cons.mpr ⟨lw_p16, List.forall_mem_cons.mpr ⟨lw_p17, List.forall_mem_cons.mpr ⟨lw_p18, List.forall_mem_cons.mpr ⟨lw_p19, List.forall_mem_cons.mpr ⟨lw_p20, List.forall_mem_cons.mpr ⟨lw_p21, List.forall_mem_cons.mpr ⟨lw_p22, List.forall_mem_cons.mpr ⟨lw_p23, List.forall_mem_cons.mpr ⟨lw_p24, List.forall_mem_cons.mpr ⟨lw_p25, List.forall_mem_cons.mpr ⟨lw_p26, List.forall_mem_cons.mpr ⟨lw_p27, List.forall_mem_cons.mpr ⟨lw_p28, List.forall_mem_cons.mpr ⟨lw_p29, List.forall_mem_cons.mpr ⟨lw_p30, List.forall_mem_cons.mpr ⟨lw_p31, fun _ h => absurd h List.not_mem_nil⟩⟩⟩⟩⟩⟩⟩⟩⟩⟩⟩⟩⟩⟩⟩⟩
theorem lw_p32 : lw_okq (⟨"TierStoreModel", "oldest", "(I)I"⟩, 16) := ⟨⟨by decide +kernel, by decide +kernel⟩, List.mem_of_getElem? (i := 286) (by decide +kernel), List.mem_of_getElem? (i := 356) (by decide +kernel), List.mem_of_getElem? (i := 357) (by decide +kernel)⟩
theorem lw_p33 : lw_okq (⟨"TierStoreModel", "use", "(I)V"⟩, 16) := ⟨⟨by decide +kernel, by decide +kernel⟩, List.mem_of_getElem? (i := 286) (by decide +kernel), List.mem_of_getElem? (i := 360) (by decide +kernel), List.mem_of_getElem? (i := 361) (by decide +kernel)⟩
theorem lw_p34 : lw_okq (⟨"TierStoreModel", "there", "(I)Z"⟩, 16) := ⟨⟨by decide +kernel, by decide +kernel⟩, List.mem_of_getElem? (i := 286) (by decide +kernel), List.mem_of_getElem? (i := 368) (by decide +kernel), List.mem_of_getElem? (i := 369) (by decide +kernel)⟩
theorem lw_p35 : lw_okq (⟨"TierStoreModel", "bringBack", "(I)Z"⟩, 16) := ⟨⟨by decide +kernel, by decide +kernel⟩, List.mem_of_getElem? (i := 286) (by decide +kernel), List.mem_of_getElem? (i := 372) (by decide +kernel), List.mem_of_getElem? (i := 373) (by decide +kernel)⟩
theorem lw_p36 : lw_okq (⟨"TierStoreModel", "move", "(III)V"⟩, 16) := ⟨⟨by decide +kernel, by decide +kernel⟩, List.mem_of_getElem? (i := 286) (by decide +kernel), List.mem_of_getElem? (i := 376) (by decide +kernel), List.mem_of_getElem? (i := 377) (by decide +kernel)⟩
theorem lw_p37 : lw_okq (⟨"TierStoreModel", "copy", "(II)Z"⟩, 16) := ⟨⟨by decide +kernel, by decide +kernel⟩, List.mem_of_getElem? (i := 286) (by decide +kernel), List.mem_of_getElem? (i := 395) (by decide +kernel), List.mem_of_getElem? (i := 396) (by decide +kernel)⟩
theorem lw_p38 : lw_okq (⟨"TierStoreModel", "waiting", "()I"⟩, 16) := ⟨⟨by decide +kernel, by decide +kernel⟩, List.mem_of_getElem? (i := 286) (by decide +kernel), List.mem_of_getElem? (i := 407) (by decide +kernel), List.mem_of_getElem? (i := 408) (by decide +kernel)⟩
theorem lw_p39 : lw_okq (⟨"TierStoreModel", "rank", "(I)I"⟩, 16) := ⟨⟨by decide +kernel, by decide +kernel⟩, List.mem_of_getElem? (i := 286) (by decide +kernel), List.mem_of_getElem? (i := 415) (by decide +kernel), List.mem_of_getElem? (i := 416) (by decide +kernel)⟩
theorem lw_p40 : lw_okq (⟨"TierStoreModel", "canEmpty", "(I)Z"⟩, 16) := ⟨⟨by decide +kernel, by decide +kernel⟩, List.mem_of_getElem? (i := 286) (by decide +kernel), List.mem_of_getElem? (i := 423) (by decide +kernel), List.mem_of_getElem? (i := 424) (by decide +kernel)⟩
theorem lw_p41 : lw_okq (⟨"TierStoreModel", "next", "(II)I"⟩, 16) := ⟨⟨by decide +kernel, by decide +kernel⟩, List.mem_of_getElem? (i := 286) (by decide +kernel), List.mem_of_getElem? (i := 427) (by decide +kernel), List.mem_of_getElem? (i := 428) (by decide +kernel)⟩
theorem lw_p42 : lw_okq (⟨"TierStoreModel", "copied", "(I)Z"⟩, 16) := ⟨⟨by decide +kernel, by decide +kernel⟩, List.mem_of_getElem? (i := 286) (by decide +kernel), List.mem_of_getElem? (i := 431) (by decide +kernel), List.mem_of_getElem? (i := 432) (by decide +kernel)⟩
def lw_privs_3 : List (MethodName × Nat) := [(⟨"TierStoreModel", "oldest", "(I)I"⟩, 16), (⟨"TierStoreModel", "use", "(I)V"⟩, 16), (⟨"TierStoreModel", "there", "(I)Z"⟩, 16), (⟨"TierStoreModel", "bringBack", "(I)Z"⟩, 16), (⟨"TierStoreModel", "move", "(III)V"⟩, 16), (⟨"TierStoreModel", "copy", "(II)Z"⟩, 16), (⟨"TierStoreModel", "waiting", "()I"⟩, 16), (⟨"TierStoreModel", "rank", "(I)I"⟩, 16), (⟨"TierStoreModel", "canEmpty", "(I)Z"⟩, 16), (⟨"TierStoreModel", "next", "(II)I"⟩, 16), (⟨"TierStoreModel", "copied", "(I)Z"⟩, 16)]
theorem lw_r3 : ∀ q ∈ lw_privs_3, lw_okq q := List.forall_mem_cons.mpr ⟨lw_p32, List.forall_mem_cons.mpr ⟨lw_p33, List.forall_mem_cons.mpr ⟨lw_p34, List.forall_mem_cons.mpr ⟨lw_p35, List.forall_mem_cons.mpr ⟨lw_p36, List.forall_mem_cons.mpr ⟨lw_p37, List.forall_mem_cons.mpr ⟨lw_p38, List.forall_mem_cons.mpr ⟨lw_p39, List.forall_mem_cons.mpr ⟨lw_p40, List.forall_mem_cons.mpr ⟨lw_p41, List.forall_mem_cons.mpr ⟨lw_p42, fun _ h => absurd h List.not_mem_nil⟩⟩⟩⟩⟩⟩⟩⟩⟩⟩⟩
def lw_privs : List (MethodName × Nat) := lw_privs_1 ++ (lw_privs_2 ++ (lw_privs_3))
def lw_tbl : List Cond := k2_sels lw_privs ++ tables_1
theorem lw_privs_ok : ∀ q ∈ lw_privs, lw_okq q := by
  show ∀ q ∈ lw_privs_1 ++ (lw_privs_2 ++ (lw_privs_3)), lw_okq q
  exact List.forall_mem_append.mpr ⟨lw_r1, List.forall_mem_append.mpr ⟨lw_r2, lw_r3⟩⟩
end
section
/-! ===== BEGIN new T[n][m]: the outer array a place, the inner ones among the pooled ===== -/
/-- f, but v at every address of l -/
def vr_up {α : Type} (f : Nat → α) (l : List Nat) (v : α) : Nat → α := fun a => if a ∈ l then v else f a
theorem vr_up_in {α : Type} {f : Nat → α} {l : List Nat} {v : α} {a : Nat} (h : a ∈ l) : vr_up f l v a = v := if_pos h
theorem vr_up_ne {α : Type} {f : Nat → α} {l : List Nat} {v : α} {a : Nat} (h : a ∉ l) : vr_up f l v a = f a := if_neg h
theorem vr_rows {L l : List Nat} {f : Nat → va_E} {e : va_E} (h : ∀ a, a ∈ l → a ∉ L) : va_pl L f ++ l.map (fun a => (a, e)) = va_pl (L ++ l) (vr_up f l e) := by
  unfold va_pl
  rw [List.map_append]
  congr 1
  · apply List.map_congr_left
    intro a ha
    rw [vr_up_ne (fun q => h a q ha)]
  · apply List.map_congr_left
    intro a ha
    rw [vr_up_in ha]
theorem vr_lay {X rows : va_W} {x : Nat × va_E} {pl : va_W} {D : va_G} {cl : List vw_C} {H : Heap} (hP : va_P D cl (((X ++ pl) ++ [x]) ++ rows) H) : va_P D cl ((X ++ [x]) ++ (pl ++ rows)) H := by
  rw [List.append_assoc (X ++ pl)] at hP
  have h := va_P.swap hP
  rw [← List.append_assoc X] at h
  have h2 := va_P.swap h
  rw [List.append_assoc (X ++ [x])] at h2
  exact h2
theorem vr_layD {X rows : va_W} {x : Nat × va_E} {pl : va_W} {A : Nat → Prop} (hD : va_D A (((X ++ pl) ++ [x]) ++ rows)) : va_D A ((X ++ [x]) ++ (pl ++ rows)) := by
  rw [List.append_assoc (X ++ pl)] at hD
  have h := va_D.swap hD
  rw [← List.append_assoc X] at h
  have h2 := va_D.swap h
  rw [List.append_assoc (X ++ [x])] at h2
  exact h2
theorem vr_outer (c : ClassId) (N h0 : Nat) : ∀ i : Nat, Jvm.Free.Multi.outerC c N h0 i = arrV c N (fun j => va_rf (if j < i then some (h0 + 1 + j) else none))
  | 0 => by
    show ({ cls := c, slots := Array.replicate N .null, vm := .none } : Cell) = _
    rw [arrV_new]
    refine congrArg (arrV c N) (funext fun j => ?_)
    simp [va_rf]
  | i + 1 => by
    show (Jvm.Free.Multi.outerC c N h0 i).setSlot i (.ref (h0 + 1 + i)) = _
    rw [vr_outer c N h0 i, arrV_store]
    refine congrArg (arrV c N) (funext fun j => ?_)
    by_cases e : j = i
    · subst e
      simp [updV, va_rf]
    · by_cases h : j < i
      · simp [updV, e, h, Nat.lt_succ_of_lt h]
      · simp [updV, e, h, show ¬ j < i + 1 by omega]
section VGM
variable {p : Program} {l : Launch} {e : Env} {R : Room} {s : State} {m : MethodId} {args : Array Value} {below : List Frame} {meth : Method} {c : Code} {H : Heap} {locs : List Loc} {cells slots : Nat} {Q : State → Prop}
variable {cc : ByteArray} {pc : Nat} {ls : Array Slot} {rest : List Value} {D : va_G} {cl : List vw_C} {A : Nat → Prop} {a : Nat} {tys : List (ClassId × FieldType)} {ws : va_W} {H0 : Heap}
theorem va_mna {X : va_W} {L : List Nat} {f : Nat → va_E} {cc : ByteArray} (hexec : p.tables.exec = Jvm.exec) (hb : c.code = cc) {own : String} {index : Nat} {ty : FieldType} {cy : ClassId} (hown : s.vm.findClass own = some m.cls) (hclink : (Cond.classLink own index ("[" ++ (FieldType.array ty).toString)).before args s = true) (hover : (Cond.arrayOver (.array ty)).before args s = true) (harr : (Cond.arrayClass ty).before args s = true) (hcy : s.vm.findClass (FieldType.array ty).toString = some cy)
    (hK : va_K D cl tys s) (hP : va_P D cl (X ++ va_pl L f) H) (hD : va_D A (X ++ va_pl L f)) (hS : va_S A H0 H locs) (hA : ∀ q, H0.size ≤ q → A q) {n k : Int32} {N' K' : Nat} {z : vp_A} (hn : ¬ n < 0) (hk : ¬ k < 0) (hN : n.toNatClampNeg = N') (hM : k.toNatClampNeg = K')
    (hb1 : N' * 4 ≤ 536870912) (hb2 : K' * componentBytes ty ≤ 536870912) (hb3 : K' ≤ 536870912) (hdf : fits ty (defaultValue ty) = true) (hdd : (defaultValue ty).isDefault = true) (hcells : cells + (1 + N') ≤ R.cells) (hslots : slots + (N' + N' * K') ≤ R.slots) (hz : ∀ c : ClassId, Jvm.Free.Multi.innerC c K' (defaultValue ty) = vp_cell c z) (hdg : decode cc pc = .ok (.multianewarray index 2, 4))
    (kk : ∀ (q : Nat) (r : Nat → Nat) (cA : ClassId) (H1 : Heap), (∀ i j : Nat, i < N' → j < N' → r i = r j → i = j) → (∀ i : Nat, i < N' → r i ∉ L) → va_K D cl (tys ++ [(cA, .array ty)]) s →
      va_P D cl ((X ++ [(q, .inl (cA, N', .inr (.inr (.inr (.inr (fun i => if i < N' then some (r i) else none))))))]) ++ va_pl (L ++ (List.range N').map r) (vr_up f ((List.range N').map r) (.inl (cy, z)))) H1 → va_D A ((X ++ [(q, .inl (cA, N', .inr (.inr (.inr (.inr (fun i => if i < N' then some (r i) else none))))))]) ++ va_pl (L ++ (List.range N').map r) (vr_up f ((List.range N').map r) (.inl (cy, z)))) → va_S A H0 H1 locs →
      W p l e R s m args below meth c H1 locs (cells + 1 + N') (slots + N' + N' * K') Q (F0 m (pc + 4) ls (.ref q :: rest))) : W p l e R s m args below meth c H locs cells slots Q (F0 m pc ls (.int k :: .int n :: rest)) := by
  subst hN
  subst hM
  intro T hT Xs
  obtain ⟨vm₁, cA, comp, -, fA, fC, hO, -, X', step⟩ := Xs.multianewarray2F hexec hown hclink hover harr (g := F0 m pc ls (.int k :: .int n :: rest)) rfl (by rw [hb]; exact hdg) rfl hn hk hb1 hb2 hb3 hdf hdd hcells hslots
  have ec : some cy = some comp := hcy.symm.trans fC
  cases ec
  generalize hF : Jvm.Free.Multi.fill (T.setVm vm₁) cA cy n.toNatClampNeg k.toNatClampNeg (defaultValue ty) n.toNatClampNeg = F at X' step
  have hTh : (T.setVm vm₁).heap = H := hT
  obtain ⟨f1, f2, -, -⟩ := Jvm.Free.Multi.fill_facts (T.setVm vm₁) cA cy n.toNatClampNeg k.toNatClampNeg (defaultValue ty) n.toNatClampNeg
  rw [hF, hTh] at f1 f2
  have hold : ∀ x : Nat, x < H.size → F.heap[x]? = H[x]? := fun x hx => by
    have := Jvm.Free.Multi.fill_old (T.setVm vm₁) cA cy n.toNatClampNeg k.toNatClampNeg (defaultValue ty) (a := x) (by rw [hTh]; exact hx) n.toNatClampNeg
    rw [hF, hTh] at this
    exact this
  have hrow : ∀ j : Nat, j < n.toNatClampNeg → F.heap[H.size + 1 + j]? = some (vp_cell cy z) := fun j hj => by
    have := Jvm.Free.Multi.fill_inner (T.setVm vm₁) cA cy n.toNatClampNeg k.toNatClampNeg (defaultValue ty) n.toNatClampNeg j hj
    rw [hF, hTh, hz] at this
    exact this
  have hout : Jvm.Free.Multi.outerC cA n.toNatClampNeg H.size n.toNatClampNeg = vp_cell cA (n.toNatClampNeg, .inr (.inr (.inr (.inr (fun i => if i < n.toNatClampNeg then some (H.size + 1 + i) else none))))) := by
    rw [vp_cell_q]
    exact vr_outer cA n.toNatClampNeg H.size n.toNatClampNeg
  rw [hout] at f2
  have hlt : ∀ a, a ∈ L → a < H.size := fun a ha => by
    obtain ⟨k9, hk9⟩ := va_pl_get (X := X) (f := f) ha
    exact (hP k9 _ hk9).lt
  have hnl : ∀ i : Nat, i < n.toNatClampNeg → H.size + 1 + i ∉ L := fun i _ h => by
    have := hlt _ h
    omega
  have hnm : ∀ a, a ∈ (List.range n.toNatClampNeg).map (fun i => H.size + 1 + i) → a ∉ L := fun a ha h => by
    obtain ⟨i, -, rfl⟩ := List.mem_map.mp ha
    have := hlt _ h
    omega
  have hP0 : va_P D cl (X ++ va_pl L f) F.heap := hP.kept (fun k9 x hx => hold x.1 ((hP k9 x hx).lt))
  have hP1 : va_P D cl ((X ++ va_pl L f) ++ [(H.size, .inl (cA, n.toNatClampNeg, .inr (.inr (.inr (.inr (fun i => if i < n.toNatClampNeg then some (H.size + 1 + i) else none))))))]) F.heap := hP0.app (fun k9 x hx => by
    have h0 : k9 < 1 := (List.getElem?_eq_some_iff.mp hx).1
    rw [show k9 = 0 by omega] at hx
    cases hx
    exact f2)
  have hP2 : va_P D cl (((X ++ va_pl L f) ++ [(H.size, .inl (cA, n.toNatClampNeg, .inr (.inr (.inr (.inr (fun i => if i < n.toNatClampNeg then some (H.size + 1 + i) else none))))))]) ++ ((List.range n.toNatClampNeg).map (fun i => H.size + 1 + i)).map (fun a => (a, .inl (cy, z)))) F.heap := hP1.app (fun k9 x hx => by
    obtain ⟨a, ha, rfl⟩ := List.mem_map.mp (List.mem_of_getElem? hx)
    obtain ⟨i, hi, rfl⟩ := List.mem_map.mp ha
    exact hrow i (List.mem_range.mp hi))
  have hD2 : va_D A (((X ++ va_pl L f) ++ [(H.size, .inl (cA, n.toNatClampNeg, .inr (.inr (.inr (.inr (fun i => if i < n.toNatClampNeg then some (H.size + 1 + i) else none))))))]) ++ ((List.range n.toNatClampNeg).map (fun i => H.size + 1 + i)).map (fun a => (a, .inl (cy, z)))) := by
    have hD1 := hD.push (e := .inl (cA, n.toNatClampNeg, .inr (.inr (.inr (.inr (fun i => if i < n.toNatClampNeg then some (H.size + 1 + i) else none)))))) hP rfl (hA _ hS.1)
    generalize hW1 : (X ++ va_pl L f) ++ [(H.size, .inl (cA, n.toNatClampNeg, .inr (.inr (.inr (.inr (fun i => if i < n.toNatClampNeg then some (H.size + 1 + i) else none))))))] = W1 at hD1 hP1 ⊢
    have hle : ∀ (k9 : Nat) (x : Nat × va_E), W1[k9]? = some x → x.1 ≤ H.size := fun k9 x hx => by
      rw [← hW1] at hx
      by_cases hl : k9 < (X ++ va_pl L f).length
      · rw [List.getElem?_append_left hl] at hx
        exact Nat.le_of_lt ((hP k9 x hx).lt)
      · rw [List.getElem?_append_right (by omega)] at hx
        have h0 : k9 - (X ++ va_pl L f).length < 1 := (List.getElem?_eq_some_iff.mp hx).1
        rw [show k9 - (X ++ va_pl L f).length = 0 by omega] at hx
        cases hx
        exact Nat.le_refl _
    have hr : ∀ (k9 : Nat) (x : Nat × va_E), (((List.range n.toNatClampNeg).map (fun i => H.size + 1 + i)).map (fun a => ((a, .inl (cy, z)) : Nat × va_E)))[k9]? = some x → x.1 = H.size + 1 + k9 := fun k9 x hx => by
      rw [List.getElem?_map, List.getElem?_map] at hx
      by_cases h9 : k9 < n.toNatClampNeg
      · rw [List.getElem?_range h9] at hx
        cases hx
        rfl
      · have hn0 : (List.range n.toNatClampNeg)[k9]? = none := List.getElem?_eq_none (by rw [List.length_range]; omega)
        rw [hn0] at hx
        cases hx
    refine ⟨fun i j x y hi hj hxy => ?_, fun k9 x hx => ?_⟩
    · by_cases h1 : i < W1.length <;> by_cases h2 : j < W1.length
      · rw [List.getElem?_append_left h1] at hi
        rw [List.getElem?_append_left h2] at hj
        exact hD1.1 i j x y hi hj hxy
      · rw [List.getElem?_append_left h1] at hi
        rw [List.getElem?_append_right (by omega)] at hj
        have := hle _ _ hi
        have := hr _ _ hj
        omega
      · rw [List.getElem?_append_right (by omega)] at hi
        rw [List.getElem?_append_left h2] at hj
        have := hle _ _ hj
        have := hr _ _ hi
        omega
      · rw [List.getElem?_append_right (by omega)] at hi hj
        have := hr _ _ hi
        have := hr _ _ hj
        omega
    · by_cases h1 : k9 < W1.length
      · rw [List.getElem?_append_left h1] at hx
        exact hD1.2 k9 x hx
      · rw [List.getElem?_append_right (by omega)] at hx
        have := hr _ _ hx
        exact hA _ (by have := hS.1; omega)
  have hAr : ArrOfT s cA (.array ty) := fun N9 z9 => by
    obtain ⟨-, k9, hk9, cm9, hkk9⟩ := (hO 0 0 0).1
    exact ⟨(fun q hq => by cases hq), k9, hk9, cm9, hkk9⟩
  have hK2 : va_K D cl (tys ++ [(cA, .array ty)]) s := ⟨hK.1, fun k9 x hx => by
    by_cases hl : k9 < tys.length
    · rw [List.getElem?_append_left hl] at hx
      exact hK.2 k9 x hx
    · rw [List.getElem?_append_right (by omega)] at hx
      have h0 : k9 - tys.length < 1 := (List.getElem?_eq_some_iff.mp hx).1
      rw [show k9 - tys.length = 0 by omega] at hx
      cases hx
      exact ⟨hAr, fA⟩⟩
  obtain ⟨t, a1, b1⟩ := kk H.size (fun i => H.size + 1 + i) cA F.heap (fun i j _ _ h => by have h9 : H.size + 1 + i = H.size + 1 + j := h; omega) hnl hK2 (by rw [← vr_rows hnm]; exact vr_lay hP2) (by rw [← vr_rows hnm]; exact vr_layD hD2) ⟨by rw [f1]; have := hS.1; omega, fun x h1 h2 => (hold x (Nat.lt_of_lt_of_le h1 hS.1)).trans (hS.2.1 x h1 h2), hS.2.2⟩ F rfl X'
  refine ⟨t, step t ?_, b1⟩
  have e : T.heap.size = H.size := by rw [hT]
  rw [e]
  exact a1
end VGM
/-! ===== END ===== -/


def RP : String := "TierStore$Tapes"
def FP : u_T := fun k => match k with
  | 0 => ("TierStore$Tapes", "length", "I", true)
  | 1 => ("TierStore$Tapes", "ends", "[I", true)
  | 2 => ("TierStore$Tapes", "trialEnds", "[I", true)
  | 3 => ("TierStore$Tapes", "held", "I", false)
  | 4 => ("TierStore$Tapes", "head", "I", false)
  | _ => ("TierStore$Tapes", "cost", "I", false)
def tP : Nat → FieldType := fun k => match k with
  | 0 => .int
  | 1 => (.array .int)
  | 2 => (.array .int)
  | 3 => .int
  | 4 => .int
  | _ => .int
theorem nP : ∀ a, a < 6 → ∀ b, b < 6 → a ≠ b → (FP a).2.1 ≠ (FP b).2.1 := by decide +kernel
theorem tP_ok : ∀ k, k < 6 → parseFieldDescriptor (FP k).2.2.1 = some (tP k) := by decide +kernel
def RT : String := "TierStore"
def FT : u_T := fun k => match k with
  | 0 => ("TierStore", "room", "I", true)
  | 1 => ("TierStore", "tapes", "LTierStore$Tapes;", true)
  | 2 => ("TierStore", "states", "[I", true)
  | 3 => ("TierStore", "lengths", "[I", true)
  | 4 => ("TierStore", "cells", "[[I", true)
  | 5 => ("TierStore", "copyCartridges", "[I", true)
  | 6 => ("TierStore", "copyPlaces", "[I", true)
  | 7 => ("TierStore", "waits", "[Z", true)
  | 8 => ("TierStore", "usedAt", "[I", true)
  | 9 => ("TierStore", "uses", "I", false)
  | 10 => ("TierStore", "listed", "[I", true)
  | _ => ("TierStore", "listedSize", "I", false)
def tT : Nat → FieldType := fun k => match k with
  | 0 => .int
  | 1 => (.object "TierStore$Tapes")
  | 2 => (.array .int)
  | 3 => (.array .int)
  | 4 => (.array (.array .int))
  | 5 => (.array .int)
  | 6 => (.array .int)
  | 7 => (.array .boolean)
  | 8 => (.array .int)
  | 9 => .int
  | 10 => (.array .int)
  | _ => .int
theorem nT : ∀ a, a < 12 → ∀ b, b < 12 → a ≠ b → (FT a).2.1 ≠ (FT b).2.1 := by decide +kernel
theorem tT_ok : ∀ k, k < 12 → parseFieldDescriptor (FT k).2.2.1 = some (tT k) := by decide +kernel
def RM : String := "TierStoreModel"
def FM : u_T := fun k => match k with
  | 0 => ("TierStoreModel", "room", "I", true)
  | 1 => ("TierStoreModel", "length", "I", true)
  | 2 => ("TierStoreModel", "state", "[I", true)
  | 3 => ("TierStoreModel", "size", "[I", true)
  | 4 => ("TierStoreModel", "cell", "[I", true)
  | 5 => ("TierStoreModel", "used", "[I", true)
  | 6 => ("TierStoreModel", "where", "[I", true)
  | 7 => ("TierStoreModel", "place", "[I", true)
  | 8 => ("TierStoreModel", "waits", "[Z", true)
  | 9 => ("TierStoreModel", "end", "[I", true)
  | 10 => ("TierStoreModel", "tried", "[I", true)
  | 11 => ("TierStoreModel", "order", "[I", true)
  | 12 => ("TierStoreModel", "uses", "I", false)
  | 13 => ("TierStoreModel", "drive", "I", false)
  | 14 => ("TierStoreModel", "head", "I", false)
  | _ => ("TierStoreModel", "cost", "I", false)
def tM : Nat → FieldType := fun k => match k with
  | 0 => .int
  | 1 => .int
  | 2 => (.array .int)
  | 3 => (.array .int)
  | 4 => (.array .int)
  | 5 => (.array .int)
  | 6 => (.array .int)
  | 7 => (.array .int)
  | 8 => (.array .boolean)
  | 9 => (.array .int)
  | 10 => (.array .int)
  | 11 => (.array .int)
  | 12 => .int
  | 13 => .int
  | 14 => .int
  | _ => .int
theorem nM : ∀ a, a < 16 → ∀ b, b < 16 → a ≠ b → (FM a).2.1 ≠ (FM b).2.1 := by decide +kernel
theorem tM_ok : ∀ k, k < 16 → parseFieldDescriptor (FM k).2.2.1 = some (tM k) := by decide +kernel
def RL : String := "TierStoreLaw"
abbrev vwCl : List vw_C := [(RP, FP, 6), (RT, FT, 12), (RM, FM, 16)]
abbrev bT_init : ByteArray := prog_1_method_1_code
def yT_init : MethodName := ⟨RT, "<init>", "(II)V"⟩
abbrev bT_create : ByteArray := prog_1_method_2_code
def yT_create : MethodName := ⟨RT, "create", "(II)I"⟩
abbrev bT_write : ByteArray := prog_1_method_3_code
def yT_write : MethodName := ⟨RT, "write", "(III)I"⟩
abbrev bT_read : ByteArray := prog_1_method_4_code
def yT_read : MethodName := ⟨RT, "read", "(II)J"⟩
abbrev bT_remove : ByteArray := prog_1_method_5_code
def yT_remove : MethodName := ⟨RT, "remove", "(I)I"⟩
abbrev bT_backUp : ByteArray := prog_1_method_6_code
def yT_backUp : MethodName := ⟨RT, "backUp", "()I"⟩
abbrev bT_tidy : ByteArray := prog_1_method_7_code
def yT_tidy : MethodName := ⟨RT, "tidy", "(II)I"⟩
abbrev bT_ask : ByteArray := prog_1_method_8_code
def yT_ask : MethodName := ⟨RT, "ask", "(I)I"⟩
abbrev bT_serve : ByteArray := prog_1_method_9_code
def yT_serve : MethodName := ⟨RT, "serve", "()I"⟩
abbrev bT_empty : ByteArray := prog_1_method_10_code
def yT_empty : MethodName := ⟨RT, "empty", "(I)I"⟩
abbrev bT_lose : ByteArray := prog_1_method_11_code
def yT_lose : MethodName := ⟨RT, "lose", "(I)I"⟩
abbrev bT_file : ByteArray := prog_1_method_12_code
def yT_file : MethodName := ⟨RT, "file", "(II)I"⟩
abbrev bT_cartridge : ByteArray := prog_1_method_13_code
def yT_cartridge : MethodName := ⟨RT, "cartridge", "(II)I"⟩
abbrev bT_count : ByteArray := prog_1_method_14_code
def yT_count : MethodName := ⟨RT, "count", "(I)I"⟩
abbrev bT_isFileNumber : ByteArray := prog_1_method_15_code
def yT_isFileNumber : MethodName := ⟨RT, "isFileNumber", "(I)Z"⟩
abbrev bT_isCartridgeNumber : ByteArray := prog_1_method_16_code
def yT_isCartridgeNumber : MethodName := ⟨RT, "isCartridgeNumber", "(I)Z"⟩
abbrev bT_isUnits : ByteArray := prog_1_method_17_code
def yT_isUnits : MethodName := ⟨RT, "isUnits", "(I)Z"⟩
abbrev bT_isPresent : ByteArray := prog_1_method_18_code
def yT_isPresent : MethodName := ⟨RT, "isPresent", "(I)Z"⟩
abbrev bT_isCell : ByteArray := prog_1_method_19_code
def yT_isCell : MethodName := ⟨RT, "isCell", "(II)Z"⟩
abbrev bT_isOnDisk : ByteArray := prog_1_method_20_code
def yT_isOnDisk : MethodName := ⟨RT, "isOnDisk", "(I)Z"⟩
abbrev bT_hasCopy : ByteArray := prog_1_method_21_code
def yT_hasCopy : MethodName := ⟨RT, "hasCopy", "(I)Z"⟩
abbrev bT_hasCopyOn : ByteArray := prog_1_method_22_code
def yT_hasCopyOn : MethodName := ⟨RT, "hasCopyOn", "(II)Z"⟩
abbrev bT_use : ByteArray := prog_1_method_23_code
def yT_use : MethodName := ⟨RT, "use", "(I)V"⟩
abbrev bT_usedSince : ByteArray := prog_1_method_24_code
def yT_usedSince : MethodName := ⟨RT, "usedSince", "(I)I"⟩
abbrev bT_longestUnused : ByteArray := prog_1_method_25_code
def yT_longestUnused : MethodName := ⟨RT, "longestUnused", "(I)I"⟩
abbrev bT_unitsTaken : ByteArray := prog_1_method_26_code
def yT_unitsTaken : MethodName := ⟨RT, "unitsTaken", "()I"⟩
abbrev bT_liveUnits : ByteArray := prog_1_method_27_code
def yT_liveUnits : MethodName := ⟨RT, "liveUnits", "(I)I"⟩
abbrev bT_filesWaiting : ByteArray := prog_1_method_28_code
def yT_filesWaiting : MethodName := ⟨RT, "filesWaiting", "()I"⟩
abbrev bT_stubOldestDouble : ByteArray := prog_1_method_29_code
def yT_stubOldestDouble : MethodName := ⟨RT, "stubOldestDouble", "()Z"⟩
abbrev bT_hasRoom : ByteArray := prog_1_method_30_code
def yT_hasRoom : MethodName := ⟨RT, "hasRoom", "(I)Z"⟩
abbrev bT_makeRoom : ByteArray := prog_1_method_31_code
def yT_makeRoom : MethodName := ⟨RT, "makeRoom", "(I)Z"⟩
abbrev bT_bringToDisk : ByteArray := prog_1_method_32_code
def yT_bringToDisk : MethodName := ⟨RT, "bringToDisk", "(I)Z"⟩
abbrev bT_putCopy : ByteArray := prog_1_method_33_code
def yT_putCopy : MethodName := ⟨RT, "putCopy", "(II)V"⟩
abbrev bT_moveCopy : ByteArray := prog_1_method_34_code
def yT_moveCopy : MethodName := ⟨RT, "moveCopy", "(II)V"⟩
abbrev bT_listedFitBeside : ByteArray := prog_1_method_35_code
def yT_listedFitBeside : MethodName := ⟨RT, "listedFitBeside", "(I)Z"⟩
abbrev bT_listWaitingStubs : ByteArray := prog_1_method_36_code
def yT_listWaitingStubs : MethodName := ⟨RT, "listWaitingStubs", "()V"⟩
abbrev bT_listCopiesOn : ByteArray := prog_1_method_37_code
def yT_listCopiesOn : MethodName := ⟨RT, "listCopiesOn", "(I)V"⟩
abbrev bT_fileWithCopyAt : ByteArray := prog_1_method_38_code
def yT_fileWithCopyAt : MethodName := ⟨RT, "fileWithCopyAt", "(II)I"⟩
abbrev bT_keepWaitingStubs : ByteArray := prog_1_method_39_code
def yT_keepWaitingStubs : MethodName := ⟨RT, "keepWaitingStubs", "()V"⟩
abbrev bP_init : ByteArray := prog_2_method_1_code
def yP_init : MethodName := ⟨RP, "<init>", "(I)V"⟩
abbrev bP_goTo : ByteArray := prog_2_method_2_code
def yP_goTo : MethodName := ⟨RP, "goTo", "(II)V"⟩
abbrev bP_pass : ByteArray := prog_2_method_3_code
def yP_pass : MethodName := ⟨RP, "pass", "(III)V"⟩
abbrev bP_append : ByteArray := prog_2_method_4_code
def yP_append : MethodName := ⟨RP, "append", "(II)I"⟩
abbrev bP_cartridgeFor : ByteArray := prog_2_method_5_code
def yP_cartridgeFor : MethodName := ⟨RP, "cartridgeFor", "(II)I"⟩
abbrev bP_firstFitting : ByteArray := prog_2_method_6_code
def yP_firstFitting : MethodName := ⟨RP, "firstFitting", "([III)I"⟩
abbrev bP_startTrial : ByteArray := prog_2_method_7_code
def yP_startTrial : MethodName := ⟨RP, "startTrial", "()V"⟩
abbrev bP_tryBeside : ByteArray := prog_2_method_8_code
def yP_tryBeside : MethodName := ⟨RP, "tryBeside", "(II)Z"⟩
abbrev bP_replace : ByteArray := prog_2_method_9_code
def yP_replace : MethodName := ⟨RP, "replace", "(I)V"⟩
abbrev bM_init : ByteArray := prog_4_method_1_code
def yM_init : MethodName := ⟨RM, "<init>", "(II)V"⟩
abbrev bM_in : ByteArray := prog_4_method_2_code
def yM_in : MethodName := ⟨RM, "in", "(II)Z"⟩
abbrev bM_there : ByteArray := prog_4_method_3_code
def yM_there : MethodName := ⟨RM, "there", "(I)Z"⟩
abbrev bM_taken : ByteArray := prog_4_method_4_code
def yM_taken : MethodName := ⟨RM, "taken", "()I"⟩
abbrev bM_use : ByteArray := prog_4_method_5_code
def yM_use : MethodName := ⟨RM, "use", "(I)V"⟩
abbrev bM_oldest : ByteArray := prog_4_method_6_code
def yM_oldest : MethodName := ⟨RM, "oldest", "(I)I"⟩
abbrev bM_makeRoom : ByteArray := prog_4_method_7_code
def yM_makeRoom : MethodName := ⟨RM, "makeRoom", "(I)Z"⟩
abbrev bM_move : ByteArray := prog_4_method_8_code
def yM_move : MethodName := ⟨RM, "move", "(III)V"⟩
abbrev bM_bringBack : ByteArray := prog_4_method_9_code
def yM_bringBack : MethodName := ⟨RM, "bringBack", "(I)Z"⟩
abbrev bM_copy : ByteArray := prog_4_method_10_code
def yM_copy : MethodName := ⟨RM, "copy", "(II)Z"⟩
abbrev bM_create : ByteArray := prog_4_method_11_code
def yM_create : MethodName := ⟨RM, "create", "(II)I"⟩
abbrev bM_write : ByteArray := prog_4_method_12_code
def yM_write : MethodName := ⟨RM, "write", "(III)I"⟩
abbrev bM_read : ByteArray := prog_4_method_13_code
def yM_read : MethodName := ⟨RM, "read", "(II)J"⟩
abbrev bM_remove : ByteArray := prog_4_method_14_code
def yM_remove : MethodName := ⟨RM, "remove", "(I)I"⟩
abbrev bM_backUp : ByteArray := prog_4_method_15_code
def yM_backUp : MethodName := ⟨RM, "backUp", "()I"⟩
abbrev bM_tidy : ByteArray := prog_4_method_16_code
def yM_tidy : MethodName := ⟨RM, "tidy", "(II)I"⟩
abbrev bM_waiting : ByteArray := prog_4_method_17_code
def yM_waiting : MethodName := ⟨RM, "waiting", "()I"⟩
abbrev bM_ask : ByteArray := prog_4_method_18_code
def yM_ask : MethodName := ⟨RM, "ask", "(I)I"⟩
abbrev bM_rank : ByteArray := prog_4_method_19_code
def yM_rank : MethodName := ⟨RM, "rank", "(I)I"⟩
abbrev bM_serve : ByteArray := prog_4_method_20_code
def yM_serve : MethodName := ⟨RM, "serve", "()I"⟩
abbrev bM_copied : ByteArray := prog_4_method_21_code
def yM_copied : MethodName := ⟨RM, "copied", "(I)Z"⟩
abbrev bM_next : ByteArray := prog_4_method_22_code
def yM_next : MethodName := ⟨RM, "next", "(II)I"⟩
abbrev bM_canEmpty : ByteArray := prog_4_method_23_code
def yM_canEmpty : MethodName := ⟨RM, "canEmpty", "(I)Z"⟩
abbrev bM_empty : ByteArray := prog_4_method_24_code
def yM_empty : MethodName := ⟨RM, "empty", "(I)I"⟩
abbrev bM_lose : ByteArray := prog_4_method_25_code
def yM_lose : MethodName := ⟨RM, "lose", "(I)I"⟩
abbrev bM_file : ByteArray := prog_4_method_26_code
def yM_file : MethodName := ⟨RM, "file", "(II)I"⟩
abbrev bM_cartridge : ByteArray := prog_4_method_27_code
def yM_cartridge : MethodName := ⟨RM, "cartridge", "(II)I"⟩
abbrev bM_count : ByteArray := prog_4_method_28_code
def yM_count : MethodName := ⟨RM, "count", "(I)I"⟩
abbrev bL_cell : ByteArray := method_2_code
def yL_cell : MethodName := ⟨RL, "cell", "([II)I"⟩
abbrev bL_law : ByteArray := code
end
section
theorem dT_init_0 : decode bT_init 0 = .ok (.aload_n 0, 1) := by decide +kernel
theorem dT_init_1 : decode bT_init 1 = .ok (.invokespecial 1, 3) := by decide +kernel
theorem dT_init_4 : decode bT_init 4 = .ok (.aload_n 0, 1) := by decide +kernel
theorem dT_init_5 : decode bT_init 5 = .ok (.bipush 16, 2) := by decide +kernel
theorem dT_init_7 : decode bT_init 7 = .ok (.newarray .int, 2) := by decide +kernel
theorem dT_init_9 : decode bT_init 9 = .ok (.putfield 9, 3) := by decide +kernel
theorem dT_init_12 : decode bT_init 12 = .ok (.aload_n 0, 1) := by decide +kernel
theorem dT_init_13 : decode bT_init 13 = .ok (.bipush 16, 2) := by decide +kernel
theorem dT_init_15 : decode bT_init 15 = .ok (.newarray .int, 2) := by decide +kernel
theorem dT_init_17 : decode bT_init 17 = .ok (.putfield 13, 3) := by decide +kernel
theorem dT_init_20 : decode bT_init 20 = .ok (.aload_n 0, 1) := by decide +kernel
theorem dT_init_21 : decode bT_init 21 = .ok (.bipush 16, 2) := by decide +kernel
theorem dT_init_23 : decode bT_init 23 = .ok (.iconst 4, 1) := by decide +kernel
theorem dT_init_24 : decode bT_init 24 = .ok (.multianewarray 16 2, 4) := by decide +kernel
theorem dT_init_28 : decode bT_init 28 = .ok (.putfield 18, 3) := by decide +kernel
theorem dT_init_31 : decode bT_init 31 = .ok (.aload_n 0, 1) := by decide +kernel
theorem dT_init_32 : decode bT_init 32 = .ok (.bipush 16, 2) := by decide +kernel
theorem dT_init_34 : decode bT_init 34 = .ok (.newarray .int, 2) := by decide +kernel
theorem dT_init_36 : decode bT_init 36 = .ok (.putfield 21, 3) := by decide +kernel
theorem dT_init_39 : decode bT_init 39 = .ok (.aload_n 0, 1) := by decide +kernel
theorem dT_init_40 : decode bT_init 40 = .ok (.bipush 16, 2) := by decide +kernel
theorem dT_init_42 : decode bT_init 42 = .ok (.newarray .int, 2) := by decide +kernel
theorem dT_init_44 : decode bT_init 44 = .ok (.putfield 24, 3) := by decide +kernel
theorem dT_init_47 : decode bT_init 47 = .ok (.aload_n 0, 1) := by decide +kernel
theorem dT_init_48 : decode bT_init 48 = .ok (.bipush 16, 2) := by decide +kernel
theorem dT_init_50 : decode bT_init 50 = .ok (.newarray .boolean, 2) := by decide +kernel
theorem dT_init_52 : decode bT_init 52 = .ok (.putfield 27, 3) := by decide +kernel
theorem dT_init_55 : decode bT_init 55 = .ok (.aload_n 0, 1) := by decide +kernel
theorem dT_init_56 : decode bT_init 56 = .ok (.bipush 16, 2) := by decide +kernel
theorem dT_init_58 : decode bT_init 58 = .ok (.newarray .int, 2) := by decide +kernel
theorem dT_init_60 : decode bT_init 60 = .ok (.putfield 31, 3) := by decide +kernel
theorem dT_init_63 : decode bT_init 63 = .ok (.aload_n 0, 1) := by decide +kernel
theorem dT_init_64 : decode bT_init 64 = .ok (.iconst 0, 1) := by decide +kernel
theorem dT_init_65 : decode bT_init 65 = .ok (.putfield 34, 3) := by decide +kernel
theorem dT_init_68 : decode bT_init 68 = .ok (.aload_n 0, 1) := by decide +kernel
theorem dT_init_69 : decode bT_init 69 = .ok (.bipush 16, 2) := by decide +kernel
theorem dT_init_71 : decode bT_init 71 = .ok (.newarray .int, 2) := by decide +kernel
theorem dT_init_73 : decode bT_init 73 = .ok (.putfield 38, 3) := by decide +kernel
theorem dT_init_76 : decode bT_init 76 = .ok (.aload_n 0, 1) := by decide +kernel
theorem dT_init_77 : decode bT_init 77 = .ok (.iconst 0, 1) := by decide +kernel
theorem dT_init_78 : decode bT_init 78 = .ok (.putfield 41, 3) := by decide +kernel
theorem dT_init_81 : decode bT_init 81 = .ok (.aload_n 0, 1) := by decide +kernel
theorem dT_init_82 : decode bT_init 82 = .ok (.iconst 4, 1) := by decide +kernel
theorem dT_init_83 : decode bT_init 83 = .ok (.bipush 24, 2) := by decide +kernel
theorem dT_init_85 : decode bT_init 85 = .ok (.iload_n 1, 1) := by decide +kernel
theorem dT_init_86 : decode bT_init 86 = .ok (.invokestatic 44, 3) := by decide +kernel
theorem dT_init_89 : decode bT_init 89 = .ok (.invokestatic 50, 3) := by decide +kernel
theorem dT_init_92 : decode bT_init 92 = .ok (.putfield 53, 3) := by decide +kernel
theorem dT_init_95 : decode bT_init 95 = .ok (.aload_n 0, 1) := by decide +kernel
theorem dT_init_96 : decode bT_init 96 = .ok (.new 56, 3) := by decide +kernel
theorem dT_init_99 : decode bT_init 99 = .ok (.dup, 1) := by decide +kernel
theorem dT_init_100 : decode bT_init 100 = .ok (.iconst 4, 1) := by decide +kernel
theorem dT_init_101 : decode bT_init 101 = .ok (.bipush 20, 2) := by decide +kernel
theorem dT_init_103 : decode bT_init 103 = .ok (.iload_n 2, 1) := by decide +kernel
theorem dT_init_104 : decode bT_init 104 = .ok (.invokestatic 44, 3) := by decide +kernel
theorem dT_init_107 : decode bT_init 107 = .ok (.invokestatic 50, 3) := by decide +kernel
theorem dT_init_110 : decode bT_init 110 = .ok (.invokespecial 58, 3) := by decide +kernel
theorem dT_init_113 : decode bT_init 113 = .ok (.putfield 61, 3) := by decide +kernel
theorem dT_init_116 : decode bT_init 116 = .ok (.return_, 1) := by decide +kernel
theorem dT_create_0 : decode bT_create 0 = .ok (.iload_n 1, 1) := by decide +kernel
theorem dT_create_1 : decode bT_create 1 = .ok (.invokestatic 65, 3) := by decide +kernel
theorem dT_create_4 : decode bT_create 4 = .ok (.ifCond .eq 13, 3) := by decide +kernel
theorem dT_create_7 : decode bT_create 7 = .ok (.iload_n 2, 1) := by decide +kernel
theorem dT_create_8 : decode bT_create 8 = .ok (.iconst 1, 1) := by decide +kernel
theorem dT_create_9 : decode bT_create 9 = .ok (.if_icmp .lt 8, 3) := by decide +kernel
theorem dT_create_12 : decode bT_create 12 = .ok (.iload_n 2, 1) := by decide +kernel
theorem dT_create_13 : decode bT_create 13 = .ok (.iconst 4, 1) := by decide +kernel
theorem dT_create_14 : decode bT_create 14 = .ok (.if_icmp .le 5, 3) := by decide +kernel
theorem dT_create_17 : decode bT_create 17 = .ok (.iconst (-1), 1) := by decide +kernel
theorem dT_create_18 : decode bT_create 18 = .ok (.ireturn, 1) := by decide +kernel
theorem dT_create_19 : decode bT_create 19 = .ok (.aload_n 0, 1) := by decide +kernel
theorem dT_create_20 : decode bT_create 20 = .ok (.getfield 9, 3) := by decide +kernel
theorem dT_create_23 : decode bT_create 23 = .ok (.iload_n 1, 1) := by decide +kernel
theorem dT_create_24 : decode bT_create 24 = .ok (.iaload, 1) := by decide +kernel
theorem dT_create_25 : decode bT_create 25 = .ok (.ifCond .eq 5, 3) := by decide +kernel
theorem dT_create_28 : decode bT_create 28 = .ok (.iconst (-1), 1) := by decide +kernel
theorem dT_create_29 : decode bT_create 29 = .ok (.ireturn, 1) := by decide +kernel
theorem dT_create_30 : decode bT_create 30 = .ok (.aload_n 0, 1) := by decide +kernel
theorem dT_create_31 : decode bT_create 31 = .ok (.iload_n 2, 1) := by decide +kernel
theorem dT_create_32 : decode bT_create 32 = .ok (.invokevirtual 69, 3) := by decide +kernel
theorem dT_create_35 : decode bT_create 35 = .ok (.ifCond .ne 6, 3) := by decide +kernel
theorem dT_create_38 : decode bT_create 38 = .ok (.bipush (-2), 2) := by decide +kernel
theorem dT_create_40 : decode bT_create 40 = .ok (.ireturn, 1) := by decide +kernel
theorem dT_create_41 : decode bT_create 41 = .ok (.aload_n 0, 1) := by decide +kernel
theorem dT_create_42 : decode bT_create 42 = .ok (.getfield 9, 3) := by decide +kernel
theorem dT_create_45 : decode bT_create 45 = .ok (.iload_n 1, 1) := by decide +kernel
theorem dT_create_46 : decode bT_create 46 = .ok (.iconst 1, 1) := by decide +kernel
theorem dT_create_47 : decode bT_create 47 = .ok (.iastore, 1) := by decide +kernel
theorem dT_create_48 : decode bT_create 48 = .ok (.aload_n 0, 1) := by decide +kernel
theorem dT_create_49 : decode bT_create 49 = .ok (.getfield 13, 3) := by decide +kernel
theorem dT_create_52 : decode bT_create 52 = .ok (.iload_n 1, 1) := by decide +kernel
theorem dT_create_53 : decode bT_create 53 = .ok (.iload_n 2, 1) := by decide +kernel
theorem dT_create_54 : decode bT_create 54 = .ok (.iastore, 1) := by decide +kernel
theorem dT_create_55 : decode bT_create 55 = .ok (.iconst 0, 1) := by decide +kernel
theorem dT_create_56 : decode bT_create 56 = .ok (.istore_n 3, 1) := by decide +kernel
theorem dT_create_57 : decode bT_create 57 = .ok (.iload_n 3, 1) := by decide +kernel
theorem dT_create_58 : decode bT_create 58 = .ok (.iconst 4, 1) := by decide +kernel
theorem dT_create_59 : decode bT_create 59 = .ok (.if_icmp .ge 18, 3) := by decide +kernel
theorem dT_create_62 : decode bT_create 62 = .ok (.aload_n 0, 1) := by decide +kernel
theorem dT_create_63 : decode bT_create 63 = .ok (.getfield 18, 3) := by decide +kernel
theorem dT_create_66 : decode bT_create 66 = .ok (.iload_n 1, 1) := by decide +kernel
theorem dT_create_67 : decode bT_create 67 = .ok (.aaload, 1) := by decide +kernel
theorem dT_create_68 : decode bT_create 68 = .ok (.iload_n 3, 1) := by decide +kernel
theorem dT_create_69 : decode bT_create 69 = .ok (.iconst 0, 1) := by decide +kernel
theorem dT_create_70 : decode bT_create 70 = .ok (.iastore, 1) := by decide +kernel
theorem dT_create_71 : decode bT_create 71 = .ok (.iinc 3 1, 3) := by decide +kernel
theorem dT_create_74 : decode bT_create 74 = .ok (.goto (-17), 3) := by decide +kernel
theorem dT_create_77 : decode bT_create 77 = .ok (.aload_n 0, 1) := by decide +kernel
theorem dT_create_78 : decode bT_create 78 = .ok (.iload_n 1, 1) := by decide +kernel
theorem dT_create_79 : decode bT_create 79 = .ok (.invokevirtual 72, 3) := by decide +kernel
theorem dT_create_82 : decode bT_create 82 = .ok (.iconst 0, 1) := by decide +kernel
theorem dT_create_83 : decode bT_create 83 = .ok (.ireturn, 1) := by decide +kernel
theorem dT_write_0 : decode bT_write 0 = .ok (.aload_n 0, 1) := by decide +kernel
theorem dT_write_1 : decode bT_write 1 = .ok (.iload_n 1, 1) := by decide +kernel
theorem dT_write_2 : decode bT_write 2 = .ok (.iload_n 2, 1) := by decide +kernel
theorem dT_write_3 : decode bT_write 3 = .ok (.invokevirtual 75, 3) := by decide +kernel
theorem dT_write_6 : decode bT_write 6 = .ok (.ifCond .ne 5, 3) := by decide +kernel
theorem dT_write_9 : decode bT_write 9 = .ok (.iconst (-1), 1) := by decide +kernel
theorem dT_write_10 : decode bT_write 10 = .ok (.ireturn, 1) := by decide +kernel
theorem dT_write_11 : decode bT_write 11 = .ok (.aload_n 0, 1) := by decide +kernel
theorem dT_write_12 : decode bT_write 12 = .ok (.getfield 9, 3) := by decide +kernel
theorem dT_write_15 : decode bT_write 15 = .ok (.iload_n 1, 1) := by decide +kernel
theorem dT_write_16 : decode bT_write 16 = .ok (.iaload, 1) := by decide +kernel
theorem dT_write_17 : decode bT_write 17 = .ok (.iconst 4, 1) := by decide +kernel
theorem dT_write_18 : decode bT_write 18 = .ok (.if_icmp .ne 6, 3) := by decide +kernel
theorem dT_write_21 : decode bT_write 21 = .ok (.bipush (-3), 2) := by decide +kernel
theorem dT_write_23 : decode bT_write 23 = .ok (.ireturn, 1) := by decide +kernel
theorem dT_write_24 : decode bT_write 24 = .ok (.aload_n 0, 1) := by decide +kernel
theorem dT_write_25 : decode bT_write 25 = .ok (.iload_n 1, 1) := by decide +kernel
theorem dT_write_26 : decode bT_write 26 = .ok (.invokevirtual 79, 3) := by decide +kernel
theorem dT_write_29 : decode bT_write 29 = .ok (.ifCond .ne 6, 3) := by decide +kernel
theorem dT_write_32 : decode bT_write 32 = .ok (.bipush (-2), 2) := by decide +kernel
theorem dT_write_34 : decode bT_write 34 = .ok (.ireturn, 1) := by decide +kernel
theorem dT_write_35 : decode bT_write 35 = .ok (.aload_n 0, 1) := by decide +kernel
theorem dT_write_36 : decode bT_write 36 = .ok (.getfield 18, 3) := by decide +kernel
theorem dT_write_39 : decode bT_write 39 = .ok (.iload_n 1, 1) := by decide +kernel
theorem dT_write_40 : decode bT_write 40 = .ok (.aaload, 1) := by decide +kernel
theorem dT_write_41 : decode bT_write 41 = .ok (.iload_n 2, 1) := by decide +kernel
theorem dT_write_42 : decode bT_write 42 = .ok (.iload_n 3, 1) := by decide +kernel
theorem dT_write_43 : decode bT_write 43 = .ok (.iastore, 1) := by decide +kernel
theorem dT_write_44 : decode bT_write 44 = .ok (.aload_n 0, 1) := by decide +kernel
theorem dT_write_45 : decode bT_write 45 = .ok (.getfield 9, 3) := by decide +kernel
theorem dT_write_48 : decode bT_write 48 = .ok (.iload_n 1, 1) := by decide +kernel
theorem dT_write_49 : decode bT_write 49 = .ok (.iconst 1, 1) := by decide +kernel
theorem dT_write_50 : decode bT_write 50 = .ok (.iastore, 1) := by decide +kernel
theorem dT_write_51 : decode bT_write 51 = .ok (.aload_n 0, 1) := by decide +kernel
theorem dT_write_52 : decode bT_write 52 = .ok (.iload_n 1, 1) := by decide +kernel
theorem dT_write_53 : decode bT_write 53 = .ok (.invokevirtual 72, 3) := by decide +kernel
theorem dT_write_56 : decode bT_write 56 = .ok (.iconst 0, 1) := by decide +kernel
theorem dT_write_57 : decode bT_write 57 = .ok (.ireturn, 1) := by decide +kernel
theorem dT_read_0 : decode bT_read 0 = .ok (.aload_n 0, 1) := by decide +kernel
theorem dT_read_1 : decode bT_read 1 = .ok (.iload_n 1, 1) := by decide +kernel
theorem dT_read_2 : decode bT_read 2 = .ok (.iload_n 2, 1) := by decide +kernel
theorem dT_read_3 : decode bT_read 3 = .ok (.invokevirtual 75, 3) := by decide +kernel
theorem dT_read_6 : decode bT_read 6 = .ok (.ifCond .ne 7, 3) := by decide +kernel
theorem dT_read_9 : decode bT_read 9 = .ok (.ldc2_w 82, 3) := by decide +kernel
theorem dT_read_12 : decode bT_read 12 = .ok (.lreturn, 1) := by decide +kernel
theorem dT_read_13 : decode bT_read 13 = .ok (.aload_n 0, 1) := by decide +kernel
theorem dT_read_14 : decode bT_read 14 = .ok (.getfield 9, 3) := by decide +kernel
theorem dT_read_17 : decode bT_read 17 = .ok (.iload_n 1, 1) := by decide +kernel
theorem dT_read_18 : decode bT_read 18 = .ok (.iaload, 1) := by decide +kernel
theorem dT_read_19 : decode bT_read 19 = .ok (.iconst 4, 1) := by decide +kernel
theorem dT_read_20 : decode bT_read 20 = .ok (.if_icmp .ne 7, 3) := by decide +kernel
theorem dT_read_23 : decode bT_read 23 = .ok (.ldc2_w 84, 3) := by decide +kernel
theorem dT_read_26 : decode bT_read 26 = .ok (.lreturn, 1) := by decide +kernel
theorem dT_read_27 : decode bT_read 27 = .ok (.aload_n 0, 1) := by decide +kernel
theorem dT_read_28 : decode bT_read 28 = .ok (.iload_n 1, 1) := by decide +kernel
theorem dT_read_29 : decode bT_read 29 = .ok (.invokevirtual 79, 3) := by decide +kernel
theorem dT_read_32 : decode bT_read 32 = .ok (.ifCond .ne 7, 3) := by decide +kernel
theorem dT_read_35 : decode bT_read 35 = .ok (.ldc2_w 86, 3) := by decide +kernel
theorem dT_read_38 : decode bT_read 38 = .ok (.lreturn, 1) := by decide +kernel
theorem dT_read_39 : decode bT_read 39 = .ok (.aload_n 0, 1) := by decide +kernel
theorem dT_read_40 : decode bT_read 40 = .ok (.iload_n 1, 1) := by decide +kernel
theorem dT_read_41 : decode bT_read 41 = .ok (.invokevirtual 72, 3) := by decide +kernel
theorem dT_read_44 : decode bT_read 44 = .ok (.aload_n 0, 1) := by decide +kernel
theorem dT_read_45 : decode bT_read 45 = .ok (.getfield 18, 3) := by decide +kernel
theorem dT_read_48 : decode bT_read 48 = .ok (.iload_n 1, 1) := by decide +kernel
theorem dT_read_49 : decode bT_read 49 = .ok (.aaload, 1) := by decide +kernel
theorem dT_read_50 : decode bT_read 50 = .ok (.iload_n 2, 1) := by decide +kernel
theorem dT_read_51 : decode bT_read 51 = .ok (.iaload, 1) := by decide +kernel
theorem dT_read_52 : decode bT_read 52 = .ok (.i2l, 1) := by decide +kernel
theorem dT_read_53 : decode bT_read 53 = .ok (.lreturn, 1) := by decide +kernel
theorem dT_remove_0 : decode bT_remove 0 = .ok (.aload_n 0, 1) := by decide +kernel
theorem dT_remove_1 : decode bT_remove 1 = .ok (.iload_n 1, 1) := by decide +kernel
theorem dT_remove_2 : decode bT_remove 2 = .ok (.invokevirtual 88, 3) := by decide +kernel
theorem dT_remove_5 : decode bT_remove 5 = .ok (.ifCond .ne 5, 3) := by decide +kernel
theorem dT_remove_8 : decode bT_remove 8 = .ok (.iconst (-1), 1) := by decide +kernel
theorem dT_remove_9 : decode bT_remove 9 = .ok (.ireturn, 1) := by decide +kernel
theorem dT_remove_10 : decode bT_remove 10 = .ok (.aload_n 0, 1) := by decide +kernel
theorem dT_remove_11 : decode bT_remove 11 = .ok (.getfield 9, 3) := by decide +kernel
theorem dT_remove_14 : decode bT_remove 14 = .ok (.iload_n 1, 1) := by decide +kernel
theorem dT_remove_15 : decode bT_remove 15 = .ok (.iconst 0, 1) := by decide +kernel
theorem dT_remove_16 : decode bT_remove 16 = .ok (.iastore, 1) := by decide +kernel
theorem dT_remove_17 : decode bT_remove 17 = .ok (.aload_n 0, 1) := by decide +kernel
theorem dT_remove_18 : decode bT_remove 18 = .ok (.getfield 27, 3) := by decide +kernel
theorem dT_remove_21 : decode bT_remove 21 = .ok (.iload_n 1, 1) := by decide +kernel
theorem dT_remove_22 : decode bT_remove 22 = .ok (.iconst 0, 1) := by decide +kernel
theorem dT_remove_23 : decode bT_remove 23 = .ok (.bastore, 1) := by decide +kernel
theorem dT_remove_24 : decode bT_remove 24 = .ok (.iconst 0, 1) := by decide +kernel
theorem dT_remove_25 : decode bT_remove 25 = .ok (.ireturn, 1) := by decide +kernel
theorem dT_backUp_0 : decode bT_backUp 0 = .ok (.aload_n 0, 1) := by decide +kernel
theorem dT_backUp_1 : decode bT_backUp 1 = .ok (.iconst 1, 1) := by decide +kernel
theorem dT_backUp_2 : decode bT_backUp 2 = .ok (.invokevirtual 91, 3) := by decide +kernel
theorem dT_backUp_5 : decode bT_backUp 5 = .ok (.istore_n 1, 1) := by decide +kernel
theorem dT_backUp_6 : decode bT_backUp 6 = .ok (.iload_n 1, 1) := by decide +kernel
theorem dT_backUp_7 : decode bT_backUp 7 = .ok (.iconst (-1), 1) := by decide +kernel
theorem dT_backUp_8 : decode bT_backUp 8 = .ok (.if_icmp .ne 5, 3) := by decide +kernel
theorem dT_backUp_11 : decode bT_backUp 11 = .ok (.iconst (-1), 1) := by decide +kernel
theorem dT_backUp_12 : decode bT_backUp 12 = .ok (.ireturn, 1) := by decide +kernel
theorem dT_backUp_13 : decode bT_backUp 13 = .ok (.aload_n 0, 1) := by decide +kernel
theorem dT_backUp_14 : decode bT_backUp 14 = .ok (.getfield 61, 3) := by decide +kernel
theorem dT_backUp_17 : decode bT_backUp 17 = .ok (.aload_n 0, 1) := by decide +kernel
theorem dT_backUp_18 : decode bT_backUp 18 = .ok (.getfield 13, 3) := by decide +kernel
theorem dT_backUp_21 : decode bT_backUp 21 = .ok (.iload_n 1, 1) := by decide +kernel
theorem dT_backUp_22 : decode bT_backUp 22 = .ok (.iaload, 1) := by decide +kernel
theorem dT_backUp_23 : decode bT_backUp 23 = .ok (.iconst (-1), 1) := by decide +kernel
theorem dT_backUp_24 : decode bT_backUp 24 = .ok (.invokevirtual 95, 3) := by decide +kernel
theorem dT_backUp_27 : decode bT_backUp 27 = .ok (.istore_n 2, 1) := by decide +kernel
theorem dT_backUp_28 : decode bT_backUp 28 = .ok (.iload_n 2, 1) := by decide +kernel
theorem dT_backUp_29 : decode bT_backUp 29 = .ok (.iconst (-1), 1) := by decide +kernel
theorem dT_backUp_30 : decode bT_backUp 30 = .ok (.if_icmp .ne 6, 3) := by decide +kernel
theorem dT_backUp_33 : decode bT_backUp 33 = .ok (.bipush (-2), 2) := by decide +kernel
theorem dT_backUp_35 : decode bT_backUp 35 = .ok (.ireturn, 1) := by decide +kernel
theorem dT_backUp_36 : decode bT_backUp 36 = .ok (.aload_n 0, 1) := by decide +kernel
theorem dT_backUp_37 : decode bT_backUp 37 = .ok (.iload_n 1, 1) := by decide +kernel
theorem dT_backUp_38 : decode bT_backUp 38 = .ok (.iload_n 2, 1) := by decide +kernel
theorem dT_backUp_39 : decode bT_backUp 39 = .ok (.invokevirtual 98, 3) := by decide +kernel
theorem dT_backUp_42 : decode bT_backUp 42 = .ok (.aload_n 0, 1) := by decide +kernel
theorem dT_backUp_43 : decode bT_backUp 43 = .ok (.getfield 9, 3) := by decide +kernel
theorem dT_backUp_46 : decode bT_backUp 46 = .ok (.iload_n 1, 1) := by decide +kernel
theorem dT_backUp_47 : decode bT_backUp 47 = .ok (.iconst 2, 1) := by decide +kernel
theorem dT_backUp_48 : decode bT_backUp 48 = .ok (.iastore, 1) := by decide +kernel
theorem dT_backUp_49 : decode bT_backUp 49 = .ok (.iload_n 1, 1) := by decide +kernel
theorem dT_backUp_50 : decode bT_backUp 50 = .ok (.ireturn, 1) := by decide +kernel
theorem dT_tidy_0 : decode bT_tidy 0 = .ok (.iload_n 1, 1) := by decide +kernel
theorem dT_tidy_1 : decode bT_tidy 1 = .ok (.invokestatic 102, 3) := by decide +kernel
theorem dT_tidy_4 : decode bT_tidy 4 = .ok (.ifCond .eq 15, 3) := by decide +kernel
theorem dT_tidy_7 : decode bT_tidy 7 = .ok (.iload_n 2, 1) := by decide +kernel
theorem dT_tidy_8 : decode bT_tidy 8 = .ok (.invokestatic 102, 3) := by decide +kernel
theorem dT_tidy_11 : decode bT_tidy 11 = .ok (.ifCond .eq 8, 3) := by decide +kernel
theorem dT_tidy_14 : decode bT_tidy 14 = .ok (.iload_n 2, 1) := by decide +kernel
theorem dT_tidy_15 : decode bT_tidy 15 = .ok (.iload_n 1, 1) := by decide +kernel
theorem dT_tidy_16 : decode bT_tidy 16 = .ok (.if_icmp .le 5, 3) := by decide +kernel
theorem dT_tidy_19 : decode bT_tidy 19 = .ok (.iconst (-1), 1) := by decide +kernel
theorem dT_tidy_20 : decode bT_tidy 20 = .ok (.ireturn, 1) := by decide +kernel
theorem dT_tidy_21 : decode bT_tidy 21 = .ok (.aload_n 0, 1) := by decide +kernel
theorem dT_tidy_22 : decode bT_tidy 22 = .ok (.invokevirtual 105, 3) := by decide +kernel
theorem dT_tidy_25 : decode bT_tidy 25 = .ok (.iload_n 1, 1) := by decide +kernel
theorem dT_tidy_26 : decode bT_tidy 26 = .ok (.if_icmp .gt 5, 3) := by decide +kernel
theorem dT_tidy_29 : decode bT_tidy 29 = .ok (.iconst 0, 1) := by decide +kernel
theorem dT_tidy_30 : decode bT_tidy 30 = .ok (.ireturn, 1) := by decide +kernel
theorem dT_tidy_31 : decode bT_tidy 31 = .ok (.iconst 0, 1) := by decide +kernel
theorem dT_tidy_32 : decode bT_tidy 32 = .ok (.istore_n 3, 1) := by decide +kernel
theorem dT_tidy_33 : decode bT_tidy 33 = .ok (.iload_n 3, 1) := by decide +kernel
theorem dT_tidy_34 : decode bT_tidy 34 = .ok (.bipush 16, 2) := by decide +kernel
theorem dT_tidy_36 : decode bT_tidy 36 = .ok (.if_icmp .ge 24, 3) := by decide +kernel
theorem dT_tidy_39 : decode bT_tidy 39 = .ok (.aload_n 0, 1) := by decide +kernel
theorem dT_tidy_40 : decode bT_tidy 40 = .ok (.invokevirtual 105, 3) := by decide +kernel
theorem dT_tidy_43 : decode bT_tidy 43 = .ok (.iload_n 2, 1) := by decide +kernel
theorem dT_tidy_44 : decode bT_tidy 44 = .ok (.if_icmp .le 16, 3) := by decide +kernel
theorem dT_tidy_47 : decode bT_tidy 47 = .ok (.aload_n 0, 1) := by decide +kernel
theorem dT_tidy_48 : decode bT_tidy 48 = .ok (.invokevirtual 109, 3) := by decide +kernel
theorem dT_tidy_51 : decode bT_tidy 51 = .ok (.ifCond .eq 9, 3) := by decide +kernel
theorem dT_tidy_54 : decode bT_tidy 54 = .ok (.iinc 3 1, 3) := by decide +kernel
theorem dT_tidy_57 : decode bT_tidy 57 = .ok (.goto (-24), 3) := by decide +kernel
theorem dT_tidy_60 : decode bT_tidy 60 = .ok (.iload_n 3, 1) := by decide +kernel
theorem dT_tidy_61 : decode bT_tidy 61 = .ok (.ireturn, 1) := by decide +kernel
theorem dT_ask_0 : decode bT_ask 0 = .ok (.aload_n 0, 1) := by decide +kernel
theorem dT_ask_1 : decode bT_ask 1 = .ok (.iload_n 1, 1) := by decide +kernel
theorem dT_ask_2 : decode bT_ask 2 = .ok (.invokevirtual 88, 3) := by decide +kernel
theorem dT_ask_5 : decode bT_ask 5 = .ok (.ifCond .ne 5, 3) := by decide +kernel
theorem dT_ask_8 : decode bT_ask 8 = .ok (.iconst (-1), 1) := by decide +kernel
theorem dT_ask_9 : decode bT_ask 9 = .ok (.ireturn, 1) := by decide +kernel
theorem dT_ask_10 : decode bT_ask 10 = .ok (.aload_n 0, 1) := by decide +kernel
theorem dT_ask_11 : decode bT_ask 11 = .ok (.getfield 9, 3) := by decide +kernel
theorem dT_ask_14 : decode bT_ask 14 = .ok (.iload_n 1, 1) := by decide +kernel
theorem dT_ask_15 : decode bT_ask 15 = .ok (.iaload, 1) := by decide +kernel
theorem dT_ask_16 : decode bT_ask 16 = .ok (.iconst 3, 1) := by decide +kernel
theorem dT_ask_17 : decode bT_ask 17 = .ok (.if_icmp .ne 12, 3) := by decide +kernel
theorem dT_ask_20 : decode bT_ask 20 = .ok (.aload_n 0, 1) := by decide +kernel
theorem dT_ask_21 : decode bT_ask 21 = .ok (.getfield 27, 3) := by decide +kernel
theorem dT_ask_24 : decode bT_ask 24 = .ok (.iload_n 1, 1) := by decide +kernel
theorem dT_ask_25 : decode bT_ask 25 = .ok (.baload, 1) := by decide +kernel
theorem dT_ask_26 : decode bT_ask 26 = .ok (.ifCond .eq 5, 3) := by decide +kernel
theorem dT_ask_29 : decode bT_ask 29 = .ok (.iconst (-1), 1) := by decide +kernel
theorem dT_ask_30 : decode bT_ask 30 = .ok (.ireturn, 1) := by decide +kernel
theorem dT_ask_31 : decode bT_ask 31 = .ok (.aload_n 0, 1) := by decide +kernel
theorem dT_ask_32 : decode bT_ask 32 = .ok (.invokevirtual 113, 3) := by decide +kernel
theorem dT_ask_35 : decode bT_ask 35 = .ok (.bipush 6, 2) := by decide +kernel
theorem dT_ask_37 : decode bT_ask 37 = .ok (.if_icmp .lt 6, 3) := by decide +kernel
theorem dT_ask_40 : decode bT_ask 40 = .ok (.bipush (-2), 2) := by decide +kernel
theorem dT_ask_42 : decode bT_ask 42 = .ok (.ireturn, 1) := by decide +kernel
theorem dT_ask_43 : decode bT_ask 43 = .ok (.aload_n 0, 1) := by decide +kernel
theorem dT_ask_44 : decode bT_ask 44 = .ok (.getfield 27, 3) := by decide +kernel
theorem dT_ask_47 : decode bT_ask 47 = .ok (.iload_n 1, 1) := by decide +kernel
theorem dT_ask_48 : decode bT_ask 48 = .ok (.iconst 1, 1) := by decide +kernel
theorem dT_ask_49 : decode bT_ask 49 = .ok (.bastore, 1) := by decide +kernel
theorem dT_ask_50 : decode bT_ask 50 = .ok (.iconst 0, 1) := by decide +kernel
theorem dT_ask_51 : decode bT_ask 51 = .ok (.ireturn, 1) := by decide +kernel
theorem dT_serve_0 : decode bT_serve 0 = .ok (.aload_n 0, 1) := by decide +kernel
theorem dT_serve_1 : decode bT_serve 1 = .ok (.invokevirtual 116, 3) := by decide +kernel
theorem dT_serve_4 : decode bT_serve 4 = .ok (.iconst 0, 1) := by decide +kernel
theorem dT_serve_5 : decode bT_serve 5 = .ok (.istore_n 1, 1) := by decide +kernel
theorem dT_serve_6 : decode bT_serve 6 = .ok (.iload_n 1, 1) := by decide +kernel
theorem dT_serve_7 : decode bT_serve 7 = .ok (.bipush 16, 2) := by decide +kernel
theorem dT_serve_9 : decode bT_serve 9 = .ok (.if_icmp .ge 16, 3) := by decide +kernel
theorem dT_serve_12 : decode bT_serve 12 = .ok (.aload_n 0, 1) := by decide +kernel
theorem dT_serve_13 : decode bT_serve 13 = .ok (.getfield 27, 3) := by decide +kernel
theorem dT_serve_16 : decode bT_serve 16 = .ok (.iload_n 1, 1) := by decide +kernel
theorem dT_serve_17 : decode bT_serve 17 = .ok (.iconst 0, 1) := by decide +kernel
theorem dT_serve_18 : decode bT_serve 18 = .ok (.bastore, 1) := by decide +kernel
theorem dT_serve_19 : decode bT_serve 19 = .ok (.iinc 1 1, 3) := by decide +kernel
theorem dT_serve_22 : decode bT_serve 22 = .ok (.goto (-16), 3) := by decide +kernel
theorem dT_serve_25 : decode bT_serve 25 = .ok (.iconst 0, 1) := by decide +kernel
theorem dT_serve_26 : decode bT_serve 26 = .ok (.istore_n 1, 1) := by decide +kernel
theorem dT_serve_27 : decode bT_serve 27 = .ok (.iconst 0, 1) := by decide +kernel
theorem dT_serve_28 : decode bT_serve 28 = .ok (.istore_n 2, 1) := by decide +kernel
theorem dT_serve_29 : decode bT_serve 29 = .ok (.iload_n 2, 1) := by decide +kernel
theorem dT_serve_30 : decode bT_serve 30 = .ok (.aload_n 0, 1) := by decide +kernel
theorem dT_serve_31 : decode bT_serve 31 = .ok (.getfield 41, 3) := by decide +kernel
theorem dT_serve_34 : decode bT_serve 34 = .ok (.if_icmp .ge 25, 3) := by decide +kernel
theorem dT_serve_37 : decode bT_serve 37 = .ok (.aload_n 0, 1) := by decide +kernel
theorem dT_serve_38 : decode bT_serve 38 = .ok (.aload_n 0, 1) := by decide +kernel
theorem dT_serve_39 : decode bT_serve 39 = .ok (.getfield 38, 3) := by decide +kernel
theorem dT_serve_42 : decode bT_serve 42 = .ok (.iload_n 2, 1) := by decide +kernel
theorem dT_serve_43 : decode bT_serve 43 = .ok (.iaload, 1) := by decide +kernel
theorem dT_serve_44 : decode bT_serve 44 = .ok (.invokevirtual 79, 3) := by decide +kernel
theorem dT_serve_47 : decode bT_serve 47 = .ok (.ifCond .eq 6, 3) := by decide +kernel
theorem dT_serve_50 : decode bT_serve 50 = .ok (.iinc 1 1, 3) := by decide +kernel
theorem dT_serve_53 : decode bT_serve 53 = .ok (.iinc 2 1, 3) := by decide +kernel
theorem dT_serve_56 : decode bT_serve 56 = .ok (.goto (-27), 3) := by decide +kernel
theorem dT_serve_59 : decode bT_serve 59 = .ok (.iload_n 1, 1) := by decide +kernel
theorem dT_serve_60 : decode bT_serve 60 = .ok (.ireturn, 1) := by decide +kernel
theorem dT_empty_0 : decode bT_empty 0 = .ok (.iload_n 1, 1) := by decide +kernel
theorem dT_empty_1 : decode bT_empty 1 = .ok (.invokestatic 119, 3) := by decide +kernel
theorem dT_empty_4 : decode bT_empty 4 = .ok (.ifCond .ne 5, 3) := by decide +kernel
theorem dT_empty_7 : decode bT_empty 7 = .ok (.iconst (-1), 1) := by decide +kernel
theorem dT_empty_8 : decode bT_empty 8 = .ok (.ireturn, 1) := by decide +kernel
theorem dT_empty_9 : decode bT_empty 9 = .ok (.aload_n 0, 1) := by decide +kernel
theorem dT_empty_10 : decode bT_empty 10 = .ok (.iconst 0, 1) := by decide +kernel
theorem dT_empty_11 : decode bT_empty 11 = .ok (.putfield 41, 3) := by decide +kernel
theorem dT_empty_14 : decode bT_empty 14 = .ok (.aload_n 0, 1) := by decide +kernel
theorem dT_empty_15 : decode bT_empty 15 = .ok (.iload_n 1, 1) := by decide +kernel
theorem dT_empty_16 : decode bT_empty 16 = .ok (.invokevirtual 122, 3) := by decide +kernel
theorem dT_empty_19 : decode bT_empty 19 = .ok (.aload_n 0, 1) := by decide +kernel
theorem dT_empty_20 : decode bT_empty 20 = .ok (.iload_n 1, 1) := by decide +kernel
theorem dT_empty_21 : decode bT_empty 21 = .ok (.invokevirtual 125, 3) := by decide +kernel
theorem dT_empty_24 : decode bT_empty 24 = .ok (.ifCond .ne 6, 3) := by decide +kernel
theorem dT_empty_27 : decode bT_empty 27 = .ok (.bipush (-2), 2) := by decide +kernel
theorem dT_empty_29 : decode bT_empty 29 = .ok (.ireturn, 1) := by decide +kernel
theorem dT_empty_30 : decode bT_empty 30 = .ok (.iconst 0, 1) := by decide +kernel
theorem dT_empty_31 : decode bT_empty 31 = .ok (.istore_n 2, 1) := by decide +kernel
theorem dT_empty_32 : decode bT_empty 32 = .ok (.iload_n 2, 1) := by decide +kernel
theorem dT_empty_33 : decode bT_empty 33 = .ok (.aload_n 0, 1) := by decide +kernel
theorem dT_empty_34 : decode bT_empty 34 = .ok (.getfield 41, 3) := by decide +kernel
theorem dT_empty_37 : decode bT_empty 37 = .ok (.if_icmp .ge 20, 3) := by decide +kernel
theorem dT_empty_40 : decode bT_empty 40 = .ok (.aload_n 0, 1) := by decide +kernel
theorem dT_empty_41 : decode bT_empty 41 = .ok (.aload_n 0, 1) := by decide +kernel
theorem dT_empty_42 : decode bT_empty 42 = .ok (.getfield 38, 3) := by decide +kernel
theorem dT_empty_45 : decode bT_empty 45 = .ok (.iload_n 2, 1) := by decide +kernel
theorem dT_empty_46 : decode bT_empty 46 = .ok (.iaload, 1) := by decide +kernel
theorem dT_empty_47 : decode bT_empty 47 = .ok (.iload_n 1, 1) := by decide +kernel
theorem dT_empty_48 : decode bT_empty 48 = .ok (.invokevirtual 128, 3) := by decide +kernel
theorem dT_empty_51 : decode bT_empty 51 = .ok (.iinc 2 1, 3) := by decide +kernel
theorem dT_empty_54 : decode bT_empty 54 = .ok (.goto (-22), 3) := by decide +kernel
theorem dT_empty_57 : decode bT_empty 57 = .ok (.aload_n 0, 1) := by decide +kernel
theorem dT_empty_58 : decode bT_empty 58 = .ok (.getfield 61, 3) := by decide +kernel
theorem dT_empty_61 : decode bT_empty 61 = .ok (.getfield 131, 3) := by decide +kernel
theorem dT_empty_64 : decode bT_empty 64 = .ok (.iload_n 1, 1) := by decide +kernel
theorem dT_empty_65 : decode bT_empty 65 = .ok (.iconst 0, 1) := by decide +kernel
theorem dT_empty_66 : decode bT_empty 66 = .ok (.iastore, 1) := by decide +kernel
theorem dT_empty_67 : decode bT_empty 67 = .ok (.aload_n 0, 1) := by decide +kernel
theorem dT_empty_68 : decode bT_empty 68 = .ok (.getfield 41, 3) := by decide +kernel
theorem dT_empty_71 : decode bT_empty 71 = .ok (.ireturn, 1) := by decide +kernel
theorem dT_lose_0 : decode bT_lose 0 = .ok (.iload_n 1, 1) := by decide +kernel
theorem dT_lose_1 : decode bT_lose 1 = .ok (.invokestatic 119, 3) := by decide +kernel
theorem dT_lose_4 : decode bT_lose 4 = .ok (.ifCond .ne 5, 3) := by decide +kernel
theorem dT_lose_7 : decode bT_lose 7 = .ok (.iconst (-1), 1) := by decide +kernel
theorem dT_lose_8 : decode bT_lose 8 = .ok (.ireturn, 1) := by decide +kernel
theorem dT_lose_9 : decode bT_lose 9 = .ok (.iconst 0, 1) := by decide +kernel
theorem dT_lose_10 : decode bT_lose 10 = .ok (.istore_n 2, 1) := by decide +kernel
theorem dT_lose_11 : decode bT_lose 11 = .ok (.iconst 0, 1) := by decide +kernel
theorem dT_lose_12 : decode bT_lose 12 = .ok (.istore_n 3, 1) := by decide +kernel
theorem dT_lose_13 : decode bT_lose 13 = .ok (.iload_n 3, 1) := by decide +kernel
theorem dT_lose_14 : decode bT_lose 14 = .ok (.bipush 16, 2) := by decide +kernel
theorem dT_lose_16 : decode bT_lose 16 = .ok (.if_icmp .ge 51, 3) := by decide +kernel
theorem dT_lose_19 : decode bT_lose 19 = .ok (.aload_n 0, 1) := by decide +kernel
theorem dT_lose_20 : decode bT_lose 20 = .ok (.iload_n 3, 1) := by decide +kernel
theorem dT_lose_21 : decode bT_lose 21 = .ok (.iload_n 1, 1) := by decide +kernel
theorem dT_lose_22 : decode bT_lose 22 = .ok (.invokevirtual 134, 3) := by decide +kernel
theorem dT_lose_25 : decode bT_lose 25 = .ok (.ifCond .ne 6, 3) := by decide +kernel
theorem dT_lose_28 : decode bT_lose 28 = .ok (.goto 33, 3) := by decide +kernel
theorem dT_lose_31 : decode bT_lose 31 = .ok (.aload_n 0, 1) := by decide +kernel
theorem dT_lose_32 : decode bT_lose 32 = .ok (.getfield 9, 3) := by decide +kernel
theorem dT_lose_35 : decode bT_lose 35 = .ok (.iload_n 3, 1) := by decide +kernel
theorem dT_lose_36 : decode bT_lose 36 = .ok (.iaload, 1) := by decide +kernel
theorem dT_lose_37 : decode bT_lose 37 = .ok (.iconst 3, 1) := by decide +kernel
theorem dT_lose_38 : decode bT_lose 38 = .ok (.if_icmp .ne 16, 3) := by decide +kernel
theorem dT_lose_41 : decode bT_lose 41 = .ok (.aload_n 0, 1) := by decide +kernel
theorem dT_lose_42 : decode bT_lose 42 = .ok (.getfield 9, 3) := by decide +kernel
theorem dT_lose_45 : decode bT_lose 45 = .ok (.iload_n 3, 1) := by decide +kernel
theorem dT_lose_46 : decode bT_lose 46 = .ok (.iconst 4, 1) := by decide +kernel
theorem dT_lose_47 : decode bT_lose 47 = .ok (.iastore, 1) := by decide +kernel
theorem dT_lose_48 : decode bT_lose 48 = .ok (.iinc 2 1, 3) := by decide +kernel
theorem dT_lose_51 : decode bT_lose 51 = .ok (.goto 10, 3) := by decide +kernel
theorem dT_lose_54 : decode bT_lose 54 = .ok (.aload_n 0, 1) := by decide +kernel
theorem dT_lose_55 : decode bT_lose 55 = .ok (.getfield 9, 3) := by decide +kernel
theorem dT_lose_58 : decode bT_lose 58 = .ok (.iload_n 3, 1) := by decide +kernel
theorem dT_lose_59 : decode bT_lose 59 = .ok (.iconst 1, 1) := by decide +kernel
theorem dT_lose_60 : decode bT_lose 60 = .ok (.iastore, 1) := by decide +kernel
theorem dT_lose_61 : decode bT_lose 61 = .ok (.iinc 3 1, 3) := by decide +kernel
theorem dT_lose_64 : decode bT_lose 64 = .ok (.goto (-51), 3) := by decide +kernel
theorem dT_lose_67 : decode bT_lose 67 = .ok (.aload_n 0, 1) := by decide +kernel
theorem dT_lose_68 : decode bT_lose 68 = .ok (.getfield 61, 3) := by decide +kernel
theorem dT_lose_71 : decode bT_lose 71 = .ok (.iload_n 1, 1) := by decide +kernel
theorem dT_lose_72 : decode bT_lose 72 = .ok (.invokevirtual 137, 3) := by decide +kernel
theorem dT_lose_75 : decode bT_lose 75 = .ok (.iload_n 2, 1) := by decide +kernel
theorem dT_lose_76 : decode bT_lose 76 = .ok (.ireturn, 1) := by decide +kernel
theorem dT_file_0 : decode bT_file 0 = .ok (.iload_n 1, 1) := by decide +kernel
theorem dT_file_1 : decode bT_file 1 = .ok (.invokestatic 65, 3) := by decide +kernel
theorem dT_file_4 : decode bT_file 4 = .ok (.ifCond .ne 5, 3) := by decide +kernel
theorem dT_file_7 : decode bT_file 7 = .ok (.iconst (-1), 1) := by decide +kernel
theorem dT_file_8 : decode bT_file 8 = .ok (.ireturn, 1) := by decide +kernel
theorem dT_file_9 : decode bT_file 9 = .ok (.aload_n 0, 1) := by decide +kernel
theorem dT_file_10 : decode bT_file 10 = .ok (.getfield 9, 3) := by decide +kernel
theorem dT_file_13 : decode bT_file 13 = .ok (.iload_n 1, 1) := by decide +kernel
theorem dT_file_14 : decode bT_file 14 = .ok (.iaload, 1) := by decide +kernel
theorem dT_file_15 : decode bT_file 15 = .ok (.ifCond .eq 7, 3) := by decide +kernel
theorem dT_file_18 : decode bT_file 18 = .ok (.iconst 1, 1) := by decide +kernel
theorem dT_file_19 : decode bT_file 19 = .ok (.goto 4, 3) := by decide +kernel
theorem dT_file_22 : decode bT_file 22 = .ok (.iconst 0, 1) := by decide +kernel
theorem dT_file_23 : decode bT_file 23 = .ok (.istore_n 3, 1) := by decide +kernel
theorem dT_file_24 : decode bT_file 24 = .ok (.iload_n 2, 1) := by decide +kernel
theorem dT_file_25 : decode bT_file 25 = .ok (.tableswitch 128 0 5 #[39, 46, 61, 80, 99, 114], 39) := by decide +kernel
theorem dT_file_64 : decode bT_file 64 = .ok (.aload_n 0, 1) := by decide +kernel
theorem dT_file_65 : decode bT_file 65 = .ok (.getfield 9, 3) := by decide +kernel
theorem dT_file_68 : decode bT_file 68 = .ok (.iload_n 1, 1) := by decide +kernel
theorem dT_file_69 : decode bT_file 69 = .ok (.iaload, 1) := by decide +kernel
theorem dT_file_70 : decode bT_file 70 = .ok (.ireturn, 1) := by decide +kernel
theorem dT_file_71 : decode bT_file 71 = .ok (.iload_n 3, 1) := by decide +kernel
theorem dT_file_72 : decode bT_file 72 = .ok (.ifCond .eq 12, 3) := by decide +kernel
theorem dT_file_75 : decode bT_file 75 = .ok (.aload_n 0, 1) := by decide +kernel
theorem dT_file_76 : decode bT_file 76 = .ok (.getfield 13, 3) := by decide +kernel
theorem dT_file_79 : decode bT_file 79 = .ok (.iload_n 1, 1) := by decide +kernel
theorem dT_file_80 : decode bT_file 80 = .ok (.iaload, 1) := by decide +kernel
theorem dT_file_81 : decode bT_file 81 = .ok (.goto 4, 3) := by decide +kernel
theorem dT_file_84 : decode bT_file 84 = .ok (.iconst 0, 1) := by decide +kernel
theorem dT_file_85 : decode bT_file 85 = .ok (.ireturn, 1) := by decide +kernel
theorem dT_file_86 : decode bT_file 86 = .ok (.aload_n 0, 1) := by decide +kernel
theorem dT_file_87 : decode bT_file 87 = .ok (.iload_n 1, 1) := by decide +kernel
theorem dT_file_88 : decode bT_file 88 = .ok (.invokevirtual 140, 3) := by decide +kernel
theorem dT_file_91 : decode bT_file 91 = .ok (.ifCond .eq 12, 3) := by decide +kernel
theorem dT_file_94 : decode bT_file 94 = .ok (.aload_n 0, 1) := by decide +kernel
theorem dT_file_95 : decode bT_file 95 = .ok (.getfield 21, 3) := by decide +kernel
theorem dT_file_98 : decode bT_file 98 = .ok (.iload_n 1, 1) := by decide +kernel
theorem dT_file_99 : decode bT_file 99 = .ok (.iaload, 1) := by decide +kernel
theorem dT_file_100 : decode bT_file 100 = .ok (.goto 4, 3) := by decide +kernel
theorem dT_file_103 : decode bT_file 103 = .ok (.iconst (-1), 1) := by decide +kernel
theorem dT_file_104 : decode bT_file 104 = .ok (.ireturn, 1) := by decide +kernel
theorem dT_file_105 : decode bT_file 105 = .ok (.aload_n 0, 1) := by decide +kernel
theorem dT_file_106 : decode bT_file 106 = .ok (.iload_n 1, 1) := by decide +kernel
theorem dT_file_107 : decode bT_file 107 = .ok (.invokevirtual 140, 3) := by decide +kernel
theorem dT_file_110 : decode bT_file 110 = .ok (.ifCond .eq 12, 3) := by decide +kernel
theorem dT_file_113 : decode bT_file 113 = .ok (.aload_n 0, 1) := by decide +kernel
theorem dT_file_114 : decode bT_file 114 = .ok (.getfield 24, 3) := by decide +kernel
theorem dT_file_117 : decode bT_file 117 = .ok (.iload_n 1, 1) := by decide +kernel
theorem dT_file_118 : decode bT_file 118 = .ok (.iaload, 1) := by decide +kernel
theorem dT_file_119 : decode bT_file 119 = .ok (.goto 4, 3) := by decide +kernel
theorem dT_file_122 : decode bT_file 122 = .ok (.iconst (-1), 1) := by decide +kernel
theorem dT_file_123 : decode bT_file 123 = .ok (.ireturn, 1) := by decide +kernel
theorem dT_file_124 : decode bT_file 124 = .ok (.aload_n 0, 1) := by decide +kernel
theorem dT_file_125 : decode bT_file 125 = .ok (.getfield 27, 3) := by decide +kernel
theorem dT_file_128 : decode bT_file 128 = .ok (.iload_n 1, 1) := by decide +kernel
theorem dT_file_129 : decode bT_file 129 = .ok (.baload, 1) := by decide +kernel
theorem dT_file_130 : decode bT_file 130 = .ok (.ifCond .eq 7, 3) := by decide +kernel
theorem dT_file_133 : decode bT_file 133 = .ok (.iconst 1, 1) := by decide +kernel
theorem dT_file_134 : decode bT_file 134 = .ok (.goto 4, 3) := by decide +kernel
theorem dT_file_137 : decode bT_file 137 = .ok (.iconst 0, 1) := by decide +kernel
theorem dT_file_138 : decode bT_file 138 = .ok (.ireturn, 1) := by decide +kernel
theorem dT_file_139 : decode bT_file 139 = .ok (.iload_n 3, 1) := by decide +kernel
theorem dT_file_140 : decode bT_file 140 = .ok (.ifCond .eq 11, 3) := by decide +kernel
theorem dT_file_143 : decode bT_file 143 = .ok (.aload_n 0, 1) := by decide +kernel
theorem dT_file_144 : decode bT_file 144 = .ok (.iload_n 1, 1) := by decide +kernel
theorem dT_file_145 : decode bT_file 145 = .ok (.invokevirtual 143, 3) := by decide +kernel
theorem dT_file_148 : decode bT_file 148 = .ok (.goto 4, 3) := by decide +kernel
theorem dT_file_151 : decode bT_file 151 = .ok (.iconst (-1), 1) := by decide +kernel
theorem dT_file_152 : decode bT_file 152 = .ok (.ireturn, 1) := by decide +kernel
theorem dT_file_153 : decode bT_file 153 = .ok (.iconst (-1), 1) := by decide +kernel
theorem dT_file_154 : decode bT_file 154 = .ok (.ireturn, 1) := by decide +kernel
theorem dT_cartridge_0 : decode bT_cartridge 0 = .ok (.iload_n 1, 1) := by decide +kernel
theorem dT_cartridge_1 : decode bT_cartridge 1 = .ok (.invokestatic 119, 3) := by decide +kernel
theorem dT_cartridge_4 : decode bT_cartridge 4 = .ok (.ifCond .ne 5, 3) := by decide +kernel
theorem dT_cartridge_7 : decode bT_cartridge 7 = .ok (.iconst (-1), 1) := by decide +kernel
theorem dT_cartridge_8 : decode bT_cartridge 8 = .ok (.ireturn, 1) := by decide +kernel
theorem dT_cartridge_9 : decode bT_cartridge 9 = .ok (.iload_n 2, 1) := by decide +kernel
theorem dT_cartridge_10 : decode bT_cartridge 10 = .ok (.tableswitch 59 0 2 #[26, 36, 42], 26) := by decide +kernel
theorem dT_cartridge_36 : decode bT_cartridge 36 = .ok (.aload_n 0, 1) := by decide +kernel
theorem dT_cartridge_37 : decode bT_cartridge 37 = .ok (.getfield 61, 3) := by decide +kernel
theorem dT_cartridge_40 : decode bT_cartridge 40 = .ok (.getfield 131, 3) := by decide +kernel
theorem dT_cartridge_43 : decode bT_cartridge 43 = .ok (.iload_n 1, 1) := by decide +kernel
theorem dT_cartridge_44 : decode bT_cartridge 44 = .ok (.iaload, 1) := by decide +kernel
theorem dT_cartridge_45 : decode bT_cartridge 45 = .ok (.ireturn, 1) := by decide +kernel
theorem dT_cartridge_46 : decode bT_cartridge 46 = .ok (.aload_n 0, 1) := by decide +kernel
theorem dT_cartridge_47 : decode bT_cartridge 47 = .ok (.iload_n 1, 1) := by decide +kernel
theorem dT_cartridge_48 : decode bT_cartridge 48 = .ok (.invokevirtual 146, 3) := by decide +kernel
theorem dT_cartridge_51 : decode bT_cartridge 51 = .ok (.ireturn, 1) := by decide +kernel
theorem dT_cartridge_52 : decode bT_cartridge 52 = .ok (.aload_n 0, 1) := by decide +kernel
theorem dT_cartridge_53 : decode bT_cartridge 53 = .ok (.getfield 61, 3) := by decide +kernel
theorem dT_cartridge_56 : decode bT_cartridge 56 = .ok (.getfield 149, 3) := by decide +kernel
theorem dT_cartridge_59 : decode bT_cartridge 59 = .ok (.iload_n 1, 1) := by decide +kernel
theorem dT_cartridge_60 : decode bT_cartridge 60 = .ok (.if_icmp .ne 7, 3) := by decide +kernel
theorem dT_cartridge_63 : decode bT_cartridge 63 = .ok (.iconst 1, 1) := by decide +kernel
theorem dT_cartridge_64 : decode bT_cartridge 64 = .ok (.goto 4, 3) := by decide +kernel
theorem dT_cartridge_67 : decode bT_cartridge 67 = .ok (.iconst 0, 1) := by decide +kernel
theorem dT_cartridge_68 : decode bT_cartridge 68 = .ok (.ireturn, 1) := by decide +kernel
theorem dT_cartridge_69 : decode bT_cartridge 69 = .ok (.iconst (-1), 1) := by decide +kernel
theorem dT_cartridge_70 : decode bT_cartridge 70 = .ok (.ireturn, 1) := by decide +kernel
theorem dT_count_0 : decode bT_count 0 = .ok (.iload_n 1, 1) := by decide +kernel
theorem dT_count_1 : decode bT_count 1 = .ok (.tableswitch 57 0 3 #[31, 36, 44, 52], 31) := by decide +kernel
theorem dT_count_32 : decode bT_count 32 = .ok (.aload_n 0, 1) := by decide +kernel
theorem dT_count_33 : decode bT_count 33 = .ok (.invokevirtual 105, 3) := by decide +kernel
theorem dT_count_36 : decode bT_count 36 = .ok (.ireturn, 1) := by decide +kernel
theorem dT_count_37 : decode bT_count 37 = .ok (.aload_n 0, 1) := by decide +kernel
theorem dT_count_38 : decode bT_count 38 = .ok (.getfield 61, 3) := by decide +kernel
theorem dT_count_41 : decode bT_count 41 = .ok (.getfield 152, 3) := by decide +kernel
theorem dT_count_44 : decode bT_count 44 = .ok (.ireturn, 1) := by decide +kernel
theorem dT_count_45 : decode bT_count 45 = .ok (.aload_n 0, 1) := by decide +kernel
theorem dT_count_46 : decode bT_count 46 = .ok (.getfield 61, 3) := by decide +kernel
theorem dT_count_49 : decode bT_count 49 = .ok (.getfield 155, 3) := by decide +kernel
theorem dT_count_52 : decode bT_count 52 = .ok (.ireturn, 1) := by decide +kernel
theorem dT_count_53 : decode bT_count 53 = .ok (.aload_n 0, 1) := by decide +kernel
theorem dT_count_54 : decode bT_count 54 = .ok (.invokevirtual 113, 3) := by decide +kernel
theorem dT_count_57 : decode bT_count 57 = .ok (.ireturn, 1) := by decide +kernel
theorem dT_count_58 : decode bT_count 58 = .ok (.iconst (-1), 1) := by decide +kernel
theorem dT_count_59 : decode bT_count 59 = .ok (.ireturn, 1) := by decide +kernel
theorem dT_isFileNumber_0 : decode bT_isFileNumber 0 = .ok (.iload_n 0, 1) := by decide +kernel
theorem dT_isFileNumber_1 : decode bT_isFileNumber 1 = .ok (.ifCond .lt 13, 3) := by decide +kernel
theorem dT_isFileNumber_4 : decode bT_isFileNumber 4 = .ok (.iload_n 0, 1) := by decide +kernel
theorem dT_isFileNumber_5 : decode bT_isFileNumber 5 = .ok (.bipush 16, 2) := by decide +kernel
theorem dT_isFileNumber_7 : decode bT_isFileNumber 7 = .ok (.if_icmp .ge 7, 3) := by decide +kernel
theorem dT_isFileNumber_10 : decode bT_isFileNumber 10 = .ok (.iconst 1, 1) := by decide +kernel
theorem dT_isFileNumber_11 : decode bT_isFileNumber 11 = .ok (.goto 4, 3) := by decide +kernel
theorem dT_isFileNumber_14 : decode bT_isFileNumber 14 = .ok (.iconst 0, 1) := by decide +kernel
theorem dT_isFileNumber_15 : decode bT_isFileNumber 15 = .ok (.ireturn, 1) := by decide +kernel
theorem dT_isCartridgeNumber_0 : decode bT_isCartridgeNumber 0 = .ok (.iload_n 0, 1) := by decide +kernel
theorem dT_isCartridgeNumber_1 : decode bT_isCartridgeNumber 1 = .ok (.ifCond .lt 12, 3) := by decide +kernel
theorem dT_isCartridgeNumber_4 : decode bT_isCartridgeNumber 4 = .ok (.iload_n 0, 1) := by decide +kernel
theorem dT_isCartridgeNumber_5 : decode bT_isCartridgeNumber 5 = .ok (.iconst 4, 1) := by decide +kernel
theorem dT_isCartridgeNumber_6 : decode bT_isCartridgeNumber 6 = .ok (.if_icmp .ge 7, 3) := by decide +kernel
theorem dT_isCartridgeNumber_9 : decode bT_isCartridgeNumber 9 = .ok (.iconst 1, 1) := by decide +kernel
theorem dT_isCartridgeNumber_10 : decode bT_isCartridgeNumber 10 = .ok (.goto 4, 3) := by decide +kernel
theorem dT_isCartridgeNumber_13 : decode bT_isCartridgeNumber 13 = .ok (.iconst 0, 1) := by decide +kernel
theorem dT_isCartridgeNumber_14 : decode bT_isCartridgeNumber 14 = .ok (.ireturn, 1) := by decide +kernel
theorem dT_isUnits_0 : decode bT_isUnits 0 = .ok (.iload_n 0, 1) := by decide +kernel
theorem dT_isUnits_1 : decode bT_isUnits 1 = .ok (.ifCond .lt 13, 3) := by decide +kernel
theorem dT_isUnits_4 : decode bT_isUnits 4 = .ok (.iload_n 0, 1) := by decide +kernel
theorem dT_isUnits_5 : decode bT_isUnits 5 = .ok (.bipush 24, 2) := by decide +kernel
theorem dT_isUnits_7 : decode bT_isUnits 7 = .ok (.if_icmp .gt 7, 3) := by decide +kernel
theorem dT_isUnits_10 : decode bT_isUnits 10 = .ok (.iconst 1, 1) := by decide +kernel
theorem dT_isUnits_11 : decode bT_isUnits 11 = .ok (.goto 4, 3) := by decide +kernel
theorem dT_isUnits_14 : decode bT_isUnits 14 = .ok (.iconst 0, 1) := by decide +kernel
theorem dT_isUnits_15 : decode bT_isUnits 15 = .ok (.ireturn, 1) := by decide +kernel
theorem dT_isPresent_0 : decode bT_isPresent 0 = .ok (.iload_n 1, 1) := by decide +kernel
theorem dT_isPresent_1 : decode bT_isPresent 1 = .ok (.invokestatic 65, 3) := by decide +kernel
theorem dT_isPresent_4 : decode bT_isPresent 4 = .ok (.ifCond .eq 16, 3) := by decide +kernel
theorem dT_isPresent_7 : decode bT_isPresent 7 = .ok (.aload_n 0, 1) := by decide +kernel
theorem dT_isPresent_8 : decode bT_isPresent 8 = .ok (.getfield 9, 3) := by decide +kernel
theorem dT_isPresent_11 : decode bT_isPresent 11 = .ok (.iload_n 1, 1) := by decide +kernel
theorem dT_isPresent_12 : decode bT_isPresent 12 = .ok (.iaload, 1) := by decide +kernel
theorem dT_isPresent_13 : decode bT_isPresent 13 = .ok (.ifCond .eq 7, 3) := by decide +kernel
theorem dT_isPresent_16 : decode bT_isPresent 16 = .ok (.iconst 1, 1) := by decide +kernel
theorem dT_isPresent_17 : decode bT_isPresent 17 = .ok (.goto 4, 3) := by decide +kernel
theorem dT_isPresent_20 : decode bT_isPresent 20 = .ok (.iconst 0, 1) := by decide +kernel
theorem dT_isPresent_21 : decode bT_isPresent 21 = .ok (.ireturn, 1) := by decide +kernel
theorem dT_isCell_0 : decode bT_isCell 0 = .ok (.aload_n 0, 1) := by decide +kernel
theorem dT_isCell_1 : decode bT_isCell 1 = .ok (.iload_n 1, 1) := by decide +kernel
theorem dT_isCell_2 : decode bT_isCell 2 = .ok (.invokevirtual 88, 3) := by decide +kernel
theorem dT_isCell_5 : decode bT_isCell 5 = .ok (.ifCond .eq 21, 3) := by decide +kernel
theorem dT_isCell_8 : decode bT_isCell 8 = .ok (.iload_n 2, 1) := by decide +kernel
theorem dT_isCell_9 : decode bT_isCell 9 = .ok (.ifCond .lt 17, 3) := by decide +kernel
theorem dT_isCell_12 : decode bT_isCell 12 = .ok (.iload_n 2, 1) := by decide +kernel
theorem dT_isCell_13 : decode bT_isCell 13 = .ok (.aload_n 0, 1) := by decide +kernel
theorem dT_isCell_14 : decode bT_isCell 14 = .ok (.getfield 13, 3) := by decide +kernel
theorem dT_isCell_17 : decode bT_isCell 17 = .ok (.iload_n 1, 1) := by decide +kernel
theorem dT_isCell_18 : decode bT_isCell 18 = .ok (.iaload, 1) := by decide +kernel
theorem dT_isCell_19 : decode bT_isCell 19 = .ok (.if_icmp .ge 7, 3) := by decide +kernel
theorem dT_isCell_22 : decode bT_isCell 22 = .ok (.iconst 1, 1) := by decide +kernel
theorem dT_isCell_23 : decode bT_isCell 23 = .ok (.goto 4, 3) := by decide +kernel
theorem dT_isCell_26 : decode bT_isCell 26 = .ok (.iconst 0, 1) := by decide +kernel
theorem dT_isCell_27 : decode bT_isCell 27 = .ok (.ireturn, 1) := by decide +kernel
theorem dT_isOnDisk_0 : decode bT_isOnDisk 0 = .ok (.aload_n 0, 1) := by decide +kernel
theorem dT_isOnDisk_1 : decode bT_isOnDisk 1 = .ok (.getfield 9, 3) := by decide +kernel
theorem dT_isOnDisk_4 : decode bT_isOnDisk 4 = .ok (.iload_n 1, 1) := by decide +kernel
theorem dT_isOnDisk_5 : decode bT_isOnDisk 5 = .ok (.iaload, 1) := by decide +kernel
theorem dT_isOnDisk_6 : decode bT_isOnDisk 6 = .ok (.iconst 1, 1) := by decide +kernel
theorem dT_isOnDisk_7 : decode bT_isOnDisk 7 = .ok (.if_icmp .eq 13, 3) := by decide +kernel
theorem dT_isOnDisk_10 : decode bT_isOnDisk 10 = .ok (.aload_n 0, 1) := by decide +kernel
theorem dT_isOnDisk_11 : decode bT_isOnDisk 11 = .ok (.getfield 9, 3) := by decide +kernel
theorem dT_isOnDisk_14 : decode bT_isOnDisk 14 = .ok (.iload_n 1, 1) := by decide +kernel
theorem dT_isOnDisk_15 : decode bT_isOnDisk 15 = .ok (.iaload, 1) := by decide +kernel
theorem dT_isOnDisk_16 : decode bT_isOnDisk 16 = .ok (.iconst 2, 1) := by decide +kernel
theorem dT_isOnDisk_17 : decode bT_isOnDisk 17 = .ok (.if_icmp .ne 7, 3) := by decide +kernel
theorem dT_isOnDisk_20 : decode bT_isOnDisk 20 = .ok (.iconst 1, 1) := by decide +kernel
theorem dT_isOnDisk_21 : decode bT_isOnDisk 21 = .ok (.goto 4, 3) := by decide +kernel
theorem dT_isOnDisk_24 : decode bT_isOnDisk 24 = .ok (.iconst 0, 1) := by decide +kernel
theorem dT_isOnDisk_25 : decode bT_isOnDisk 25 = .ok (.ireturn, 1) := by decide +kernel
theorem dT_hasCopy_0 : decode bT_hasCopy 0 = .ok (.aload_n 0, 1) := by decide +kernel
theorem dT_hasCopy_1 : decode bT_hasCopy 1 = .ok (.getfield 9, 3) := by decide +kernel
theorem dT_hasCopy_4 : decode bT_hasCopy 4 = .ok (.iload_n 1, 1) := by decide +kernel
theorem dT_hasCopy_5 : decode bT_hasCopy 5 = .ok (.iaload, 1) := by decide +kernel
theorem dT_hasCopy_6 : decode bT_hasCopy 6 = .ok (.iconst 2, 1) := by decide +kernel
theorem dT_hasCopy_7 : decode bT_hasCopy 7 = .ok (.if_icmp .eq 13, 3) := by decide +kernel
theorem dT_hasCopy_10 : decode bT_hasCopy 10 = .ok (.aload_n 0, 1) := by decide +kernel
theorem dT_hasCopy_11 : decode bT_hasCopy 11 = .ok (.getfield 9, 3) := by decide +kernel
theorem dT_hasCopy_14 : decode bT_hasCopy 14 = .ok (.iload_n 1, 1) := by decide +kernel
theorem dT_hasCopy_15 : decode bT_hasCopy 15 = .ok (.iaload, 1) := by decide +kernel
theorem dT_hasCopy_16 : decode bT_hasCopy 16 = .ok (.iconst 3, 1) := by decide +kernel
theorem dT_hasCopy_17 : decode bT_hasCopy 17 = .ok (.if_icmp .ne 7, 3) := by decide +kernel
theorem dT_hasCopy_20 : decode bT_hasCopy 20 = .ok (.iconst 1, 1) := by decide +kernel
theorem dT_hasCopy_21 : decode bT_hasCopy 21 = .ok (.goto 4, 3) := by decide +kernel
theorem dT_hasCopy_24 : decode bT_hasCopy 24 = .ok (.iconst 0, 1) := by decide +kernel
theorem dT_hasCopy_25 : decode bT_hasCopy 25 = .ok (.ireturn, 1) := by decide +kernel
theorem dT_hasCopyOn_0 : decode bT_hasCopyOn 0 = .ok (.aload_n 0, 1) := by decide +kernel
theorem dT_hasCopyOn_1 : decode bT_hasCopyOn 1 = .ok (.iload_n 1, 1) := by decide +kernel
theorem dT_hasCopyOn_2 : decode bT_hasCopyOn 2 = .ok (.invokevirtual 140, 3) := by decide +kernel
theorem dT_hasCopyOn_5 : decode bT_hasCopyOn 5 = .ok (.ifCond .eq 17, 3) := by decide +kernel
theorem dT_hasCopyOn_8 : decode bT_hasCopyOn 8 = .ok (.aload_n 0, 1) := by decide +kernel
theorem dT_hasCopyOn_9 : decode bT_hasCopyOn 9 = .ok (.getfield 21, 3) := by decide +kernel
theorem dT_hasCopyOn_12 : decode bT_hasCopyOn 12 = .ok (.iload_n 1, 1) := by decide +kernel
theorem dT_hasCopyOn_13 : decode bT_hasCopyOn 13 = .ok (.iaload, 1) := by decide +kernel
theorem dT_hasCopyOn_14 : decode bT_hasCopyOn 14 = .ok (.iload_n 2, 1) := by decide +kernel
theorem dT_hasCopyOn_15 : decode bT_hasCopyOn 15 = .ok (.if_icmp .ne 7, 3) := by decide +kernel
theorem dT_hasCopyOn_18 : decode bT_hasCopyOn 18 = .ok (.iconst 1, 1) := by decide +kernel
theorem dT_hasCopyOn_19 : decode bT_hasCopyOn 19 = .ok (.goto 4, 3) := by decide +kernel
theorem dT_hasCopyOn_22 : decode bT_hasCopyOn 22 = .ok (.iconst 0, 1) := by decide +kernel
theorem dT_hasCopyOn_23 : decode bT_hasCopyOn 23 = .ok (.ireturn, 1) := by decide +kernel
theorem dT_use_0 : decode bT_use 0 = .ok (.aload_n 0, 1) := by decide +kernel
theorem dT_use_1 : decode bT_use 1 = .ok (.dup, 1) := by decide +kernel
theorem dT_use_2 : decode bT_use 2 = .ok (.getfield 34, 3) := by decide +kernel
theorem dT_use_5 : decode bT_use 5 = .ok (.iconst 1, 1) := by decide +kernel
theorem dT_use_6 : decode bT_use 6 = .ok (.iadd, 1) := by decide +kernel
theorem dT_use_7 : decode bT_use 7 = .ok (.putfield 34, 3) := by decide +kernel
theorem dT_use_10 : decode bT_use 10 = .ok (.aload_n 0, 1) := by decide +kernel
theorem dT_use_11 : decode bT_use 11 = .ok (.getfield 31, 3) := by decide +kernel
theorem dT_use_14 : decode bT_use 14 = .ok (.iload_n 1, 1) := by decide +kernel
theorem dT_use_15 : decode bT_use 15 = .ok (.aload_n 0, 1) := by decide +kernel
theorem dT_use_16 : decode bT_use 16 = .ok (.getfield 34, 3) := by decide +kernel
theorem dT_use_19 : decode bT_use 19 = .ok (.iastore, 1) := by decide +kernel
theorem dT_use_20 : decode bT_use 20 = .ok (.return_, 1) := by decide +kernel
theorem dT_usedSince_0 : decode bT_usedSince 0 = .ok (.iconst 0, 1) := by decide +kernel
theorem dT_usedSince_1 : decode bT_usedSince 1 = .ok (.istore_n 2, 1) := by decide +kernel
theorem dT_usedSince_2 : decode bT_usedSince 2 = .ok (.iconst 0, 1) := by decide +kernel
theorem dT_usedSince_3 : decode bT_usedSince 3 = .ok (.istore_n 3, 1) := by decide +kernel
theorem dT_usedSince_4 : decode bT_usedSince 4 = .ok (.iload_n 3, 1) := by decide +kernel
theorem dT_usedSince_5 : decode bT_usedSince 5 = .ok (.bipush 16, 2) := by decide +kernel
theorem dT_usedSince_7 : decode bT_usedSince 7 = .ok (.if_icmp .ge 36, 3) := by decide +kernel
theorem dT_usedSince_10 : decode bT_usedSince 10 = .ok (.aload_n 0, 1) := by decide +kernel
theorem dT_usedSince_11 : decode bT_usedSince 11 = .ok (.getfield 9, 3) := by decide +kernel
theorem dT_usedSince_14 : decode bT_usedSince 14 = .ok (.iload_n 3, 1) := by decide +kernel
theorem dT_usedSince_15 : decode bT_usedSince 15 = .ok (.iaload, 1) := by decide +kernel
theorem dT_usedSince_16 : decode bT_usedSince 16 = .ok (.ifCond .eq 21, 3) := by decide +kernel
theorem dT_usedSince_19 : decode bT_usedSince 19 = .ok (.aload_n 0, 1) := by decide +kernel
theorem dT_usedSince_20 : decode bT_usedSince 20 = .ok (.getfield 31, 3) := by decide +kernel
theorem dT_usedSince_23 : decode bT_usedSince 23 = .ok (.iload_n 3, 1) := by decide +kernel
theorem dT_usedSince_24 : decode bT_usedSince 24 = .ok (.iaload, 1) := by decide +kernel
theorem dT_usedSince_25 : decode bT_usedSince 25 = .ok (.aload_n 0, 1) := by decide +kernel
theorem dT_usedSince_26 : decode bT_usedSince 26 = .ok (.getfield 31, 3) := by decide +kernel
theorem dT_usedSince_29 : decode bT_usedSince 29 = .ok (.iload_n 1, 1) := by decide +kernel
theorem dT_usedSince_30 : decode bT_usedSince 30 = .ok (.iaload, 1) := by decide +kernel
theorem dT_usedSince_31 : decode bT_usedSince 31 = .ok (.if_icmp .le 6, 3) := by decide +kernel
theorem dT_usedSince_34 : decode bT_usedSince 34 = .ok (.iinc 2 1, 3) := by decide +kernel
theorem dT_usedSince_37 : decode bT_usedSince 37 = .ok (.iinc 3 1, 3) := by decide +kernel
theorem dT_usedSince_40 : decode bT_usedSince 40 = .ok (.goto (-36), 3) := by decide +kernel
theorem dT_usedSince_43 : decode bT_usedSince 43 = .ok (.iload_n 2, 1) := by decide +kernel
theorem dT_usedSince_44 : decode bT_usedSince 44 = .ok (.ireturn, 1) := by decide +kernel
theorem dT_longestUnused_0 : decode bT_longestUnused 0 = .ok (.iconst (-1), 1) := by decide +kernel
theorem dT_longestUnused_1 : decode bT_longestUnused 1 = .ok (.istore_n 2, 1) := by decide +kernel
theorem dT_longestUnused_2 : decode bT_longestUnused 2 = .ok (.iconst 0, 1) := by decide +kernel
theorem dT_longestUnused_3 : decode bT_longestUnused 3 = .ok (.istore_n 3, 1) := by decide +kernel
theorem dT_longestUnused_4 : decode bT_longestUnused 4 = .ok (.iload_n 3, 1) := by decide +kernel
theorem dT_longestUnused_5 : decode bT_longestUnused 5 = .ok (.bipush 16, 2) := by decide +kernel
theorem dT_longestUnused_7 : decode bT_longestUnused 7 = .ok (.if_icmp .ge 41, 3) := by decide +kernel
theorem dT_longestUnused_10 : decode bT_longestUnused 10 = .ok (.aload_n 0, 1) := by decide +kernel
theorem dT_longestUnused_11 : decode bT_longestUnused 11 = .ok (.getfield 9, 3) := by decide +kernel
theorem dT_longestUnused_14 : decode bT_longestUnused 14 = .ok (.iload_n 3, 1) := by decide +kernel
theorem dT_longestUnused_15 : decode bT_longestUnused 15 = .ok (.iaload, 1) := by decide +kernel
theorem dT_longestUnused_16 : decode bT_longestUnused 16 = .ok (.iload_n 1, 1) := by decide +kernel
theorem dT_longestUnused_17 : decode bT_longestUnused 17 = .ok (.if_icmp .ne 25, 3) := by decide +kernel
theorem dT_longestUnused_20 : decode bT_longestUnused 20 = .ok (.iload_n 2, 1) := by decide +kernel
theorem dT_longestUnused_21 : decode bT_longestUnused 21 = .ok (.iconst (-1), 1) := by decide +kernel
theorem dT_longestUnused_22 : decode bT_longestUnused 22 = .ok (.if_icmp .eq 18, 3) := by decide +kernel
theorem dT_longestUnused_25 : decode bT_longestUnused 25 = .ok (.aload_n 0, 1) := by decide +kernel
theorem dT_longestUnused_26 : decode bT_longestUnused 26 = .ok (.getfield 31, 3) := by decide +kernel
theorem dT_longestUnused_29 : decode bT_longestUnused 29 = .ok (.iload_n 3, 1) := by decide +kernel
theorem dT_longestUnused_30 : decode bT_longestUnused 30 = .ok (.iaload, 1) := by decide +kernel
theorem dT_longestUnused_31 : decode bT_longestUnused 31 = .ok (.aload_n 0, 1) := by decide +kernel
theorem dT_longestUnused_32 : decode bT_longestUnused 32 = .ok (.getfield 31, 3) := by decide +kernel
theorem dT_longestUnused_35 : decode bT_longestUnused 35 = .ok (.iload_n 2, 1) := by decide +kernel
theorem dT_longestUnused_36 : decode bT_longestUnused 36 = .ok (.iaload, 1) := by decide +kernel
theorem dT_longestUnused_37 : decode bT_longestUnused 37 = .ok (.if_icmp .ge 5, 3) := by decide +kernel
theorem dT_longestUnused_40 : decode bT_longestUnused 40 = .ok (.iload_n 3, 1) := by decide +kernel
theorem dT_longestUnused_41 : decode bT_longestUnused 41 = .ok (.istore_n 2, 1) := by decide +kernel
theorem dT_longestUnused_42 : decode bT_longestUnused 42 = .ok (.iinc 3 1, 3) := by decide +kernel
theorem dT_longestUnused_45 : decode bT_longestUnused 45 = .ok (.goto (-41), 3) := by decide +kernel
theorem dT_longestUnused_48 : decode bT_longestUnused 48 = .ok (.iload_n 2, 1) := by decide +kernel
theorem dT_longestUnused_49 : decode bT_longestUnused 49 = .ok (.ireturn, 1) := by decide +kernel
theorem dT_unitsTaken_0 : decode bT_unitsTaken 0 = .ok (.iconst 0, 1) := by decide +kernel
theorem dT_unitsTaken_1 : decode bT_unitsTaken 1 = .ok (.istore_n 1, 1) := by decide +kernel
theorem dT_unitsTaken_2 : decode bT_unitsTaken 2 = .ok (.iconst 0, 1) := by decide +kernel
theorem dT_unitsTaken_3 : decode bT_unitsTaken 3 = .ok (.istore_n 2, 1) := by decide +kernel
theorem dT_unitsTaken_4 : decode bT_unitsTaken 4 = .ok (.iload_n 2, 1) := by decide +kernel
theorem dT_unitsTaken_5 : decode bT_unitsTaken 5 = .ok (.bipush 16, 2) := by decide +kernel
theorem dT_unitsTaken_7 : decode bT_unitsTaken 7 = .ok (.if_icmp .ge 26, 3) := by decide +kernel
theorem dT_unitsTaken_10 : decode bT_unitsTaken 10 = .ok (.aload_n 0, 1) := by decide +kernel
theorem dT_unitsTaken_11 : decode bT_unitsTaken 11 = .ok (.iload_n 2, 1) := by decide +kernel
theorem dT_unitsTaken_12 : decode bT_unitsTaken 12 = .ok (.invokevirtual 158, 3) := by decide +kernel
theorem dT_unitsTaken_15 : decode bT_unitsTaken 15 = .ok (.ifCond .eq 12, 3) := by decide +kernel
theorem dT_unitsTaken_18 : decode bT_unitsTaken 18 = .ok (.iload_n 1, 1) := by decide +kernel
theorem dT_unitsTaken_19 : decode bT_unitsTaken 19 = .ok (.aload_n 0, 1) := by decide +kernel
theorem dT_unitsTaken_20 : decode bT_unitsTaken 20 = .ok (.getfield 13, 3) := by decide +kernel
theorem dT_unitsTaken_23 : decode bT_unitsTaken 23 = .ok (.iload_n 2, 1) := by decide +kernel
theorem dT_unitsTaken_24 : decode bT_unitsTaken 24 = .ok (.iaload, 1) := by decide +kernel
theorem dT_unitsTaken_25 : decode bT_unitsTaken 25 = .ok (.iadd, 1) := by decide +kernel
theorem dT_unitsTaken_26 : decode bT_unitsTaken 26 = .ok (.istore_n 1, 1) := by decide +kernel
theorem dT_unitsTaken_27 : decode bT_unitsTaken 27 = .ok (.iinc 2 1, 3) := by decide +kernel
theorem dT_unitsTaken_30 : decode bT_unitsTaken 30 = .ok (.goto (-26), 3) := by decide +kernel
theorem dT_unitsTaken_33 : decode bT_unitsTaken 33 = .ok (.iload_n 1, 1) := by decide +kernel
theorem dT_unitsTaken_34 : decode bT_unitsTaken 34 = .ok (.ireturn, 1) := by decide +kernel
theorem dT_liveUnits_0 : decode bT_liveUnits 0 = .ok (.iconst 0, 1) := by decide +kernel
theorem dT_liveUnits_1 : decode bT_liveUnits 1 = .ok (.istore_n 2, 1) := by decide +kernel
theorem dT_liveUnits_2 : decode bT_liveUnits 2 = .ok (.iconst 0, 1) := by decide +kernel
theorem dT_liveUnits_3 : decode bT_liveUnits 3 = .ok (.istore_n 3, 1) := by decide +kernel
theorem dT_liveUnits_4 : decode bT_liveUnits 4 = .ok (.iload_n 3, 1) := by decide +kernel
theorem dT_liveUnits_5 : decode bT_liveUnits 5 = .ok (.bipush 16, 2) := by decide +kernel
theorem dT_liveUnits_7 : decode bT_liveUnits 7 = .ok (.if_icmp .ge 27, 3) := by decide +kernel
theorem dT_liveUnits_10 : decode bT_liveUnits 10 = .ok (.aload_n 0, 1) := by decide +kernel
theorem dT_liveUnits_11 : decode bT_liveUnits 11 = .ok (.iload_n 3, 1) := by decide +kernel
theorem dT_liveUnits_12 : decode bT_liveUnits 12 = .ok (.iload_n 1, 1) := by decide +kernel
theorem dT_liveUnits_13 : decode bT_liveUnits 13 = .ok (.invokevirtual 134, 3) := by decide +kernel
theorem dT_liveUnits_16 : decode bT_liveUnits 16 = .ok (.ifCond .eq 12, 3) := by decide +kernel
theorem dT_liveUnits_19 : decode bT_liveUnits 19 = .ok (.iload_n 2, 1) := by decide +kernel
theorem dT_liveUnits_20 : decode bT_liveUnits 20 = .ok (.aload_n 0, 1) := by decide +kernel
theorem dT_liveUnits_21 : decode bT_liveUnits 21 = .ok (.getfield 13, 3) := by decide +kernel
theorem dT_liveUnits_24 : decode bT_liveUnits 24 = .ok (.iload_n 3, 1) := by decide +kernel
theorem dT_liveUnits_25 : decode bT_liveUnits 25 = .ok (.iaload, 1) := by decide +kernel
theorem dT_liveUnits_26 : decode bT_liveUnits 26 = .ok (.iadd, 1) := by decide +kernel
theorem dT_liveUnits_27 : decode bT_liveUnits 27 = .ok (.istore_n 2, 1) := by decide +kernel
theorem dT_liveUnits_28 : decode bT_liveUnits 28 = .ok (.iinc 3 1, 3) := by decide +kernel
theorem dT_liveUnits_31 : decode bT_liveUnits 31 = .ok (.goto (-27), 3) := by decide +kernel
theorem dT_liveUnits_34 : decode bT_liveUnits 34 = .ok (.iload_n 2, 1) := by decide +kernel
theorem dT_liveUnits_35 : decode bT_liveUnits 35 = .ok (.ireturn, 1) := by decide +kernel
theorem dT_filesWaiting_0 : decode bT_filesWaiting 0 = .ok (.iconst 0, 1) := by decide +kernel
theorem dT_filesWaiting_1 : decode bT_filesWaiting 1 = .ok (.istore_n 1, 1) := by decide +kernel
theorem dT_filesWaiting_2 : decode bT_filesWaiting 2 = .ok (.iconst 0, 1) := by decide +kernel
theorem dT_filesWaiting_3 : decode bT_filesWaiting 3 = .ok (.istore_n 2, 1) := by decide +kernel
theorem dT_filesWaiting_4 : decode bT_filesWaiting 4 = .ok (.iload_n 2, 1) := by decide +kernel
theorem dT_filesWaiting_5 : decode bT_filesWaiting 5 = .ok (.bipush 16, 2) := by decide +kernel
theorem dT_filesWaiting_7 : decode bT_filesWaiting 7 = .ok (.if_icmp .ge 21, 3) := by decide +kernel
theorem dT_filesWaiting_10 : decode bT_filesWaiting 10 = .ok (.aload_n 0, 1) := by decide +kernel
theorem dT_filesWaiting_11 : decode bT_filesWaiting 11 = .ok (.getfield 27, 3) := by decide +kernel
theorem dT_filesWaiting_14 : decode bT_filesWaiting 14 = .ok (.iload_n 2, 1) := by decide +kernel
theorem dT_filesWaiting_15 : decode bT_filesWaiting 15 = .ok (.baload, 1) := by decide +kernel
theorem dT_filesWaiting_16 : decode bT_filesWaiting 16 = .ok (.ifCond .eq 6, 3) := by decide +kernel
theorem dT_filesWaiting_19 : decode bT_filesWaiting 19 = .ok (.iinc 1 1, 3) := by decide +kernel
theorem dT_filesWaiting_22 : decode bT_filesWaiting 22 = .ok (.iinc 2 1, 3) := by decide +kernel
theorem dT_filesWaiting_25 : decode bT_filesWaiting 25 = .ok (.goto (-21), 3) := by decide +kernel
theorem dT_filesWaiting_28 : decode bT_filesWaiting 28 = .ok (.iload_n 1, 1) := by decide +kernel
theorem dT_filesWaiting_29 : decode bT_filesWaiting 29 = .ok (.ireturn, 1) := by decide +kernel
theorem dT_stubOldestDouble_0 : decode bT_stubOldestDouble 0 = .ok (.aload_n 0, 1) := by decide +kernel
theorem dT_stubOldestDouble_1 : decode bT_stubOldestDouble 1 = .ok (.iconst 2, 1) := by decide +kernel
theorem dT_stubOldestDouble_2 : decode bT_stubOldestDouble 2 = .ok (.invokevirtual 91, 3) := by decide +kernel
theorem dT_stubOldestDouble_5 : decode bT_stubOldestDouble 5 = .ok (.istore_n 1, 1) := by decide +kernel
theorem dT_stubOldestDouble_6 : decode bT_stubOldestDouble 6 = .ok (.iload_n 1, 1) := by decide +kernel
theorem dT_stubOldestDouble_7 : decode bT_stubOldestDouble 7 = .ok (.iconst (-1), 1) := by decide +kernel
theorem dT_stubOldestDouble_8 : decode bT_stubOldestDouble 8 = .ok (.if_icmp .ne 5, 3) := by decide +kernel
theorem dT_stubOldestDouble_11 : decode bT_stubOldestDouble 11 = .ok (.iconst 0, 1) := by decide +kernel
theorem dT_stubOldestDouble_12 : decode bT_stubOldestDouble 12 = .ok (.ireturn, 1) := by decide +kernel
theorem dT_stubOldestDouble_13 : decode bT_stubOldestDouble 13 = .ok (.aload_n 0, 1) := by decide +kernel
theorem dT_stubOldestDouble_14 : decode bT_stubOldestDouble 14 = .ok (.getfield 9, 3) := by decide +kernel
theorem dT_stubOldestDouble_17 : decode bT_stubOldestDouble 17 = .ok (.iload_n 1, 1) := by decide +kernel
theorem dT_stubOldestDouble_18 : decode bT_stubOldestDouble 18 = .ok (.iconst 3, 1) := by decide +kernel
theorem dT_stubOldestDouble_19 : decode bT_stubOldestDouble 19 = .ok (.iastore, 1) := by decide +kernel
theorem dT_stubOldestDouble_20 : decode bT_stubOldestDouble 20 = .ok (.iconst 1, 1) := by decide +kernel
theorem dT_stubOldestDouble_21 : decode bT_stubOldestDouble 21 = .ok (.ireturn, 1) := by decide +kernel
theorem dT_hasRoom_0 : decode bT_hasRoom 0 = .ok (.aload_n 0, 1) := by decide +kernel
theorem dT_hasRoom_1 : decode bT_hasRoom 1 = .ok (.getfield 53, 3) := by decide +kernel
theorem dT_hasRoom_4 : decode bT_hasRoom 4 = .ok (.aload_n 0, 1) := by decide +kernel
theorem dT_hasRoom_5 : decode bT_hasRoom 5 = .ok (.invokevirtual 105, 3) := by decide +kernel
theorem dT_hasRoom_8 : decode bT_hasRoom 8 = .ok (.isub, 1) := by decide +kernel
theorem dT_hasRoom_9 : decode bT_hasRoom 9 = .ok (.iload_n 1, 1) := by decide +kernel
theorem dT_hasRoom_10 : decode bT_hasRoom 10 = .ok (.if_icmp .lt 7, 3) := by decide +kernel
theorem dT_hasRoom_13 : decode bT_hasRoom 13 = .ok (.iconst 1, 1) := by decide +kernel
theorem dT_hasRoom_14 : decode bT_hasRoom 14 = .ok (.goto 4, 3) := by decide +kernel
theorem dT_hasRoom_17 : decode bT_hasRoom 17 = .ok (.iconst 0, 1) := by decide +kernel
theorem dT_hasRoom_18 : decode bT_hasRoom 18 = .ok (.ireturn, 1) := by decide +kernel
theorem dT_makeRoom_0 : decode bT_makeRoom 0 = .ok (.iconst 0, 1) := by decide +kernel
theorem dT_makeRoom_1 : decode bT_makeRoom 1 = .ok (.istore_n 2, 1) := by decide +kernel
theorem dT_makeRoom_2 : decode bT_makeRoom 2 = .ok (.iload_n 2, 1) := by decide +kernel
theorem dT_makeRoom_3 : decode bT_makeRoom 3 = .ok (.bipush 16, 2) := by decide +kernel
theorem dT_makeRoom_5 : decode bT_makeRoom 5 = .ok (.if_icmp .ge 26, 3) := by decide +kernel
theorem dT_makeRoom_8 : decode bT_makeRoom 8 = .ok (.aload_n 0, 1) := by decide +kernel
theorem dT_makeRoom_9 : decode bT_makeRoom 9 = .ok (.iload_n 1, 1) := by decide +kernel
theorem dT_makeRoom_10 : decode bT_makeRoom 10 = .ok (.invokevirtual 161, 3) := by decide +kernel
theorem dT_makeRoom_13 : decode bT_makeRoom 13 = .ok (.ifCond .ne 18, 3) := by decide +kernel
theorem dT_makeRoom_16 : decode bT_makeRoom 16 = .ok (.aload_n 0, 1) := by decide +kernel
theorem dT_makeRoom_17 : decode bT_makeRoom 17 = .ok (.invokevirtual 109, 3) := by decide +kernel
theorem dT_makeRoom_20 : decode bT_makeRoom 20 = .ok (.ifCond .ne 5, 3) := by decide +kernel
theorem dT_makeRoom_23 : decode bT_makeRoom 23 = .ok (.iconst 0, 1) := by decide +kernel
theorem dT_makeRoom_24 : decode bT_makeRoom 24 = .ok (.ireturn, 1) := by decide +kernel
theorem dT_makeRoom_25 : decode bT_makeRoom 25 = .ok (.iinc 2 1, 3) := by decide +kernel
theorem dT_makeRoom_28 : decode bT_makeRoom 28 = .ok (.goto (-26), 3) := by decide +kernel
theorem dT_makeRoom_31 : decode bT_makeRoom 31 = .ok (.aload_n 0, 1) := by decide +kernel
theorem dT_makeRoom_32 : decode bT_makeRoom 32 = .ok (.iload_n 1, 1) := by decide +kernel
theorem dT_makeRoom_33 : decode bT_makeRoom 33 = .ok (.invokevirtual 161, 3) := by decide +kernel
theorem dT_makeRoom_36 : decode bT_makeRoom 36 = .ok (.ireturn, 1) := by decide +kernel
theorem dT_bringToDisk_0 : decode bT_bringToDisk 0 = .ok (.aload_n 0, 1) := by decide +kernel
theorem dT_bringToDisk_1 : decode bT_bringToDisk 1 = .ok (.getfield 9, 3) := by decide +kernel
theorem dT_bringToDisk_4 : decode bT_bringToDisk 4 = .ok (.iload_n 1, 1) := by decide +kernel
theorem dT_bringToDisk_5 : decode bT_bringToDisk 5 = .ok (.iaload, 1) := by decide +kernel
theorem dT_bringToDisk_6 : decode bT_bringToDisk 6 = .ok (.iconst 3, 1) := by decide +kernel
theorem dT_bringToDisk_7 : decode bT_bringToDisk 7 = .ok (.if_icmp .eq 5, 3) := by decide +kernel
theorem dT_bringToDisk_10 : decode bT_bringToDisk 10 = .ok (.iconst 1, 1) := by decide +kernel
theorem dT_bringToDisk_11 : decode bT_bringToDisk 11 = .ok (.ireturn, 1) := by decide +kernel
theorem dT_bringToDisk_12 : decode bT_bringToDisk 12 = .ok (.aload_n 0, 1) := by decide +kernel
theorem dT_bringToDisk_13 : decode bT_bringToDisk 13 = .ok (.aload_n 0, 1) := by decide +kernel
theorem dT_bringToDisk_14 : decode bT_bringToDisk 14 = .ok (.getfield 13, 3) := by decide +kernel
theorem dT_bringToDisk_17 : decode bT_bringToDisk 17 = .ok (.iload_n 1, 1) := by decide +kernel
theorem dT_bringToDisk_18 : decode bT_bringToDisk 18 = .ok (.iaload, 1) := by decide +kernel
theorem dT_bringToDisk_19 : decode bT_bringToDisk 19 = .ok (.invokevirtual 69, 3) := by decide +kernel
theorem dT_bringToDisk_22 : decode bT_bringToDisk 22 = .ok (.ifCond .ne 5, 3) := by decide +kernel
theorem dT_bringToDisk_25 : decode bT_bringToDisk 25 = .ok (.iconst 0, 1) := by decide +kernel
theorem dT_bringToDisk_26 : decode bT_bringToDisk 26 = .ok (.ireturn, 1) := by decide +kernel
theorem dT_bringToDisk_27 : decode bT_bringToDisk 27 = .ok (.aload_n 0, 1) := by decide +kernel
theorem dT_bringToDisk_28 : decode bT_bringToDisk 28 = .ok (.getfield 61, 3) := by decide +kernel
theorem dT_bringToDisk_31 : decode bT_bringToDisk 31 = .ok (.aload_n 0, 1) := by decide +kernel
theorem dT_bringToDisk_32 : decode bT_bringToDisk 32 = .ok (.getfield 21, 3) := by decide +kernel
theorem dT_bringToDisk_35 : decode bT_bringToDisk 35 = .ok (.iload_n 1, 1) := by decide +kernel
theorem dT_bringToDisk_36 : decode bT_bringToDisk 36 = .ok (.iaload, 1) := by decide +kernel
theorem dT_bringToDisk_37 : decode bT_bringToDisk 37 = .ok (.aload_n 0, 1) := by decide +kernel
theorem dT_bringToDisk_38 : decode bT_bringToDisk 38 = .ok (.getfield 24, 3) := by decide +kernel
theorem dT_bringToDisk_41 : decode bT_bringToDisk 41 = .ok (.iload_n 1, 1) := by decide +kernel
theorem dT_bringToDisk_42 : decode bT_bringToDisk 42 = .ok (.iaload, 1) := by decide +kernel
theorem dT_bringToDisk_43 : decode bT_bringToDisk 43 = .ok (.aload_n 0, 1) := by decide +kernel
theorem dT_bringToDisk_44 : decode bT_bringToDisk 44 = .ok (.getfield 13, 3) := by decide +kernel
theorem dT_bringToDisk_47 : decode bT_bringToDisk 47 = .ok (.iload_n 1, 1) := by decide +kernel
theorem dT_bringToDisk_48 : decode bT_bringToDisk 48 = .ok (.iaload, 1) := by decide +kernel
theorem dT_bringToDisk_49 : decode bT_bringToDisk 49 = .ok (.invokevirtual 164, 3) := by decide +kernel
theorem dT_bringToDisk_52 : decode bT_bringToDisk 52 = .ok (.aload_n 0, 1) := by decide +kernel
theorem dT_bringToDisk_53 : decode bT_bringToDisk 53 = .ok (.getfield 9, 3) := by decide +kernel
theorem dT_bringToDisk_56 : decode bT_bringToDisk 56 = .ok (.iload_n 1, 1) := by decide +kernel
theorem dT_bringToDisk_57 : decode bT_bringToDisk 57 = .ok (.iconst 2, 1) := by decide +kernel
theorem dT_bringToDisk_58 : decode bT_bringToDisk 58 = .ok (.iastore, 1) := by decide +kernel
theorem dT_bringToDisk_59 : decode bT_bringToDisk 59 = .ok (.aload_n 0, 1) := by decide +kernel
theorem dT_bringToDisk_60 : decode bT_bringToDisk 60 = .ok (.iload_n 1, 1) := by decide +kernel
theorem dT_bringToDisk_61 : decode bT_bringToDisk 61 = .ok (.invokevirtual 72, 3) := by decide +kernel
theorem dT_bringToDisk_64 : decode bT_bringToDisk 64 = .ok (.iconst 1, 1) := by decide +kernel
theorem dT_bringToDisk_65 : decode bT_bringToDisk 65 = .ok (.ireturn, 1) := by decide +kernel
theorem dT_putCopy_0 : decode bT_putCopy 0 = .ok (.aload_n 0, 1) := by decide +kernel
theorem dT_putCopy_1 : decode bT_putCopy 1 = .ok (.getfield 21, 3) := by decide +kernel
theorem dT_putCopy_4 : decode bT_putCopy 4 = .ok (.iload_n 1, 1) := by decide +kernel
theorem dT_putCopy_5 : decode bT_putCopy 5 = .ok (.iload_n 2, 1) := by decide +kernel
theorem dT_putCopy_6 : decode bT_putCopy 6 = .ok (.iastore, 1) := by decide +kernel
theorem dT_putCopy_7 : decode bT_putCopy 7 = .ok (.aload_n 0, 1) := by decide +kernel
theorem dT_putCopy_8 : decode bT_putCopy 8 = .ok (.getfield 24, 3) := by decide +kernel
theorem dT_putCopy_11 : decode bT_putCopy 11 = .ok (.iload_n 1, 1) := by decide +kernel
theorem dT_putCopy_12 : decode bT_putCopy 12 = .ok (.aload_n 0, 1) := by decide +kernel
theorem dT_putCopy_13 : decode bT_putCopy 13 = .ok (.getfield 61, 3) := by decide +kernel
theorem dT_putCopy_16 : decode bT_putCopy 16 = .ok (.iload_n 2, 1) := by decide +kernel
theorem dT_putCopy_17 : decode bT_putCopy 17 = .ok (.aload_n 0, 1) := by decide +kernel
theorem dT_putCopy_18 : decode bT_putCopy 18 = .ok (.getfield 13, 3) := by decide +kernel
theorem dT_putCopy_21 : decode bT_putCopy 21 = .ok (.iload_n 1, 1) := by decide +kernel
theorem dT_putCopy_22 : decode bT_putCopy 22 = .ok (.iaload, 1) := by decide +kernel
theorem dT_putCopy_23 : decode bT_putCopy 23 = .ok (.invokevirtual 168, 3) := by decide +kernel
theorem dT_putCopy_26 : decode bT_putCopy 26 = .ok (.iastore, 1) := by decide +kernel
theorem dT_putCopy_27 : decode bT_putCopy 27 = .ok (.return_, 1) := by decide +kernel
theorem dT_moveCopy_0 : decode bT_moveCopy 0 = .ok (.aload_n 0, 1) := by decide +kernel
theorem dT_moveCopy_1 : decode bT_moveCopy 1 = .ok (.getfield 61, 3) := by decide +kernel
theorem dT_moveCopy_4 : decode bT_moveCopy 4 = .ok (.iload_n 2, 1) := by decide +kernel
theorem dT_moveCopy_5 : decode bT_moveCopy 5 = .ok (.aload_n 0, 1) := by decide +kernel
theorem dT_moveCopy_6 : decode bT_moveCopy 6 = .ok (.getfield 24, 3) := by decide +kernel
theorem dT_moveCopy_9 : decode bT_moveCopy 9 = .ok (.iload_n 1, 1) := by decide +kernel
theorem dT_moveCopy_10 : decode bT_moveCopy 10 = .ok (.iaload, 1) := by decide +kernel
theorem dT_moveCopy_11 : decode bT_moveCopy 11 = .ok (.aload_n 0, 1) := by decide +kernel
theorem dT_moveCopy_12 : decode bT_moveCopy 12 = .ok (.getfield 13, 3) := by decide +kernel
theorem dT_moveCopy_15 : decode bT_moveCopy 15 = .ok (.iload_n 1, 1) := by decide +kernel
theorem dT_moveCopy_16 : decode bT_moveCopy 16 = .ok (.iaload, 1) := by decide +kernel
theorem dT_moveCopy_17 : decode bT_moveCopy 17 = .ok (.invokevirtual 164, 3) := by decide +kernel
theorem dT_moveCopy_20 : decode bT_moveCopy 20 = .ok (.aload_n 0, 1) := by decide +kernel
theorem dT_moveCopy_21 : decode bT_moveCopy 21 = .ok (.getfield 61, 3) := by decide +kernel
theorem dT_moveCopy_24 : decode bT_moveCopy 24 = .ok (.aload_n 0, 1) := by decide +kernel
theorem dT_moveCopy_25 : decode bT_moveCopy 25 = .ok (.getfield 13, 3) := by decide +kernel
theorem dT_moveCopy_28 : decode bT_moveCopy 28 = .ok (.iload_n 1, 1) := by decide +kernel
theorem dT_moveCopy_29 : decode bT_moveCopy 29 = .ok (.iaload, 1) := by decide +kernel
theorem dT_moveCopy_30 : decode bT_moveCopy 30 = .ok (.iload_n 2, 1) := by decide +kernel
theorem dT_moveCopy_31 : decode bT_moveCopy 31 = .ok (.invokevirtual 95, 3) := by decide +kernel
theorem dT_moveCopy_34 : decode bT_moveCopy 34 = .ok (.istore_n 3, 1) := by decide +kernel
theorem dT_moveCopy_35 : decode bT_moveCopy 35 = .ok (.iload_n 3, 1) := by decide +kernel
theorem dT_moveCopy_36 : decode bT_moveCopy 36 = .ok (.iconst (-1), 1) := by decide +kernel
theorem dT_moveCopy_37 : decode bT_moveCopy 37 = .ok (.if_icmp .eq 9, 3) := by decide +kernel
theorem dT_moveCopy_40 : decode bT_moveCopy 40 = .ok (.aload_n 0, 1) := by decide +kernel
theorem dT_moveCopy_41 : decode bT_moveCopy 41 = .ok (.iload_n 1, 1) := by decide +kernel
theorem dT_moveCopy_42 : decode bT_moveCopy 42 = .ok (.iload_n 3, 1) := by decide +kernel
theorem dT_moveCopy_43 : decode bT_moveCopy 43 = .ok (.invokevirtual 98, 3) := by decide +kernel
theorem dT_moveCopy_46 : decode bT_moveCopy 46 = .ok (.return_, 1) := by decide +kernel
theorem dT_listedFitBeside_0 : decode bT_listedFitBeside 0 = .ok (.aload_n 0, 1) := by decide +kernel
theorem dT_listedFitBeside_1 : decode bT_listedFitBeside 1 = .ok (.getfield 61, 3) := by decide +kernel
theorem dT_listedFitBeside_4 : decode bT_listedFitBeside 4 = .ok (.invokevirtual 171, 3) := by decide +kernel
theorem dT_listedFitBeside_7 : decode bT_listedFitBeside 7 = .ok (.iconst 0, 1) := by decide +kernel
theorem dT_listedFitBeside_8 : decode bT_listedFitBeside 8 = .ok (.istore_n 2, 1) := by decide +kernel
theorem dT_listedFitBeside_9 : decode bT_listedFitBeside 9 = .ok (.iload_n 2, 1) := by decide +kernel
theorem dT_listedFitBeside_10 : decode bT_listedFitBeside 10 = .ok (.aload_n 0, 1) := by decide +kernel
theorem dT_listedFitBeside_11 : decode bT_listedFitBeside 11 = .ok (.getfield 41, 3) := by decide +kernel
theorem dT_listedFitBeside_14 : decode bT_listedFitBeside 14 = .ok (.if_icmp .ge 33, 3) := by decide +kernel
theorem dT_listedFitBeside_17 : decode bT_listedFitBeside 17 = .ok (.aload_n 0, 1) := by decide +kernel
theorem dT_listedFitBeside_18 : decode bT_listedFitBeside 18 = .ok (.getfield 61, 3) := by decide +kernel
theorem dT_listedFitBeside_21 : decode bT_listedFitBeside 21 = .ok (.iload_n 1, 1) := by decide +kernel
theorem dT_listedFitBeside_22 : decode bT_listedFitBeside 22 = .ok (.aload_n 0, 1) := by decide +kernel
theorem dT_listedFitBeside_23 : decode bT_listedFitBeside 23 = .ok (.getfield 13, 3) := by decide +kernel
theorem dT_listedFitBeside_26 : decode bT_listedFitBeside 26 = .ok (.aload_n 0, 1) := by decide +kernel
theorem dT_listedFitBeside_27 : decode bT_listedFitBeside 27 = .ok (.getfield 38, 3) := by decide +kernel
theorem dT_listedFitBeside_30 : decode bT_listedFitBeside 30 = .ok (.iload_n 2, 1) := by decide +kernel
theorem dT_listedFitBeside_31 : decode bT_listedFitBeside 31 = .ok (.iaload, 1) := by decide +kernel
theorem dT_listedFitBeside_32 : decode bT_listedFitBeside 32 = .ok (.iaload, 1) := by decide +kernel
theorem dT_listedFitBeside_33 : decode bT_listedFitBeside 33 = .ok (.invokevirtual 174, 3) := by decide +kernel
theorem dT_listedFitBeside_36 : decode bT_listedFitBeside 36 = .ok (.ifCond .ne 5, 3) := by decide +kernel
theorem dT_listedFitBeside_39 : decode bT_listedFitBeside 39 = .ok (.iconst 0, 1) := by decide +kernel
theorem dT_listedFitBeside_40 : decode bT_listedFitBeside 40 = .ok (.ireturn, 1) := by decide +kernel
theorem dT_listedFitBeside_41 : decode bT_listedFitBeside 41 = .ok (.iinc 2 1, 3) := by decide +kernel
theorem dT_listedFitBeside_44 : decode bT_listedFitBeside 44 = .ok (.goto (-35), 3) := by decide +kernel
theorem dT_listedFitBeside_47 : decode bT_listedFitBeside 47 = .ok (.iconst 1, 1) := by decide +kernel
theorem dT_listedFitBeside_48 : decode bT_listedFitBeside 48 = .ok (.ireturn, 1) := by decide +kernel
theorem dT_listWaitingStubs_0 : decode bT_listWaitingStubs 0 = .ok (.aload_n 0, 1) := by decide +kernel
theorem dT_listWaitingStubs_1 : decode bT_listWaitingStubs 1 = .ok (.iconst 0, 1) := by decide +kernel
theorem dT_listWaitingStubs_2 : decode bT_listWaitingStubs 2 = .ok (.putfield 41, 3) := by decide +kernel
theorem dT_listWaitingStubs_5 : decode bT_listWaitingStubs 5 = .ok (.aload_n 0, 1) := by decide +kernel
theorem dT_listWaitingStubs_6 : decode bT_listWaitingStubs 6 = .ok (.getfield 61, 3) := by decide +kernel
theorem dT_listWaitingStubs_9 : decode bT_listWaitingStubs 9 = .ok (.getfield 149, 3) := by decide +kernel
theorem dT_listWaitingStubs_12 : decode bT_listWaitingStubs 12 = .ok (.istore_n 1, 1) := by decide +kernel
theorem dT_listWaitingStubs_13 : decode bT_listWaitingStubs 13 = .ok (.iload_n 1, 1) := by decide +kernel
theorem dT_listWaitingStubs_14 : decode bT_listWaitingStubs 14 = .ok (.iconst (-1), 1) := by decide +kernel
theorem dT_listWaitingStubs_15 : decode bT_listWaitingStubs 15 = .ok (.if_icmp .eq 8, 3) := by decide +kernel
theorem dT_listWaitingStubs_18 : decode bT_listWaitingStubs 18 = .ok (.aload_n 0, 1) := by decide +kernel
theorem dT_listWaitingStubs_19 : decode bT_listWaitingStubs 19 = .ok (.iload_n 1, 1) := by decide +kernel
theorem dT_listWaitingStubs_20 : decode bT_listWaitingStubs 20 = .ok (.invokevirtual 122, 3) := by decide +kernel
theorem dT_listWaitingStubs_23 : decode bT_listWaitingStubs 23 = .ok (.iconst 0, 1) := by decide +kernel
theorem dT_listWaitingStubs_24 : decode bT_listWaitingStubs 24 = .ok (.istore_n 2, 1) := by decide +kernel
theorem dT_listWaitingStubs_25 : decode bT_listWaitingStubs 25 = .ok (.iload_n 2, 1) := by decide +kernel
theorem dT_listWaitingStubs_26 : decode bT_listWaitingStubs 26 = .ok (.iconst 4, 1) := by decide +kernel
theorem dT_listWaitingStubs_27 : decode bT_listWaitingStubs 27 = .ok (.if_icmp .ge 19, 3) := by decide +kernel
theorem dT_listWaitingStubs_30 : decode bT_listWaitingStubs 30 = .ok (.iload_n 2, 1) := by decide +kernel
theorem dT_listWaitingStubs_31 : decode bT_listWaitingStubs 31 = .ok (.iload_n 1, 1) := by decide +kernel
theorem dT_listWaitingStubs_32 : decode bT_listWaitingStubs 32 = .ok (.if_icmp .eq 8, 3) := by decide +kernel
theorem dT_listWaitingStubs_35 : decode bT_listWaitingStubs 35 = .ok (.aload_n 0, 1) := by decide +kernel
theorem dT_listWaitingStubs_36 : decode bT_listWaitingStubs 36 = .ok (.iload_n 2, 1) := by decide +kernel
theorem dT_listWaitingStubs_37 : decode bT_listWaitingStubs 37 = .ok (.invokevirtual 122, 3) := by decide +kernel
theorem dT_listWaitingStubs_40 : decode bT_listWaitingStubs 40 = .ok (.iinc 2 1, 3) := by decide +kernel
theorem dT_listWaitingStubs_43 : decode bT_listWaitingStubs 43 = .ok (.goto (-18), 3) := by decide +kernel
theorem dT_listWaitingStubs_46 : decode bT_listWaitingStubs 46 = .ok (.aload_n 0, 1) := by decide +kernel
theorem dT_listWaitingStubs_47 : decode bT_listWaitingStubs 47 = .ok (.invokevirtual 177, 3) := by decide +kernel
theorem dT_listWaitingStubs_50 : decode bT_listWaitingStubs 50 = .ok (.return_, 1) := by decide +kernel
theorem dT_listCopiesOn_0 : decode bT_listCopiesOn 0 = .ok (.iconst 0, 1) := by decide +kernel
theorem dT_listCopiesOn_1 : decode bT_listCopiesOn 1 = .ok (.istore_n 2, 1) := by decide +kernel
theorem dT_listCopiesOn_2 : decode bT_listCopiesOn 2 = .ok (.iload_n 2, 1) := by decide +kernel
theorem dT_listCopiesOn_3 : decode bT_listCopiesOn 3 = .ok (.aload_n 0, 1) := by decide +kernel
theorem dT_listCopiesOn_4 : decode bT_listCopiesOn 4 = .ok (.getfield 61, 3) := by decide +kernel
theorem dT_listCopiesOn_7 : decode bT_listCopiesOn 7 = .ok (.getfield 180, 3) := by decide +kernel
theorem dT_listCopiesOn_10 : decode bT_listCopiesOn 10 = .ok (.if_icmp .ge 50, 3) := by decide +kernel
theorem dT_listCopiesOn_13 : decode bT_listCopiesOn 13 = .ok (.aload_n 0, 1) := by decide +kernel
theorem dT_listCopiesOn_14 : decode bT_listCopiesOn 14 = .ok (.iload_n 1, 1) := by decide +kernel
theorem dT_listCopiesOn_15 : decode bT_listCopiesOn 15 = .ok (.iload_n 2, 1) := by decide +kernel
theorem dT_listCopiesOn_16 : decode bT_listCopiesOn 16 = .ok (.invokevirtual 183, 3) := by decide +kernel
theorem dT_listCopiesOn_19 : decode bT_listCopiesOn 19 = .ok (.istore_n 3, 1) := by decide +kernel
theorem dT_listCopiesOn_20 : decode bT_listCopiesOn 20 = .ok (.iload_n 3, 1) := by decide +kernel
theorem dT_listCopiesOn_21 : decode bT_listCopiesOn 21 = .ok (.iconst (-1), 1) := by decide +kernel
theorem dT_listCopiesOn_22 : decode bT_listCopiesOn 22 = .ok (.if_icmp .eq 32, 3) := by decide +kernel
theorem dT_listCopiesOn_25 : decode bT_listCopiesOn 25 = .ok (.aload_n 0, 1) := by decide +kernel
theorem dT_listCopiesOn_26 : decode bT_listCopiesOn 26 = .ok (.getfield 41, 3) := by decide +kernel
theorem dT_listCopiesOn_29 : decode bT_listCopiesOn 29 = .ok (.bipush 16, 2) := by decide +kernel
theorem dT_listCopiesOn_31 : decode bT_listCopiesOn 31 = .ok (.if_icmp .ge 23, 3) := by decide +kernel
theorem dT_listCopiesOn_34 : decode bT_listCopiesOn 34 = .ok (.aload_n 0, 1) := by decide +kernel
theorem dT_listCopiesOn_35 : decode bT_listCopiesOn 35 = .ok (.getfield 38, 3) := by decide +kernel
theorem dT_listCopiesOn_38 : decode bT_listCopiesOn 38 = .ok (.aload_n 0, 1) := by decide +kernel
theorem dT_listCopiesOn_39 : decode bT_listCopiesOn 39 = .ok (.getfield 41, 3) := by decide +kernel
theorem dT_listCopiesOn_42 : decode bT_listCopiesOn 42 = .ok (.iload_n 3, 1) := by decide +kernel
theorem dT_listCopiesOn_43 : decode bT_listCopiesOn 43 = .ok (.iastore, 1) := by decide +kernel
theorem dT_listCopiesOn_44 : decode bT_listCopiesOn 44 = .ok (.aload_n 0, 1) := by decide +kernel
theorem dT_listCopiesOn_45 : decode bT_listCopiesOn 45 = .ok (.dup, 1) := by decide +kernel
theorem dT_listCopiesOn_46 : decode bT_listCopiesOn 46 = .ok (.getfield 41, 3) := by decide +kernel
theorem dT_listCopiesOn_49 : decode bT_listCopiesOn 49 = .ok (.iconst 1, 1) := by decide +kernel
theorem dT_listCopiesOn_50 : decode bT_listCopiesOn 50 = .ok (.iadd, 1) := by decide +kernel
theorem dT_listCopiesOn_51 : decode bT_listCopiesOn 51 = .ok (.putfield 41, 3) := by decide +kernel
theorem dT_listCopiesOn_54 : decode bT_listCopiesOn 54 = .ok (.iinc 2 1, 3) := by decide +kernel
theorem dT_listCopiesOn_57 : decode bT_listCopiesOn 57 = .ok (.goto (-55), 3) := by decide +kernel
theorem dT_listCopiesOn_60 : decode bT_listCopiesOn 60 = .ok (.return_, 1) := by decide +kernel
theorem dT_fileWithCopyAt_0 : decode bT_fileWithCopyAt 0 = .ok (.iconst 0, 1) := by decide +kernel
theorem dT_fileWithCopyAt_1 : decode bT_fileWithCopyAt 1 = .ok (.istore_n 3, 1) := by decide +kernel
theorem dT_fileWithCopyAt_2 : decode bT_fileWithCopyAt 2 = .ok (.iload_n 3, 1) := by decide +kernel
theorem dT_fileWithCopyAt_3 : decode bT_fileWithCopyAt 3 = .ok (.bipush 16, 2) := by decide +kernel
theorem dT_fileWithCopyAt_5 : decode bT_fileWithCopyAt 5 = .ok (.if_icmp .ge 30, 3) := by decide +kernel
theorem dT_fileWithCopyAt_8 : decode bT_fileWithCopyAt 8 = .ok (.aload_n 0, 1) := by decide +kernel
theorem dT_fileWithCopyAt_9 : decode bT_fileWithCopyAt 9 = .ok (.iload_n 3, 1) := by decide +kernel
theorem dT_fileWithCopyAt_10 : decode bT_fileWithCopyAt 10 = .ok (.iload_n 1, 1) := by decide +kernel
theorem dT_fileWithCopyAt_11 : decode bT_fileWithCopyAt 11 = .ok (.invokevirtual 134, 3) := by decide +kernel
theorem dT_fileWithCopyAt_14 : decode bT_fileWithCopyAt 14 = .ok (.ifCond .eq 15, 3) := by decide +kernel
theorem dT_fileWithCopyAt_17 : decode bT_fileWithCopyAt 17 = .ok (.aload_n 0, 1) := by decide +kernel
theorem dT_fileWithCopyAt_18 : decode bT_fileWithCopyAt 18 = .ok (.getfield 24, 3) := by decide +kernel
theorem dT_fileWithCopyAt_21 : decode bT_fileWithCopyAt 21 = .ok (.iload_n 3, 1) := by decide +kernel
theorem dT_fileWithCopyAt_22 : decode bT_fileWithCopyAt 22 = .ok (.iaload, 1) := by decide +kernel
theorem dT_fileWithCopyAt_23 : decode bT_fileWithCopyAt 23 = .ok (.iload_n 2, 1) := by decide +kernel
theorem dT_fileWithCopyAt_24 : decode bT_fileWithCopyAt 24 = .ok (.if_icmp .ne 5, 3) := by decide +kernel
theorem dT_fileWithCopyAt_27 : decode bT_fileWithCopyAt 27 = .ok (.iload_n 3, 1) := by decide +kernel
theorem dT_fileWithCopyAt_28 : decode bT_fileWithCopyAt 28 = .ok (.ireturn, 1) := by decide +kernel
theorem dT_fileWithCopyAt_29 : decode bT_fileWithCopyAt 29 = .ok (.iinc 3 1, 3) := by decide +kernel
theorem dT_fileWithCopyAt_32 : decode bT_fileWithCopyAt 32 = .ok (.goto (-30), 3) := by decide +kernel
theorem dT_fileWithCopyAt_35 : decode bT_fileWithCopyAt 35 = .ok (.iconst (-1), 1) := by decide +kernel
theorem dT_fileWithCopyAt_36 : decode bT_fileWithCopyAt 36 = .ok (.ireturn, 1) := by decide +kernel
theorem dT_keepWaitingStubs_0 : decode bT_keepWaitingStubs 0 = .ok (.iconst 0, 1) := by decide +kernel
theorem dT_keepWaitingStubs_1 : decode bT_keepWaitingStubs 1 = .ok (.istore_n 1, 1) := by decide +kernel
theorem dT_keepWaitingStubs_2 : decode bT_keepWaitingStubs 2 = .ok (.iconst 0, 1) := by decide +kernel
theorem dT_keepWaitingStubs_3 : decode bT_keepWaitingStubs 3 = .ok (.istore_n 2, 1) := by decide +kernel
theorem dT_keepWaitingStubs_4 : decode bT_keepWaitingStubs 4 = .ok (.iload_n 2, 1) := by decide +kernel
theorem dT_keepWaitingStubs_5 : decode bT_keepWaitingStubs 5 = .ok (.aload_n 0, 1) := by decide +kernel
theorem dT_keepWaitingStubs_6 : decode bT_keepWaitingStubs 6 = .ok (.getfield 41, 3) := by decide +kernel
theorem dT_keepWaitingStubs_9 : decode bT_keepWaitingStubs 9 = .ok (.if_icmp .ge 45, 3) := by decide +kernel
theorem dT_keepWaitingStubs_12 : decode bT_keepWaitingStubs 12 = .ok (.aload_n 0, 1) := by decide +kernel
theorem dT_keepWaitingStubs_13 : decode bT_keepWaitingStubs 13 = .ok (.getfield 38, 3) := by decide +kernel
theorem dT_keepWaitingStubs_16 : decode bT_keepWaitingStubs 16 = .ok (.iload_n 2, 1) := by decide +kernel
theorem dT_keepWaitingStubs_17 : decode bT_keepWaitingStubs 17 = .ok (.iaload, 1) := by decide +kernel
theorem dT_keepWaitingStubs_18 : decode bT_keepWaitingStubs 18 = .ok (.istore_n 3, 1) := by decide +kernel
theorem dT_keepWaitingStubs_19 : decode bT_keepWaitingStubs 19 = .ok (.aload_n 0, 1) := by decide +kernel
theorem dT_keepWaitingStubs_20 : decode bT_keepWaitingStubs 20 = .ok (.getfield 27, 3) := by decide +kernel
theorem dT_keepWaitingStubs_23 : decode bT_keepWaitingStubs 23 = .ok (.iload_n 3, 1) := by decide +kernel
theorem dT_keepWaitingStubs_24 : decode bT_keepWaitingStubs 24 = .ok (.baload, 1) := by decide +kernel
theorem dT_keepWaitingStubs_25 : decode bT_keepWaitingStubs 25 = .ok (.ifCond .eq 23, 3) := by decide +kernel
theorem dT_keepWaitingStubs_28 : decode bT_keepWaitingStubs 28 = .ok (.aload_n 0, 1) := by decide +kernel
theorem dT_keepWaitingStubs_29 : decode bT_keepWaitingStubs 29 = .ok (.getfield 9, 3) := by decide +kernel
theorem dT_keepWaitingStubs_32 : decode bT_keepWaitingStubs 32 = .ok (.iload_n 3, 1) := by decide +kernel
theorem dT_keepWaitingStubs_33 : decode bT_keepWaitingStubs 33 = .ok (.iaload, 1) := by decide +kernel
theorem dT_keepWaitingStubs_34 : decode bT_keepWaitingStubs 34 = .ok (.iconst 3, 1) := by decide +kernel
theorem dT_keepWaitingStubs_35 : decode bT_keepWaitingStubs 35 = .ok (.if_icmp .ne 13, 3) := by decide +kernel
theorem dT_keepWaitingStubs_38 : decode bT_keepWaitingStubs 38 = .ok (.aload_n 0, 1) := by decide +kernel
theorem dT_keepWaitingStubs_39 : decode bT_keepWaitingStubs 39 = .ok (.getfield 38, 3) := by decide +kernel
theorem dT_keepWaitingStubs_42 : decode bT_keepWaitingStubs 42 = .ok (.iload_n 1, 1) := by decide +kernel
theorem dT_keepWaitingStubs_43 : decode bT_keepWaitingStubs 43 = .ok (.iload_n 3, 1) := by decide +kernel
theorem dT_keepWaitingStubs_44 : decode bT_keepWaitingStubs 44 = .ok (.iastore, 1) := by decide +kernel
theorem dT_keepWaitingStubs_45 : decode bT_keepWaitingStubs 45 = .ok (.iinc 1 1, 3) := by decide +kernel
theorem dT_keepWaitingStubs_48 : decode bT_keepWaitingStubs 48 = .ok (.iinc 2 1, 3) := by decide +kernel
theorem dT_keepWaitingStubs_51 : decode bT_keepWaitingStubs 51 = .ok (.goto (-47), 3) := by decide +kernel
theorem dT_keepWaitingStubs_54 : decode bT_keepWaitingStubs 54 = .ok (.aload_n 0, 1) := by decide +kernel
theorem dT_keepWaitingStubs_55 : decode bT_keepWaitingStubs 55 = .ok (.iload_n 1, 1) := by decide +kernel
theorem dT_keepWaitingStubs_56 : decode bT_keepWaitingStubs 56 = .ok (.putfield 41, 3) := by decide +kernel
theorem dT_keepWaitingStubs_59 : decode bT_keepWaitingStubs 59 = .ok (.return_, 1) := by decide +kernel
theorem dP_init_0 : decode bP_init 0 = .ok (.aload_n 0, 1) := by decide +kernel
theorem dP_init_1 : decode bP_init 1 = .ok (.invokespecial 3, 3) := by decide +kernel
theorem dP_init_4 : decode bP_init 4 = .ok (.aload_n 0, 1) := by decide +kernel
theorem dP_init_5 : decode bP_init 5 = .ok (.iconst 4, 1) := by decide +kernel
theorem dP_init_6 : decode bP_init 6 = .ok (.newarray .int, 2) := by decide +kernel
theorem dP_init_8 : decode bP_init 8 = .ok (.putfield 9, 3) := by decide +kernel
theorem dP_init_11 : decode bP_init 11 = .ok (.aload_n 0, 1) := by decide +kernel
theorem dP_init_12 : decode bP_init 12 = .ok (.iconst 4, 1) := by decide +kernel
theorem dP_init_13 : decode bP_init 13 = .ok (.newarray .int, 2) := by decide +kernel
theorem dP_init_15 : decode bP_init 15 = .ok (.putfield 15, 3) := by decide +kernel
theorem dP_init_18 : decode bP_init 18 = .ok (.aload_n 0, 1) := by decide +kernel
theorem dP_init_19 : decode bP_init 19 = .ok (.iconst (-1), 1) := by decide +kernel
theorem dP_init_20 : decode bP_init 20 = .ok (.putfield 18, 3) := by decide +kernel
theorem dP_init_23 : decode bP_init 23 = .ok (.aload_n 0, 1) := by decide +kernel
theorem dP_init_24 : decode bP_init 24 = .ok (.iconst 0, 1) := by decide +kernel
theorem dP_init_25 : decode bP_init 25 = .ok (.putfield 22, 3) := by decide +kernel
theorem dP_init_28 : decode bP_init 28 = .ok (.aload_n 0, 1) := by decide +kernel
theorem dP_init_29 : decode bP_init 29 = .ok (.iconst 0, 1) := by decide +kernel
theorem dP_init_30 : decode bP_init 30 = .ok (.putfield 25, 3) := by decide +kernel
theorem dP_init_33 : decode bP_init 33 = .ok (.aload_n 0, 1) := by decide +kernel
theorem dP_init_34 : decode bP_init 34 = .ok (.iload_n 1, 1) := by decide +kernel
theorem dP_init_35 : decode bP_init 35 = .ok (.putfield 28, 3) := by decide +kernel
theorem dP_init_38 : decode bP_init 38 = .ok (.return_, 1) := by decide +kernel
theorem dP_goTo_0 : decode bP_goTo 0 = .ok (.aload_n 0, 1) := by decide +kernel
theorem dP_goTo_1 : decode bP_goTo 1 = .ok (.getfield 18, 3) := by decide +kernel
theorem dP_goTo_4 : decode bP_goTo 4 = .ok (.iload_n 1, 1) := by decide +kernel
theorem dP_goTo_5 : decode bP_goTo 5 = .ok (.if_icmp .eq 24, 3) := by decide +kernel
theorem dP_goTo_8 : decode bP_goTo 8 = .ok (.aload_n 0, 1) := by decide +kernel
theorem dP_goTo_9 : decode bP_goTo 9 = .ok (.dup, 1) := by decide +kernel
theorem dP_goTo_10 : decode bP_goTo 10 = .ok (.getfield 25, 3) := by decide +kernel
theorem dP_goTo_13 : decode bP_goTo 13 = .ok (.bipush 20, 2) := by decide +kernel
theorem dP_goTo_15 : decode bP_goTo 15 = .ok (.iadd, 1) := by decide +kernel
theorem dP_goTo_16 : decode bP_goTo 16 = .ok (.putfield 25, 3) := by decide +kernel
theorem dP_goTo_19 : decode bP_goTo 19 = .ok (.aload_n 0, 1) := by decide +kernel
theorem dP_goTo_20 : decode bP_goTo 20 = .ok (.iload_n 1, 1) := by decide +kernel
theorem dP_goTo_21 : decode bP_goTo 21 = .ok (.putfield 18, 3) := by decide +kernel
theorem dP_goTo_24 : decode bP_goTo 24 = .ok (.aload_n 0, 1) := by decide +kernel
theorem dP_goTo_25 : decode bP_goTo 25 = .ok (.iconst 0, 1) := by decide +kernel
theorem dP_goTo_26 : decode bP_goTo 26 = .ok (.putfield 22, 3) := by decide +kernel
theorem dP_goTo_29 : decode bP_goTo 29 = .ok (.aload_n 0, 1) := by decide +kernel
theorem dP_goTo_30 : decode bP_goTo 30 = .ok (.dup, 1) := by decide +kernel
theorem dP_goTo_31 : decode bP_goTo 31 = .ok (.getfield 25, 3) := by decide +kernel
theorem dP_goTo_34 : decode bP_goTo 34 = .ok (.aload_n 0, 1) := by decide +kernel
theorem dP_goTo_35 : decode bP_goTo 35 = .ok (.getfield 22, 3) := by decide +kernel
theorem dP_goTo_38 : decode bP_goTo 38 = .ok (.iload_n 2, 1) := by decide +kernel
theorem dP_goTo_39 : decode bP_goTo 39 = .ok (.isub, 1) := by decide +kernel
theorem dP_goTo_40 : decode bP_goTo 40 = .ok (.invokestatic 31, 3) := by decide +kernel
theorem dP_goTo_43 : decode bP_goTo 43 = .ok (.iadd, 1) := by decide +kernel
theorem dP_goTo_44 : decode bP_goTo 44 = .ok (.putfield 25, 3) := by decide +kernel
theorem dP_goTo_47 : decode bP_goTo 47 = .ok (.aload_n 0, 1) := by decide +kernel
theorem dP_goTo_48 : decode bP_goTo 48 = .ok (.iload_n 2, 1) := by decide +kernel
theorem dP_goTo_49 : decode bP_goTo 49 = .ok (.putfield 22, 3) := by decide +kernel
theorem dP_goTo_52 : decode bP_goTo 52 = .ok (.return_, 1) := by decide +kernel
theorem dP_pass_0 : decode bP_pass 0 = .ok (.aload_n 0, 1) := by decide +kernel
theorem dP_pass_1 : decode bP_pass 1 = .ok (.iload_n 1, 1) := by decide +kernel
theorem dP_pass_2 : decode bP_pass 2 = .ok (.iload_n 2, 1) := by decide +kernel
theorem dP_pass_3 : decode bP_pass 3 = .ok (.invokevirtual 37, 3) := by decide +kernel
theorem dP_pass_6 : decode bP_pass 6 = .ok (.aload_n 0, 1) := by decide +kernel
theorem dP_pass_7 : decode bP_pass 7 = .ok (.dup, 1) := by decide +kernel
theorem dP_pass_8 : decode bP_pass 8 = .ok (.getfield 25, 3) := by decide +kernel
theorem dP_pass_11 : decode bP_pass 11 = .ok (.iload_n 3, 1) := by decide +kernel
theorem dP_pass_12 : decode bP_pass 12 = .ok (.iadd, 1) := by decide +kernel
theorem dP_pass_13 : decode bP_pass 13 = .ok (.putfield 25, 3) := by decide +kernel
theorem dP_pass_16 : decode bP_pass 16 = .ok (.aload_n 0, 1) := by decide +kernel
theorem dP_pass_17 : decode bP_pass 17 = .ok (.dup, 1) := by decide +kernel
theorem dP_pass_18 : decode bP_pass 18 = .ok (.getfield 22, 3) := by decide +kernel
theorem dP_pass_21 : decode bP_pass 21 = .ok (.iload_n 3, 1) := by decide +kernel
theorem dP_pass_22 : decode bP_pass 22 = .ok (.iadd, 1) := by decide +kernel
theorem dP_pass_23 : decode bP_pass 23 = .ok (.putfield 22, 3) := by decide +kernel
theorem dP_pass_26 : decode bP_pass 26 = .ok (.return_, 1) := by decide +kernel
theorem dP_append_0 : decode bP_append 0 = .ok (.aload_n 0, 1) := by decide +kernel
theorem dP_append_1 : decode bP_append 1 = .ok (.getfield 9, 3) := by decide +kernel
theorem dP_append_4 : decode bP_append 4 = .ok (.iload_n 1, 1) := by decide +kernel
theorem dP_append_5 : decode bP_append 5 = .ok (.iaload, 1) := by decide +kernel
theorem dP_append_6 : decode bP_append 6 = .ok (.istore_n 3, 1) := by decide +kernel
theorem dP_append_7 : decode bP_append 7 = .ok (.aload_n 0, 1) := by decide +kernel
theorem dP_append_8 : decode bP_append 8 = .ok (.iload_n 1, 1) := by decide +kernel
theorem dP_append_9 : decode bP_append 9 = .ok (.iload_n 3, 1) := by decide +kernel
theorem dP_append_10 : decode bP_append 10 = .ok (.iload_n 2, 1) := by decide +kernel
theorem dP_append_11 : decode bP_append 11 = .ok (.invokevirtual 41, 3) := by decide +kernel
theorem dP_append_14 : decode bP_append 14 = .ok (.aload_n 0, 1) := by decide +kernel
theorem dP_append_15 : decode bP_append 15 = .ok (.getfield 9, 3) := by decide +kernel
theorem dP_append_18 : decode bP_append 18 = .ok (.iload_n 1, 1) := by decide +kernel
theorem dP_append_19 : decode bP_append 19 = .ok (.dup2, 1) := by decide +kernel
theorem dP_append_20 : decode bP_append 20 = .ok (.iaload, 1) := by decide +kernel
theorem dP_append_21 : decode bP_append 21 = .ok (.iload_n 2, 1) := by decide +kernel
theorem dP_append_22 : decode bP_append 22 = .ok (.iadd, 1) := by decide +kernel
theorem dP_append_23 : decode bP_append 23 = .ok (.iastore, 1) := by decide +kernel
theorem dP_append_24 : decode bP_append 24 = .ok (.iload_n 3, 1) := by decide +kernel
theorem dP_append_25 : decode bP_append 25 = .ok (.ireturn, 1) := by decide +kernel
theorem dP_cartridgeFor_0 : decode bP_cartridgeFor 0 = .ok (.aload_n 0, 1) := by decide +kernel
theorem dP_cartridgeFor_1 : decode bP_cartridgeFor 1 = .ok (.getfield 18, 3) := by decide +kernel
theorem dP_cartridgeFor_4 : decode bP_cartridgeFor 4 = .ok (.iconst (-1), 1) := by decide +kernel
theorem dP_cartridgeFor_5 : decode bP_cartridgeFor 5 = .ok (.if_icmp .eq 34, 3) := by decide +kernel
theorem dP_cartridgeFor_8 : decode bP_cartridgeFor 8 = .ok (.aload_n 0, 1) := by decide +kernel
theorem dP_cartridgeFor_9 : decode bP_cartridgeFor 9 = .ok (.getfield 18, 3) := by decide +kernel
theorem dP_cartridgeFor_12 : decode bP_cartridgeFor 12 = .ok (.iload_n 2, 1) := by decide +kernel
theorem dP_cartridgeFor_13 : decode bP_cartridgeFor 13 = .ok (.if_icmp .eq 26, 3) := by decide +kernel
theorem dP_cartridgeFor_16 : decode bP_cartridgeFor 16 = .ok (.aload_n 0, 1) := by decide +kernel
theorem dP_cartridgeFor_17 : decode bP_cartridgeFor 17 = .ok (.getfield 9, 3) := by decide +kernel
theorem dP_cartridgeFor_20 : decode bP_cartridgeFor 20 = .ok (.aload_n 0, 1) := by decide +kernel
theorem dP_cartridgeFor_21 : decode bP_cartridgeFor 21 = .ok (.getfield 18, 3) := by decide +kernel
theorem dP_cartridgeFor_24 : decode bP_cartridgeFor 24 = .ok (.iaload, 1) := by decide +kernel
theorem dP_cartridgeFor_25 : decode bP_cartridgeFor 25 = .ok (.iload_n 1, 1) := by decide +kernel
theorem dP_cartridgeFor_26 : decode bP_cartridgeFor 26 = .ok (.iadd, 1) := by decide +kernel
theorem dP_cartridgeFor_27 : decode bP_cartridgeFor 27 = .ok (.aload_n 0, 1) := by decide +kernel
theorem dP_cartridgeFor_28 : decode bP_cartridgeFor 28 = .ok (.getfield 28, 3) := by decide +kernel
theorem dP_cartridgeFor_31 : decode bP_cartridgeFor 31 = .ok (.if_icmp .gt 8, 3) := by decide +kernel
theorem dP_cartridgeFor_34 : decode bP_cartridgeFor 34 = .ok (.aload_n 0, 1) := by decide +kernel
theorem dP_cartridgeFor_35 : decode bP_cartridgeFor 35 = .ok (.getfield 18, 3) := by decide +kernel
theorem dP_cartridgeFor_38 : decode bP_cartridgeFor 38 = .ok (.ireturn, 1) := by decide +kernel
theorem dP_cartridgeFor_39 : decode bP_cartridgeFor 39 = .ok (.aload_n 0, 1) := by decide +kernel
theorem dP_cartridgeFor_40 : decode bP_cartridgeFor 40 = .ok (.aload_n 0, 1) := by decide +kernel
theorem dP_cartridgeFor_41 : decode bP_cartridgeFor 41 = .ok (.getfield 9, 3) := by decide +kernel
theorem dP_cartridgeFor_44 : decode bP_cartridgeFor 44 = .ok (.iload_n 1, 1) := by decide +kernel
theorem dP_cartridgeFor_45 : decode bP_cartridgeFor 45 = .ok (.iload_n 2, 1) := by decide +kernel
theorem dP_cartridgeFor_46 : decode bP_cartridgeFor 46 = .ok (.invokevirtual 45, 3) := by decide +kernel
theorem dP_cartridgeFor_49 : decode bP_cartridgeFor 49 = .ok (.ireturn, 1) := by decide +kernel
theorem dP_firstFitting_0 : decode bP_firstFitting 0 = .ok (.iconst 0, 1) := by decide +kernel
theorem dP_firstFitting_1 : decode bP_firstFitting 1 = .ok (.istore 4, 2) := by decide +kernel
theorem dP_firstFitting_3 : decode bP_firstFitting 3 = .ok (.iload 4, 2) := by decide +kernel
theorem dP_firstFitting_5 : decode bP_firstFitting 5 = .ok (.iconst 4, 1) := by decide +kernel
theorem dP_firstFitting_6 : decode bP_firstFitting 6 = .ok (.if_icmp .ge 31, 3) := by decide +kernel
theorem dP_firstFitting_9 : decode bP_firstFitting 9 = .ok (.iload 4, 2) := by decide +kernel
theorem dP_firstFitting_11 : decode bP_firstFitting 11 = .ok (.iload_n 3, 1) := by decide +kernel
theorem dP_firstFitting_12 : decode bP_firstFitting 12 = .ok (.if_icmp .eq 19, 3) := by decide +kernel
theorem dP_firstFitting_15 : decode bP_firstFitting 15 = .ok (.aload_n 1, 1) := by decide +kernel
theorem dP_firstFitting_16 : decode bP_firstFitting 16 = .ok (.iload 4, 2) := by decide +kernel
theorem dP_firstFitting_18 : decode bP_firstFitting 18 = .ok (.iaload, 1) := by decide +kernel
theorem dP_firstFitting_19 : decode bP_firstFitting 19 = .ok (.iload_n 2, 1) := by decide +kernel
theorem dP_firstFitting_20 : decode bP_firstFitting 20 = .ok (.iadd, 1) := by decide +kernel
theorem dP_firstFitting_21 : decode bP_firstFitting 21 = .ok (.aload_n 0, 1) := by decide +kernel
theorem dP_firstFitting_22 : decode bP_firstFitting 22 = .ok (.getfield 28, 3) := by decide +kernel
theorem dP_firstFitting_25 : decode bP_firstFitting 25 = .ok (.if_icmp .gt 6, 3) := by decide +kernel
theorem dP_firstFitting_28 : decode bP_firstFitting 28 = .ok (.iload 4, 2) := by decide +kernel
theorem dP_firstFitting_30 : decode bP_firstFitting 30 = .ok (.ireturn, 1) := by decide +kernel
theorem dP_firstFitting_31 : decode bP_firstFitting 31 = .ok (.iinc 4 1, 3) := by decide +kernel
theorem dP_firstFitting_34 : decode bP_firstFitting 34 = .ok (.goto (-31), 3) := by decide +kernel
theorem dP_firstFitting_37 : decode bP_firstFitting 37 = .ok (.iconst (-1), 1) := by decide +kernel
theorem dP_firstFitting_38 : decode bP_firstFitting 38 = .ok (.ireturn, 1) := by decide +kernel
theorem dP_startTrial_0 : decode bP_startTrial 0 = .ok (.aload_n 0, 1) := by decide +kernel
theorem dP_startTrial_1 : decode bP_startTrial 1 = .ok (.getfield 9, 3) := by decide +kernel
theorem dP_startTrial_4 : decode bP_startTrial 4 = .ok (.iconst 0, 1) := by decide +kernel
theorem dP_startTrial_5 : decode bP_startTrial 5 = .ok (.aload_n 0, 1) := by decide +kernel
theorem dP_startTrial_6 : decode bP_startTrial 6 = .ok (.getfield 15, 3) := by decide +kernel
theorem dP_startTrial_9 : decode bP_startTrial 9 = .ok (.iconst 0, 1) := by decide +kernel
theorem dP_startTrial_10 : decode bP_startTrial 10 = .ok (.iconst 4, 1) := by decide +kernel
theorem dP_startTrial_11 : decode bP_startTrial 11 = .ok (.invokestatic 49, 3) := by decide +kernel
theorem dP_startTrial_14 : decode bP_startTrial 14 = .ok (.return_, 1) := by decide +kernel
theorem dP_tryBeside_0 : decode bP_tryBeside 0 = .ok (.aload_n 0, 1) := by decide +kernel
theorem dP_tryBeside_1 : decode bP_tryBeside 1 = .ok (.aload_n 0, 1) := by decide +kernel
theorem dP_tryBeside_2 : decode bP_tryBeside 2 = .ok (.getfield 15, 3) := by decide +kernel
theorem dP_tryBeside_5 : decode bP_tryBeside 5 = .ok (.iload_n 2, 1) := by decide +kernel
theorem dP_tryBeside_6 : decode bP_tryBeside 6 = .ok (.iload_n 1, 1) := by decide +kernel
theorem dP_tryBeside_7 : decode bP_tryBeside 7 = .ok (.invokevirtual 45, 3) := by decide +kernel
theorem dP_tryBeside_10 : decode bP_tryBeside 10 = .ok (.istore_n 3, 1) := by decide +kernel
theorem dP_tryBeside_11 : decode bP_tryBeside 11 = .ok (.iload_n 3, 1) := by decide +kernel
theorem dP_tryBeside_12 : decode bP_tryBeside 12 = .ok (.iconst (-1), 1) := by decide +kernel
theorem dP_tryBeside_13 : decode bP_tryBeside 13 = .ok (.if_icmp .ne 5, 3) := by decide +kernel
theorem dP_tryBeside_16 : decode bP_tryBeside 16 = .ok (.iconst 0, 1) := by decide +kernel
theorem dP_tryBeside_17 : decode bP_tryBeside 17 = .ok (.ireturn, 1) := by decide +kernel
theorem dP_tryBeside_18 : decode bP_tryBeside 18 = .ok (.aload_n 0, 1) := by decide +kernel
theorem dP_tryBeside_19 : decode bP_tryBeside 19 = .ok (.getfield 15, 3) := by decide +kernel
theorem dP_tryBeside_22 : decode bP_tryBeside 22 = .ok (.iload_n 3, 1) := by decide +kernel
theorem dP_tryBeside_23 : decode bP_tryBeside 23 = .ok (.dup2, 1) := by decide +kernel
theorem dP_tryBeside_24 : decode bP_tryBeside 24 = .ok (.iaload, 1) := by decide +kernel
theorem dP_tryBeside_25 : decode bP_tryBeside 25 = .ok (.iload_n 2, 1) := by decide +kernel
theorem dP_tryBeside_26 : decode bP_tryBeside 26 = .ok (.iadd, 1) := by decide +kernel
theorem dP_tryBeside_27 : decode bP_tryBeside 27 = .ok (.iastore, 1) := by decide +kernel
theorem dP_tryBeside_28 : decode bP_tryBeside 28 = .ok (.iconst 1, 1) := by decide +kernel
theorem dP_tryBeside_29 : decode bP_tryBeside 29 = .ok (.ireturn, 1) := by decide +kernel
theorem dP_replace_0 : decode bP_replace 0 = .ok (.aload_n 0, 1) := by decide +kernel
theorem dP_replace_1 : decode bP_replace 1 = .ok (.getfield 9, 3) := by decide +kernel
theorem dP_replace_4 : decode bP_replace 4 = .ok (.iload_n 1, 1) := by decide +kernel
theorem dP_replace_5 : decode bP_replace 5 = .ok (.iconst 0, 1) := by decide +kernel
theorem dP_replace_6 : decode bP_replace 6 = .ok (.iastore, 1) := by decide +kernel
theorem dP_replace_7 : decode bP_replace 7 = .ok (.aload_n 0, 1) := by decide +kernel
theorem dP_replace_8 : decode bP_replace 8 = .ok (.getfield 18, 3) := by decide +kernel
theorem dP_replace_11 : decode bP_replace 11 = .ok (.iload_n 1, 1) := by decide +kernel
theorem dP_replace_12 : decode bP_replace 12 = .ok (.if_icmp .ne 13, 3) := by decide +kernel
theorem dP_replace_15 : decode bP_replace 15 = .ok (.aload_n 0, 1) := by decide +kernel
theorem dP_replace_16 : decode bP_replace 16 = .ok (.iconst (-1), 1) := by decide +kernel
theorem dP_replace_17 : decode bP_replace 17 = .ok (.putfield 18, 3) := by decide +kernel
theorem dP_replace_20 : decode bP_replace 20 = .ok (.aload_n 0, 1) := by decide +kernel
theorem dP_replace_21 : decode bP_replace 21 = .ok (.iconst 0, 1) := by decide +kernel
theorem dP_replace_22 : decode bP_replace 22 = .ok (.putfield 22, 3) := by decide +kernel
theorem dP_replace_25 : decode bP_replace 25 = .ok (.return_, 1) := by decide +kernel
end
section
theorem dM_init_0 : decode bM_init 0 = .ok (.aload_n 0, 1) := by decide +kernel
theorem dM_init_1 : decode bM_init 1 = .ok (.invokespecial 1, 3) := by decide +kernel
theorem dM_init_4 : decode bM_init 4 = .ok (.aload_n 0, 1) := by decide +kernel
theorem dM_init_5 : decode bM_init 5 = .ok (.bipush 16, 2) := by decide +kernel
theorem dM_init_7 : decode bM_init 7 = .ok (.newarray .int, 2) := by decide +kernel
theorem dM_init_9 : decode bM_init 9 = .ok (.putfield 7, 3) := by decide +kernel
theorem dM_init_12 : decode bM_init 12 = .ok (.aload_n 0, 1) := by decide +kernel
theorem dM_init_13 : decode bM_init 13 = .ok (.bipush 16, 2) := by decide +kernel
theorem dM_init_15 : decode bM_init 15 = .ok (.newarray .int, 2) := by decide +kernel
theorem dM_init_17 : decode bM_init 17 = .ok (.putfield 13, 3) := by decide +kernel
theorem dM_init_20 : decode bM_init 20 = .ok (.aload_n 0, 1) := by decide +kernel
theorem dM_init_21 : decode bM_init 21 = .ok (.bipush 64, 2) := by decide +kernel
theorem dM_init_23 : decode bM_init 23 = .ok (.newarray .int, 2) := by decide +kernel
theorem dM_init_25 : decode bM_init 25 = .ok (.putfield 16, 3) := by decide +kernel
theorem dM_init_28 : decode bM_init 28 = .ok (.aload_n 0, 1) := by decide +kernel
theorem dM_init_29 : decode bM_init 29 = .ok (.bipush 16, 2) := by decide +kernel
theorem dM_init_31 : decode bM_init 31 = .ok (.newarray .int, 2) := by decide +kernel
theorem dM_init_33 : decode bM_init 33 = .ok (.putfield 19, 3) := by decide +kernel
theorem dM_init_36 : decode bM_init 36 = .ok (.aload_n 0, 1) := by decide +kernel
theorem dM_init_37 : decode bM_init 37 = .ok (.bipush 16, 2) := by decide +kernel
theorem dM_init_39 : decode bM_init 39 = .ok (.newarray .int, 2) := by decide +kernel
theorem dM_init_41 : decode bM_init 41 = .ok (.putfield 22, 3) := by decide +kernel
theorem dM_init_44 : decode bM_init 44 = .ok (.aload_n 0, 1) := by decide +kernel
theorem dM_init_45 : decode bM_init 45 = .ok (.bipush 16, 2) := by decide +kernel
theorem dM_init_47 : decode bM_init 47 = .ok (.newarray .int, 2) := by decide +kernel
theorem dM_init_49 : decode bM_init 49 = .ok (.putfield 25, 3) := by decide +kernel
theorem dM_init_52 : decode bM_init 52 = .ok (.aload_n 0, 1) := by decide +kernel
theorem dM_init_53 : decode bM_init 53 = .ok (.bipush 16, 2) := by decide +kernel
theorem dM_init_55 : decode bM_init 55 = .ok (.newarray .boolean, 2) := by decide +kernel
theorem dM_init_57 : decode bM_init 57 = .ok (.putfield 28, 3) := by decide +kernel
theorem dM_init_60 : decode bM_init 60 = .ok (.aload_n 0, 1) := by decide +kernel
theorem dM_init_61 : decode bM_init 61 = .ok (.iconst 4, 1) := by decide +kernel
theorem dM_init_62 : decode bM_init 62 = .ok (.newarray .int, 2) := by decide +kernel
theorem dM_init_64 : decode bM_init 64 = .ok (.putfield 32, 3) := by decide +kernel
theorem dM_init_67 : decode bM_init 67 = .ok (.aload_n 0, 1) := by decide +kernel
theorem dM_init_68 : decode bM_init 68 = .ok (.iconst 4, 1) := by decide +kernel
theorem dM_init_69 : decode bM_init 69 = .ok (.newarray .int, 2) := by decide +kernel
theorem dM_init_71 : decode bM_init 71 = .ok (.putfield 35, 3) := by decide +kernel
theorem dM_init_74 : decode bM_init 74 = .ok (.aload_n 0, 1) := by decide +kernel
theorem dM_init_75 : decode bM_init 75 = .ok (.bipush 16, 2) := by decide +kernel
theorem dM_init_77 : decode bM_init 77 = .ok (.newarray .int, 2) := by decide +kernel
theorem dM_init_79 : decode bM_init 79 = .ok (.putfield 38, 3) := by decide +kernel
theorem dM_init_82 : decode bM_init 82 = .ok (.aload_n 0, 1) := by decide +kernel
theorem dM_init_83 : decode bM_init 83 = .ok (.iconst (-1), 1) := by decide +kernel
theorem dM_init_84 : decode bM_init 84 = .ok (.putfield 41, 3) := by decide +kernel
theorem dM_init_87 : decode bM_init 87 = .ok (.aload_n 0, 1) := by decide +kernel
theorem dM_init_88 : decode bM_init 88 = .ok (.iload_n 1, 1) := by decide +kernel
theorem dM_init_89 : decode bM_init 89 = .ok (.iconst 4, 1) := by decide +kernel
theorem dM_init_90 : decode bM_init 90 = .ok (.if_icmp .ge 7, 3) := by decide +kernel
theorem dM_init_93 : decode bM_init 93 = .ok (.iconst 4, 1) := by decide +kernel
theorem dM_init_94 : decode bM_init 94 = .ok (.goto 15, 3) := by decide +kernel
theorem dM_init_97 : decode bM_init 97 = .ok (.iload_n 1, 1) := by decide +kernel
theorem dM_init_98 : decode bM_init 98 = .ok (.bipush 24, 2) := by decide +kernel
theorem dM_init_100 : decode bM_init 100 = .ok (.if_icmp .le 8, 3) := by decide +kernel
theorem dM_init_103 : decode bM_init 103 = .ok (.bipush 24, 2) := by decide +kernel
theorem dM_init_105 : decode bM_init 105 = .ok (.goto 4, 3) := by decide +kernel
theorem dM_init_108 : decode bM_init 108 = .ok (.iload_n 1, 1) := by decide +kernel
theorem dM_init_109 : decode bM_init 109 = .ok (.putfield 45, 3) := by decide +kernel
theorem dM_init_112 : decode bM_init 112 = .ok (.aload_n 0, 1) := by decide +kernel
theorem dM_init_113 : decode bM_init 113 = .ok (.iload_n 2, 1) := by decide +kernel
theorem dM_init_114 : decode bM_init 114 = .ok (.iconst 4, 1) := by decide +kernel
theorem dM_init_115 : decode bM_init 115 = .ok (.if_icmp .ge 7, 3) := by decide +kernel
theorem dM_init_118 : decode bM_init 118 = .ok (.iconst 4, 1) := by decide +kernel
theorem dM_init_119 : decode bM_init 119 = .ok (.goto 15, 3) := by decide +kernel
theorem dM_init_122 : decode bM_init 122 = .ok (.iload_n 2, 1) := by decide +kernel
theorem dM_init_123 : decode bM_init 123 = .ok (.bipush 20, 2) := by decide +kernel
theorem dM_init_125 : decode bM_init 125 = .ok (.if_icmp .le 8, 3) := by decide +kernel
theorem dM_init_128 : decode bM_init 128 = .ok (.bipush 20, 2) := by decide +kernel
theorem dM_init_130 : decode bM_init 130 = .ok (.goto 4, 3) := by decide +kernel
theorem dM_init_133 : decode bM_init 133 = .ok (.iload_n 2, 1) := by decide +kernel
theorem dM_init_134 : decode bM_init 134 = .ok (.putfield 48, 3) := by decide +kernel
theorem dM_init_137 : decode bM_init 137 = .ok (.return_, 1) := by decide +kernel
theorem dM_in_0 : decode bM_in 0 = .ok (.iload_n 0, 1) := by decide +kernel
theorem dM_in_1 : decode bM_in 1 = .ok (.ifCond .lt 12, 3) := by decide +kernel
theorem dM_in_4 : decode bM_in 4 = .ok (.iload_n 0, 1) := by decide +kernel
theorem dM_in_5 : decode bM_in 5 = .ok (.iload_n 1, 1) := by decide +kernel
theorem dM_in_6 : decode bM_in 6 = .ok (.if_icmp .ge 7, 3) := by decide +kernel
theorem dM_in_9 : decode bM_in 9 = .ok (.iconst 1, 1) := by decide +kernel
theorem dM_in_10 : decode bM_in 10 = .ok (.goto 4, 3) := by decide +kernel
theorem dM_in_13 : decode bM_in 13 = .ok (.iconst 0, 1) := by decide +kernel
theorem dM_in_14 : decode bM_in 14 = .ok (.ireturn, 1) := by decide +kernel
theorem dM_there_0 : decode bM_there 0 = .ok (.iload_n 1, 1) := by decide +kernel
theorem dM_there_1 : decode bM_there 1 = .ok (.bipush 16, 2) := by decide +kernel
theorem dM_there_3 : decode bM_there 3 = .ok (.invokestatic 51, 3) := by decide +kernel
theorem dM_there_6 : decode bM_there 6 = .ok (.ifCond .eq 16, 3) := by decide +kernel
theorem dM_there_9 : decode bM_there 9 = .ok (.aload_n 0, 1) := by decide +kernel
theorem dM_there_10 : decode bM_there 10 = .ok (.getfield 7, 3) := by decide +kernel
theorem dM_there_13 : decode bM_there 13 = .ok (.iload_n 1, 1) := by decide +kernel
theorem dM_there_14 : decode bM_there 14 = .ok (.iaload, 1) := by decide +kernel
theorem dM_there_15 : decode bM_there 15 = .ok (.ifCond .eq 7, 3) := by decide +kernel
theorem dM_there_18 : decode bM_there 18 = .ok (.iconst 1, 1) := by decide +kernel
theorem dM_there_19 : decode bM_there 19 = .ok (.goto 4, 3) := by decide +kernel
theorem dM_there_22 : decode bM_there 22 = .ok (.iconst 0, 1) := by decide +kernel
theorem dM_there_23 : decode bM_there 23 = .ok (.ireturn, 1) := by decide +kernel
theorem dM_taken_0 : decode bM_taken 0 = .ok (.iconst 0, 1) := by decide +kernel
theorem dM_taken_1 : decode bM_taken 1 = .ok (.istore_n 1, 1) := by decide +kernel
theorem dM_taken_2 : decode bM_taken 2 = .ok (.iconst 0, 1) := by decide +kernel
theorem dM_taken_3 : decode bM_taken 3 = .ok (.istore_n 2, 1) := by decide +kernel
theorem dM_taken_4 : decode bM_taken 4 = .ok (.iload_n 2, 1) := by decide +kernel
theorem dM_taken_5 : decode bM_taken 5 = .ok (.bipush 16, 2) := by decide +kernel
theorem dM_taken_7 : decode bM_taken 7 = .ok (.if_icmp .ge 38, 3) := by decide +kernel
theorem dM_taken_10 : decode bM_taken 10 = .ok (.aload_n 0, 1) := by decide +kernel
theorem dM_taken_11 : decode bM_taken 11 = .ok (.getfield 7, 3) := by decide +kernel
theorem dM_taken_14 : decode bM_taken 14 = .ok (.iload_n 2, 1) := by decide +kernel
theorem dM_taken_15 : decode bM_taken 15 = .ok (.iaload, 1) := by decide +kernel
theorem dM_taken_16 : decode bM_taken 16 = .ok (.iconst 1, 1) := by decide +kernel
theorem dM_taken_17 : decode bM_taken 17 = .ok (.if_icmp .eq 13, 3) := by decide +kernel
theorem dM_taken_20 : decode bM_taken 20 = .ok (.aload_n 0, 1) := by decide +kernel
theorem dM_taken_21 : decode bM_taken 21 = .ok (.getfield 7, 3) := by decide +kernel
theorem dM_taken_24 : decode bM_taken 24 = .ok (.iload_n 2, 1) := by decide +kernel
theorem dM_taken_25 : decode bM_taken 25 = .ok (.iaload, 1) := by decide +kernel
theorem dM_taken_26 : decode bM_taken 26 = .ok (.iconst 2, 1) := by decide +kernel
theorem dM_taken_27 : decode bM_taken 27 = .ok (.if_icmp .ne 12, 3) := by decide +kernel
theorem dM_taken_30 : decode bM_taken 30 = .ok (.iload_n 1, 1) := by decide +kernel
theorem dM_taken_31 : decode bM_taken 31 = .ok (.aload_n 0, 1) := by decide +kernel
theorem dM_taken_32 : decode bM_taken 32 = .ok (.getfield 13, 3) := by decide +kernel
theorem dM_taken_35 : decode bM_taken 35 = .ok (.iload_n 2, 1) := by decide +kernel
theorem dM_taken_36 : decode bM_taken 36 = .ok (.iaload, 1) := by decide +kernel
theorem dM_taken_37 : decode bM_taken 37 = .ok (.iadd, 1) := by decide +kernel
theorem dM_taken_38 : decode bM_taken 38 = .ok (.istore_n 1, 1) := by decide +kernel
theorem dM_taken_39 : decode bM_taken 39 = .ok (.iinc 2 1, 3) := by decide +kernel
theorem dM_taken_42 : decode bM_taken 42 = .ok (.goto (-38), 3) := by decide +kernel
theorem dM_taken_45 : decode bM_taken 45 = .ok (.iload_n 1, 1) := by decide +kernel
theorem dM_taken_46 : decode bM_taken 46 = .ok (.ireturn, 1) := by decide +kernel
theorem dM_use_0 : decode bM_use 0 = .ok (.aload_n 0, 1) := by decide +kernel
theorem dM_use_1 : decode bM_use 1 = .ok (.dup, 1) := by decide +kernel
theorem dM_use_2 : decode bM_use 2 = .ok (.getfield 55, 3) := by decide +kernel
theorem dM_use_5 : decode bM_use 5 = .ok (.iconst 1, 1) := by decide +kernel
theorem dM_use_6 : decode bM_use 6 = .ok (.iadd, 1) := by decide +kernel
theorem dM_use_7 : decode bM_use 7 = .ok (.putfield 55, 3) := by decide +kernel
theorem dM_use_10 : decode bM_use 10 = .ok (.aload_n 0, 1) := by decide +kernel
theorem dM_use_11 : decode bM_use 11 = .ok (.getfield 19, 3) := by decide +kernel
theorem dM_use_14 : decode bM_use 14 = .ok (.iload_n 1, 1) := by decide +kernel
theorem dM_use_15 : decode bM_use 15 = .ok (.aload_n 0, 1) := by decide +kernel
theorem dM_use_16 : decode bM_use 16 = .ok (.getfield 55, 3) := by decide +kernel
theorem dM_use_19 : decode bM_use 19 = .ok (.iastore, 1) := by decide +kernel
theorem dM_use_20 : decode bM_use 20 = .ok (.return_, 1) := by decide +kernel
theorem dM_oldest_0 : decode bM_oldest 0 = .ok (.iconst (-1), 1) := by decide +kernel
theorem dM_oldest_1 : decode bM_oldest 1 = .ok (.istore_n 2, 1) := by decide +kernel
theorem dM_oldest_2 : decode bM_oldest 2 = .ok (.iconst 0, 1) := by decide +kernel
theorem dM_oldest_3 : decode bM_oldest 3 = .ok (.istore_n 3, 1) := by decide +kernel
theorem dM_oldest_4 : decode bM_oldest 4 = .ok (.iload_n 3, 1) := by decide +kernel
theorem dM_oldest_5 : decode bM_oldest 5 = .ok (.bipush 16, 2) := by decide +kernel
theorem dM_oldest_7 : decode bM_oldest 7 = .ok (.if_icmp .ge 40, 3) := by decide +kernel
theorem dM_oldest_10 : decode bM_oldest 10 = .ok (.aload_n 0, 1) := by decide +kernel
theorem dM_oldest_11 : decode bM_oldest 11 = .ok (.getfield 7, 3) := by decide +kernel
theorem dM_oldest_14 : decode bM_oldest 14 = .ok (.iload_n 3, 1) := by decide +kernel
theorem dM_oldest_15 : decode bM_oldest 15 = .ok (.iaload, 1) := by decide +kernel
theorem dM_oldest_16 : decode bM_oldest 16 = .ok (.iload_n 1, 1) := by decide +kernel
theorem dM_oldest_17 : decode bM_oldest 17 = .ok (.if_icmp .ne 24, 3) := by decide +kernel
theorem dM_oldest_20 : decode bM_oldest 20 = .ok (.iload_n 2, 1) := by decide +kernel
theorem dM_oldest_21 : decode bM_oldest 21 = .ok (.ifCond .lt 18, 3) := by decide +kernel
theorem dM_oldest_24 : decode bM_oldest 24 = .ok (.aload_n 0, 1) := by decide +kernel
theorem dM_oldest_25 : decode bM_oldest 25 = .ok (.getfield 19, 3) := by decide +kernel
theorem dM_oldest_28 : decode bM_oldest 28 = .ok (.iload_n 3, 1) := by decide +kernel
theorem dM_oldest_29 : decode bM_oldest 29 = .ok (.iaload, 1) := by decide +kernel
theorem dM_oldest_30 : decode bM_oldest 30 = .ok (.aload_n 0, 1) := by decide +kernel
theorem dM_oldest_31 : decode bM_oldest 31 = .ok (.getfield 19, 3) := by decide +kernel
theorem dM_oldest_34 : decode bM_oldest 34 = .ok (.iload_n 2, 1) := by decide +kernel
theorem dM_oldest_35 : decode bM_oldest 35 = .ok (.iaload, 1) := by decide +kernel
theorem dM_oldest_36 : decode bM_oldest 36 = .ok (.if_icmp .ge 5, 3) := by decide +kernel
theorem dM_oldest_39 : decode bM_oldest 39 = .ok (.iload_n 3, 1) := by decide +kernel
theorem dM_oldest_40 : decode bM_oldest 40 = .ok (.istore_n 2, 1) := by decide +kernel
theorem dM_oldest_41 : decode bM_oldest 41 = .ok (.iinc 3 1, 3) := by decide +kernel
theorem dM_oldest_44 : decode bM_oldest 44 = .ok (.goto (-40), 3) := by decide +kernel
theorem dM_oldest_47 : decode bM_oldest 47 = .ok (.iload_n 2, 1) := by decide +kernel
theorem dM_oldest_48 : decode bM_oldest 48 = .ok (.ireturn, 1) := by decide +kernel
theorem dM_makeRoom_0 : decode bM_makeRoom 0 = .ok (.iconst 0, 1) := by decide +kernel
theorem dM_makeRoom_1 : decode bM_makeRoom 1 = .ok (.istore_n 2, 1) := by decide +kernel
theorem dM_makeRoom_2 : decode bM_makeRoom 2 = .ok (.iload_n 2, 1) := by decide +kernel
theorem dM_makeRoom_3 : decode bM_makeRoom 3 = .ok (.bipush 16, 2) := by decide +kernel
theorem dM_makeRoom_5 : decode bM_makeRoom 5 = .ok (.if_icmp .ge 39, 3) := by decide +kernel
theorem dM_makeRoom_8 : decode bM_makeRoom 8 = .ok (.aload_n 0, 1) := by decide +kernel
theorem dM_makeRoom_9 : decode bM_makeRoom 9 = .ok (.getfield 45, 3) := by decide +kernel
theorem dM_makeRoom_12 : decode bM_makeRoom 12 = .ok (.aload_n 0, 1) := by decide +kernel
theorem dM_makeRoom_13 : decode bM_makeRoom 13 = .ok (.invokevirtual 58, 3) := by decide +kernel
theorem dM_makeRoom_16 : decode bM_makeRoom 16 = .ok (.isub, 1) := by decide +kernel
theorem dM_makeRoom_17 : decode bM_makeRoom 17 = .ok (.iload_n 1, 1) := by decide +kernel
theorem dM_makeRoom_18 : decode bM_makeRoom 18 = .ok (.if_icmp .ge 26, 3) := by decide +kernel
theorem dM_makeRoom_21 : decode bM_makeRoom 21 = .ok (.aload_n 0, 1) := by decide +kernel
theorem dM_makeRoom_22 : decode bM_makeRoom 22 = .ok (.iconst 2, 1) := by decide +kernel
theorem dM_makeRoom_23 : decode bM_makeRoom 23 = .ok (.invokevirtual 62, 3) := by decide +kernel
theorem dM_makeRoom_26 : decode bM_makeRoom 26 = .ok (.istore_n 3, 1) := by decide +kernel
theorem dM_makeRoom_27 : decode bM_makeRoom 27 = .ok (.iload_n 3, 1) := by decide +kernel
theorem dM_makeRoom_28 : decode bM_makeRoom 28 = .ok (.ifCond .lt 10, 3) := by decide +kernel
theorem dM_makeRoom_31 : decode bM_makeRoom 31 = .ok (.aload_n 0, 1) := by decide +kernel
theorem dM_makeRoom_32 : decode bM_makeRoom 32 = .ok (.getfield 7, 3) := by decide +kernel
theorem dM_makeRoom_35 : decode bM_makeRoom 35 = .ok (.iload_n 3, 1) := by decide +kernel
theorem dM_makeRoom_36 : decode bM_makeRoom 36 = .ok (.iconst 3, 1) := by decide +kernel
theorem dM_makeRoom_37 : decode bM_makeRoom 37 = .ok (.iastore, 1) := by decide +kernel
theorem dM_makeRoom_38 : decode bM_makeRoom 38 = .ok (.iinc 2 1, 3) := by decide +kernel
theorem dM_makeRoom_41 : decode bM_makeRoom 41 = .ok (.goto (-39), 3) := by decide +kernel
theorem dM_makeRoom_44 : decode bM_makeRoom 44 = .ok (.aload_n 0, 1) := by decide +kernel
theorem dM_makeRoom_45 : decode bM_makeRoom 45 = .ok (.getfield 45, 3) := by decide +kernel
theorem dM_makeRoom_48 : decode bM_makeRoom 48 = .ok (.aload_n 0, 1) := by decide +kernel
theorem dM_makeRoom_49 : decode bM_makeRoom 49 = .ok (.invokevirtual 58, 3) := by decide +kernel
theorem dM_makeRoom_52 : decode bM_makeRoom 52 = .ok (.isub, 1) := by decide +kernel
theorem dM_makeRoom_53 : decode bM_makeRoom 53 = .ok (.iload_n 1, 1) := by decide +kernel
theorem dM_makeRoom_54 : decode bM_makeRoom 54 = .ok (.if_icmp .lt 7, 3) := by decide +kernel
theorem dM_makeRoom_57 : decode bM_makeRoom 57 = .ok (.iconst 1, 1) := by decide +kernel
theorem dM_makeRoom_58 : decode bM_makeRoom 58 = .ok (.goto 4, 3) := by decide +kernel
theorem dM_makeRoom_61 : decode bM_makeRoom 61 = .ok (.iconst 0, 1) := by decide +kernel
theorem dM_makeRoom_62 : decode bM_makeRoom 62 = .ok (.ireturn, 1) := by decide +kernel
theorem dM_move_0 : decode bM_move 0 = .ok (.aload_n 0, 1) := by decide +kernel
theorem dM_move_1 : decode bM_move 1 = .ok (.getfield 41, 3) := by decide +kernel
theorem dM_move_4 : decode bM_move 4 = .ok (.iload_n 1, 1) := by decide +kernel
theorem dM_move_5 : decode bM_move 5 = .ok (.if_icmp .eq 24, 3) := by decide +kernel
theorem dM_move_8 : decode bM_move 8 = .ok (.aload_n 0, 1) := by decide +kernel
theorem dM_move_9 : decode bM_move 9 = .ok (.dup, 1) := by decide +kernel
theorem dM_move_10 : decode bM_move 10 = .ok (.getfield 66, 3) := by decide +kernel
theorem dM_move_13 : decode bM_move 13 = .ok (.bipush 20, 2) := by decide +kernel
theorem dM_move_15 : decode bM_move 15 = .ok (.iadd, 1) := by decide +kernel
theorem dM_move_16 : decode bM_move 16 = .ok (.putfield 66, 3) := by decide +kernel
theorem dM_move_19 : decode bM_move 19 = .ok (.aload_n 0, 1) := by decide +kernel
theorem dM_move_20 : decode bM_move 20 = .ok (.iload_n 1, 1) := by decide +kernel
theorem dM_move_21 : decode bM_move 21 = .ok (.putfield 41, 3) := by decide +kernel
theorem dM_move_24 : decode bM_move 24 = .ok (.aload_n 0, 1) := by decide +kernel
theorem dM_move_25 : decode bM_move 25 = .ok (.iconst 0, 1) := by decide +kernel
theorem dM_move_26 : decode bM_move 26 = .ok (.putfield 69, 3) := by decide +kernel
theorem dM_move_29 : decode bM_move 29 = .ok (.aload_n 0, 1) := by decide +kernel
theorem dM_move_30 : decode bM_move 30 = .ok (.dup, 1) := by decide +kernel
theorem dM_move_31 : decode bM_move 31 = .ok (.getfield 66, 3) := by decide +kernel
theorem dM_move_34 : decode bM_move 34 = .ok (.aload_n 0, 1) := by decide +kernel
theorem dM_move_35 : decode bM_move 35 = .ok (.getfield 69, 3) := by decide +kernel
theorem dM_move_38 : decode bM_move 38 = .ok (.iload_n 2, 1) := by decide +kernel
theorem dM_move_39 : decode bM_move 39 = .ok (.if_icmp .ge 12, 3) := by decide +kernel
theorem dM_move_42 : decode bM_move 42 = .ok (.iload_n 2, 1) := by decide +kernel
theorem dM_move_43 : decode bM_move 43 = .ok (.aload_n 0, 1) := by decide +kernel
theorem dM_move_44 : decode bM_move 44 = .ok (.getfield 69, 3) := by decide +kernel
theorem dM_move_47 : decode bM_move 47 = .ok (.isub, 1) := by decide +kernel
theorem dM_move_48 : decode bM_move 48 = .ok (.goto 9, 3) := by decide +kernel
theorem dM_move_51 : decode bM_move 51 = .ok (.aload_n 0, 1) := by decide +kernel
theorem dM_move_52 : decode bM_move 52 = .ok (.getfield 69, 3) := by decide +kernel
theorem dM_move_55 : decode bM_move 55 = .ok (.iload_n 2, 1) := by decide +kernel
theorem dM_move_56 : decode bM_move 56 = .ok (.isub, 1) := by decide +kernel
theorem dM_move_57 : decode bM_move 57 = .ok (.iadd, 1) := by decide +kernel
theorem dM_move_58 : decode bM_move 58 = .ok (.putfield 66, 3) := by decide +kernel
theorem dM_move_61 : decode bM_move 61 = .ok (.aload_n 0, 1) := by decide +kernel
theorem dM_move_62 : decode bM_move 62 = .ok (.dup, 1) := by decide +kernel
theorem dM_move_63 : decode bM_move 63 = .ok (.getfield 66, 3) := by decide +kernel
theorem dM_move_66 : decode bM_move 66 = .ok (.iload_n 3, 1) := by decide +kernel
theorem dM_move_67 : decode bM_move 67 = .ok (.iadd, 1) := by decide +kernel
theorem dM_move_68 : decode bM_move 68 = .ok (.putfield 66, 3) := by decide +kernel
theorem dM_move_71 : decode bM_move 71 = .ok (.aload_n 0, 1) := by decide +kernel
theorem dM_move_72 : decode bM_move 72 = .ok (.iload_n 2, 1) := by decide +kernel
theorem dM_move_73 : decode bM_move 73 = .ok (.iload_n 3, 1) := by decide +kernel
theorem dM_move_74 : decode bM_move 74 = .ok (.iadd, 1) := by decide +kernel
theorem dM_move_75 : decode bM_move 75 = .ok (.putfield 69, 3) := by decide +kernel
theorem dM_move_78 : decode bM_move 78 = .ok (.return_, 1) := by decide +kernel
theorem dM_bringBack_0 : decode bM_bringBack 0 = .ok (.aload_n 0, 1) := by decide +kernel
theorem dM_bringBack_1 : decode bM_bringBack 1 = .ok (.aload_n 0, 1) := by decide +kernel
theorem dM_bringBack_2 : decode bM_bringBack 2 = .ok (.getfield 13, 3) := by decide +kernel
theorem dM_bringBack_5 : decode bM_bringBack 5 = .ok (.iload_n 1, 1) := by decide +kernel
theorem dM_bringBack_6 : decode bM_bringBack 6 = .ok (.iaload, 1) := by decide +kernel
theorem dM_bringBack_7 : decode bM_bringBack 7 = .ok (.invokevirtual 72, 3) := by decide +kernel
theorem dM_bringBack_10 : decode bM_bringBack 10 = .ok (.ifCond .ne 5, 3) := by decide +kernel
theorem dM_bringBack_13 : decode bM_bringBack 13 = .ok (.iconst 0, 1) := by decide +kernel
theorem dM_bringBack_14 : decode bM_bringBack 14 = .ok (.ireturn, 1) := by decide +kernel
theorem dM_bringBack_15 : decode bM_bringBack 15 = .ok (.aload_n 0, 1) := by decide +kernel
theorem dM_bringBack_16 : decode bM_bringBack 16 = .ok (.aload_n 0, 1) := by decide +kernel
theorem dM_bringBack_17 : decode bM_bringBack 17 = .ok (.getfield 22, 3) := by decide +kernel
theorem dM_bringBack_20 : decode bM_bringBack 20 = .ok (.iload_n 1, 1) := by decide +kernel
theorem dM_bringBack_21 : decode bM_bringBack 21 = .ok (.iaload, 1) := by decide +kernel
theorem dM_bringBack_22 : decode bM_bringBack 22 = .ok (.aload_n 0, 1) := by decide +kernel
theorem dM_bringBack_23 : decode bM_bringBack 23 = .ok (.getfield 25, 3) := by decide +kernel
theorem dM_bringBack_26 : decode bM_bringBack 26 = .ok (.iload_n 1, 1) := by decide +kernel
theorem dM_bringBack_27 : decode bM_bringBack 27 = .ok (.iaload, 1) := by decide +kernel
theorem dM_bringBack_28 : decode bM_bringBack 28 = .ok (.aload_n 0, 1) := by decide +kernel
theorem dM_bringBack_29 : decode bM_bringBack 29 = .ok (.getfield 13, 3) := by decide +kernel
theorem dM_bringBack_32 : decode bM_bringBack 32 = .ok (.iload_n 1, 1) := by decide +kernel
theorem dM_bringBack_33 : decode bM_bringBack 33 = .ok (.iaload, 1) := by decide +kernel
theorem dM_bringBack_34 : decode bM_bringBack 34 = .ok (.invokevirtual 76, 3) := by decide +kernel
theorem dM_bringBack_37 : decode bM_bringBack 37 = .ok (.aload_n 0, 1) := by decide +kernel
theorem dM_bringBack_38 : decode bM_bringBack 38 = .ok (.getfield 7, 3) := by decide +kernel
theorem dM_bringBack_41 : decode bM_bringBack 41 = .ok (.iload_n 1, 1) := by decide +kernel
theorem dM_bringBack_42 : decode bM_bringBack 42 = .ok (.iconst 2, 1) := by decide +kernel
theorem dM_bringBack_43 : decode bM_bringBack 43 = .ok (.iastore, 1) := by decide +kernel
theorem dM_bringBack_44 : decode bM_bringBack 44 = .ok (.aload_n 0, 1) := by decide +kernel
theorem dM_bringBack_45 : decode bM_bringBack 45 = .ok (.iload_n 1, 1) := by decide +kernel
theorem dM_bringBack_46 : decode bM_bringBack 46 = .ok (.invokevirtual 80, 3) := by decide +kernel
theorem dM_bringBack_49 : decode bM_bringBack 49 = .ok (.iconst 1, 1) := by decide +kernel
theorem dM_bringBack_50 : decode bM_bringBack 50 = .ok (.ireturn, 1) := by decide +kernel
theorem dM_copy_0 : decode bM_copy 0 = .ok (.iconst (-1), 1) := by decide +kernel
theorem dM_copy_1 : decode bM_copy 1 = .ok (.istore_n 3, 1) := by decide +kernel
theorem dM_copy_2 : decode bM_copy 2 = .ok (.iconst 3, 1) := by decide +kernel
theorem dM_copy_3 : decode bM_copy 3 = .ok (.istore 4, 2) := by decide +kernel
theorem dM_copy_5 : decode bM_copy 5 = .ok (.iload 4, 2) := by decide +kernel
theorem dM_copy_7 : decode bM_copy 7 = .ok (.ifCond .lt 48, 3) := by decide +kernel
theorem dM_copy_10 : decode bM_copy 10 = .ok (.iload 4, 2) := by decide +kernel
theorem dM_copy_12 : decode bM_copy 12 = .ok (.iload_n 2, 1) := by decide +kernel
theorem dM_copy_13 : decode bM_copy 13 = .ok (.if_icmp .eq 36, 3) := by decide +kernel
theorem dM_copy_16 : decode bM_copy 16 = .ok (.iload 4, 2) := by decide +kernel
theorem dM_copy_18 : decode bM_copy 18 = .ok (.aload_n 0, 1) := by decide +kernel
theorem dM_copy_19 : decode bM_copy 19 = .ok (.getfield 41, 3) := by decide +kernel
theorem dM_copy_22 : decode bM_copy 22 = .ok (.if_icmp .eq 27, 3) := by decide +kernel
theorem dM_copy_25 : decode bM_copy 25 = .ok (.aload_n 0, 1) := by decide +kernel
theorem dM_copy_26 : decode bM_copy 26 = .ok (.getfield 32, 3) := by decide +kernel
theorem dM_copy_29 : decode bM_copy 29 = .ok (.iload 4, 2) := by decide +kernel
theorem dM_copy_31 : decode bM_copy 31 = .ok (.iaload, 1) := by decide +kernel
theorem dM_copy_32 : decode bM_copy 32 = .ok (.aload_n 0, 1) := by decide +kernel
theorem dM_copy_33 : decode bM_copy 33 = .ok (.getfield 13, 3) := by decide +kernel
theorem dM_copy_36 : decode bM_copy 36 = .ok (.iload_n 1, 1) := by decide +kernel
theorem dM_copy_37 : decode bM_copy 37 = .ok (.iaload, 1) := by decide +kernel
theorem dM_copy_38 : decode bM_copy 38 = .ok (.iadd, 1) := by decide +kernel
theorem dM_copy_39 : decode bM_copy 39 = .ok (.aload_n 0, 1) := by decide +kernel
theorem dM_copy_40 : decode bM_copy 40 = .ok (.getfield 48, 3) := by decide +kernel
theorem dM_copy_43 : decode bM_copy 43 = .ok (.if_icmp .gt 6, 3) := by decide +kernel
theorem dM_copy_46 : decode bM_copy 46 = .ok (.iload 4, 2) := by decide +kernel
theorem dM_copy_48 : decode bM_copy 48 = .ok (.istore_n 3, 1) := by decide +kernel
theorem dM_copy_49 : decode bM_copy 49 = .ok (.iinc 4 (-1), 3) := by decide +kernel
theorem dM_copy_52 : decode bM_copy 52 = .ok (.goto (-47), 3) := by decide +kernel
theorem dM_copy_55 : decode bM_copy 55 = .ok (.aload_n 0, 1) := by decide +kernel
theorem dM_copy_56 : decode bM_copy 56 = .ok (.getfield 41, 3) := by decide +kernel
theorem dM_copy_59 : decode bM_copy 59 = .ok (.ifCond .lt 39, 3) := by decide +kernel
theorem dM_copy_62 : decode bM_copy 62 = .ok (.aload_n 0, 1) := by decide +kernel
theorem dM_copy_63 : decode bM_copy 63 = .ok (.getfield 41, 3) := by decide +kernel
theorem dM_copy_66 : decode bM_copy 66 = .ok (.iload_n 2, 1) := by decide +kernel
theorem dM_copy_67 : decode bM_copy 67 = .ok (.if_icmp .eq 31, 3) := by decide +kernel
theorem dM_copy_70 : decode bM_copy 70 = .ok (.aload_n 0, 1) := by decide +kernel
theorem dM_copy_71 : decode bM_copy 71 = .ok (.getfield 32, 3) := by decide +kernel
theorem dM_copy_74 : decode bM_copy 74 = .ok (.aload_n 0, 1) := by decide +kernel
theorem dM_copy_75 : decode bM_copy 75 = .ok (.getfield 41, 3) := by decide +kernel
theorem dM_copy_78 : decode bM_copy 78 = .ok (.iaload, 1) := by decide +kernel
theorem dM_copy_79 : decode bM_copy 79 = .ok (.aload_n 0, 1) := by decide +kernel
theorem dM_copy_80 : decode bM_copy 80 = .ok (.getfield 13, 3) := by decide +kernel
theorem dM_copy_83 : decode bM_copy 83 = .ok (.iload_n 1, 1) := by decide +kernel
theorem dM_copy_84 : decode bM_copy 84 = .ok (.iaload, 1) := by decide +kernel
theorem dM_copy_85 : decode bM_copy 85 = .ok (.iadd, 1) := by decide +kernel
theorem dM_copy_86 : decode bM_copy 86 = .ok (.aload_n 0, 1) := by decide +kernel
theorem dM_copy_87 : decode bM_copy 87 = .ok (.getfield 48, 3) := by decide +kernel
theorem dM_copy_90 : decode bM_copy 90 = .ok (.if_icmp .gt 8, 3) := by decide +kernel
theorem dM_copy_93 : decode bM_copy 93 = .ok (.aload_n 0, 1) := by decide +kernel
theorem dM_copy_94 : decode bM_copy 94 = .ok (.getfield 41, 3) := by decide +kernel
theorem dM_copy_97 : decode bM_copy 97 = .ok (.istore_n 3, 1) := by decide +kernel
theorem dM_copy_98 : decode bM_copy 98 = .ok (.iload_n 3, 1) := by decide +kernel
theorem dM_copy_99 : decode bM_copy 99 = .ok (.ifCond .ge 5, 3) := by decide +kernel
theorem dM_copy_102 : decode bM_copy 102 = .ok (.iconst 0, 1) := by decide +kernel
theorem dM_copy_103 : decode bM_copy 103 = .ok (.ireturn, 1) := by decide +kernel
theorem dM_copy_104 : decode bM_copy 104 = .ok (.aload_n 0, 1) := by decide +kernel
theorem dM_copy_105 : decode bM_copy 105 = .ok (.getfield 22, 3) := by decide +kernel
theorem dM_copy_108 : decode bM_copy 108 = .ok (.iload_n 1, 1) := by decide +kernel
theorem dM_copy_109 : decode bM_copy 109 = .ok (.iload_n 3, 1) := by decide +kernel
theorem dM_copy_110 : decode bM_copy 110 = .ok (.iastore, 1) := by decide +kernel
theorem dM_copy_111 : decode bM_copy 111 = .ok (.aload_n 0, 1) := by decide +kernel
theorem dM_copy_112 : decode bM_copy 112 = .ok (.getfield 25, 3) := by decide +kernel
theorem dM_copy_115 : decode bM_copy 115 = .ok (.iload_n 1, 1) := by decide +kernel
theorem dM_copy_116 : decode bM_copy 116 = .ok (.aload_n 0, 1) := by decide +kernel
theorem dM_copy_117 : decode bM_copy 117 = .ok (.getfield 32, 3) := by decide +kernel
theorem dM_copy_120 : decode bM_copy 120 = .ok (.iload_n 3, 1) := by decide +kernel
theorem dM_copy_121 : decode bM_copy 121 = .ok (.iaload, 1) := by decide +kernel
theorem dM_copy_122 : decode bM_copy 122 = .ok (.iastore, 1) := by decide +kernel
theorem dM_copy_123 : decode bM_copy 123 = .ok (.aload_n 0, 1) := by decide +kernel
theorem dM_copy_124 : decode bM_copy 124 = .ok (.getfield 32, 3) := by decide +kernel
theorem dM_copy_127 : decode bM_copy 127 = .ok (.iload_n 3, 1) := by decide +kernel
theorem dM_copy_128 : decode bM_copy 128 = .ok (.dup2, 1) := by decide +kernel
theorem dM_copy_129 : decode bM_copy 129 = .ok (.iaload, 1) := by decide +kernel
theorem dM_copy_130 : decode bM_copy 130 = .ok (.aload_n 0, 1) := by decide +kernel
theorem dM_copy_131 : decode bM_copy 131 = .ok (.getfield 13, 3) := by decide +kernel
theorem dM_copy_134 : decode bM_copy 134 = .ok (.iload_n 1, 1) := by decide +kernel
theorem dM_copy_135 : decode bM_copy 135 = .ok (.iaload, 1) := by decide +kernel
theorem dM_copy_136 : decode bM_copy 136 = .ok (.iadd, 1) := by decide +kernel
theorem dM_copy_137 : decode bM_copy 137 = .ok (.iastore, 1) := by decide +kernel
theorem dM_copy_138 : decode bM_copy 138 = .ok (.aload_n 0, 1) := by decide +kernel
theorem dM_copy_139 : decode bM_copy 139 = .ok (.iload_n 3, 1) := by decide +kernel
theorem dM_copy_140 : decode bM_copy 140 = .ok (.aload_n 0, 1) := by decide +kernel
theorem dM_copy_141 : decode bM_copy 141 = .ok (.getfield 25, 3) := by decide +kernel
theorem dM_copy_144 : decode bM_copy 144 = .ok (.iload_n 1, 1) := by decide +kernel
theorem dM_copy_145 : decode bM_copy 145 = .ok (.iaload, 1) := by decide +kernel
theorem dM_copy_146 : decode bM_copy 146 = .ok (.aload_n 0, 1) := by decide +kernel
theorem dM_copy_147 : decode bM_copy 147 = .ok (.getfield 13, 3) := by decide +kernel
theorem dM_copy_150 : decode bM_copy 150 = .ok (.iload_n 1, 1) := by decide +kernel
theorem dM_copy_151 : decode bM_copy 151 = .ok (.iaload, 1) := by decide +kernel
theorem dM_copy_152 : decode bM_copy 152 = .ok (.invokevirtual 76, 3) := by decide +kernel
theorem dM_copy_155 : decode bM_copy 155 = .ok (.iconst 1, 1) := by decide +kernel
theorem dM_copy_156 : decode bM_copy 156 = .ok (.ireturn, 1) := by decide +kernel
theorem dM_create_0 : decode bM_create 0 = .ok (.iload_n 1, 1) := by decide +kernel
theorem dM_create_1 : decode bM_create 1 = .ok (.bipush 16, 2) := by decide +kernel
theorem dM_create_3 : decode bM_create 3 = .ok (.invokestatic 51, 3) := by decide +kernel
theorem dM_create_6 : decode bM_create 6 = .ok (.ifCond .eq 22, 3) := by decide +kernel
theorem dM_create_9 : decode bM_create 9 = .ok (.iload_n 2, 1) := by decide +kernel
theorem dM_create_10 : decode bM_create 10 = .ok (.iconst 1, 1) := by decide +kernel
theorem dM_create_11 : decode bM_create 11 = .ok (.if_icmp .lt 17, 3) := by decide +kernel
theorem dM_create_14 : decode bM_create 14 = .ok (.iload_n 2, 1) := by decide +kernel
theorem dM_create_15 : decode bM_create 15 = .ok (.iconst 4, 1) := by decide +kernel
theorem dM_create_16 : decode bM_create 16 = .ok (.if_icmp .gt 12, 3) := by decide +kernel
theorem dM_create_19 : decode bM_create 19 = .ok (.aload_n 0, 1) := by decide +kernel
theorem dM_create_20 : decode bM_create 20 = .ok (.getfield 7, 3) := by decide +kernel
theorem dM_create_23 : decode bM_create 23 = .ok (.iload_n 1, 1) := by decide +kernel
theorem dM_create_24 : decode bM_create 24 = .ok (.iaload, 1) := by decide +kernel
theorem dM_create_25 : decode bM_create 25 = .ok (.ifCond .eq 5, 3) := by decide +kernel
theorem dM_create_28 : decode bM_create 28 = .ok (.iconst (-1), 1) := by decide +kernel
theorem dM_create_29 : decode bM_create 29 = .ok (.ireturn, 1) := by decide +kernel
theorem dM_create_30 : decode bM_create 30 = .ok (.aload_n 0, 1) := by decide +kernel
theorem dM_create_31 : decode bM_create 31 = .ok (.iload_n 2, 1) := by decide +kernel
theorem dM_create_32 : decode bM_create 32 = .ok (.invokevirtual 72, 3) := by decide +kernel
theorem dM_create_35 : decode bM_create 35 = .ok (.ifCond .ne 6, 3) := by decide +kernel
theorem dM_create_38 : decode bM_create 38 = .ok (.bipush (-2), 2) := by decide +kernel
theorem dM_create_40 : decode bM_create 40 = .ok (.ireturn, 1) := by decide +kernel
theorem dM_create_41 : decode bM_create 41 = .ok (.aload_n 0, 1) := by decide +kernel
theorem dM_create_42 : decode bM_create 42 = .ok (.getfield 7, 3) := by decide +kernel
theorem dM_create_45 : decode bM_create 45 = .ok (.iload_n 1, 1) := by decide +kernel
theorem dM_create_46 : decode bM_create 46 = .ok (.iconst 1, 1) := by decide +kernel
theorem dM_create_47 : decode bM_create 47 = .ok (.iastore, 1) := by decide +kernel
theorem dM_create_48 : decode bM_create 48 = .ok (.aload_n 0, 1) := by decide +kernel
theorem dM_create_49 : decode bM_create 49 = .ok (.getfield 13, 3) := by decide +kernel
theorem dM_create_52 : decode bM_create 52 = .ok (.iload_n 1, 1) := by decide +kernel
theorem dM_create_53 : decode bM_create 53 = .ok (.iload_n 2, 1) := by decide +kernel
theorem dM_create_54 : decode bM_create 54 = .ok (.iastore, 1) := by decide +kernel
theorem dM_create_55 : decode bM_create 55 = .ok (.iconst 0, 1) := by decide +kernel
theorem dM_create_56 : decode bM_create 56 = .ok (.istore_n 3, 1) := by decide +kernel
theorem dM_create_57 : decode bM_create 57 = .ok (.iload_n 3, 1) := by decide +kernel
theorem dM_create_58 : decode bM_create 58 = .ok (.iconst 4, 1) := by decide +kernel
theorem dM_create_59 : decode bM_create 59 = .ok (.if_icmp .ge 20, 3) := by decide +kernel
theorem dM_create_62 : decode bM_create 62 = .ok (.aload_n 0, 1) := by decide +kernel
theorem dM_create_63 : decode bM_create 63 = .ok (.getfield 16, 3) := by decide +kernel
theorem dM_create_66 : decode bM_create 66 = .ok (.iload_n 1, 1) := by decide +kernel
theorem dM_create_67 : decode bM_create 67 = .ok (.iconst 4, 1) := by decide +kernel
theorem dM_create_68 : decode bM_create 68 = .ok (.imul, 1) := by decide +kernel
theorem dM_create_69 : decode bM_create 69 = .ok (.iload_n 3, 1) := by decide +kernel
theorem dM_create_70 : decode bM_create 70 = .ok (.iadd, 1) := by decide +kernel
theorem dM_create_71 : decode bM_create 71 = .ok (.iconst 0, 1) := by decide +kernel
theorem dM_create_72 : decode bM_create 72 = .ok (.iastore, 1) := by decide +kernel
theorem dM_create_73 : decode bM_create 73 = .ok (.iinc 3 1, 3) := by decide +kernel
theorem dM_create_76 : decode bM_create 76 = .ok (.goto (-19), 3) := by decide +kernel
theorem dM_create_79 : decode bM_create 79 = .ok (.aload_n 0, 1) := by decide +kernel
theorem dM_create_80 : decode bM_create 80 = .ok (.iload_n 1, 1) := by decide +kernel
theorem dM_create_81 : decode bM_create 81 = .ok (.invokevirtual 80, 3) := by decide +kernel
theorem dM_create_84 : decode bM_create 84 = .ok (.iconst 0, 1) := by decide +kernel
theorem dM_create_85 : decode bM_create 85 = .ok (.ireturn, 1) := by decide +kernel
theorem dM_write_0 : decode bM_write 0 = .ok (.aload_n 0, 1) := by decide +kernel
theorem dM_write_1 : decode bM_write 1 = .ok (.iload_n 1, 1) := by decide +kernel
theorem dM_write_2 : decode bM_write 2 = .ok (.invokevirtual 84, 3) := by decide +kernel
theorem dM_write_5 : decode bM_write 5 = .ok (.ifCond .eq 16, 3) := by decide +kernel
theorem dM_write_8 : decode bM_write 8 = .ok (.iload_n 2, 1) := by decide +kernel
theorem dM_write_9 : decode bM_write 9 = .ok (.aload_n 0, 1) := by decide +kernel
theorem dM_write_10 : decode bM_write 10 = .ok (.getfield 13, 3) := by decide +kernel
theorem dM_write_13 : decode bM_write 13 = .ok (.iload_n 1, 1) := by decide +kernel
theorem dM_write_14 : decode bM_write 14 = .ok (.iaload, 1) := by decide +kernel
theorem dM_write_15 : decode bM_write 15 = .ok (.invokestatic 51, 3) := by decide +kernel
theorem dM_write_18 : decode bM_write 18 = .ok (.ifCond .ne 5, 3) := by decide +kernel
theorem dM_write_21 : decode bM_write 21 = .ok (.iconst (-1), 1) := by decide +kernel
theorem dM_write_22 : decode bM_write 22 = .ok (.ireturn, 1) := by decide +kernel
theorem dM_write_23 : decode bM_write 23 = .ok (.aload_n 0, 1) := by decide +kernel
theorem dM_write_24 : decode bM_write 24 = .ok (.getfield 7, 3) := by decide +kernel
theorem dM_write_27 : decode bM_write 27 = .ok (.iload_n 1, 1) := by decide +kernel
theorem dM_write_28 : decode bM_write 28 = .ok (.iaload, 1) := by decide +kernel
theorem dM_write_29 : decode bM_write 29 = .ok (.iconst 4, 1) := by decide +kernel
theorem dM_write_30 : decode bM_write 30 = .ok (.if_icmp .ne 6, 3) := by decide +kernel
theorem dM_write_33 : decode bM_write 33 = .ok (.bipush (-3), 2) := by decide +kernel
theorem dM_write_35 : decode bM_write 35 = .ok (.ireturn, 1) := by decide +kernel
theorem dM_write_36 : decode bM_write 36 = .ok (.aload_n 0, 1) := by decide +kernel
theorem dM_write_37 : decode bM_write 37 = .ok (.getfield 7, 3) := by decide +kernel
theorem dM_write_40 : decode bM_write 40 = .ok (.iload_n 1, 1) := by decide +kernel
theorem dM_write_41 : decode bM_write 41 = .ok (.iaload, 1) := by decide +kernel
theorem dM_write_42 : decode bM_write 42 = .ok (.iconst 3, 1) := by decide +kernel
theorem dM_write_43 : decode bM_write 43 = .ok (.if_icmp .ne 14, 3) := by decide +kernel
theorem dM_write_46 : decode bM_write 46 = .ok (.aload_n 0, 1) := by decide +kernel
theorem dM_write_47 : decode bM_write 47 = .ok (.iload_n 1, 1) := by decide +kernel
theorem dM_write_48 : decode bM_write 48 = .ok (.invokevirtual 87, 3) := by decide +kernel
theorem dM_write_51 : decode bM_write 51 = .ok (.ifCond .ne 6, 3) := by decide +kernel
theorem dM_write_54 : decode bM_write 54 = .ok (.bipush (-2), 2) := by decide +kernel
theorem dM_write_56 : decode bM_write 56 = .ok (.ireturn, 1) := by decide +kernel
theorem dM_write_57 : decode bM_write 57 = .ok (.aload_n 0, 1) := by decide +kernel
theorem dM_write_58 : decode bM_write 58 = .ok (.getfield 16, 3) := by decide +kernel
theorem dM_write_61 : decode bM_write 61 = .ok (.iload_n 1, 1) := by decide +kernel
theorem dM_write_62 : decode bM_write 62 = .ok (.iconst 4, 1) := by decide +kernel
theorem dM_write_63 : decode bM_write 63 = .ok (.imul, 1) := by decide +kernel
theorem dM_write_64 : decode bM_write 64 = .ok (.iload_n 2, 1) := by decide +kernel
theorem dM_write_65 : decode bM_write 65 = .ok (.iadd, 1) := by decide +kernel
theorem dM_write_66 : decode bM_write 66 = .ok (.iload_n 3, 1) := by decide +kernel
theorem dM_write_67 : decode bM_write 67 = .ok (.iastore, 1) := by decide +kernel
theorem dM_write_68 : decode bM_write 68 = .ok (.aload_n 0, 1) := by decide +kernel
theorem dM_write_69 : decode bM_write 69 = .ok (.getfield 7, 3) := by decide +kernel
theorem dM_write_72 : decode bM_write 72 = .ok (.iload_n 1, 1) := by decide +kernel
theorem dM_write_73 : decode bM_write 73 = .ok (.iconst 1, 1) := by decide +kernel
theorem dM_write_74 : decode bM_write 74 = .ok (.iastore, 1) := by decide +kernel
theorem dM_write_75 : decode bM_write 75 = .ok (.aload_n 0, 1) := by decide +kernel
theorem dM_write_76 : decode bM_write 76 = .ok (.iload_n 1, 1) := by decide +kernel
theorem dM_write_77 : decode bM_write 77 = .ok (.invokevirtual 80, 3) := by decide +kernel
theorem dM_write_80 : decode bM_write 80 = .ok (.iconst 0, 1) := by decide +kernel
theorem dM_write_81 : decode bM_write 81 = .ok (.ireturn, 1) := by decide +kernel
theorem dM_read_0 : decode bM_read 0 = .ok (.aload_n 0, 1) := by decide +kernel
theorem dM_read_1 : decode bM_read 1 = .ok (.iload_n 1, 1) := by decide +kernel
theorem dM_read_2 : decode bM_read 2 = .ok (.invokevirtual 84, 3) := by decide +kernel
theorem dM_read_5 : decode bM_read 5 = .ok (.ifCond .eq 16, 3) := by decide +kernel
theorem dM_read_8 : decode bM_read 8 = .ok (.iload_n 2, 1) := by decide +kernel
theorem dM_read_9 : decode bM_read 9 = .ok (.aload_n 0, 1) := by decide +kernel
theorem dM_read_10 : decode bM_read 10 = .ok (.getfield 13, 3) := by decide +kernel
theorem dM_read_13 : decode bM_read 13 = .ok (.iload_n 1, 1) := by decide +kernel
theorem dM_read_14 : decode bM_read 14 = .ok (.iaload, 1) := by decide +kernel
theorem dM_read_15 : decode bM_read 15 = .ok (.invokestatic 51, 3) := by decide +kernel
theorem dM_read_18 : decode bM_read 18 = .ok (.ifCond .ne 7, 3) := by decide +kernel
theorem dM_read_21 : decode bM_read 21 = .ok (.ldc2_w 90, 3) := by decide +kernel
theorem dM_read_24 : decode bM_read 24 = .ok (.lreturn, 1) := by decide +kernel
theorem dM_read_25 : decode bM_read 25 = .ok (.aload_n 0, 1) := by decide +kernel
theorem dM_read_26 : decode bM_read 26 = .ok (.getfield 7, 3) := by decide +kernel
theorem dM_read_29 : decode bM_read 29 = .ok (.iload_n 1, 1) := by decide +kernel
theorem dM_read_30 : decode bM_read 30 = .ok (.iaload, 1) := by decide +kernel
theorem dM_read_31 : decode bM_read 31 = .ok (.iconst 4, 1) := by decide +kernel
theorem dM_read_32 : decode bM_read 32 = .ok (.if_icmp .ne 7, 3) := by decide +kernel
theorem dM_read_35 : decode bM_read 35 = .ok (.ldc2_w 92, 3) := by decide +kernel
theorem dM_read_38 : decode bM_read 38 = .ok (.lreturn, 1) := by decide +kernel
theorem dM_read_39 : decode bM_read 39 = .ok (.aload_n 0, 1) := by decide +kernel
theorem dM_read_40 : decode bM_read 40 = .ok (.getfield 7, 3) := by decide +kernel
theorem dM_read_43 : decode bM_read 43 = .ok (.iload_n 1, 1) := by decide +kernel
theorem dM_read_44 : decode bM_read 44 = .ok (.iaload, 1) := by decide +kernel
theorem dM_read_45 : decode bM_read 45 = .ok (.iconst 3, 1) := by decide +kernel
theorem dM_read_46 : decode bM_read 46 = .ok (.if_icmp .ne 15, 3) := by decide +kernel
theorem dM_read_49 : decode bM_read 49 = .ok (.aload_n 0, 1) := by decide +kernel
theorem dM_read_50 : decode bM_read 50 = .ok (.iload_n 1, 1) := by decide +kernel
theorem dM_read_51 : decode bM_read 51 = .ok (.invokevirtual 87, 3) := by decide +kernel
theorem dM_read_54 : decode bM_read 54 = .ok (.ifCond .ne 7, 3) := by decide +kernel
theorem dM_read_57 : decode bM_read 57 = .ok (.ldc2_w 94, 3) := by decide +kernel
theorem dM_read_60 : decode bM_read 60 = .ok (.lreturn, 1) := by decide +kernel
theorem dM_read_61 : decode bM_read 61 = .ok (.aload_n 0, 1) := by decide +kernel
theorem dM_read_62 : decode bM_read 62 = .ok (.iload_n 1, 1) := by decide +kernel
theorem dM_read_63 : decode bM_read 63 = .ok (.invokevirtual 80, 3) := by decide +kernel
theorem dM_read_66 : decode bM_read 66 = .ok (.aload_n 0, 1) := by decide +kernel
theorem dM_read_67 : decode bM_read 67 = .ok (.getfield 16, 3) := by decide +kernel
theorem dM_read_70 : decode bM_read 70 = .ok (.iload_n 1, 1) := by decide +kernel
theorem dM_read_71 : decode bM_read 71 = .ok (.iconst 4, 1) := by decide +kernel
theorem dM_read_72 : decode bM_read 72 = .ok (.imul, 1) := by decide +kernel
theorem dM_read_73 : decode bM_read 73 = .ok (.iload_n 2, 1) := by decide +kernel
theorem dM_read_74 : decode bM_read 74 = .ok (.iadd, 1) := by decide +kernel
theorem dM_read_75 : decode bM_read 75 = .ok (.iaload, 1) := by decide +kernel
theorem dM_read_76 : decode bM_read 76 = .ok (.i2l, 1) := by decide +kernel
theorem dM_read_77 : decode bM_read 77 = .ok (.lreturn, 1) := by decide +kernel
theorem dM_remove_0 : decode bM_remove 0 = .ok (.aload_n 0, 1) := by decide +kernel
theorem dM_remove_1 : decode bM_remove 1 = .ok (.iload_n 1, 1) := by decide +kernel
theorem dM_remove_2 : decode bM_remove 2 = .ok (.invokevirtual 84, 3) := by decide +kernel
theorem dM_remove_5 : decode bM_remove 5 = .ok (.ifCond .ne 5, 3) := by decide +kernel
theorem dM_remove_8 : decode bM_remove 8 = .ok (.iconst (-1), 1) := by decide +kernel
theorem dM_remove_9 : decode bM_remove 9 = .ok (.ireturn, 1) := by decide +kernel
theorem dM_remove_10 : decode bM_remove 10 = .ok (.aload_n 0, 1) := by decide +kernel
theorem dM_remove_11 : decode bM_remove 11 = .ok (.getfield 7, 3) := by decide +kernel
theorem dM_remove_14 : decode bM_remove 14 = .ok (.iload_n 1, 1) := by decide +kernel
theorem dM_remove_15 : decode bM_remove 15 = .ok (.iconst 0, 1) := by decide +kernel
theorem dM_remove_16 : decode bM_remove 16 = .ok (.iastore, 1) := by decide +kernel
theorem dM_remove_17 : decode bM_remove 17 = .ok (.aload_n 0, 1) := by decide +kernel
theorem dM_remove_18 : decode bM_remove 18 = .ok (.getfield 28, 3) := by decide +kernel
theorem dM_remove_21 : decode bM_remove 21 = .ok (.iload_n 1, 1) := by decide +kernel
theorem dM_remove_22 : decode bM_remove 22 = .ok (.iconst 0, 1) := by decide +kernel
theorem dM_remove_23 : decode bM_remove 23 = .ok (.bastore, 1) := by decide +kernel
theorem dM_remove_24 : decode bM_remove 24 = .ok (.iconst 0, 1) := by decide +kernel
theorem dM_remove_25 : decode bM_remove 25 = .ok (.ireturn, 1) := by decide +kernel
theorem dM_backUp_0 : decode bM_backUp 0 = .ok (.aload_n 0, 1) := by decide +kernel
theorem dM_backUp_1 : decode bM_backUp 1 = .ok (.iconst 1, 1) := by decide +kernel
theorem dM_backUp_2 : decode bM_backUp 2 = .ok (.invokevirtual 62, 3) := by decide +kernel
theorem dM_backUp_5 : decode bM_backUp 5 = .ok (.istore_n 1, 1) := by decide +kernel
theorem dM_backUp_6 : decode bM_backUp 6 = .ok (.iload_n 1, 1) := by decide +kernel
theorem dM_backUp_7 : decode bM_backUp 7 = .ok (.ifCond .ge 5, 3) := by decide +kernel
theorem dM_backUp_10 : decode bM_backUp 10 = .ok (.iconst (-1), 1) := by decide +kernel
theorem dM_backUp_11 : decode bM_backUp 11 = .ok (.ireturn, 1) := by decide +kernel
theorem dM_backUp_12 : decode bM_backUp 12 = .ok (.aload_n 0, 1) := by decide +kernel
theorem dM_backUp_13 : decode bM_backUp 13 = .ok (.iload_n 1, 1) := by decide +kernel
theorem dM_backUp_14 : decode bM_backUp 14 = .ok (.iconst (-1), 1) := by decide +kernel
theorem dM_backUp_15 : decode bM_backUp 15 = .ok (.invokevirtual 96, 3) := by decide +kernel
theorem dM_backUp_18 : decode bM_backUp 18 = .ok (.ifCond .ne 6, 3) := by decide +kernel
theorem dM_backUp_21 : decode bM_backUp 21 = .ok (.bipush (-2), 2) := by decide +kernel
theorem dM_backUp_23 : decode bM_backUp 23 = .ok (.ireturn, 1) := by decide +kernel
theorem dM_backUp_24 : decode bM_backUp 24 = .ok (.aload_n 0, 1) := by decide +kernel
theorem dM_backUp_25 : decode bM_backUp 25 = .ok (.getfield 7, 3) := by decide +kernel
theorem dM_backUp_28 : decode bM_backUp 28 = .ok (.iload_n 1, 1) := by decide +kernel
theorem dM_backUp_29 : decode bM_backUp 29 = .ok (.iconst 2, 1) := by decide +kernel
theorem dM_backUp_30 : decode bM_backUp 30 = .ok (.iastore, 1) := by decide +kernel
theorem dM_backUp_31 : decode bM_backUp 31 = .ok (.iload_n 1, 1) := by decide +kernel
theorem dM_backUp_32 : decode bM_backUp 32 = .ok (.ireturn, 1) := by decide +kernel
theorem dM_tidy_0 : decode bM_tidy 0 = .ok (.iload_n 1, 1) := by decide +kernel
theorem dM_tidy_1 : decode bM_tidy 1 = .ok (.bipush 25, 2) := by decide +kernel
theorem dM_tidy_3 : decode bM_tidy 3 = .ok (.invokestatic 51, 3) := by decide +kernel
theorem dM_tidy_6 : decode bM_tidy 6 = .ok (.ifCond .eq 17, 3) := by decide +kernel
theorem dM_tidy_9 : decode bM_tidy 9 = .ok (.iload_n 2, 1) := by decide +kernel
theorem dM_tidy_10 : decode bM_tidy 10 = .ok (.bipush 25, 2) := by decide +kernel
theorem dM_tidy_12 : decode bM_tidy 12 = .ok (.invokestatic 51, 3) := by decide +kernel
theorem dM_tidy_15 : decode bM_tidy 15 = .ok (.ifCond .eq 8, 3) := by decide +kernel
theorem dM_tidy_18 : decode bM_tidy 18 = .ok (.iload_n 2, 1) := by decide +kernel
theorem dM_tidy_19 : decode bM_tidy 19 = .ok (.iload_n 1, 1) := by decide +kernel
theorem dM_tidy_20 : decode bM_tidy 20 = .ok (.if_icmp .le 5, 3) := by decide +kernel
theorem dM_tidy_23 : decode bM_tidy 23 = .ok (.iconst (-1), 1) := by decide +kernel
theorem dM_tidy_24 : decode bM_tidy 24 = .ok (.ireturn, 1) := by decide +kernel
theorem dM_tidy_25 : decode bM_tidy 25 = .ok (.iconst 0, 1) := by decide +kernel
theorem dM_tidy_26 : decode bM_tidy 26 = .ok (.istore_n 3, 1) := by decide +kernel
theorem dM_tidy_27 : decode bM_tidy 27 = .ok (.aload_n 0, 1) := by decide +kernel
theorem dM_tidy_28 : decode bM_tidy 28 = .ok (.invokevirtual 58, 3) := by decide +kernel
theorem dM_tidy_31 : decode bM_tidy 31 = .ok (.iload_n 1, 1) := by decide +kernel
theorem dM_tidy_32 : decode bM_tidy 32 = .ok (.if_icmp .le 7, 3) := by decide +kernel
theorem dM_tidy_35 : decode bM_tidy 35 = .ok (.iconst 1, 1) := by decide +kernel
theorem dM_tidy_36 : decode bM_tidy 36 = .ok (.goto 4, 3) := by decide +kernel
theorem dM_tidy_39 : decode bM_tidy 39 = .ok (.iconst 0, 1) := by decide +kernel
theorem dM_tidy_40 : decode bM_tidy 40 = .ok (.istore 4, 2) := by decide +kernel
theorem dM_tidy_42 : decode bM_tidy 42 = .ok (.iconst 0, 1) := by decide +kernel
theorem dM_tidy_43 : decode bM_tidy 43 = .ok (.istore 5, 2) := by decide +kernel
theorem dM_tidy_45 : decode bM_tidy 45 = .ok (.iload 5, 2) := by decide +kernel
theorem dM_tidy_47 : decode bM_tidy 47 = .ok (.bipush 16, 2) := by decide +kernel
theorem dM_tidy_49 : decode bM_tidy 49 = .ok (.if_icmp .ge 45, 3) := by decide +kernel
theorem dM_tidy_52 : decode bM_tidy 52 = .ok (.aload_n 0, 1) := by decide +kernel
theorem dM_tidy_53 : decode bM_tidy 53 = .ok (.iconst 2, 1) := by decide +kernel
theorem dM_tidy_54 : decode bM_tidy 54 = .ok (.invokevirtual 62, 3) := by decide +kernel
theorem dM_tidy_57 : decode bM_tidy 57 = .ok (.istore 6, 2) := by decide +kernel
theorem dM_tidy_59 : decode bM_tidy 59 = .ok (.iload 4, 2) := by decide +kernel
theorem dM_tidy_61 : decode bM_tidy 61 = .ok (.ifCond .eq 27, 3) := by decide +kernel
theorem dM_tidy_64 : decode bM_tidy 64 = .ok (.aload_n 0, 1) := by decide +kernel
theorem dM_tidy_65 : decode bM_tidy 65 = .ok (.invokevirtual 58, 3) := by decide +kernel
theorem dM_tidy_68 : decode bM_tidy 68 = .ok (.iload_n 2, 1) := by decide +kernel
theorem dM_tidy_69 : decode bM_tidy 69 = .ok (.if_icmp .le 19, 3) := by decide +kernel
theorem dM_tidy_72 : decode bM_tidy 72 = .ok (.iload 6, 2) := by decide +kernel
theorem dM_tidy_74 : decode bM_tidy 74 = .ok (.ifCond .lt 14, 3) := by decide +kernel
theorem dM_tidy_77 : decode bM_tidy 77 = .ok (.aload_n 0, 1) := by decide +kernel
theorem dM_tidy_78 : decode bM_tidy 78 = .ok (.getfield 7, 3) := by decide +kernel
theorem dM_tidy_81 : decode bM_tidy 81 = .ok (.iload 6, 2) := by decide +kernel
theorem dM_tidy_83 : decode bM_tidy 83 = .ok (.iconst 3, 1) := by decide +kernel
theorem dM_tidy_84 : decode bM_tidy 84 = .ok (.iastore, 1) := by decide +kernel
theorem dM_tidy_85 : decode bM_tidy 85 = .ok (.iinc 3 1, 3) := by decide +kernel
theorem dM_tidy_88 : decode bM_tidy 88 = .ok (.iinc 5 1, 3) := by decide +kernel
theorem dM_tidy_91 : decode bM_tidy 91 = .ok (.goto (-46), 3) := by decide +kernel
theorem dM_tidy_94 : decode bM_tidy 94 = .ok (.iload_n 3, 1) := by decide +kernel
theorem dM_tidy_95 : decode bM_tidy 95 = .ok (.ireturn, 1) := by decide +kernel
theorem dM_waiting_0 : decode bM_waiting 0 = .ok (.iconst 0, 1) := by decide +kernel
theorem dM_waiting_1 : decode bM_waiting 1 = .ok (.istore_n 1, 1) := by decide +kernel
theorem dM_waiting_2 : decode bM_waiting 2 = .ok (.iconst 0, 1) := by decide +kernel
theorem dM_waiting_3 : decode bM_waiting 3 = .ok (.istore_n 2, 1) := by decide +kernel
theorem dM_waiting_4 : decode bM_waiting 4 = .ok (.iload_n 2, 1) := by decide +kernel
theorem dM_waiting_5 : decode bM_waiting 5 = .ok (.bipush 16, 2) := by decide +kernel
theorem dM_waiting_7 : decode bM_waiting 7 = .ok (.if_icmp .ge 21, 3) := by decide +kernel
theorem dM_waiting_10 : decode bM_waiting 10 = .ok (.aload_n 0, 1) := by decide +kernel
theorem dM_waiting_11 : decode bM_waiting 11 = .ok (.getfield 28, 3) := by decide +kernel
theorem dM_waiting_14 : decode bM_waiting 14 = .ok (.iload_n 2, 1) := by decide +kernel
theorem dM_waiting_15 : decode bM_waiting 15 = .ok (.baload, 1) := by decide +kernel
theorem dM_waiting_16 : decode bM_waiting 16 = .ok (.ifCond .eq 6, 3) := by decide +kernel
theorem dM_waiting_19 : decode bM_waiting 19 = .ok (.iinc 1 1, 3) := by decide +kernel
theorem dM_waiting_22 : decode bM_waiting 22 = .ok (.iinc 2 1, 3) := by decide +kernel
theorem dM_waiting_25 : decode bM_waiting 25 = .ok (.goto (-21), 3) := by decide +kernel
theorem dM_waiting_28 : decode bM_waiting 28 = .ok (.iload_n 1, 1) := by decide +kernel
theorem dM_waiting_29 : decode bM_waiting 29 = .ok (.ireturn, 1) := by decide +kernel
theorem dM_ask_0 : decode bM_ask 0 = .ok (.aload_n 0, 1) := by decide +kernel
theorem dM_ask_1 : decode bM_ask 1 = .ok (.iload_n 1, 1) := by decide +kernel
theorem dM_ask_2 : decode bM_ask 2 = .ok (.invokevirtual 84, 3) := by decide +kernel
theorem dM_ask_5 : decode bM_ask 5 = .ok (.ifCond .eq 22, 3) := by decide +kernel
theorem dM_ask_8 : decode bM_ask 8 = .ok (.aload_n 0, 1) := by decide +kernel
theorem dM_ask_9 : decode bM_ask 9 = .ok (.getfield 7, 3) := by decide +kernel
theorem dM_ask_12 : decode bM_ask 12 = .ok (.iload_n 1, 1) := by decide +kernel
theorem dM_ask_13 : decode bM_ask 13 = .ok (.iaload, 1) := by decide +kernel
theorem dM_ask_14 : decode bM_ask 14 = .ok (.iconst 3, 1) := by decide +kernel
theorem dM_ask_15 : decode bM_ask 15 = .ok (.if_icmp .ne 12, 3) := by decide +kernel
theorem dM_ask_18 : decode bM_ask 18 = .ok (.aload_n 0, 1) := by decide +kernel
theorem dM_ask_19 : decode bM_ask 19 = .ok (.getfield 28, 3) := by decide +kernel
theorem dM_ask_22 : decode bM_ask 22 = .ok (.iload_n 1, 1) := by decide +kernel
theorem dM_ask_23 : decode bM_ask 23 = .ok (.baload, 1) := by decide +kernel
theorem dM_ask_24 : decode bM_ask 24 = .ok (.ifCond .eq 5, 3) := by decide +kernel
theorem dM_ask_27 : decode bM_ask 27 = .ok (.iconst (-1), 1) := by decide +kernel
theorem dM_ask_28 : decode bM_ask 28 = .ok (.ireturn, 1) := by decide +kernel
theorem dM_ask_29 : decode bM_ask 29 = .ok (.aload_n 0, 1) := by decide +kernel
theorem dM_ask_30 : decode bM_ask 30 = .ok (.invokevirtual 99, 3) := by decide +kernel
theorem dM_ask_33 : decode bM_ask 33 = .ok (.bipush 6, 2) := by decide +kernel
theorem dM_ask_35 : decode bM_ask 35 = .ok (.if_icmp .ne 6, 3) := by decide +kernel
theorem dM_ask_38 : decode bM_ask 38 = .ok (.bipush (-2), 2) := by decide +kernel
theorem dM_ask_40 : decode bM_ask 40 = .ok (.ireturn, 1) := by decide +kernel
theorem dM_ask_41 : decode bM_ask 41 = .ok (.aload_n 0, 1) := by decide +kernel
theorem dM_ask_42 : decode bM_ask 42 = .ok (.getfield 28, 3) := by decide +kernel
theorem dM_ask_45 : decode bM_ask 45 = .ok (.iload_n 1, 1) := by decide +kernel
theorem dM_ask_46 : decode bM_ask 46 = .ok (.iconst 1, 1) := by decide +kernel
theorem dM_ask_47 : decode bM_ask 47 = .ok (.bastore, 1) := by decide +kernel
theorem dM_ask_48 : decode bM_ask 48 = .ok (.iconst 0, 1) := by decide +kernel
theorem dM_ask_49 : decode bM_ask 49 = .ok (.ireturn, 1) := by decide +kernel
theorem dM_rank_0 : decode bM_rank 0 = .ok (.aload_n 0, 1) := by decide +kernel
theorem dM_rank_1 : decode bM_rank 1 = .ok (.getfield 22, 3) := by decide +kernel
theorem dM_rank_4 : decode bM_rank 4 = .ok (.iload_n 1, 1) := by decide +kernel
theorem dM_rank_5 : decode bM_rank 5 = .ok (.iaload, 1) := by decide +kernel
theorem dM_rank_6 : decode bM_rank 6 = .ok (.aload_n 0, 1) := by decide +kernel
theorem dM_rank_7 : decode bM_rank 7 = .ok (.getfield 41, 3) := by decide +kernel
theorem dM_rank_10 : decode bM_rank 10 = .ok (.if_icmp .ne 7, 3) := by decide +kernel
theorem dM_rank_13 : decode bM_rank 13 = .ok (.iconst 0, 1) := by decide +kernel
theorem dM_rank_14 : decode bM_rank 14 = .ok (.goto 15, 3) := by decide +kernel
theorem dM_rank_17 : decode bM_rank 17 = .ok (.bipush 100, 2) := by decide +kernel
theorem dM_rank_19 : decode bM_rank 19 = .ok (.bipush 100, 2) := by decide +kernel
theorem dM_rank_21 : decode bM_rank 21 = .ok (.aload_n 0, 1) := by decide +kernel
theorem dM_rank_22 : decode bM_rank 22 = .ok (.getfield 22, 3) := by decide +kernel
theorem dM_rank_25 : decode bM_rank 25 = .ok (.iload_n 1, 1) := by decide +kernel
theorem dM_rank_26 : decode bM_rank 26 = .ok (.iaload, 1) := by decide +kernel
theorem dM_rank_27 : decode bM_rank 27 = .ok (.imul, 1) := by decide +kernel
theorem dM_rank_28 : decode bM_rank 28 = .ok (.iadd, 1) := by decide +kernel
theorem dM_rank_29 : decode bM_rank 29 = .ok (.aload_n 0, 1) := by decide +kernel
theorem dM_rank_30 : decode bM_rank 30 = .ok (.getfield 25, 3) := by decide +kernel
theorem dM_rank_33 : decode bM_rank 33 = .ok (.iload_n 1, 1) := by decide +kernel
theorem dM_rank_34 : decode bM_rank 34 = .ok (.iaload, 1) := by decide +kernel
theorem dM_rank_35 : decode bM_rank 35 = .ok (.iadd, 1) := by decide +kernel
theorem dM_rank_36 : decode bM_rank 36 = .ok (.ireturn, 1) := by decide +kernel
theorem dM_serve_0 : decode bM_serve 0 = .ok (.iconst 0, 1) := by decide +kernel
theorem dM_serve_1 : decode bM_serve 1 = .ok (.istore_n 1, 1) := by decide +kernel
theorem dM_serve_2 : decode bM_serve 2 = .ok (.iconst 0, 1) := by decide +kernel
theorem dM_serve_3 : decode bM_serve 3 = .ok (.istore_n 2, 1) := by decide +kernel
theorem dM_serve_4 : decode bM_serve 4 = .ok (.iload_n 2, 1) := by decide +kernel
theorem dM_serve_5 : decode bM_serve 5 = .ok (.bipush 16, 2) := by decide +kernel
theorem dM_serve_7 : decode bM_serve 7 = .ok (.if_icmp .ge 45, 3) := by decide +kernel
theorem dM_serve_10 : decode bM_serve 10 = .ok (.aload_n 0, 1) := by decide +kernel
theorem dM_serve_11 : decode bM_serve 11 = .ok (.getfield 28, 3) := by decide +kernel
theorem dM_serve_14 : decode bM_serve 14 = .ok (.iload_n 2, 1) := by decide +kernel
theorem dM_serve_15 : decode bM_serve 15 = .ok (.baload, 1) := by decide +kernel
theorem dM_serve_16 : decode bM_serve 16 = .ok (.ifCond .eq 23, 3) := by decide +kernel
theorem dM_serve_19 : decode bM_serve 19 = .ok (.aload_n 0, 1) := by decide +kernel
theorem dM_serve_20 : decode bM_serve 20 = .ok (.getfield 7, 3) := by decide +kernel
theorem dM_serve_23 : decode bM_serve 23 = .ok (.iload_n 2, 1) := by decide +kernel
theorem dM_serve_24 : decode bM_serve 24 = .ok (.iaload, 1) := by decide +kernel
theorem dM_serve_25 : decode bM_serve 25 = .ok (.iconst 3, 1) := by decide +kernel
theorem dM_serve_26 : decode bM_serve 26 = .ok (.if_icmp .ne 13, 3) := by decide +kernel
theorem dM_serve_29 : decode bM_serve 29 = .ok (.aload_n 0, 1) := by decide +kernel
theorem dM_serve_30 : decode bM_serve 30 = .ok (.getfield 38, 3) := by decide +kernel
theorem dM_serve_33 : decode bM_serve 33 = .ok (.iload_n 1, 1) := by decide +kernel
theorem dM_serve_34 : decode bM_serve 34 = .ok (.iload_n 2, 1) := by decide +kernel
theorem dM_serve_35 : decode bM_serve 35 = .ok (.iastore, 1) := by decide +kernel
theorem dM_serve_36 : decode bM_serve 36 = .ok (.iinc 1 1, 3) := by decide +kernel
theorem dM_serve_39 : decode bM_serve 39 = .ok (.aload_n 0, 1) := by decide +kernel
theorem dM_serve_40 : decode bM_serve 40 = .ok (.getfield 28, 3) := by decide +kernel
theorem dM_serve_43 : decode bM_serve 43 = .ok (.iload_n 2, 1) := by decide +kernel
theorem dM_serve_44 : decode bM_serve 44 = .ok (.iconst 0, 1) := by decide +kernel
theorem dM_serve_45 : decode bM_serve 45 = .ok (.bastore, 1) := by decide +kernel
theorem dM_serve_46 : decode bM_serve 46 = .ok (.iinc 2 1, 3) := by decide +kernel
theorem dM_serve_49 : decode bM_serve 49 = .ok (.goto (-45), 3) := by decide +kernel
theorem dM_serve_52 : decode bM_serve 52 = .ok (.iconst 0, 1) := by decide +kernel
theorem dM_serve_53 : decode bM_serve 53 = .ok (.istore_n 2, 1) := by decide +kernel
theorem dM_serve_54 : decode bM_serve 54 = .ok (.iload_n 2, 1) := by decide +kernel
theorem dM_serve_55 : decode bM_serve 55 = .ok (.iload_n 1, 1) := by decide +kernel
theorem dM_serve_56 : decode bM_serve 56 = .ok (.if_icmp .ge 81, 3) := by decide +kernel
theorem dM_serve_59 : decode bM_serve 59 = .ok (.iload_n 1, 1) := by decide +kernel
theorem dM_serve_60 : decode bM_serve 60 = .ok (.iconst 1, 1) := by decide +kernel
theorem dM_serve_61 : decode bM_serve 61 = .ok (.isub, 1) := by decide +kernel
theorem dM_serve_62 : decode bM_serve 62 = .ok (.istore_n 3, 1) := by decide +kernel
theorem dM_serve_63 : decode bM_serve 63 = .ok (.iload_n 3, 1) := by decide +kernel
theorem dM_serve_64 : decode bM_serve 64 = .ok (.iload_n 2, 1) := by decide +kernel
theorem dM_serve_65 : decode bM_serve 65 = .ok (.if_icmp .le 66, 3) := by decide +kernel
theorem dM_serve_68 : decode bM_serve 68 = .ok (.aload_n 0, 1) := by decide +kernel
theorem dM_serve_69 : decode bM_serve 69 = .ok (.aload_n 0, 1) := by decide +kernel
theorem dM_serve_70 : decode bM_serve 70 = .ok (.getfield 38, 3) := by decide +kernel
theorem dM_serve_73 : decode bM_serve 73 = .ok (.iload_n 3, 1) := by decide +kernel
theorem dM_serve_74 : decode bM_serve 74 = .ok (.iaload, 1) := by decide +kernel
theorem dM_serve_75 : decode bM_serve 75 = .ok (.invokevirtual 102, 3) := by decide +kernel
theorem dM_serve_78 : decode bM_serve 78 = .ok (.aload_n 0, 1) := by decide +kernel
theorem dM_serve_79 : decode bM_serve 79 = .ok (.aload_n 0, 1) := by decide +kernel
theorem dM_serve_80 : decode bM_serve 80 = .ok (.getfield 38, 3) := by decide +kernel
theorem dM_serve_83 : decode bM_serve 83 = .ok (.iload_n 3, 1) := by decide +kernel
theorem dM_serve_84 : decode bM_serve 84 = .ok (.iconst 1, 1) := by decide +kernel
theorem dM_serve_85 : decode bM_serve 85 = .ok (.isub, 1) := by decide +kernel
theorem dM_serve_86 : decode bM_serve 86 = .ok (.iaload, 1) := by decide +kernel
theorem dM_serve_87 : decode bM_serve 87 = .ok (.invokevirtual 102, 3) := by decide +kernel
theorem dM_serve_90 : decode bM_serve 90 = .ok (.if_icmp .ge 35, 3) := by decide +kernel
theorem dM_serve_93 : decode bM_serve 93 = .ok (.aload_n 0, 1) := by decide +kernel
theorem dM_serve_94 : decode bM_serve 94 = .ok (.getfield 38, 3) := by decide +kernel
theorem dM_serve_97 : decode bM_serve 97 = .ok (.iload_n 3, 1) := by decide +kernel
theorem dM_serve_98 : decode bM_serve 98 = .ok (.iaload, 1) := by decide +kernel
theorem dM_serve_99 : decode bM_serve 99 = .ok (.istore 4, 2) := by decide +kernel
theorem dM_serve_101 : decode bM_serve 101 = .ok (.aload_n 0, 1) := by decide +kernel
theorem dM_serve_102 : decode bM_serve 102 = .ok (.getfield 38, 3) := by decide +kernel
theorem dM_serve_105 : decode bM_serve 105 = .ok (.iload_n 3, 1) := by decide +kernel
theorem dM_serve_106 : decode bM_serve 106 = .ok (.aload_n 0, 1) := by decide +kernel
theorem dM_serve_107 : decode bM_serve 107 = .ok (.getfield 38, 3) := by decide +kernel
theorem dM_serve_110 : decode bM_serve 110 = .ok (.iload_n 3, 1) := by decide +kernel
theorem dM_serve_111 : decode bM_serve 111 = .ok (.iconst 1, 1) := by decide +kernel
theorem dM_serve_112 : decode bM_serve 112 = .ok (.isub, 1) := by decide +kernel
theorem dM_serve_113 : decode bM_serve 113 = .ok (.iaload, 1) := by decide +kernel
theorem dM_serve_114 : decode bM_serve 114 = .ok (.iastore, 1) := by decide +kernel
theorem dM_serve_115 : decode bM_serve 115 = .ok (.aload_n 0, 1) := by decide +kernel
theorem dM_serve_116 : decode bM_serve 116 = .ok (.getfield 38, 3) := by decide +kernel
theorem dM_serve_119 : decode bM_serve 119 = .ok (.iload_n 3, 1) := by decide +kernel
theorem dM_serve_120 : decode bM_serve 120 = .ok (.iconst 1, 1) := by decide +kernel
theorem dM_serve_121 : decode bM_serve 121 = .ok (.isub, 1) := by decide +kernel
theorem dM_serve_122 : decode bM_serve 122 = .ok (.iload 4, 2) := by decide +kernel
theorem dM_serve_124 : decode bM_serve 124 = .ok (.iastore, 1) := by decide +kernel
theorem dM_serve_125 : decode bM_serve 125 = .ok (.iinc 3 (-1), 3) := by decide +kernel
theorem dM_serve_128 : decode bM_serve 128 = .ok (.goto (-65), 3) := by decide +kernel
theorem dM_serve_131 : decode bM_serve 131 = .ok (.iinc 2 1, 3) := by decide +kernel
theorem dM_serve_134 : decode bM_serve 134 = .ok (.goto (-80), 3) := by decide +kernel
theorem dM_serve_137 : decode bM_serve 137 = .ok (.iconst 0, 1) := by decide +kernel
theorem dM_serve_138 : decode bM_serve 138 = .ok (.istore_n 2, 1) := by decide +kernel
theorem dM_serve_139 : decode bM_serve 139 = .ok (.iconst 0, 1) := by decide +kernel
theorem dM_serve_140 : decode bM_serve 140 = .ok (.istore_n 3, 1) := by decide +kernel
theorem dM_serve_141 : decode bM_serve 141 = .ok (.iload_n 3, 1) := by decide +kernel
theorem dM_serve_142 : decode bM_serve 142 = .ok (.iload_n 1, 1) := by decide +kernel
theorem dM_serve_143 : decode bM_serve 143 = .ok (.if_icmp .ge 25, 3) := by decide +kernel
theorem dM_serve_146 : decode bM_serve 146 = .ok (.aload_n 0, 1) := by decide +kernel
theorem dM_serve_147 : decode bM_serve 147 = .ok (.aload_n 0, 1) := by decide +kernel
theorem dM_serve_148 : decode bM_serve 148 = .ok (.getfield 38, 3) := by decide +kernel
theorem dM_serve_151 : decode bM_serve 151 = .ok (.iload_n 3, 1) := by decide +kernel
theorem dM_serve_152 : decode bM_serve 152 = .ok (.iaload, 1) := by decide +kernel
theorem dM_serve_153 : decode bM_serve 153 = .ok (.invokevirtual 87, 3) := by decide +kernel
theorem dM_serve_156 : decode bM_serve 156 = .ok (.ifCond .eq 6, 3) := by decide +kernel
theorem dM_serve_159 : decode bM_serve 159 = .ok (.iinc 2 1, 3) := by decide +kernel
theorem dM_serve_162 : decode bM_serve 162 = .ok (.iinc 3 1, 3) := by decide +kernel
theorem dM_serve_165 : decode bM_serve 165 = .ok (.goto (-24), 3) := by decide +kernel
theorem dM_serve_168 : decode bM_serve 168 = .ok (.iload_n 2, 1) := by decide +kernel
theorem dM_serve_169 : decode bM_serve 169 = .ok (.ireturn, 1) := by decide +kernel
theorem dM_copied_0 : decode bM_copied 0 = .ok (.aload_n 0, 1) := by decide +kernel
theorem dM_copied_1 : decode bM_copied 1 = .ok (.getfield 7, 3) := by decide +kernel
theorem dM_copied_4 : decode bM_copied 4 = .ok (.iload_n 1, 1) := by decide +kernel
theorem dM_copied_5 : decode bM_copied 5 = .ok (.iaload, 1) := by decide +kernel
theorem dM_copied_6 : decode bM_copied 6 = .ok (.iconst 2, 1) := by decide +kernel
theorem dM_copied_7 : decode bM_copied 7 = .ok (.if_icmp .eq 13, 3) := by decide +kernel
theorem dM_copied_10 : decode bM_copied 10 = .ok (.aload_n 0, 1) := by decide +kernel
theorem dM_copied_11 : decode bM_copied 11 = .ok (.getfield 7, 3) := by decide +kernel
theorem dM_copied_14 : decode bM_copied 14 = .ok (.iload_n 1, 1) := by decide +kernel
theorem dM_copied_15 : decode bM_copied 15 = .ok (.iaload, 1) := by decide +kernel
theorem dM_copied_16 : decode bM_copied 16 = .ok (.iconst 3, 1) := by decide +kernel
theorem dM_copied_17 : decode bM_copied 17 = .ok (.if_icmp .ne 7, 3) := by decide +kernel
theorem dM_copied_20 : decode bM_copied 20 = .ok (.iconst 1, 1) := by decide +kernel
theorem dM_copied_21 : decode bM_copied 21 = .ok (.goto 4, 3) := by decide +kernel
theorem dM_copied_24 : decode bM_copied 24 = .ok (.iconst 0, 1) := by decide +kernel
theorem dM_copied_25 : decode bM_copied 25 = .ok (.ireturn, 1) := by decide +kernel
theorem dM_next_0 : decode bM_next 0 = .ok (.iconst (-1), 1) := by decide +kernel
theorem dM_next_1 : decode bM_next 1 = .ok (.istore_n 3, 1) := by decide +kernel
theorem dM_next_2 : decode bM_next 2 = .ok (.iconst 0, 1) := by decide +kernel
theorem dM_next_3 : decode bM_next 3 = .ok (.istore 4, 2) := by decide +kernel
theorem dM_next_5 : decode bM_next 5 = .ok (.iload 4, 2) := by decide +kernel
theorem dM_next_7 : decode bM_next 7 = .ok (.bipush 16, 2) := by decide +kernel
theorem dM_next_9 : decode bM_next 9 = .ok (.if_icmp .ge 75, 3) := by decide +kernel
theorem dM_next_12 : decode bM_next 12 = .ok (.aload_n 0, 1) := by decide +kernel
theorem dM_next_13 : decode bM_next 13 = .ok (.iload 4, 2) := by decide +kernel
theorem dM_next_15 : decode bM_next 15 = .ok (.invokevirtual 105, 3) := by decide +kernel
theorem dM_next_18 : decode bM_next 18 = .ok (.ifCond .eq 29, 3) := by decide +kernel
theorem dM_next_21 : decode bM_next 21 = .ok (.aload_n 0, 1) := by decide +kernel
theorem dM_next_22 : decode bM_next 22 = .ok (.getfield 22, 3) := by decide +kernel
theorem dM_next_25 : decode bM_next 25 = .ok (.iload 4, 2) := by decide +kernel
theorem dM_next_27 : decode bM_next 27 = .ok (.iaload, 1) := by decide +kernel
theorem dM_next_28 : decode bM_next 28 = .ok (.iload_n 1, 1) := by decide +kernel
theorem dM_next_29 : decode bM_next 29 = .ok (.if_icmp .ne 18, 3) := by decide +kernel
theorem dM_next_32 : decode bM_next 32 = .ok (.aload_n 0, 1) := by decide +kernel
theorem dM_next_33 : decode bM_next 33 = .ok (.getfield 25, 3) := by decide +kernel
theorem dM_next_36 : decode bM_next 36 = .ok (.iload 4, 2) := by decide +kernel
theorem dM_next_38 : decode bM_next 38 = .ok (.iaload, 1) := by decide +kernel
theorem dM_next_39 : decode bM_next 39 = .ok (.iload_n 2, 1) := by decide +kernel
theorem dM_next_40 : decode bM_next 40 = .ok (.if_icmp .lt 7, 3) := by decide +kernel
theorem dM_next_43 : decode bM_next 43 = .ok (.iconst 1, 1) := by decide +kernel
theorem dM_next_44 : decode bM_next 44 = .ok (.goto 4, 3) := by decide +kernel
theorem dM_next_47 : decode bM_next 47 = .ok (.iconst 0, 1) := by decide +kernel
theorem dM_next_48 : decode bM_next 48 = .ok (.istore 5, 2) := by decide +kernel
theorem dM_next_50 : decode bM_next 50 = .ok (.iload 5, 2) := by decide +kernel
theorem dM_next_52 : decode bM_next 52 = .ok (.ifCond .eq 26, 3) := by decide +kernel
theorem dM_next_55 : decode bM_next 55 = .ok (.iload_n 3, 1) := by decide +kernel
theorem dM_next_56 : decode bM_next 56 = .ok (.ifCond .lt 19, 3) := by decide +kernel
theorem dM_next_59 : decode bM_next 59 = .ok (.aload_n 0, 1) := by decide +kernel
theorem dM_next_60 : decode bM_next 60 = .ok (.getfield 25, 3) := by decide +kernel
theorem dM_next_63 : decode bM_next 63 = .ok (.iload 4, 2) := by decide +kernel
theorem dM_next_65 : decode bM_next 65 = .ok (.iaload, 1) := by decide +kernel
theorem dM_next_66 : decode bM_next 66 = .ok (.aload_n 0, 1) := by decide +kernel
theorem dM_next_67 : decode bM_next 67 = .ok (.getfield 25, 3) := by decide +kernel
theorem dM_next_70 : decode bM_next 70 = .ok (.iload_n 3, 1) := by decide +kernel
theorem dM_next_71 : decode bM_next 71 = .ok (.iaload, 1) := by decide +kernel
theorem dM_next_72 : decode bM_next 72 = .ok (.if_icmp .ge 6, 3) := by decide +kernel
theorem dM_next_75 : decode bM_next 75 = .ok (.iload 4, 2) := by decide +kernel
theorem dM_next_77 : decode bM_next 77 = .ok (.istore_n 3, 1) := by decide +kernel
theorem dM_next_78 : decode bM_next 78 = .ok (.iinc 4 1, 3) := by decide +kernel
theorem dM_next_81 : decode bM_next 81 = .ok (.goto (-76), 3) := by decide +kernel
theorem dM_next_84 : decode bM_next 84 = .ok (.iload_n 3, 1) := by decide +kernel
theorem dM_next_85 : decode bM_next 85 = .ok (.ireturn, 1) := by decide +kernel
theorem dM_canEmpty_0 : decode bM_canEmpty 0 = .ok (.iconst 0, 1) := by decide +kernel
theorem dM_canEmpty_1 : decode bM_canEmpty 1 = .ok (.istore_n 2, 1) := by decide +kernel
theorem dM_canEmpty_2 : decode bM_canEmpty 2 = .ok (.iload_n 2, 1) := by decide +kernel
theorem dM_canEmpty_3 : decode bM_canEmpty 3 = .ok (.iconst 4, 1) := by decide +kernel
theorem dM_canEmpty_4 : decode bM_canEmpty 4 = .ok (.if_icmp .ge 21, 3) := by decide +kernel
theorem dM_canEmpty_7 : decode bM_canEmpty 7 = .ok (.aload_n 0, 1) := by decide +kernel
theorem dM_canEmpty_8 : decode bM_canEmpty 8 = .ok (.getfield 35, 3) := by decide +kernel
theorem dM_canEmpty_11 : decode bM_canEmpty 11 = .ok (.iload_n 2, 1) := by decide +kernel
theorem dM_canEmpty_12 : decode bM_canEmpty 12 = .ok (.aload_n 0, 1) := by decide +kernel
theorem dM_canEmpty_13 : decode bM_canEmpty 13 = .ok (.getfield 32, 3) := by decide +kernel
theorem dM_canEmpty_16 : decode bM_canEmpty 16 = .ok (.iload_n 2, 1) := by decide +kernel
theorem dM_canEmpty_17 : decode bM_canEmpty 17 = .ok (.iaload, 1) := by decide +kernel
theorem dM_canEmpty_18 : decode bM_canEmpty 18 = .ok (.iastore, 1) := by decide +kernel
theorem dM_canEmpty_19 : decode bM_canEmpty 19 = .ok (.iinc 2 1, 3) := by decide +kernel
theorem dM_canEmpty_22 : decode bM_canEmpty 22 = .ok (.goto (-20), 3) := by decide +kernel
theorem dM_canEmpty_25 : decode bM_canEmpty 25 = .ok (.aload_n 0, 1) := by decide +kernel
theorem dM_canEmpty_26 : decode bM_canEmpty 26 = .ok (.iload_n 1, 1) := by decide +kernel
theorem dM_canEmpty_27 : decode bM_canEmpty 27 = .ok (.iconst 0, 1) := by decide +kernel
theorem dM_canEmpty_28 : decode bM_canEmpty 28 = .ok (.invokevirtual 108, 3) := by decide +kernel
theorem dM_canEmpty_31 : decode bM_canEmpty 31 = .ok (.istore_n 2, 1) := by decide +kernel
theorem dM_canEmpty_32 : decode bM_canEmpty 32 = .ok (.iconst 0, 1) := by decide +kernel
theorem dM_canEmpty_33 : decode bM_canEmpty 33 = .ok (.istore_n 3, 1) := by decide +kernel
theorem dM_canEmpty_34 : decode bM_canEmpty 34 = .ok (.iload_n 3, 1) := by decide +kernel
theorem dM_canEmpty_35 : decode bM_canEmpty 35 = .ok (.bipush 16, 2) := by decide +kernel
theorem dM_canEmpty_37 : decode bM_canEmpty 37 = .ok (.if_icmp .ge 98, 3) := by decide +kernel
theorem dM_canEmpty_40 : decode bM_canEmpty 40 = .ok (.iload_n 2, 1) := by decide +kernel
theorem dM_canEmpty_41 : decode bM_canEmpty 41 = .ok (.ifCond .lt 94, 3) := by decide +kernel
theorem dM_canEmpty_44 : decode bM_canEmpty 44 = .ok (.iconst (-1), 1) := by decide +kernel
theorem dM_canEmpty_45 : decode bM_canEmpty 45 = .ok (.istore 4, 2) := by decide +kernel
theorem dM_canEmpty_47 : decode bM_canEmpty 47 = .ok (.iconst 3, 1) := by decide +kernel
theorem dM_canEmpty_48 : decode bM_canEmpty 48 = .ok (.istore 5, 2) := by decide +kernel
theorem dM_canEmpty_50 : decode bM_canEmpty 50 = .ok (.iload 5, 2) := by decide +kernel
theorem dM_canEmpty_52 : decode bM_canEmpty 52 = .ok (.ifCond .lt 40, 3) := by decide +kernel
theorem dM_canEmpty_55 : decode bM_canEmpty 55 = .ok (.iload 5, 2) := by decide +kernel
theorem dM_canEmpty_57 : decode bM_canEmpty 57 = .ok (.iload_n 1, 1) := by decide +kernel
theorem dM_canEmpty_58 : decode bM_canEmpty 58 = .ok (.if_icmp .eq 28, 3) := by decide +kernel
theorem dM_canEmpty_61 : decode bM_canEmpty 61 = .ok (.aload_n 0, 1) := by decide +kernel
theorem dM_canEmpty_62 : decode bM_canEmpty 62 = .ok (.getfield 35, 3) := by decide +kernel
theorem dM_canEmpty_65 : decode bM_canEmpty 65 = .ok (.iload 5, 2) := by decide +kernel
theorem dM_canEmpty_67 : decode bM_canEmpty 67 = .ok (.iaload, 1) := by decide +kernel
theorem dM_canEmpty_68 : decode bM_canEmpty 68 = .ok (.aload_n 0, 1) := by decide +kernel
theorem dM_canEmpty_69 : decode bM_canEmpty 69 = .ok (.getfield 13, 3) := by decide +kernel
theorem dM_canEmpty_72 : decode bM_canEmpty 72 = .ok (.iload_n 2, 1) := by decide +kernel
theorem dM_canEmpty_73 : decode bM_canEmpty 73 = .ok (.iaload, 1) := by decide +kernel
theorem dM_canEmpty_74 : decode bM_canEmpty 74 = .ok (.iadd, 1) := by decide +kernel
theorem dM_canEmpty_75 : decode bM_canEmpty 75 = .ok (.aload_n 0, 1) := by decide +kernel
theorem dM_canEmpty_76 : decode bM_canEmpty 76 = .ok (.getfield 48, 3) := by decide +kernel
theorem dM_canEmpty_79 : decode bM_canEmpty 79 = .ok (.if_icmp .gt 7, 3) := by decide +kernel
theorem dM_canEmpty_82 : decode bM_canEmpty 82 = .ok (.iload 5, 2) := by decide +kernel
theorem dM_canEmpty_84 : decode bM_canEmpty 84 = .ok (.istore 4, 2) := by decide +kernel
theorem dM_canEmpty_86 : decode bM_canEmpty 86 = .ok (.iinc 5 (-1), 3) := by decide +kernel
theorem dM_canEmpty_89 : decode bM_canEmpty 89 = .ok (.goto (-39), 3) := by decide +kernel
theorem dM_canEmpty_92 : decode bM_canEmpty 92 = .ok (.iload 4, 2) := by decide +kernel
theorem dM_canEmpty_94 : decode bM_canEmpty 94 = .ok (.ifCond .ge 5, 3) := by decide +kernel
theorem dM_canEmpty_97 : decode bM_canEmpty 97 = .ok (.iconst 0, 1) := by decide +kernel
theorem dM_canEmpty_98 : decode bM_canEmpty 98 = .ok (.ireturn, 1) := by decide +kernel
theorem dM_canEmpty_99 : decode bM_canEmpty 99 = .ok (.aload_n 0, 1) := by decide +kernel
theorem dM_canEmpty_100 : decode bM_canEmpty 100 = .ok (.getfield 35, 3) := by decide +kernel
theorem dM_canEmpty_103 : decode bM_canEmpty 103 = .ok (.iload 4, 2) := by decide +kernel
theorem dM_canEmpty_105 : decode bM_canEmpty 105 = .ok (.dup2, 1) := by decide +kernel
theorem dM_canEmpty_106 : decode bM_canEmpty 106 = .ok (.iaload, 1) := by decide +kernel
theorem dM_canEmpty_107 : decode bM_canEmpty 107 = .ok (.aload_n 0, 1) := by decide +kernel
theorem dM_canEmpty_108 : decode bM_canEmpty 108 = .ok (.getfield 13, 3) := by decide +kernel
theorem dM_canEmpty_111 : decode bM_canEmpty 111 = .ok (.iload_n 2, 1) := by decide +kernel
theorem dM_canEmpty_112 : decode bM_canEmpty 112 = .ok (.iaload, 1) := by decide +kernel
theorem dM_canEmpty_113 : decode bM_canEmpty 113 = .ok (.iadd, 1) := by decide +kernel
theorem dM_canEmpty_114 : decode bM_canEmpty 114 = .ok (.iastore, 1) := by decide +kernel
theorem dM_canEmpty_115 : decode bM_canEmpty 115 = .ok (.aload_n 0, 1) := by decide +kernel
theorem dM_canEmpty_116 : decode bM_canEmpty 116 = .ok (.iload_n 1, 1) := by decide +kernel
theorem dM_canEmpty_117 : decode bM_canEmpty 117 = .ok (.aload_n 0, 1) := by decide +kernel
theorem dM_canEmpty_118 : decode bM_canEmpty 118 = .ok (.getfield 25, 3) := by decide +kernel
theorem dM_canEmpty_121 : decode bM_canEmpty 121 = .ok (.iload_n 2, 1) := by decide +kernel
theorem dM_canEmpty_122 : decode bM_canEmpty 122 = .ok (.iaload, 1) := by decide +kernel
theorem dM_canEmpty_123 : decode bM_canEmpty 123 = .ok (.iconst 1, 1) := by decide +kernel
theorem dM_canEmpty_124 : decode bM_canEmpty 124 = .ok (.iadd, 1) := by decide +kernel
theorem dM_canEmpty_125 : decode bM_canEmpty 125 = .ok (.invokevirtual 108, 3) := by decide +kernel
theorem dM_canEmpty_128 : decode bM_canEmpty 128 = .ok (.istore_n 2, 1) := by decide +kernel
theorem dM_canEmpty_129 : decode bM_canEmpty 129 = .ok (.iinc 3 1, 3) := by decide +kernel
theorem dM_canEmpty_132 : decode bM_canEmpty 132 = .ok (.goto (-98), 3) := by decide +kernel
theorem dM_canEmpty_135 : decode bM_canEmpty 135 = .ok (.iconst 1, 1) := by decide +kernel
theorem dM_canEmpty_136 : decode bM_canEmpty 136 = .ok (.ireturn, 1) := by decide +kernel
theorem dM_empty_0 : decode bM_empty 0 = .ok (.iload_n 1, 1) := by decide +kernel
theorem dM_empty_1 : decode bM_empty 1 = .ok (.iconst 4, 1) := by decide +kernel
theorem dM_empty_2 : decode bM_empty 2 = .ok (.invokestatic 51, 3) := by decide +kernel
theorem dM_empty_5 : decode bM_empty 5 = .ok (.ifCond .ne 5, 3) := by decide +kernel
theorem dM_empty_8 : decode bM_empty 8 = .ok (.iconst (-1), 1) := by decide +kernel
theorem dM_empty_9 : decode bM_empty 9 = .ok (.ireturn, 1) := by decide +kernel
theorem dM_empty_10 : decode bM_empty 10 = .ok (.aload_n 0, 1) := by decide +kernel
theorem dM_empty_11 : decode bM_empty 11 = .ok (.iload_n 1, 1) := by decide +kernel
theorem dM_empty_12 : decode bM_empty 12 = .ok (.invokevirtual 112, 3) := by decide +kernel
theorem dM_empty_15 : decode bM_empty 15 = .ok (.ifCond .ne 6, 3) := by decide +kernel
theorem dM_empty_18 : decode bM_empty 18 = .ok (.bipush (-2), 2) := by decide +kernel
theorem dM_empty_20 : decode bM_empty 20 = .ok (.ireturn, 1) := by decide +kernel
theorem dM_empty_21 : decode bM_empty 21 = .ok (.iconst 0, 1) := by decide +kernel
theorem dM_empty_22 : decode bM_empty 22 = .ok (.istore_n 2, 1) := by decide +kernel
theorem dM_empty_23 : decode bM_empty 23 = .ok (.aload_n 0, 1) := by decide +kernel
theorem dM_empty_24 : decode bM_empty 24 = .ok (.iload_n 1, 1) := by decide +kernel
theorem dM_empty_25 : decode bM_empty 25 = .ok (.iconst 0, 1) := by decide +kernel
theorem dM_empty_26 : decode bM_empty 26 = .ok (.invokevirtual 108, 3) := by decide +kernel
theorem dM_empty_29 : decode bM_empty 29 = .ok (.istore_n 3, 1) := by decide +kernel
theorem dM_empty_30 : decode bM_empty 30 = .ok (.iload_n 2, 1) := by decide +kernel
theorem dM_empty_31 : decode bM_empty 31 = .ok (.bipush 16, 2) := by decide +kernel
theorem dM_empty_33 : decode bM_empty 33 = .ok (.if_icmp .ge 53, 3) := by decide +kernel
theorem dM_empty_36 : decode bM_empty 36 = .ok (.iload_n 3, 1) := by decide +kernel
theorem dM_empty_37 : decode bM_empty 37 = .ok (.ifCond .lt 49, 3) := by decide +kernel
theorem dM_empty_40 : decode bM_empty 40 = .ok (.aload_n 0, 1) := by decide +kernel
theorem dM_empty_41 : decode bM_empty 41 = .ok (.getfield 25, 3) := by decide +kernel
theorem dM_empty_44 : decode bM_empty 44 = .ok (.iload_n 3, 1) := by decide +kernel
theorem dM_empty_45 : decode bM_empty 45 = .ok (.iaload, 1) := by decide +kernel
theorem dM_empty_46 : decode bM_empty 46 = .ok (.istore 4, 2) := by decide +kernel
theorem dM_empty_48 : decode bM_empty 48 = .ok (.aload_n 0, 1) := by decide +kernel
theorem dM_empty_49 : decode bM_empty 49 = .ok (.iload_n 1, 1) := by decide +kernel
theorem dM_empty_50 : decode bM_empty 50 = .ok (.iload 4, 2) := by decide +kernel
theorem dM_empty_52 : decode bM_empty 52 = .ok (.aload_n 0, 1) := by decide +kernel
theorem dM_empty_53 : decode bM_empty 53 = .ok (.getfield 13, 3) := by decide +kernel
theorem dM_empty_56 : decode bM_empty 56 = .ok (.iload_n 3, 1) := by decide +kernel
theorem dM_empty_57 : decode bM_empty 57 = .ok (.iaload, 1) := by decide +kernel
theorem dM_empty_58 : decode bM_empty 58 = .ok (.invokevirtual 76, 3) := by decide +kernel
theorem dM_empty_61 : decode bM_empty 61 = .ok (.aload_n 0, 1) := by decide +kernel
theorem dM_empty_62 : decode bM_empty 62 = .ok (.iload_n 3, 1) := by decide +kernel
theorem dM_empty_63 : decode bM_empty 63 = .ok (.iload_n 1, 1) := by decide +kernel
theorem dM_empty_64 : decode bM_empty 64 = .ok (.invokevirtual 96, 3) := by decide +kernel
theorem dM_empty_67 : decode bM_empty 67 = .ok (.ifCond .eq 6, 3) := by decide +kernel
theorem dM_empty_70 : decode bM_empty 70 = .ok (.iinc 2 1, 3) := by decide +kernel
theorem dM_empty_73 : decode bM_empty 73 = .ok (.aload_n 0, 1) := by decide +kernel
theorem dM_empty_74 : decode bM_empty 74 = .ok (.iload_n 1, 1) := by decide +kernel
theorem dM_empty_75 : decode bM_empty 75 = .ok (.iload 4, 2) := by decide +kernel
theorem dM_empty_77 : decode bM_empty 77 = .ok (.iconst 1, 1) := by decide +kernel
theorem dM_empty_78 : decode bM_empty 78 = .ok (.iadd, 1) := by decide +kernel
theorem dM_empty_79 : decode bM_empty 79 = .ok (.invokevirtual 108, 3) := by decide +kernel
theorem dM_empty_82 : decode bM_empty 82 = .ok (.istore_n 3, 1) := by decide +kernel
theorem dM_empty_83 : decode bM_empty 83 = .ok (.goto (-53), 3) := by decide +kernel
theorem dM_empty_86 : decode bM_empty 86 = .ok (.aload_n 0, 1) := by decide +kernel
theorem dM_empty_87 : decode bM_empty 87 = .ok (.getfield 32, 3) := by decide +kernel
theorem dM_empty_90 : decode bM_empty 90 = .ok (.iload_n 1, 1) := by decide +kernel
theorem dM_empty_91 : decode bM_empty 91 = .ok (.iconst 0, 1) := by decide +kernel
theorem dM_empty_92 : decode bM_empty 92 = .ok (.iastore, 1) := by decide +kernel
theorem dM_empty_93 : decode bM_empty 93 = .ok (.iload_n 2, 1) := by decide +kernel
theorem dM_empty_94 : decode bM_empty 94 = .ok (.ireturn, 1) := by decide +kernel
theorem dM_lose_0 : decode bM_lose 0 = .ok (.iload_n 1, 1) := by decide +kernel
theorem dM_lose_1 : decode bM_lose 1 = .ok (.iconst 4, 1) := by decide +kernel
theorem dM_lose_2 : decode bM_lose 2 = .ok (.invokestatic 51, 3) := by decide +kernel
theorem dM_lose_5 : decode bM_lose 5 = .ok (.ifCond .ne 5, 3) := by decide +kernel
theorem dM_lose_8 : decode bM_lose 8 = .ok (.iconst (-1), 1) := by decide +kernel
theorem dM_lose_9 : decode bM_lose 9 = .ok (.ireturn, 1) := by decide +kernel
theorem dM_lose_10 : decode bM_lose 10 = .ok (.iconst 0, 1) := by decide +kernel
theorem dM_lose_11 : decode bM_lose 11 = .ok (.istore_n 2, 1) := by decide +kernel
theorem dM_lose_12 : decode bM_lose 12 = .ok (.iconst 0, 1) := by decide +kernel
theorem dM_lose_13 : decode bM_lose 13 = .ok (.istore_n 3, 1) := by decide +kernel
theorem dM_lose_14 : decode bM_lose 14 = .ok (.iload_n 3, 1) := by decide +kernel
theorem dM_lose_15 : decode bM_lose 15 = .ok (.bipush 16, 2) := by decide +kernel
theorem dM_lose_17 : decode bM_lose 17 = .ok (.if_icmp .ge 61, 3) := by decide +kernel
theorem dM_lose_20 : decode bM_lose 20 = .ok (.aload_n 0, 1) := by decide +kernel
theorem dM_lose_21 : decode bM_lose 21 = .ok (.iload_n 3, 1) := by decide +kernel
theorem dM_lose_22 : decode bM_lose 22 = .ok (.invokevirtual 105, 3) := by decide +kernel
theorem dM_lose_25 : decode bM_lose 25 = .ok (.ifCond .eq 47, 3) := by decide +kernel
theorem dM_lose_28 : decode bM_lose 28 = .ok (.aload_n 0, 1) := by decide +kernel
theorem dM_lose_29 : decode bM_lose 29 = .ok (.getfield 22, 3) := by decide +kernel
theorem dM_lose_32 : decode bM_lose 32 = .ok (.iload_n 3, 1) := by decide +kernel
theorem dM_lose_33 : decode bM_lose 33 = .ok (.iaload, 1) := by decide +kernel
theorem dM_lose_34 : decode bM_lose 34 = .ok (.iload_n 1, 1) := by decide +kernel
theorem dM_lose_35 : decode bM_lose 35 = .ok (.if_icmp .ne 37, 3) := by decide +kernel
theorem dM_lose_38 : decode bM_lose 38 = .ok (.aload_n 0, 1) := by decide +kernel
theorem dM_lose_39 : decode bM_lose 39 = .ok (.getfield 7, 3) := by decide +kernel
theorem dM_lose_42 : decode bM_lose 42 = .ok (.iload_n 3, 1) := by decide +kernel
theorem dM_lose_43 : decode bM_lose 43 = .ok (.iaload, 1) := by decide +kernel
theorem dM_lose_44 : decode bM_lose 44 = .ok (.iconst 3, 1) := by decide +kernel
theorem dM_lose_45 : decode bM_lose 45 = .ok (.if_icmp .ne 6, 3) := by decide +kernel
theorem dM_lose_48 : decode bM_lose 48 = .ok (.iinc 2 1, 3) := by decide +kernel
theorem dM_lose_51 : decode bM_lose 51 = .ok (.aload_n 0, 1) := by decide +kernel
theorem dM_lose_52 : decode bM_lose 52 = .ok (.getfield 7, 3) := by decide +kernel
theorem dM_lose_55 : decode bM_lose 55 = .ok (.iload_n 3, 1) := by decide +kernel
theorem dM_lose_56 : decode bM_lose 56 = .ok (.aload_n 0, 1) := by decide +kernel
theorem dM_lose_57 : decode bM_lose 57 = .ok (.getfield 7, 3) := by decide +kernel
theorem dM_lose_60 : decode bM_lose 60 = .ok (.iload_n 3, 1) := by decide +kernel
theorem dM_lose_61 : decode bM_lose 61 = .ok (.iaload, 1) := by decide +kernel
theorem dM_lose_62 : decode bM_lose 62 = .ok (.iconst 3, 1) := by decide +kernel
theorem dM_lose_63 : decode bM_lose 63 = .ok (.if_icmp .ne 7, 3) := by decide +kernel
theorem dM_lose_66 : decode bM_lose 66 = .ok (.iconst 4, 1) := by decide +kernel
theorem dM_lose_67 : decode bM_lose 67 = .ok (.goto 4, 3) := by decide +kernel
theorem dM_lose_70 : decode bM_lose 70 = .ok (.iconst 1, 1) := by decide +kernel
theorem dM_lose_71 : decode bM_lose 71 = .ok (.iastore, 1) := by decide +kernel
theorem dM_lose_72 : decode bM_lose 72 = .ok (.iinc 3 1, 3) := by decide +kernel
theorem dM_lose_75 : decode bM_lose 75 = .ok (.goto (-61), 3) := by decide +kernel
theorem dM_lose_78 : decode bM_lose 78 = .ok (.aload_n 0, 1) := by decide +kernel
theorem dM_lose_79 : decode bM_lose 79 = .ok (.getfield 32, 3) := by decide +kernel
theorem dM_lose_82 : decode bM_lose 82 = .ok (.iload_n 1, 1) := by decide +kernel
theorem dM_lose_83 : decode bM_lose 83 = .ok (.iconst 0, 1) := by decide +kernel
theorem dM_lose_84 : decode bM_lose 84 = .ok (.iastore, 1) := by decide +kernel
theorem dM_lose_85 : decode bM_lose 85 = .ok (.aload_n 0, 1) := by decide +kernel
theorem dM_lose_86 : decode bM_lose 86 = .ok (.getfield 41, 3) := by decide +kernel
theorem dM_lose_89 : decode bM_lose 89 = .ok (.iload_n 1, 1) := by decide +kernel
theorem dM_lose_90 : decode bM_lose 90 = .ok (.if_icmp .ne 8, 3) := by decide +kernel
theorem dM_lose_93 : decode bM_lose 93 = .ok (.aload_n 0, 1) := by decide +kernel
theorem dM_lose_94 : decode bM_lose 94 = .ok (.iconst (-1), 1) := by decide +kernel
theorem dM_lose_95 : decode bM_lose 95 = .ok (.putfield 41, 3) := by decide +kernel
theorem dM_lose_98 : decode bM_lose 98 = .ok (.iload_n 2, 1) := by decide +kernel
theorem dM_lose_99 : decode bM_lose 99 = .ok (.ireturn, 1) := by decide +kernel
theorem dM_file_0 : decode bM_file 0 = .ok (.iload_n 1, 1) := by decide +kernel
theorem dM_file_1 : decode bM_file 1 = .ok (.bipush 16, 2) := by decide +kernel
theorem dM_file_3 : decode bM_file 3 = .ok (.invokestatic 51, 3) := by decide +kernel
theorem dM_file_6 : decode bM_file 6 = .ok (.ifCond .eq 12, 3) := by decide +kernel
theorem dM_file_9 : decode bM_file 9 = .ok (.iload_n 2, 1) := by decide +kernel
theorem dM_file_10 : decode bM_file 10 = .ok (.bipush 6, 2) := by decide +kernel
theorem dM_file_12 : decode bM_file 12 = .ok (.invokestatic 51, 3) := by decide +kernel
theorem dM_file_15 : decode bM_file 15 = .ok (.ifCond .ne 5, 3) := by decide +kernel
theorem dM_file_18 : decode bM_file 18 = .ok (.iconst (-1), 1) := by decide +kernel
theorem dM_file_19 : decode bM_file 19 = .ok (.ireturn, 1) := by decide +kernel
theorem dM_file_20 : decode bM_file 20 = .ok (.iload_n 2, 1) := by decide +kernel
theorem dM_file_21 : decode bM_file 21 = .ok (.ifCond .ne 10, 3) := by decide +kernel
theorem dM_file_24 : decode bM_file 24 = .ok (.aload_n 0, 1) := by decide +kernel
theorem dM_file_25 : decode bM_file 25 = .ok (.getfield 7, 3) := by decide +kernel
theorem dM_file_28 : decode bM_file 28 = .ok (.iload_n 1, 1) := by decide +kernel
theorem dM_file_29 : decode bM_file 29 = .ok (.iaload, 1) := by decide +kernel
theorem dM_file_30 : decode bM_file 30 = .ok (.ireturn, 1) := by decide +kernel
theorem dM_file_31 : decode bM_file 31 = .ok (.iload_n 2, 1) := by decide +kernel
theorem dM_file_32 : decode bM_file 32 = .ok (.iconst 1, 1) := by decide +kernel
theorem dM_file_33 : decode bM_file 33 = .ok (.if_icmp .ne 23, 3) := by decide +kernel
theorem dM_file_36 : decode bM_file 36 = .ok (.aload_n 0, 1) := by decide +kernel
theorem dM_file_37 : decode bM_file 37 = .ok (.getfield 7, 3) := by decide +kernel
theorem dM_file_40 : decode bM_file 40 = .ok (.iload_n 1, 1) := by decide +kernel
theorem dM_file_41 : decode bM_file 41 = .ok (.iaload, 1) := by decide +kernel
theorem dM_file_42 : decode bM_file 42 = .ok (.ifCond .ne 7, 3) := by decide +kernel
theorem dM_file_45 : decode bM_file 45 = .ok (.iconst 0, 1) := by decide +kernel
theorem dM_file_46 : decode bM_file 46 = .ok (.goto 9, 3) := by decide +kernel
theorem dM_file_49 : decode bM_file 49 = .ok (.aload_n 0, 1) := by decide +kernel
theorem dM_file_50 : decode bM_file 50 = .ok (.getfield 13, 3) := by decide +kernel
theorem dM_file_53 : decode bM_file 53 = .ok (.iload_n 1, 1) := by decide +kernel
theorem dM_file_54 : decode bM_file 54 = .ok (.iaload, 1) := by decide +kernel
theorem dM_file_55 : decode bM_file 55 = .ok (.ireturn, 1) := by decide +kernel
theorem dM_file_56 : decode bM_file 56 = .ok (.iload_n 2, 1) := by decide +kernel
theorem dM_file_57 : decode bM_file 57 = .ok (.iconst 2, 1) := by decide +kernel
theorem dM_file_58 : decode bM_file 58 = .ok (.if_icmp .eq 8, 3) := by decide +kernel
theorem dM_file_61 : decode bM_file 61 = .ok (.iload_n 2, 1) := by decide +kernel
theorem dM_file_62 : decode bM_file 62 = .ok (.iconst 3, 1) := by decide +kernel
theorem dM_file_63 : decode bM_file 63 = .ok (.if_icmp .ne 36, 3) := by decide +kernel
theorem dM_file_66 : decode bM_file 66 = .ok (.aload_n 0, 1) := by decide +kernel
theorem dM_file_67 : decode bM_file 67 = .ok (.iload_n 1, 1) := by decide +kernel
theorem dM_file_68 : decode bM_file 68 = .ok (.invokevirtual 105, 3) := by decide +kernel
theorem dM_file_71 : decode bM_file 71 = .ok (.ifCond .ne 7, 3) := by decide +kernel
theorem dM_file_74 : decode bM_file 74 = .ok (.iconst (-1), 1) := by decide +kernel
theorem dM_file_75 : decode bM_file 75 = .ok (.goto 23, 3) := by decide +kernel
theorem dM_file_78 : decode bM_file 78 = .ok (.iload_n 2, 1) := by decide +kernel
theorem dM_file_79 : decode bM_file 79 = .ok (.iconst 2, 1) := by decide +kernel
theorem dM_file_80 : decode bM_file 80 = .ok (.if_icmp .ne 12, 3) := by decide +kernel
theorem dM_file_83 : decode bM_file 83 = .ok (.aload_n 0, 1) := by decide +kernel
theorem dM_file_84 : decode bM_file 84 = .ok (.getfield 22, 3) := by decide +kernel
theorem dM_file_87 : decode bM_file 87 = .ok (.iload_n 1, 1) := by decide +kernel
theorem dM_file_88 : decode bM_file 88 = .ok (.iaload, 1) := by decide +kernel
theorem dM_file_89 : decode bM_file 89 = .ok (.goto 9, 3) := by decide +kernel
theorem dM_file_92 : decode bM_file 92 = .ok (.aload_n 0, 1) := by decide +kernel
theorem dM_file_93 : decode bM_file 93 = .ok (.getfield 25, 3) := by decide +kernel
theorem dM_file_96 : decode bM_file 96 = .ok (.iload_n 1, 1) := by decide +kernel
theorem dM_file_97 : decode bM_file 97 = .ok (.iaload, 1) := by decide +kernel
theorem dM_file_98 : decode bM_file 98 = .ok (.ireturn, 1) := by decide +kernel
theorem dM_file_99 : decode bM_file 99 = .ok (.iload_n 2, 1) := by decide +kernel
theorem dM_file_100 : decode bM_file 100 = .ok (.iconst 4, 1) := by decide +kernel
theorem dM_file_101 : decode bM_file 101 = .ok (.if_icmp .ne 18, 3) := by decide +kernel
theorem dM_file_104 : decode bM_file 104 = .ok (.aload_n 0, 1) := by decide +kernel
theorem dM_file_105 : decode bM_file 105 = .ok (.getfield 28, 3) := by decide +kernel
theorem dM_file_108 : decode bM_file 108 = .ok (.iload_n 1, 1) := by decide +kernel
theorem dM_file_109 : decode bM_file 109 = .ok (.baload, 1) := by decide +kernel
theorem dM_file_110 : decode bM_file 110 = .ok (.ifCond .eq 7, 3) := by decide +kernel
theorem dM_file_113 : decode bM_file 113 = .ok (.iconst 1, 1) := by decide +kernel
theorem dM_file_114 : decode bM_file 114 = .ok (.goto 4, 3) := by decide +kernel
theorem dM_file_117 : decode bM_file 117 = .ok (.iconst 0, 1) := by decide +kernel
theorem dM_file_118 : decode bM_file 118 = .ok (.ireturn, 1) := by decide +kernel
theorem dM_file_119 : decode bM_file 119 = .ok (.aload_n 0, 1) := by decide +kernel
theorem dM_file_120 : decode bM_file 120 = .ok (.getfield 7, 3) := by decide +kernel
theorem dM_file_123 : decode bM_file 123 = .ok (.iload_n 1, 1) := by decide +kernel
theorem dM_file_124 : decode bM_file 124 = .ok (.iaload, 1) := by decide +kernel
theorem dM_file_125 : decode bM_file 125 = .ok (.ifCond .ne 5, 3) := by decide +kernel
theorem dM_file_128 : decode bM_file 128 = .ok (.iconst (-1), 1) := by decide +kernel
theorem dM_file_129 : decode bM_file 129 = .ok (.ireturn, 1) := by decide +kernel
theorem dM_file_130 : decode bM_file 130 = .ok (.iconst 0, 1) := by decide +kernel
theorem dM_file_131 : decode bM_file 131 = .ok (.istore_n 3, 1) := by decide +kernel
theorem dM_file_132 : decode bM_file 132 = .ok (.iconst 0, 1) := by decide +kernel
theorem dM_file_133 : decode bM_file 133 = .ok (.istore 4, 2) := by decide +kernel
theorem dM_file_135 : decode bM_file 135 = .ok (.iload 4, 2) := by decide +kernel
theorem dM_file_137 : decode bM_file 137 = .ok (.bipush 16, 2) := by decide +kernel
theorem dM_file_139 : decode bM_file 139 = .ok (.if_icmp .ge 38, 3) := by decide +kernel
theorem dM_file_142 : decode bM_file 142 = .ok (.aload_n 0, 1) := by decide +kernel
theorem dM_file_143 : decode bM_file 143 = .ok (.getfield 7, 3) := by decide +kernel
theorem dM_file_146 : decode bM_file 146 = .ok (.iload 4, 2) := by decide +kernel
theorem dM_file_148 : decode bM_file 148 = .ok (.iaload, 1) := by decide +kernel
theorem dM_file_149 : decode bM_file 149 = .ok (.ifCond .eq 22, 3) := by decide +kernel
theorem dM_file_152 : decode bM_file 152 = .ok (.aload_n 0, 1) := by decide +kernel
theorem dM_file_153 : decode bM_file 153 = .ok (.getfield 19, 3) := by decide +kernel
theorem dM_file_156 : decode bM_file 156 = .ok (.iload 4, 2) := by decide +kernel
theorem dM_file_158 : decode bM_file 158 = .ok (.iaload, 1) := by decide +kernel
theorem dM_file_159 : decode bM_file 159 = .ok (.aload_n 0, 1) := by decide +kernel
theorem dM_file_160 : decode bM_file 160 = .ok (.getfield 19, 3) := by decide +kernel
theorem dM_file_163 : decode bM_file 163 = .ok (.iload_n 1, 1) := by decide +kernel
theorem dM_file_164 : decode bM_file 164 = .ok (.iaload, 1) := by decide +kernel
theorem dM_file_165 : decode bM_file 165 = .ok (.if_icmp .le 6, 3) := by decide +kernel
theorem dM_file_168 : decode bM_file 168 = .ok (.iinc 3 1, 3) := by decide +kernel
theorem dM_file_171 : decode bM_file 171 = .ok (.iinc 4 1, 3) := by decide +kernel
theorem dM_file_174 : decode bM_file 174 = .ok (.goto (-39), 3) := by decide +kernel
theorem dM_file_177 : decode bM_file 177 = .ok (.iload_n 3, 1) := by decide +kernel
theorem dM_file_178 : decode bM_file 178 = .ok (.ireturn, 1) := by decide +kernel
theorem dM_cartridge_0 : decode bM_cartridge 0 = .ok (.iload_n 1, 1) := by decide +kernel
theorem dM_cartridge_1 : decode bM_cartridge 1 = .ok (.iconst 4, 1) := by decide +kernel
theorem dM_cartridge_2 : decode bM_cartridge 2 = .ok (.invokestatic 51, 3) := by decide +kernel
theorem dM_cartridge_5 : decode bM_cartridge 5 = .ok (.ifCond .eq 11, 3) := by decide +kernel
theorem dM_cartridge_8 : decode bM_cartridge 8 = .ok (.iload_n 2, 1) := by decide +kernel
theorem dM_cartridge_9 : decode bM_cartridge 9 = .ok (.iconst 3, 1) := by decide +kernel
theorem dM_cartridge_10 : decode bM_cartridge 10 = .ok (.invokestatic 51, 3) := by decide +kernel
theorem dM_cartridge_13 : decode bM_cartridge 13 = .ok (.ifCond .ne 5, 3) := by decide +kernel
theorem dM_cartridge_16 : decode bM_cartridge 16 = .ok (.iconst (-1), 1) := by decide +kernel
theorem dM_cartridge_17 : decode bM_cartridge 17 = .ok (.ireturn, 1) := by decide +kernel
theorem dM_cartridge_18 : decode bM_cartridge 18 = .ok (.iload_n 2, 1) := by decide +kernel
theorem dM_cartridge_19 : decode bM_cartridge 19 = .ok (.ifCond .ne 10, 3) := by decide +kernel
theorem dM_cartridge_22 : decode bM_cartridge 22 = .ok (.aload_n 0, 1) := by decide +kernel
theorem dM_cartridge_23 : decode bM_cartridge 23 = .ok (.getfield 32, 3) := by decide +kernel
theorem dM_cartridge_26 : decode bM_cartridge 26 = .ok (.iload_n 1, 1) := by decide +kernel
theorem dM_cartridge_27 : decode bM_cartridge 27 = .ok (.iaload, 1) := by decide +kernel
theorem dM_cartridge_28 : decode bM_cartridge 28 = .ok (.ireturn, 1) := by decide +kernel
theorem dM_cartridge_29 : decode bM_cartridge 29 = .ok (.iload_n 2, 1) := by decide +kernel
theorem dM_cartridge_30 : decode bM_cartridge 30 = .ok (.iconst 2, 1) := by decide +kernel
theorem dM_cartridge_31 : decode bM_cartridge 31 = .ok (.if_icmp .ne 17, 3) := by decide +kernel
theorem dM_cartridge_34 : decode bM_cartridge 34 = .ok (.aload_n 0, 1) := by decide +kernel
theorem dM_cartridge_35 : decode bM_cartridge 35 = .ok (.getfield 41, 3) := by decide +kernel
theorem dM_cartridge_38 : decode bM_cartridge 38 = .ok (.iload_n 1, 1) := by decide +kernel
theorem dM_cartridge_39 : decode bM_cartridge 39 = .ok (.if_icmp .ne 7, 3) := by decide +kernel
theorem dM_cartridge_42 : decode bM_cartridge 42 = .ok (.iconst 1, 1) := by decide +kernel
theorem dM_cartridge_43 : decode bM_cartridge 43 = .ok (.goto 4, 3) := by decide +kernel
theorem dM_cartridge_46 : decode bM_cartridge 46 = .ok (.iconst 0, 1) := by decide +kernel
theorem dM_cartridge_47 : decode bM_cartridge 47 = .ok (.ireturn, 1) := by decide +kernel
theorem dM_cartridge_48 : decode bM_cartridge 48 = .ok (.iconst 0, 1) := by decide +kernel
theorem dM_cartridge_49 : decode bM_cartridge 49 = .ok (.istore_n 3, 1) := by decide +kernel
theorem dM_cartridge_50 : decode bM_cartridge 50 = .ok (.iconst 0, 1) := by decide +kernel
theorem dM_cartridge_51 : decode bM_cartridge 51 = .ok (.istore 4, 2) := by decide +kernel
theorem dM_cartridge_53 : decode bM_cartridge 53 = .ok (.iload 4, 2) := by decide +kernel
theorem dM_cartridge_55 : decode bM_cartridge 55 = .ok (.bipush 16, 2) := by decide +kernel
theorem dM_cartridge_57 : decode bM_cartridge 57 = .ok (.if_icmp .ge 39, 3) := by decide +kernel
theorem dM_cartridge_60 : decode bM_cartridge 60 = .ok (.aload_n 0, 1) := by decide +kernel
theorem dM_cartridge_61 : decode bM_cartridge 61 = .ok (.iload 4, 2) := by decide +kernel
theorem dM_cartridge_63 : decode bM_cartridge 63 = .ok (.invokevirtual 105, 3) := by decide +kernel
theorem dM_cartridge_66 : decode bM_cartridge 66 = .ok (.ifCond .eq 24, 3) := by decide +kernel
theorem dM_cartridge_69 : decode bM_cartridge 69 = .ok (.aload_n 0, 1) := by decide +kernel
theorem dM_cartridge_70 : decode bM_cartridge 70 = .ok (.getfield 22, 3) := by decide +kernel
theorem dM_cartridge_73 : decode bM_cartridge 73 = .ok (.iload 4, 2) := by decide +kernel
theorem dM_cartridge_75 : decode bM_cartridge 75 = .ok (.iaload, 1) := by decide +kernel
theorem dM_cartridge_76 : decode bM_cartridge 76 = .ok (.iload_n 1, 1) := by decide +kernel
theorem dM_cartridge_77 : decode bM_cartridge 77 = .ok (.if_icmp .ne 13, 3) := by decide +kernel
theorem dM_cartridge_80 : decode bM_cartridge 80 = .ok (.iload_n 3, 1) := by decide +kernel
theorem dM_cartridge_81 : decode bM_cartridge 81 = .ok (.aload_n 0, 1) := by decide +kernel
theorem dM_cartridge_82 : decode bM_cartridge 82 = .ok (.getfield 13, 3) := by decide +kernel
theorem dM_cartridge_85 : decode bM_cartridge 85 = .ok (.iload 4, 2) := by decide +kernel
theorem dM_cartridge_87 : decode bM_cartridge 87 = .ok (.iaload, 1) := by decide +kernel
theorem dM_cartridge_88 : decode bM_cartridge 88 = .ok (.iadd, 1) := by decide +kernel
theorem dM_cartridge_89 : decode bM_cartridge 89 = .ok (.istore_n 3, 1) := by decide +kernel
theorem dM_cartridge_90 : decode bM_cartridge 90 = .ok (.iinc 4 1, 3) := by decide +kernel
theorem dM_cartridge_93 : decode bM_cartridge 93 = .ok (.goto (-40), 3) := by decide +kernel
theorem dM_cartridge_96 : decode bM_cartridge 96 = .ok (.iload_n 3, 1) := by decide +kernel
theorem dM_cartridge_97 : decode bM_cartridge 97 = .ok (.ireturn, 1) := by decide +kernel
theorem dM_count_0 : decode bM_count 0 = .ok (.iload_n 1, 1) := by decide +kernel
theorem dM_count_1 : decode bM_count 1 = .ok (.ifCond .ne 8, 3) := by decide +kernel
theorem dM_count_4 : decode bM_count 4 = .ok (.aload_n 0, 1) := by decide +kernel
theorem dM_count_5 : decode bM_count 5 = .ok (.invokevirtual 58, 3) := by decide +kernel
theorem dM_count_8 : decode bM_count 8 = .ok (.ireturn, 1) := by decide +kernel
theorem dM_count_9 : decode bM_count 9 = .ok (.iload_n 1, 1) := by decide +kernel
theorem dM_count_10 : decode bM_count 10 = .ok (.iconst 1, 1) := by decide +kernel
theorem dM_count_11 : decode bM_count 11 = .ok (.if_icmp .ne 8, 3) := by decide +kernel
theorem dM_count_14 : decode bM_count 14 = .ok (.aload_n 0, 1) := by decide +kernel
theorem dM_count_15 : decode bM_count 15 = .ok (.getfield 66, 3) := by decide +kernel
theorem dM_count_18 : decode bM_count 18 = .ok (.ireturn, 1) := by decide +kernel
theorem dM_count_19 : decode bM_count 19 = .ok (.iload_n 1, 1) := by decide +kernel
theorem dM_count_20 : decode bM_count 20 = .ok (.iconst 2, 1) := by decide +kernel
theorem dM_count_21 : decode bM_count 21 = .ok (.if_icmp .ne 19, 3) := by decide +kernel
theorem dM_count_24 : decode bM_count 24 = .ok (.aload_n 0, 1) := by decide +kernel
theorem dM_count_25 : decode bM_count 25 = .ok (.getfield 41, 3) := by decide +kernel
theorem dM_count_28 : decode bM_count 28 = .ok (.ifCond .ge 7, 3) := by decide +kernel
theorem dM_count_31 : decode bM_count 31 = .ok (.iconst 0, 1) := by decide +kernel
theorem dM_count_32 : decode bM_count 32 = .ok (.goto 7, 3) := by decide +kernel
theorem dM_count_35 : decode bM_count 35 = .ok (.aload_n 0, 1) := by decide +kernel
theorem dM_count_36 : decode bM_count 36 = .ok (.getfield 69, 3) := by decide +kernel
theorem dM_count_39 : decode bM_count 39 = .ok (.ireturn, 1) := by decide +kernel
theorem dM_count_40 : decode bM_count 40 = .ok (.iload_n 1, 1) := by decide +kernel
theorem dM_count_41 : decode bM_count 41 = .ok (.iconst 3, 1) := by decide +kernel
theorem dM_count_42 : decode bM_count 42 = .ok (.if_icmp .ne 10, 3) := by decide +kernel
theorem dM_count_45 : decode bM_count 45 = .ok (.aload_n 0, 1) := by decide +kernel
theorem dM_count_46 : decode bM_count 46 = .ok (.invokevirtual 99, 3) := by decide +kernel
theorem dM_count_49 : decode bM_count 49 = .ok (.goto 4, 3) := by decide +kernel
theorem dM_count_52 : decode bM_count 52 = .ok (.iconst (-1), 1) := by decide +kernel
theorem dM_count_53 : decode bM_count 53 = .ok (.ireturn, 1) := by decide +kernel
end
section
theorem dL_cell_0 : decode bL_cell 0 = .ok (.iload_n 1, 1) := by decide +kernel
theorem dL_cell_1 : decode bL_cell 1 = .ok (.aload_n 0, 1) := by decide +kernel
theorem dL_cell_2 : decode bL_cell 2 = .ok (.arraylength, 1) := by decide +kernel
theorem dL_cell_3 : decode bL_cell 3 = .ok (.if_icmp .ge 9, 3) := by decide +kernel
theorem dL_cell_6 : decode bL_cell 6 = .ok (.aload_n 0, 1) := by decide +kernel
theorem dL_cell_7 : decode bL_cell 7 = .ok (.iload_n 1, 1) := by decide +kernel
theorem dL_cell_8 : decode bL_cell 8 = .ok (.iaload, 1) := by decide +kernel
theorem dL_cell_9 : decode bL_cell 9 = .ok (.goto 4, 3) := by decide +kernel
theorem dL_cell_12 : decode bL_cell 12 = .ok (.iconst 0, 1) := by decide +kernel
theorem dL_cell_13 : decode bL_cell 13 = .ok (.ireturn, 1) := by decide +kernel
theorem dL_law_0 : decode bL_law 0 = .ok (.new 7, 3) := by decide +kernel
theorem dL_law_3 : decode bL_law 3 = .ok (.dup, 1) := by decide +kernel
theorem dL_law_4 : decode bL_law 4 = .ok (.aload_n 0, 1) := by decide +kernel
theorem dL_law_5 : decode bL_law 5 = .ok (.iconst 0, 1) := by decide +kernel
theorem dL_law_6 : decode bL_law 6 = .ok (.invokestatic 9, 3) := by decide +kernel
theorem dL_law_9 : decode bL_law 9 = .ok (.aload_n 0, 1) := by decide +kernel
theorem dL_law_10 : decode bL_law 10 = .ok (.iconst 1, 1) := by decide +kernel
theorem dL_law_11 : decode bL_law 11 = .ok (.invokestatic 9, 3) := by decide +kernel
theorem dL_law_14 : decode bL_law 14 = .ok (.invokespecial 15, 3) := by decide +kernel
theorem dL_law_17 : decode bL_law 17 = .ok (.astore_n 1, 1) := by decide +kernel
theorem dL_law_18 : decode bL_law 18 = .ok (.new 18, 3) := by decide +kernel
theorem dL_law_21 : decode bL_law 21 = .ok (.dup, 1) := by decide +kernel
theorem dL_law_22 : decode bL_law 22 = .ok (.aload_n 0, 1) := by decide +kernel
theorem dL_law_23 : decode bL_law 23 = .ok (.iconst 0, 1) := by decide +kernel
theorem dL_law_24 : decode bL_law 24 = .ok (.invokestatic 9, 3) := by decide +kernel
theorem dL_law_27 : decode bL_law 27 = .ok (.aload_n 0, 1) := by decide +kernel
theorem dL_law_28 : decode bL_law 28 = .ok (.iconst 1, 1) := by decide +kernel
theorem dL_law_29 : decode bL_law 29 = .ok (.invokestatic 9, 3) := by decide +kernel
theorem dL_law_32 : decode bL_law 32 = .ok (.invokespecial 20, 3) := by decide +kernel
theorem dL_law_35 : decode bL_law 35 = .ok (.astore_n 2, 1) := by decide +kernel
theorem dL_law_36 : decode bL_law 36 = .ok (.iconst 2, 1) := by decide +kernel
theorem dL_law_37 : decode bL_law 37 = .ok (.istore_n 3, 1) := by decide +kernel
theorem dL_law_38 : decode bL_law 38 = .ok (.iload_n 3, 1) := by decide +kernel
theorem dL_law_39 : decode bL_law 39 = .ok (.aload_n 0, 1) := by decide +kernel
theorem dL_law_40 : decode bL_law 40 = .ok (.arraylength, 1) := by decide +kernel
theorem dL_law_41 : decode bL_law 41 = .ok (.iconst 4, 1) := by decide +kernel
theorem dL_law_42 : decode bL_law 42 = .ok (.isub, 1) := by decide +kernel
theorem dL_law_43 : decode bL_law 43 = .ok (.if_icmp .gt 433, 3) := by decide +kernel
theorem dL_law_46 : decode bL_law 46 = .ok (.aload_n 0, 1) := by decide +kernel
theorem dL_law_47 : decode bL_law 47 = .ok (.iload_n 3, 1) := by decide +kernel
theorem dL_law_48 : decode bL_law 48 = .ok (.iaload, 1) := by decide +kernel
theorem dL_law_49 : decode bL_law 49 = .ok (.bipush 15, 2) := by decide +kernel
theorem dL_law_51 : decode bL_law 51 = .ok (.iand, 1) := by decide +kernel
theorem dL_law_52 : decode bL_law 52 = .ok (.tableswitch 418 0 12 #[68, 101, 144, 178, 201, 214, 247, 270, 283, 306, 329, 362, 395], 68) := by decide +kernel
theorem dL_law_120 : decode bL_law 120 = .ok (.aload_n 1, 1) := by decide +kernel
theorem dL_law_121 : decode bL_law 121 = .ok (.aload_n 0, 1) := by decide +kernel
theorem dL_law_122 : decode bL_law 122 = .ok (.iload_n 3, 1) := by decide +kernel
theorem dL_law_123 : decode bL_law 123 = .ok (.iconst 1, 1) := by decide +kernel
theorem dL_law_124 : decode bL_law 124 = .ok (.iadd, 1) := by decide +kernel
theorem dL_law_125 : decode bL_law 125 = .ok (.iaload, 1) := by decide +kernel
theorem dL_law_126 : decode bL_law 126 = .ok (.aload_n 0, 1) := by decide +kernel
theorem dL_law_127 : decode bL_law 127 = .ok (.iload_n 3, 1) := by decide +kernel
theorem dL_law_128 : decode bL_law 128 = .ok (.iconst 2, 1) := by decide +kernel
theorem dL_law_129 : decode bL_law 129 = .ok (.iadd, 1) := by decide +kernel
theorem dL_law_130 : decode bL_law 130 = .ok (.iaload, 1) := by decide +kernel
theorem dL_law_131 : decode bL_law 131 = .ok (.invokevirtual 21, 3) := by decide +kernel
theorem dL_law_134 : decode bL_law 134 = .ok (.aload_n 2, 1) := by decide +kernel
theorem dL_law_135 : decode bL_law 135 = .ok (.aload_n 0, 1) := by decide +kernel
theorem dL_law_136 : decode bL_law 136 = .ok (.iload_n 3, 1) := by decide +kernel
theorem dL_law_137 : decode bL_law 137 = .ok (.iconst 1, 1) := by decide +kernel
theorem dL_law_138 : decode bL_law 138 = .ok (.iadd, 1) := by decide +kernel
theorem dL_law_139 : decode bL_law 139 = .ok (.iaload, 1) := by decide +kernel
theorem dL_law_140 : decode bL_law 140 = .ok (.aload_n 0, 1) := by decide +kernel
theorem dL_law_141 : decode bL_law 141 = .ok (.iload_n 3, 1) := by decide +kernel
theorem dL_law_142 : decode bL_law 142 = .ok (.iconst 2, 1) := by decide +kernel
theorem dL_law_143 : decode bL_law 143 = .ok (.iadd, 1) := by decide +kernel
theorem dL_law_144 : decode bL_law 144 = .ok (.iaload, 1) := by decide +kernel
theorem dL_law_145 : decode bL_law 145 = .ok (.invokevirtual 25, 3) := by decide +kernel
theorem dL_law_148 : decode bL_law 148 = .ok (.if_icmp .eq 322, 3) := by decide +kernel
theorem dL_law_151 : decode bL_law 151 = .ok (.iconst 0, 1) := by decide +kernel
theorem dL_law_152 : decode bL_law 152 = .ok (.ireturn, 1) := by decide +kernel
theorem dL_law_153 : decode bL_law 153 = .ok (.aload_n 1, 1) := by decide +kernel
theorem dL_law_154 : decode bL_law 154 = .ok (.aload_n 0, 1) := by decide +kernel
theorem dL_law_155 : decode bL_law 155 = .ok (.iload_n 3, 1) := by decide +kernel
theorem dL_law_156 : decode bL_law 156 = .ok (.iconst 1, 1) := by decide +kernel
theorem dL_law_157 : decode bL_law 157 = .ok (.iadd, 1) := by decide +kernel
theorem dL_law_158 : decode bL_law 158 = .ok (.iaload, 1) := by decide +kernel
theorem dL_law_159 : decode bL_law 159 = .ok (.aload_n 0, 1) := by decide +kernel
theorem dL_law_160 : decode bL_law 160 = .ok (.iload_n 3, 1) := by decide +kernel
theorem dL_law_161 : decode bL_law 161 = .ok (.iconst 2, 1) := by decide +kernel
theorem dL_law_162 : decode bL_law 162 = .ok (.iadd, 1) := by decide +kernel
theorem dL_law_163 : decode bL_law 163 = .ok (.iaload, 1) := by decide +kernel
theorem dL_law_164 : decode bL_law 164 = .ok (.aload_n 0, 1) := by decide +kernel
theorem dL_law_165 : decode bL_law 165 = .ok (.iload_n 3, 1) := by decide +kernel
theorem dL_law_166 : decode bL_law 166 = .ok (.iconst 3, 1) := by decide +kernel
theorem dL_law_167 : decode bL_law 167 = .ok (.iadd, 1) := by decide +kernel
theorem dL_law_168 : decode bL_law 168 = .ok (.iaload, 1) := by decide +kernel
theorem dL_law_169 : decode bL_law 169 = .ok (.invokevirtual 26, 3) := by decide +kernel
theorem dL_law_172 : decode bL_law 172 = .ok (.aload_n 2, 1) := by decide +kernel
theorem dL_law_173 : decode bL_law 173 = .ok (.aload_n 0, 1) := by decide +kernel
theorem dL_law_174 : decode bL_law 174 = .ok (.iload_n 3, 1) := by decide +kernel
theorem dL_law_175 : decode bL_law 175 = .ok (.iconst 1, 1) := by decide +kernel
theorem dL_law_176 : decode bL_law 176 = .ok (.iadd, 1) := by decide +kernel
theorem dL_law_177 : decode bL_law 177 = .ok (.iaload, 1) := by decide +kernel
theorem dL_law_178 : decode bL_law 178 = .ok (.aload_n 0, 1) := by decide +kernel
theorem dL_law_179 : decode bL_law 179 = .ok (.iload_n 3, 1) := by decide +kernel
theorem dL_law_180 : decode bL_law 180 = .ok (.iconst 2, 1) := by decide +kernel
theorem dL_law_181 : decode bL_law 181 = .ok (.iadd, 1) := by decide +kernel
theorem dL_law_182 : decode bL_law 182 = .ok (.iaload, 1) := by decide +kernel
theorem dL_law_183 : decode bL_law 183 = .ok (.aload_n 0, 1) := by decide +kernel
theorem dL_law_184 : decode bL_law 184 = .ok (.iload_n 3, 1) := by decide +kernel
theorem dL_law_185 : decode bL_law 185 = .ok (.iconst 3, 1) := by decide +kernel
theorem dL_law_186 : decode bL_law 186 = .ok (.iadd, 1) := by decide +kernel
theorem dL_law_187 : decode bL_law 187 = .ok (.iaload, 1) := by decide +kernel
theorem dL_law_188 : decode bL_law 188 = .ok (.invokevirtual 30, 3) := by decide +kernel
theorem dL_law_191 : decode bL_law 191 = .ok (.if_icmp .eq 279, 3) := by decide +kernel
theorem dL_law_194 : decode bL_law 194 = .ok (.iconst 0, 1) := by decide +kernel
theorem dL_law_195 : decode bL_law 195 = .ok (.ireturn, 1) := by decide +kernel
theorem dL_law_196 : decode bL_law 196 = .ok (.aload_n 1, 1) := by decide +kernel
theorem dL_law_197 : decode bL_law 197 = .ok (.aload_n 0, 1) := by decide +kernel
theorem dL_law_198 : decode bL_law 198 = .ok (.iload_n 3, 1) := by decide +kernel
theorem dL_law_199 : decode bL_law 199 = .ok (.iconst 1, 1) := by decide +kernel
theorem dL_law_200 : decode bL_law 200 = .ok (.iadd, 1) := by decide +kernel
theorem dL_law_201 : decode bL_law 201 = .ok (.iaload, 1) := by decide +kernel
theorem dL_law_202 : decode bL_law 202 = .ok (.aload_n 0, 1) := by decide +kernel
theorem dL_law_203 : decode bL_law 203 = .ok (.iload_n 3, 1) := by decide +kernel
theorem dL_law_204 : decode bL_law 204 = .ok (.iconst 2, 1) := by decide +kernel
theorem dL_law_205 : decode bL_law 205 = .ok (.iadd, 1) := by decide +kernel
theorem dL_law_206 : decode bL_law 206 = .ok (.iaload, 1) := by decide +kernel
theorem dL_law_207 : decode bL_law 207 = .ok (.invokevirtual 31, 3) := by decide +kernel
theorem dL_law_210 : decode bL_law 210 = .ok (.aload_n 2, 1) := by decide +kernel
theorem dL_law_211 : decode bL_law 211 = .ok (.aload_n 0, 1) := by decide +kernel
theorem dL_law_212 : decode bL_law 212 = .ok (.iload_n 3, 1) := by decide +kernel
theorem dL_law_213 : decode bL_law 213 = .ok (.iconst 1, 1) := by decide +kernel
theorem dL_law_214 : decode bL_law 214 = .ok (.iadd, 1) := by decide +kernel
theorem dL_law_215 : decode bL_law 215 = .ok (.iaload, 1) := by decide +kernel
theorem dL_law_216 : decode bL_law 216 = .ok (.aload_n 0, 1) := by decide +kernel
theorem dL_law_217 : decode bL_law 217 = .ok (.iload_n 3, 1) := by decide +kernel
theorem dL_law_218 : decode bL_law 218 = .ok (.iconst 2, 1) := by decide +kernel
theorem dL_law_219 : decode bL_law 219 = .ok (.iadd, 1) := by decide +kernel
theorem dL_law_220 : decode bL_law 220 = .ok (.iaload, 1) := by decide +kernel
theorem dL_law_221 : decode bL_law 221 = .ok (.invokevirtual 35, 3) := by decide +kernel
theorem dL_law_224 : decode bL_law 224 = .ok (.lcmp, 1) := by decide +kernel
theorem dL_law_225 : decode bL_law 225 = .ok (.ifCond .eq 245, 3) := by decide +kernel
theorem dL_law_228 : decode bL_law 228 = .ok (.iconst 0, 1) := by decide +kernel
theorem dL_law_229 : decode bL_law 229 = .ok (.ireturn, 1) := by decide +kernel
theorem dL_law_230 : decode bL_law 230 = .ok (.aload_n 1, 1) := by decide +kernel
theorem dL_law_231 : decode bL_law 231 = .ok (.aload_n 0, 1) := by decide +kernel
theorem dL_law_232 : decode bL_law 232 = .ok (.iload_n 3, 1) := by decide +kernel
theorem dL_law_233 : decode bL_law 233 = .ok (.iconst 1, 1) := by decide +kernel
theorem dL_law_234 : decode bL_law 234 = .ok (.iadd, 1) := by decide +kernel
theorem dL_law_235 : decode bL_law 235 = .ok (.iaload, 1) := by decide +kernel
theorem dL_law_236 : decode bL_law 236 = .ok (.invokevirtual 36, 3) := by decide +kernel
theorem dL_law_239 : decode bL_law 239 = .ok (.aload_n 2, 1) := by decide +kernel
theorem dL_law_240 : decode bL_law 240 = .ok (.aload_n 0, 1) := by decide +kernel
theorem dL_law_241 : decode bL_law 241 = .ok (.iload_n 3, 1) := by decide +kernel
theorem dL_law_242 : decode bL_law 242 = .ok (.iconst 1, 1) := by decide +kernel
theorem dL_law_243 : decode bL_law 243 = .ok (.iadd, 1) := by decide +kernel
theorem dL_law_244 : decode bL_law 244 = .ok (.iaload, 1) := by decide +kernel
theorem dL_law_245 : decode bL_law 245 = .ok (.invokevirtual 40, 3) := by decide +kernel
theorem dL_law_248 : decode bL_law 248 = .ok (.if_icmp .eq 222, 3) := by decide +kernel
theorem dL_law_251 : decode bL_law 251 = .ok (.iconst 0, 1) := by decide +kernel
theorem dL_law_252 : decode bL_law 252 = .ok (.ireturn, 1) := by decide +kernel
theorem dL_law_253 : decode bL_law 253 = .ok (.aload_n 1, 1) := by decide +kernel
theorem dL_law_254 : decode bL_law 254 = .ok (.invokevirtual 41, 3) := by decide +kernel
theorem dL_law_257 : decode bL_law 257 = .ok (.aload_n 2, 1) := by decide +kernel
theorem dL_law_258 : decode bL_law 258 = .ok (.invokevirtual 45, 3) := by decide +kernel
theorem dL_law_261 : decode bL_law 261 = .ok (.if_icmp .eq 209, 3) := by decide +kernel
theorem dL_law_264 : decode bL_law 264 = .ok (.iconst 0, 1) := by decide +kernel
theorem dL_law_265 : decode bL_law 265 = .ok (.ireturn, 1) := by decide +kernel
theorem dL_law_266 : decode bL_law 266 = .ok (.aload_n 1, 1) := by decide +kernel
theorem dL_law_267 : decode bL_law 267 = .ok (.aload_n 0, 1) := by decide +kernel
theorem dL_law_268 : decode bL_law 268 = .ok (.iload_n 3, 1) := by decide +kernel
theorem dL_law_269 : decode bL_law 269 = .ok (.iconst 1, 1) := by decide +kernel
theorem dL_law_270 : decode bL_law 270 = .ok (.iadd, 1) := by decide +kernel
theorem dL_law_271 : decode bL_law 271 = .ok (.iaload, 1) := by decide +kernel
theorem dL_law_272 : decode bL_law 272 = .ok (.aload_n 0, 1) := by decide +kernel
theorem dL_law_273 : decode bL_law 273 = .ok (.iload_n 3, 1) := by decide +kernel
theorem dL_law_274 : decode bL_law 274 = .ok (.iconst 2, 1) := by decide +kernel
theorem dL_law_275 : decode bL_law 275 = .ok (.iadd, 1) := by decide +kernel
theorem dL_law_276 : decode bL_law 276 = .ok (.iaload, 1) := by decide +kernel
theorem dL_law_277 : decode bL_law 277 = .ok (.invokevirtual 46, 3) := by decide +kernel
theorem dL_law_280 : decode bL_law 280 = .ok (.aload_n 2, 1) := by decide +kernel
theorem dL_law_281 : decode bL_law 281 = .ok (.aload_n 0, 1) := by decide +kernel
theorem dL_law_282 : decode bL_law 282 = .ok (.iload_n 3, 1) := by decide +kernel
theorem dL_law_283 : decode bL_law 283 = .ok (.iconst 1, 1) := by decide +kernel
theorem dL_law_284 : decode bL_law 284 = .ok (.iadd, 1) := by decide +kernel
theorem dL_law_285 : decode bL_law 285 = .ok (.iaload, 1) := by decide +kernel
theorem dL_law_286 : decode bL_law 286 = .ok (.aload_n 0, 1) := by decide +kernel
theorem dL_law_287 : decode bL_law 287 = .ok (.iload_n 3, 1) := by decide +kernel
theorem dL_law_288 : decode bL_law 288 = .ok (.iconst 2, 1) := by decide +kernel
theorem dL_law_289 : decode bL_law 289 = .ok (.iadd, 1) := by decide +kernel
theorem dL_law_290 : decode bL_law 290 = .ok (.iaload, 1) := by decide +kernel
theorem dL_law_291 : decode bL_law 291 = .ok (.invokevirtual 49, 3) := by decide +kernel
theorem dL_law_294 : decode bL_law 294 = .ok (.if_icmp .eq 176, 3) := by decide +kernel
theorem dL_law_297 : decode bL_law 297 = .ok (.iconst 0, 1) := by decide +kernel
theorem dL_law_298 : decode bL_law 298 = .ok (.ireturn, 1) := by decide +kernel
theorem dL_law_299 : decode bL_law 299 = .ok (.aload_n 1, 1) := by decide +kernel
theorem dL_law_300 : decode bL_law 300 = .ok (.aload_n 0, 1) := by decide +kernel
theorem dL_law_301 : decode bL_law 301 = .ok (.iload_n 3, 1) := by decide +kernel
theorem dL_law_302 : decode bL_law 302 = .ok (.iconst 1, 1) := by decide +kernel
theorem dL_law_303 : decode bL_law 303 = .ok (.iadd, 1) := by decide +kernel
theorem dL_law_304 : decode bL_law 304 = .ok (.iaload, 1) := by decide +kernel
theorem dL_law_305 : decode bL_law 305 = .ok (.invokevirtual 50, 3) := by decide +kernel
theorem dL_law_308 : decode bL_law 308 = .ok (.aload_n 2, 1) := by decide +kernel
theorem dL_law_309 : decode bL_law 309 = .ok (.aload_n 0, 1) := by decide +kernel
theorem dL_law_310 : decode bL_law 310 = .ok (.iload_n 3, 1) := by decide +kernel
theorem dL_law_311 : decode bL_law 311 = .ok (.iconst 1, 1) := by decide +kernel
theorem dL_law_312 : decode bL_law 312 = .ok (.iadd, 1) := by decide +kernel
theorem dL_law_313 : decode bL_law 313 = .ok (.iaload, 1) := by decide +kernel
theorem dL_law_314 : decode bL_law 314 = .ok (.invokevirtual 53, 3) := by decide +kernel
theorem dL_law_317 : decode bL_law 317 = .ok (.if_icmp .eq 153, 3) := by decide +kernel
theorem dL_law_320 : decode bL_law 320 = .ok (.iconst 0, 1) := by decide +kernel
theorem dL_law_321 : decode bL_law 321 = .ok (.ireturn, 1) := by decide +kernel
theorem dL_law_322 : decode bL_law 322 = .ok (.aload_n 1, 1) := by decide +kernel
theorem dL_law_323 : decode bL_law 323 = .ok (.invokevirtual 54, 3) := by decide +kernel
theorem dL_law_326 : decode bL_law 326 = .ok (.aload_n 2, 1) := by decide +kernel
theorem dL_law_327 : decode bL_law 327 = .ok (.invokevirtual 57, 3) := by decide +kernel
theorem dL_law_330 : decode bL_law 330 = .ok (.if_icmp .eq 140, 3) := by decide +kernel
theorem dL_law_333 : decode bL_law 333 = .ok (.iconst 0, 1) := by decide +kernel
theorem dL_law_334 : decode bL_law 334 = .ok (.ireturn, 1) := by decide +kernel
theorem dL_law_335 : decode bL_law 335 = .ok (.aload_n 1, 1) := by decide +kernel
theorem dL_law_336 : decode bL_law 336 = .ok (.aload_n 0, 1) := by decide +kernel
theorem dL_law_337 : decode bL_law 337 = .ok (.iload_n 3, 1) := by decide +kernel
theorem dL_law_338 : decode bL_law 338 = .ok (.iconst 1, 1) := by decide +kernel
theorem dL_law_339 : decode bL_law 339 = .ok (.iadd, 1) := by decide +kernel
theorem dL_law_340 : decode bL_law 340 = .ok (.iaload, 1) := by decide +kernel
theorem dL_law_341 : decode bL_law 341 = .ok (.invokevirtual 58, 3) := by decide +kernel
theorem dL_law_344 : decode bL_law 344 = .ok (.aload_n 2, 1) := by decide +kernel
theorem dL_law_345 : decode bL_law 345 = .ok (.aload_n 0, 1) := by decide +kernel
theorem dL_law_346 : decode bL_law 346 = .ok (.iload_n 3, 1) := by decide +kernel
theorem dL_law_347 : decode bL_law 347 = .ok (.iconst 1, 1) := by decide +kernel
theorem dL_law_348 : decode bL_law 348 = .ok (.iadd, 1) := by decide +kernel
theorem dL_law_349 : decode bL_law 349 = .ok (.iaload, 1) := by decide +kernel
theorem dL_law_350 : decode bL_law 350 = .ok (.invokevirtual 61, 3) := by decide +kernel
theorem dL_law_353 : decode bL_law 353 = .ok (.if_icmp .eq 117, 3) := by decide +kernel
theorem dL_law_356 : decode bL_law 356 = .ok (.iconst 0, 1) := by decide +kernel
theorem dL_law_357 : decode bL_law 357 = .ok (.ireturn, 1) := by decide +kernel
theorem dL_law_358 : decode bL_law 358 = .ok (.aload_n 1, 1) := by decide +kernel
theorem dL_law_359 : decode bL_law 359 = .ok (.aload_n 0, 1) := by decide +kernel
theorem dL_law_360 : decode bL_law 360 = .ok (.iload_n 3, 1) := by decide +kernel
theorem dL_law_361 : decode bL_law 361 = .ok (.iconst 1, 1) := by decide +kernel
theorem dL_law_362 : decode bL_law 362 = .ok (.iadd, 1) := by decide +kernel
theorem dL_law_363 : decode bL_law 363 = .ok (.iaload, 1) := by decide +kernel
theorem dL_law_364 : decode bL_law 364 = .ok (.invokevirtual 62, 3) := by decide +kernel
theorem dL_law_367 : decode bL_law 367 = .ok (.aload_n 2, 1) := by decide +kernel
theorem dL_law_368 : decode bL_law 368 = .ok (.aload_n 0, 1) := by decide +kernel
theorem dL_law_369 : decode bL_law 369 = .ok (.iload_n 3, 1) := by decide +kernel
theorem dL_law_370 : decode bL_law 370 = .ok (.iconst 1, 1) := by decide +kernel
theorem dL_law_371 : decode bL_law 371 = .ok (.iadd, 1) := by decide +kernel
theorem dL_law_372 : decode bL_law 372 = .ok (.iaload, 1) := by decide +kernel
theorem dL_law_373 : decode bL_law 373 = .ok (.invokevirtual 65, 3) := by decide +kernel
theorem dL_law_376 : decode bL_law 376 = .ok (.if_icmp .eq 94, 3) := by decide +kernel
theorem dL_law_379 : decode bL_law 379 = .ok (.iconst 0, 1) := by decide +kernel
theorem dL_law_380 : decode bL_law 380 = .ok (.ireturn, 1) := by decide +kernel
theorem dL_law_381 : decode bL_law 381 = .ok (.aload_n 1, 1) := by decide +kernel
theorem dL_law_382 : decode bL_law 382 = .ok (.aload_n 0, 1) := by decide +kernel
theorem dL_law_383 : decode bL_law 383 = .ok (.iload_n 3, 1) := by decide +kernel
theorem dL_law_384 : decode bL_law 384 = .ok (.iconst 1, 1) := by decide +kernel
theorem dL_law_385 : decode bL_law 385 = .ok (.iadd, 1) := by decide +kernel
theorem dL_law_386 : decode bL_law 386 = .ok (.iaload, 1) := by decide +kernel
theorem dL_law_387 : decode bL_law 387 = .ok (.aload_n 0, 1) := by decide +kernel
theorem dL_law_388 : decode bL_law 388 = .ok (.iload_n 3, 1) := by decide +kernel
theorem dL_law_389 : decode bL_law 389 = .ok (.iconst 2, 1) := by decide +kernel
theorem dL_law_390 : decode bL_law 390 = .ok (.iadd, 1) := by decide +kernel
theorem dL_law_391 : decode bL_law 391 = .ok (.iaload, 1) := by decide +kernel
theorem dL_law_392 : decode bL_law 392 = .ok (.invokevirtual 66, 3) := by decide +kernel
theorem dL_law_395 : decode bL_law 395 = .ok (.aload_n 2, 1) := by decide +kernel
theorem dL_law_396 : decode bL_law 396 = .ok (.aload_n 0, 1) := by decide +kernel
theorem dL_law_397 : decode bL_law 397 = .ok (.iload_n 3, 1) := by decide +kernel
theorem dL_law_398 : decode bL_law 398 = .ok (.iconst 1, 1) := by decide +kernel
theorem dL_law_399 : decode bL_law 399 = .ok (.iadd, 1) := by decide +kernel
theorem dL_law_400 : decode bL_law 400 = .ok (.iaload, 1) := by decide +kernel
theorem dL_law_401 : decode bL_law 401 = .ok (.aload_n 0, 1) := by decide +kernel
theorem dL_law_402 : decode bL_law 402 = .ok (.iload_n 3, 1) := by decide +kernel
theorem dL_law_403 : decode bL_law 403 = .ok (.iconst 2, 1) := by decide +kernel
theorem dL_law_404 : decode bL_law 404 = .ok (.iadd, 1) := by decide +kernel
theorem dL_law_405 : decode bL_law 405 = .ok (.iaload, 1) := by decide +kernel
theorem dL_law_406 : decode bL_law 406 = .ok (.invokevirtual 69, 3) := by decide +kernel
theorem dL_law_409 : decode bL_law 409 = .ok (.if_icmp .eq 61, 3) := by decide +kernel
theorem dL_law_412 : decode bL_law 412 = .ok (.iconst 0, 1) := by decide +kernel
theorem dL_law_413 : decode bL_law 413 = .ok (.ireturn, 1) := by decide +kernel
theorem dL_law_414 : decode bL_law 414 = .ok (.aload_n 1, 1) := by decide +kernel
theorem dL_law_415 : decode bL_law 415 = .ok (.aload_n 0, 1) := by decide +kernel
theorem dL_law_416 : decode bL_law 416 = .ok (.iload_n 3, 1) := by decide +kernel
theorem dL_law_417 : decode bL_law 417 = .ok (.iconst 1, 1) := by decide +kernel
theorem dL_law_418 : decode bL_law 418 = .ok (.iadd, 1) := by decide +kernel
theorem dL_law_419 : decode bL_law 419 = .ok (.iaload, 1) := by decide +kernel
theorem dL_law_420 : decode bL_law 420 = .ok (.aload_n 0, 1) := by decide +kernel
theorem dL_law_421 : decode bL_law 421 = .ok (.iload_n 3, 1) := by decide +kernel
theorem dL_law_422 : decode bL_law 422 = .ok (.iconst 2, 1) := by decide +kernel
theorem dL_law_423 : decode bL_law 423 = .ok (.iadd, 1) := by decide +kernel
theorem dL_law_424 : decode bL_law 424 = .ok (.iaload, 1) := by decide +kernel
theorem dL_law_425 : decode bL_law 425 = .ok (.invokevirtual 70, 3) := by decide +kernel
theorem dL_law_428 : decode bL_law 428 = .ok (.aload_n 2, 1) := by decide +kernel
theorem dL_law_429 : decode bL_law 429 = .ok (.aload_n 0, 1) := by decide +kernel
theorem dL_law_430 : decode bL_law 430 = .ok (.iload_n 3, 1) := by decide +kernel
theorem dL_law_431 : decode bL_law 431 = .ok (.iconst 1, 1) := by decide +kernel
theorem dL_law_432 : decode bL_law 432 = .ok (.iadd, 1) := by decide +kernel
theorem dL_law_433 : decode bL_law 433 = .ok (.iaload, 1) := by decide +kernel
theorem dL_law_434 : decode bL_law 434 = .ok (.aload_n 0, 1) := by decide +kernel
theorem dL_law_435 : decode bL_law 435 = .ok (.iload_n 3, 1) := by decide +kernel
theorem dL_law_436 : decode bL_law 436 = .ok (.iconst 2, 1) := by decide +kernel
theorem dL_law_437 : decode bL_law 437 = .ok (.iadd, 1) := by decide +kernel
theorem dL_law_438 : decode bL_law 438 = .ok (.iaload, 1) := by decide +kernel
theorem dL_law_439 : decode bL_law 439 = .ok (.invokevirtual 73, 3) := by decide +kernel
theorem dL_law_442 : decode bL_law 442 = .ok (.if_icmp .eq 28, 3) := by decide +kernel
theorem dL_law_445 : decode bL_law 445 = .ok (.iconst 0, 1) := by decide +kernel
theorem dL_law_446 : decode bL_law 446 = .ok (.ireturn, 1) := by decide +kernel
theorem dL_law_447 : decode bL_law 447 = .ok (.aload_n 1, 1) := by decide +kernel
theorem dL_law_448 : decode bL_law 448 = .ok (.aload_n 0, 1) := by decide +kernel
theorem dL_law_449 : decode bL_law 449 = .ok (.iload_n 3, 1) := by decide +kernel
theorem dL_law_450 : decode bL_law 450 = .ok (.iconst 1, 1) := by decide +kernel
theorem dL_law_451 : decode bL_law 451 = .ok (.iadd, 1) := by decide +kernel
theorem dL_law_452 : decode bL_law 452 = .ok (.iaload, 1) := by decide +kernel
theorem dL_law_453 : decode bL_law 453 = .ok (.invokevirtual 74, 3) := by decide +kernel
theorem dL_law_456 : decode bL_law 456 = .ok (.aload_n 2, 1) := by decide +kernel
theorem dL_law_457 : decode bL_law 457 = .ok (.aload_n 0, 1) := by decide +kernel
theorem dL_law_458 : decode bL_law 458 = .ok (.iload_n 3, 1) := by decide +kernel
theorem dL_law_459 : decode bL_law 459 = .ok (.iconst 1, 1) := by decide +kernel
theorem dL_law_460 : decode bL_law 460 = .ok (.iadd, 1) := by decide +kernel
theorem dL_law_461 : decode bL_law 461 = .ok (.iaload, 1) := by decide +kernel
theorem dL_law_462 : decode bL_law 462 = .ok (.invokevirtual 77, 3) := by decide +kernel
theorem dL_law_465 : decode bL_law 465 = .ok (.if_icmp .eq 5, 3) := by decide +kernel
theorem dL_law_468 : decode bL_law 468 = .ok (.iconst 0, 1) := by decide +kernel
theorem dL_law_469 : decode bL_law 469 = .ok (.ireturn, 1) := by decide +kernel
theorem dL_law_470 : decode bL_law 470 = .ok (.iinc 3 4, 3) := by decide +kernel
theorem dL_law_473 : decode bL_law 473 = .ok (.goto (-435), 3) := by decide +kernel
theorem dL_law_476 : decode bL_law 476 = .ok (.iconst 1, 1) := by decide +kernel
theorem dL_law_477 : decode bL_law 477 = .ok (.ireturn, 1) := by decide +kernel
end
section
/-! the pure words: a state is its numbers (by number) and its rows (by number) -/
abbrev ts_S : Type := (Nat → Int32) × (Nat → Nat → Int32)
def ts_p (k : Nat) (v : Int32) (u : ts_S) : ts_S := (va_up u.1 k v, u.2)
def ts_a (j i : Nat) (v : Int32) (u : ts_S) : ts_S := (u.1, va_up u.2 j (upd (u.2 j) i v))
/-- System.arraycopy(ends, 0, trialEnds, 0, 4) -/
def ts_c (u : ts_S) : ts_S := (u.1, va_up u.2 11 (va_cpy (u.2 10) (u.2 11) 0 0 4))
def ts_ix {α : Type} (i : Int32) (n : Nat) (t : Option α) : Option α := if i < 0 ∨ n ≤ i.toNatClampNeg then none else t
def ts_b {β α : Type} (o : Option (β × ts_S)) (k : β → ts_S → Option α) : Option α := match o with
  | none => none
  | some q => k q.1 q.2
def ts_z {α : Type} (v : Int32) (t : Option α) : Option α := if v = 0 ∨ v = 1 then t else none
theorem ts_ix_s {α : Type} {i : Int32} {n : Nat} {t : Option α} {x : α} (h : ts_ix i n t = some x) : vp_in i n ∧ t = some x := by
  unfold ts_ix at h
  by_cases hc : i < 0 ∨ n ≤ i.toNatClampNeg
  · rw [if_pos hc] at h
    cases h
  · rw [if_neg hc] at h
    exact ⟨hc, h⟩
theorem ts_b_s {β α : Type} {o : Option (β × ts_S)} {k : β → ts_S → Option α} {x : α} (h : ts_b o k = some x) : ∃ (r : β) (u : ts_S), o = some (r, u) ∧ k r u = some x := by
  cases o with
  | none => cases h
  | some q => exact ⟨q.1, q.2, rfl, h⟩
theorem ts_nb0 : narrow .boolean (.int 0) = .int 0 := by decide +kernel
theorem ts_nb1 : narrow .boolean (.int 1) = .int 1 := by decide +kernel
theorem ts_z_s {α : Type} {v : Int32} {t : Option α} {x : α} (h : ts_z v t = some x) : narrow .boolean (.int v) = .int v ∧ t = some x := by
  unfold ts_z at h
  by_cases hc : v = 0 ∨ v = 1
  · rw [if_pos hc] at h
    refine ⟨?_, h⟩
    rcases hc with rfl | rfl
    · exact ts_nb0
    · exact ts_nb1
  · rw [if_neg hc] at h
    cases h
theorem ts_if_p {α : Type} {c : Prop} [Decidable c] {a b : Option α} {x : α} (h : c) (e : (if c then a else b) = some x) : a = some x := by
  rw [if_pos h] at e
  exact e
theorem ts_if_n {α : Type} {c : Prop} [Decidable c] {a b : Option α} {x : α} (h : ¬ c) (e : (if c then a else b) = some x) : b = some x := by
  rw [if_neg h] at e
  exact e
/-! the words: those of the tables that a callee may be handed, and the nest's -/
def uW : List Cond := lw_tbl.filter goodWord
def nx_is : Cond → Bool
  | .fieldLinkNest .. => true
  | .methodLinkNest .. => true
  | _ => false
def nW : List Cond := lw_tbl.filter nx_is
def nx (U : State) : Prop := ∀ w ∈ nW, va_Nw w U
theorem nx_warm {s U : State} (hW : s.WarmedH U.vm) (h : nx s) : nx U := by
  intro w hw
  have h1 := h w hw
  have h2 := (List.mem_filter.mp hw).2
  cases w <;> first | exact va_Nw.warmF hW h1 | exact va_Nw.warmM hW h1 | exact absurd h2 (by decide) | (cases h2; done)
theorem nx_same {u U : State} (hv : u.vm = U.vm) (h : nx u) : nx U := by
  intro w hw
  have h1 := h w hw
  have h2 := (List.mem_filter.mp hw).2
  cases w <;> first | exact va_Nw.same rfl hv h1 | exact absurd h2 (by decide) | (cases h2; done)
theorem uW_good : ∀ w ∈ uW, (w.onTables && w.keeps) = true ∨ ∃ ty, w = .arrayClass ty := fun w h => good_of_word (List.mem_filter.mp h).2
theorem uW_hts {args : Array Value} {s : State} (hts : ∀ w ∈ lw_tbl, w.before args s = true) : ∀ w ∈ uW, w.before args s = true := fun w h => hts w (List.mem_filter.mp h).1
theorem uW_in {w : Cond} (h : w ∈ lw_tbl) (hg : goodWord w = true) : w ∈ uW := List.mem_filter.mpr ⟨h, hg⟩
theorem gd_N {y : MethodName} {b : ByteArray} {n : Nat} {r : Option FieldType} (h5 : Cond.code y b n r ∈ uW) : GoodIn uW (.code y b n r :: uW) := by
  intro w hw
  rcases List.mem_cons.mp hw with rfl | hw
  · exact ⟨h5, uW_good _ h5⟩
  · exact ⟨hw, uW_good _ hw⟩
theorem gd_V {own : String} {idx : Nat} {C : String} {y : MethodName} {b : ByteArray} {n : Nat} {r : Option FieldType} (h1 : Cond.methodLink own idx y ∈ uW) (h2 : Cond.instanceMethod y ∈ uW) (h3 : Cond.selects C y y ∈ uW) (h4 : Cond.initialized C ∈ uW) (h5 : Cond.code y b n r ∈ uW) : GoodIn uW (wsV own idx C y (.code y b n r :: uW)) := by
  intro w hw
  rcases List.mem_append.mp hw with hw | hw
  · have : w ∈ uW := by
      rcases List.mem_cons.mp hw with rfl | hw
      · exact h1
      rcases List.mem_cons.mp hw with rfl | hw
      · exact h2
      rcases List.mem_cons.mp hw with rfl | hw
      · exact h3
      rcases List.mem_cons.mp hw with rfl | hw
      · exact h4
      · cases hw
    exact ⟨this, uW_good _ this⟩
  · exact gd_N h5 w hw
theorem gd_S {own : String} {idx : Nat} {y : MethodName} {b : ByteArray} {n : Nat} {r : Option FieldType} (h1 : Cond.methodLink own idx y ∈ uW) (h2 : Cond.static y ∈ uW) (h3 : Cond.initialized own ∈ uW) (h5 : Cond.code y b n r ∈ uW) : GoodIn uW (wsS own idx y (.code y b n r :: uW)) := by
  intro w hw
  rcases List.mem_append.mp hw with hw | hw
  · have : w ∈ uW := by
      rcases List.mem_cons.mp hw with rfl | hw
      · exact h1
      rcases List.mem_cons.mp hw with rfl | hw
      · exact h2
      rcases List.mem_cons.mp hw with rfl | hw
      · exact h3
      · cases hw
    exact ⟨this, uW_good _ this⟩
  · exact gd_N h5 w hw
/-! worlds: a family of cells, the contracts over it, entry, ends and calls -/
abbrev ts_F : Type := ((Nat → Nat) → (Nat → ClassId) → ts_S → va_W) × ((Nat → ClassId) → List (ClassId × FieldType))
def ts_W (F : ts_F) (D : va_G) (ca : Nat → ClassId) (ad : Nat → Nat) (A : Nat → Prop) (s : State) (H : Heap) (locs : List Loc) (u : ts_S) : Prop :=
  va_P D vwCl (F.1 ad ca u) H ∧ va_D A (F.1 ad ca u) ∧ va_S A s.heap H locs ∧ va_K D vwCl (F.2 ca) s ∧ ∀ q : Nat, s.heap.size ≤ q → A q
def ts_pre (F : ts_F) (D : va_G) (ca : Nat → ClassId) (ad : Nat → Nat) (sz : Nat) (u : ts_S) (U : State) : Prop :=
  U.heap.size = sz ∧ va_P D vwCl (F.1 ad ca u) U.heap ∧ va_K D vwCl (F.2 ca) U ∧ va_D (fun _ => True) (F.1 ad ca u) ∧ nx U
def ts_post (F : ts_F) (D : va_G) (ca : Nat → ClassId) (ad : Nat → Nat) (A : Nat → Prop) (v : ts_S) (t : State) : Prop :=
  va_P D vwCl (F.1 ad ca v) t.heap ∧ va_K D vwCl (F.2 ca) t ∧ va_D A (F.1 ad ca v)
def ts_Ci (F : ts_F) (l : Launch) (y : MethodName) (ws : List Cond) (rm : Room) (av : (Nat → Nat) → List Value) (u : ts_S) (r0 : Int32) (u0 : ts_S) : Prop :=
  ∀ (D : va_G) (ca : Nat → ClassId) (ad : Nat → Nat) (sz : Nat), Met l y ws rm (va_Pc (av ad) (ts_pre F D ca ad sz u)) (va_Qi (fun r v => r = r0 ∧ v = u0) (ts_post F D ca ad (va_A (F.1 ad ca u) sz)) (va_A (F.1 ad ca u) sz)) 0 0 (va_A (F.1 ad ca u) sz)
def ts_Cl (F : ts_F) (l : Launch) (y : MethodName) (ws : List Cond) (rm : Room) (av : (Nat → Nat) → List Value) (u : ts_S) (r0 : Int64) (u0 : ts_S) : Prop :=
  ∀ (D : va_G) (ca : Nat → ClassId) (ad : Nat → Nat) (sz : Nat), Met l y ws rm (va_Pc (av ad) (ts_pre F D ca ad sz u)) (va_Ql (fun r v => r = r0 ∧ v = u0) (ts_post F D ca ad (va_A (F.1 ad ca u) sz)) (va_A (F.1 ad ca u) sz)) 0 0 (va_A (F.1 ad ca u) sz)
def ts_Cv (F : ts_F) (l : Launch) (y : MethodName) (ws : List Cond) (rm : Room) (av : (Nat → Nat) → List Value) (u : ts_S) (u0 : ts_S) : Prop :=
  ∀ (D : va_G) (ca : Nat → ClassId) (ad : Nat → Nat) (sz : Nat), Met l y ws rm (va_Pc (av ad) (ts_pre F D ca ad sz u)) (va_Qv (fun v => v = u0) (ts_post F D ca ad (va_A (F.1 ad ca u) sz)) (va_A (F.1 ad ca u) sz)) 0 0 (va_A (F.1 ad ca u) sz)
theorem ts_blind {F : ts_F} {D : va_G} {ca : Nat → ClassId} {ad : Nat → Nat} {sz : Nat} {u : ts_S} {av : List Value} : FrameBlind (va_Pc av (ts_pre F D ca ad sz u)) := by
  intro a U g mk q
  obtain ⟨q0, q1, qP, qK, qD, qN⟩ := q
  exact ⟨q0, q1, qP, va_K.moved (u := U) (U := U.calling g mk a) (Vm.Alike.refl U.vm) qK, qD, nx_same (u := U) (U := U.calling g mk a) rfl qN⟩
theorem ts_start {F : ts_F} {D : va_G} {ca : Nat → ClassId} {ad : Nat → Nat} {A : Nat → Prop} {s : State} {H : Heap} {locs : List Loc} {u : ts_S} {av : List Value} {a : Array Value} (ha : a = av.toArray) (hn : nx s) (hw : ts_W F D ca ad A s H locs u) : ∀ U : State, U.heap = H → s.WarmedH U.vm → va_Pc av (ts_pre F D ca ad H.size u) a U :=
  fun U hU hW => ⟨ha, by rw [hU], by rw [hU]; exact hw.1, va_K.moved hW.alike hw.2.2.2.1, hw.2.1.weaken (fun _ _ _ _ => trivial), nx_warm hW hn⟩
theorem ts_hF {F : ts_F} {D : va_G} {ca : Nat → ClassId} {ad : Nat → Nat} {A : Nat → Prop} {s : State} {H : Heap} {locs : List Loc} {u : ts_S} (hw : ts_W F D ca ad A s H locs u) : ∀ q, va_A (F.1 ad ca u) H.size q → A q := by
  rintro q (⟨k, e, hk⟩ | h)
  · exact hw.2.1.2 k _ hk
  · exact hw.2.2.2.2 q (Nat.le_trans hw.2.2.1.1 h)
section
variable {p : Program} {l : Launch} {e : Env} {R : Room} {s : State} {m : MethodId} {args : Array Value} {below : List Frame} {meth : Method} {c : Code} {H : Heap} {locs : List Loc} {Q : State → Prop} {cc : ByteArray} {pc nL : Nat} {ls : Array Slot} {rest : List Value} {F : ts_F} {D : va_G} {ca : Nat → ClassId} {ad : Nat → Nat} {A : Nat → Prop} {u u0 : ts_S}
theorem ts_in_i (F : ts_F) (l : Launch) {y : MethodName} {bytes : ByteArray} {maxL : Nat} {ty : FieldType} {rm : Room} {av : (Nat → Nat) → List Value} {u : ts_S} {r0 : Int32} {u0 : ts_S} (hy : plainName y.cls = true)
    (body : ∀ (p : Program) (e : Env) (s : State) (m : MethodId) (args : Array Value) (below : List Frame) (meth : Method) (c : Code) (D : va_G) (ca : Nat → ClassId) (ad : Nat → Nat) (A : Nat → Prop), CallFix p m c bytes maxL s args uW y.cls → nx s → meth.sig.returnType = some ty → meth.locks = false → ts_W F D ca ad A s s.heap [] u → W p l e rm s m args below meth c s.heap [] 0 0 (MQ below (va_Qi (fun r v => r = r0 ∧ v = u0) (ts_post F D ca ad A) A) args s 0 0 A) (entryFrame m (av ad).toArray maxL)) :
    ts_Ci F l y (.code y bytes maxL (some ty) :: uW) rm av u r0 u0 := by
  intro D ca ad sz
  refine Met.ofW (cc := bytes) (maxL := maxL) (ret := some ty) hy rfl ?_
  intro p e s m args below meth c s₁ B hml hv
  obtain ⟨ha, hsz, hP, hK, hD0, hn⟩ := hv
  have hts := atoms_spec (ws := .code y bytes maxL (some ty) :: uW) B.pre
  subst hsz
  have K := body p e s m args below meth c D ca ad (va_A (F.1 ad ca u) s.heap.size) ⟨B.exec, B.bytes, hml, findClass_of_methodNamed B.named, fun w h => hts w (List.mem_cons_of_mem _ h)⟩ hn B.returns B.notSynchronized ⟨hP, hD0.self (sz := s.heap.size), va_S.rf, hK, fun q h => Or.inr h⟩
  rw [← ha] at K
  exact K
theorem ts_in_l (F : ts_F) (l : Launch) {y : MethodName} {bytes : ByteArray} {maxL : Nat} {ty : FieldType} {rm : Room} {av : (Nat → Nat) → List Value} {u : ts_S} {r0 : Int64} {u0 : ts_S} (hy : plainName y.cls = true)
    (body : ∀ (p : Program) (e : Env) (s : State) (m : MethodId) (args : Array Value) (below : List Frame) (meth : Method) (c : Code) (D : va_G) (ca : Nat → ClassId) (ad : Nat → Nat) (A : Nat → Prop), CallFix p m c bytes maxL s args uW y.cls → nx s → meth.sig.returnType = some ty → meth.locks = false → ts_W F D ca ad A s s.heap [] u → W p l e rm s m args below meth c s.heap [] 0 0 (MQ below (va_Ql (fun r v => r = r0 ∧ v = u0) (ts_post F D ca ad A) A) args s 0 0 A) (entryFrame m (av ad).toArray maxL)) :
    ts_Cl F l y (.code y bytes maxL (some ty) :: uW) rm av u r0 u0 := by
  intro D ca ad sz
  refine Met.ofW (cc := bytes) (maxL := maxL) (ret := some ty) hy rfl ?_
  intro p e s m args below meth c s₁ B hml hv
  obtain ⟨ha, hsz, hP, hK, hD0, hn⟩ := hv
  have hts := atoms_spec (ws := .code y bytes maxL (some ty) :: uW) B.pre
  subst hsz
  have K := body p e s m args below meth c D ca ad (va_A (F.1 ad ca u) s.heap.size) ⟨B.exec, B.bytes, hml, findClass_of_methodNamed B.named, fun w h => hts w (List.mem_cons_of_mem _ h)⟩ hn B.returns B.notSynchronized ⟨hP, hD0.self (sz := s.heap.size), va_S.rf, hK, fun q h => Or.inr h⟩
  rw [← ha] at K
  exact K
theorem ts_in_v (F : ts_F) (l : Launch) {y : MethodName} {bytes : ByteArray} {maxL : Nat} {rm : Room} {av : (Nat → Nat) → List Value} {u : ts_S} {u0 : ts_S} (hy : plainName y.cls = true)
    (body : ∀ (p : Program) (e : Env) (s : State) (m : MethodId) (args : Array Value) (below : List Frame) (meth : Method) (c : Code) (D : va_G) (ca : Nat → ClassId) (ad : Nat → Nat) (A : Nat → Prop), CallFix p m c bytes maxL s args uW y.cls → nx s → meth.sig.returnType = none → meth.locks = false → ts_W F D ca ad A s s.heap [] u → W p l e rm s m args below meth c s.heap [] 0 0 (MQ below (va_Qv (fun v => v = u0) (ts_post F D ca ad A) A) args s 0 0 A) (entryFrame m (av ad).toArray maxL)) :
    ts_Cv F l y (.code y bytes maxL none :: uW) rm av u u0 := by
  intro D ca ad sz
  refine Met.ofW (cc := bytes) (maxL := maxL) (ret := none) hy rfl ?_
  intro p e s m args below meth c s₁ B hml hv
  obtain ⟨ha, hsz, hP, hK, hD0, hn⟩ := hv
  have hts := atoms_spec (ws := .code y bytes maxL none :: uW) B.pre
  subst hsz
  have K := body p e s m args below meth c D ca ad (va_A (F.1 ad ca u) s.heap.size) ⟨B.exec, B.bytes, hml, findClass_of_methodNamed B.named, fun w h => hts w (List.mem_cons_of_mem _ h)⟩ hn B.returns B.notSynchronized ⟨hP, hD0.self (sz := s.heap.size), va_S.rf, hK, fun q h => Or.inr h⟩
  rw [← ha] at K
  exact K
theorem ts_iret {ty : FieldType} {v r0 : Int32} (hx : p.tables.exec = Jvm.exec) (hb : c.code = cc) (hr : meth.sig.returnType = some ty) (hlk : meth.locks = false) (hn : narrow ty (.int v) = .int v) (hw : ts_W F D ca ad A s H locs u) (hd : some (v, u) = some (r0, u0)) (hdg : decode cc pc = .ok (.ireturn, 1)) : W p l e R s m args below meth c H locs 0 0 (MQ below (va_Qi (fun r v => r = r0 ∧ v = u0) (ts_post F D ca ad A) A) args s 0 0 A) (F0 m pc ls [.int v]) :=
  W.zret hx hb hr hn (fun t ht hW => ⟨⟨v, u, rfl, ⟨congrArg Prod.fst (Option.some.inj hd), congrArg Prod.snd (Option.some.inj hd)⟩, by rw [ht]; exact hw.1, va_K.moved hW.alike hw.2.2.2.1, hw.2.1⟩, hw.2.2.1.F ht⟩) hw.2.2.1.2.2 hdg hlk
theorem ts_lret {v r0 : Int64} (hx : p.tables.exec = Jvm.exec) (hb : c.code = cc) (hr : meth.sig.returnType = some .long) (hlk : meth.locks = false) (hw : ts_W F D ca ad A s H locs u) (hd : some (v, u) = some (r0, u0)) (hdg : decode cc pc = .ok (.lreturn, 1)) : W p l e R s m args below meth c H locs 0 0 (MQ below (va_Ql (fun r v => r = r0 ∧ v = u0) (ts_post F D ca ad A) A) args s 0 0 A) (F0 m pc ls [.long v]) :=
  W.lret hx hb hr (fun t ht hW => ⟨⟨v, u, rfl, ⟨congrArg Prod.fst (Option.some.inj hd), congrArg Prod.snd (Option.some.inj hd)⟩, by rw [ht]; exact hw.1, va_K.moved hW.alike hw.2.2.2.1, hw.2.1⟩, hw.2.2.1.F ht⟩) hw.2.2.1.2.2 hdg hlk
theorem ts_vret {v r0 : Int32} (hx : p.tables.exec = Jvm.exec) (hb : c.code = cc) (hr : meth.sig.returnType = none) (hlk : meth.locks = false) (hw : ts_W F D ca ad A s H locs u) (hd : some (v, u) = some (r0, u0)) (hdg : decode cc pc = .ok (.return_, 1)) : W p l e R s m args below meth c H locs 0 0 (MQ below (va_Qv (fun v => v = u0) (ts_post F D ca ad A) A) args s 0 0 A) (F0 m pc ls []) :=
  W.vret hx hb hr (fun t ht hW => ⟨⟨u, rfl, congrArg Prod.snd (Option.some.inj hd), by rw [ht]; exact hw.1, va_K.moved hW.alike hw.2.2.2.1, hw.2.1⟩, hw.2.2.1.F ht⟩) hw.2.2.1.2.2 hdg hlk
theorem ts_callVi {own C : String} {y : MethodName} {bytes : ByteArray} {maxL index n b : Nat} {ret : Option FieldType} {rm : Room} {av : (Nat → Nat) → List Value} {As : List Value} {r0 : Int32} (hc : CallFix p m c cc nL s args uW own) (hn : nx s) (hw : ts_W F D ca ad A s H locs u) (hM : ts_Ci F l y (.code y bytes maxL ret :: uW) rm av u r0 u0) (hav : av ad = .ref b :: As)
    (cw : CallW R s args own C index y bytes maxL ret (.code y bytes maxL ret :: uW) rm 0 0 n) (hb : ∃ cell : Cell, H[b]? = some cell ∧ cell.vm.isStatics = false ∧ s.vm.findClass C = some cell.cls) (hlen : As.length = n) (hsz : ls.size = nL) (hrest : (rest.map fun v => v.category).sum ≤ 8) (hdg : decode cc pc = .ok (.invokevirtual index, 3))
    (kk : ∀ (H1 : Heap) (locs1 : List Loc), ts_W F D ca ad A s H1 locs1 u0 → W p l e R s m args below meth c H1 locs1 0 0 Q (F0 m (pc + 3) ls (.int r0 :: rest))) : W p l e R s m args below meth c H locs 0 0 Q (F0 m pc ls (As.reverse ++ .ref b :: rest)) := by
  refine va_calli (va_runV (As := As) (rest := rest) hc (hM D ca ad H.size) cw ⟨ts_blind, hb, ts_start (by rw [hav]) hn hw⟩ rfl hlen hsz rfl (lv_room hrest) hdg ⟨Nat.zero_le _, Nat.zero_le _⟩) hw.2.2.1 (fun q _ h => ts_hF hw q h) (ts_hF hw) (fun r v t H1 locs1 ht hvm hp hB hz1 hk1 hS => ?_)
  obtain ⟨rfl, rfl⟩ := hp
  obtain ⟨hP1, -, hD1⟩ := hB
  rw [ht] at hP1
  exact kk H1 locs1 ⟨hP1, hD1.weaken (fun _ q _ h => ts_hF hw q.1 h), hS, hw.2.2.2⟩
theorem ts_callVv {own C : String} {y : MethodName} {bytes : ByteArray} {maxL index n b : Nat} {ret : Option FieldType} {rm : Room} {av : (Nat → Nat) → List Value} {As : List Value} (hc : CallFix p m c cc nL s args uW own) (hn : nx s) (hw : ts_W F D ca ad A s H locs u) (hM : ts_Cv F l y (.code y bytes maxL ret :: uW) rm av u u0) (hav : av ad = .ref b :: As)
    (cw : CallW R s args own C index y bytes maxL ret (.code y bytes maxL ret :: uW) rm 0 0 n) (hb : ∃ cell : Cell, H[b]? = some cell ∧ cell.vm.isStatics = false ∧ s.vm.findClass C = some cell.cls) (hlen : As.length = n) (hsz : ls.size = nL) (hrest : (rest.map fun v => v.category).sum ≤ 8) (hdg : decode cc pc = .ok (.invokevirtual index, 3))
    (kk : ∀ (H1 : Heap) (locs1 : List Loc), ts_W F D ca ad A s H1 locs1 u0 → W p l e R s m args below meth c H1 locs1 0 0 Q (F0 m (pc + 3) ls rest)) : W p l e R s m args below meth c H locs 0 0 Q (F0 m pc ls (As.reverse ++ .ref b :: rest)) := by
  refine va_callv (va_runV (As := As) (rest := rest) hc (hM D ca ad H.size) cw ⟨ts_blind, hb, ts_start (by rw [hav]) hn hw⟩ rfl hlen hsz rfl (lv_room hrest) hdg ⟨Nat.zero_le _, Nat.zero_le _⟩) hw.2.2.1 (fun q _ h => ts_hF hw q h) (ts_hF hw) (fun v t H1 locs1 ht hvm hp hB hz1 hk1 hS => ?_)
  subst hp
  obtain ⟨hP1, -, hD1⟩ := hB
  rw [ht] at hP1
  exact kk H1 locs1 ⟨hP1, hD1.weaken (fun _ q _ h => ts_hF hw q.1 h), hS, hw.2.2.2⟩
theorem ts_callNi {own C host : String} {y : MethodName} {bytes : ByteArray} {maxL index n b : Nat} {ret : Option FieldType} {rm : Room} {av : (Nat → Nat) → List Value} {As : List Value} {r0 : Int32} (hc : CallFix p m c cc nL s args uW own) (hn : nx s) (hw : ts_W F D ca ad A s H locs u) (hM : ts_Ci F l y (.code y bytes maxL ret :: uW) rm av u r0 u0) (hav : av ad = .ref b :: As)
    (cw : va_CN R s args own index y host bytes maxL ret (.code y bytes maxL ret :: uW) rm 0 0 n ∧ (Cond.instanceMethod y).before args s = true ∧ (Cond.selects C y y).before args s = true) (hb : ∃ cell : Cell, H[b]? = some cell ∧ cell.vm.isStatics = false ∧ s.vm.findClass C = some cell.cls) (hlen : As.length = n) (hsz : ls.size = nL) (hrest : (rest.map fun v => v.category).sum ≤ 8) (hdg : decode cc pc = .ok (.invokevirtual index, 3))
    (kk : ∀ (H1 : Heap) (locs1 : List Loc), ts_W F D ca ad A s H1 locs1 u0 → W p l e R s m args below meth c H1 locs1 0 0 Q (F0 m (pc + 3) ls (.int r0 :: rest))) : W p l e R s m args below meth c H locs 0 0 Q (F0 m pc ls (As.reverse ++ .ref b :: rest)) := by
  refine va_calli (va_runVN (As := As) (rest := rest) hc (hM D ca ad H.size) cw ⟨ts_blind, hb, ts_start (by rw [hav]) hn hw⟩ rfl hlen hsz rfl (lv_room hrest) hdg ⟨Nat.zero_le _, Nat.zero_le _⟩) hw.2.2.1 (fun q _ h => ts_hF hw q h) (ts_hF hw) (fun r v t H1 locs1 ht hvm hp hB hz1 hk1 hS => ?_)
  obtain ⟨rfl, rfl⟩ := hp
  obtain ⟨hP1, -, hD1⟩ := hB
  rw [ht] at hP1
  exact kk H1 locs1 ⟨hP1, hD1.weaken (fun _ q _ h => ts_hF hw q.1 h), hS, hw.2.2.2⟩
theorem ts_callNv {own C host : String} {y : MethodName} {bytes : ByteArray} {maxL index n b : Nat} {ret : Option FieldType} {rm : Room} {av : (Nat → Nat) → List Value} {As : List Value} (hc : CallFix p m c cc nL s args uW own) (hn : nx s) (hw : ts_W F D ca ad A s H locs u) (hM : ts_Cv F l y (.code y bytes maxL ret :: uW) rm av u u0) (hav : av ad = .ref b :: As)
    (cw : va_CN R s args own index y host bytes maxL ret (.code y bytes maxL ret :: uW) rm 0 0 n ∧ (Cond.instanceMethod y).before args s = true ∧ (Cond.selects C y y).before args s = true) (hb : ∃ cell : Cell, H[b]? = some cell ∧ cell.vm.isStatics = false ∧ s.vm.findClass C = some cell.cls) (hlen : As.length = n) (hsz : ls.size = nL) (hrest : (rest.map fun v => v.category).sum ≤ 8) (hdg : decode cc pc = .ok (.invokevirtual index, 3))
    (kk : ∀ (H1 : Heap) (locs1 : List Loc), ts_W F D ca ad A s H1 locs1 u0 → W p l e R s m args below meth c H1 locs1 0 0 Q (F0 m (pc + 3) ls rest)) : W p l e R s m args below meth c H locs 0 0 Q (F0 m pc ls (As.reverse ++ .ref b :: rest)) := by
  refine va_callv (va_runVN (As := As) (rest := rest) hc (hM D ca ad H.size) cw ⟨ts_blind, hb, ts_start (by rw [hav]) hn hw⟩ rfl hlen hsz rfl (lv_room hrest) hdg ⟨Nat.zero_le _, Nat.zero_le _⟩) hw.2.2.1 (fun q _ h => ts_hF hw q h) (ts_hF hw) (fun v t H1 locs1 ht hvm hp hB hz1 hk1 hS => ?_)
  subst hp
  obtain ⟨hP1, -, hD1⟩ := hB
  rw [ht] at hP1
  exact kk H1 locs1 ⟨hP1, hD1.weaken (fun _ q _ h => ts_hF hw q.1 h), hS, hw.2.2.2⟩
theorem ts_callSi {own : String} {y : MethodName} {bytes : ByteArray} {maxL index n : Nat} {ret : Option FieldType} {rm : Room} {av : (Nat → Nat) → List Value} {As : List Value} {r0 : Int32} (hc : CallFix p m c cc nL s args uW own) (hn : nx s) (hw : ts_W F D ca ad A s H locs u) (hM : ts_Ci F l y (.code y bytes maxL ret :: uW) rm av u r0 u0) (hav : av ad = As)
    (cw : CallB R s args own index y bytes maxL ret (.code y bytes maxL ret :: uW) rm 0 0 n ∧ (Cond.static y).before args s = true) (hlen : As.length = n) (hsz : ls.size = nL) (hrest : (rest.map fun v => v.category).sum ≤ 8) (hdg : decode cc pc = .ok (.invokestatic index, 3))
    (kk : ∀ (H1 : Heap) (locs1 : List Loc), ts_W F D ca ad A s H1 locs1 u0 → W p l e R s m args below meth c H1 locs1 0 0 Q (F0 m (pc + 3) ls (.int r0 :: rest))) : W p l e R s m args below meth c H locs 0 0 Q (F0 m pc ls (As.reverse ++ rest)) := by
  refine va_calli (va_runS (As := As) (rest := rest) hc (hM D ca ad H.size) cw ⟨ts_blind, ts_start (by rw [hav]) hn hw⟩ rfl hlen hsz rfl (lv_room hrest) hdg ⟨Nat.zero_le _, Nat.zero_le _⟩) hw.2.2.1 (fun q _ h => ts_hF hw q h) (ts_hF hw) (fun r v t H1 locs1 ht hvm hp hB hz1 hk1 hS => ?_)
  obtain ⟨rfl, rfl⟩ := hp
  obtain ⟨hP1, -, hD1⟩ := hB
  rw [ht] at hP1
  exact kk H1 locs1 ⟨hP1, hD1.weaken (fun _ q _ h => ts_hF hw q.1 h), hS, hw.2.2.2⟩
end
end
section
def dt_isFileNumber (u : ts_S) (x0 : Int32) : Option (Int32 × ts_S) := (if x0 < 0 then (some (0, u)) else (if 16 ≤ x0 then (some (0, u)) else (some (1, u))))
def dt_isOnDisk (u : ts_S) (x1 : Int32) : Option (Int32 × ts_S) := (ts_ix x1 16 (if (u.2 2 x1.toNatClampNeg) = 1 then (some (1, u)) else (ts_ix x1 16 (if (u.2 2 x1.toNatClampNeg) = 2 then (some (1, u)) else (some (0, u))))))
def dt_unitsTaken_4_b (k4 : ts_S → Int32 → Int32 → Option (Int32 × ts_S)) (u : ts_S) (x1 x2 : Int32) : Option (Int32 × ts_S) := (if 16 ≤ x2 then (some (x1, u)) else (ts_b (dt_isOnDisk u x2) fun r12 u12 => (if r12 = 0 then (k4 u12 x1 (x2 + 1)) else (ts_ix x2 16 (k4 u12 (x1 + (u12.2 3 x2.toNatClampNeg)) (x2 + 1))))))
def dt_unitsTaken_4 : Nat → ts_S → Int32 → Int32 → Option (Int32 × ts_S)
  | 0 => fun _ _ _ => none
  | n + 1 => dt_unitsTaken_4_b (dt_unitsTaken_4 n)
def dt_unitsTaken (u : ts_S) : Option (Int32 × ts_S) := (dt_unitsTaken_4 40 u 0 0)
def dt_hasRoom (u : ts_S) (x1 : Int32) : Option (Int32 × ts_S) := (ts_b (dt_unitsTaken u) fun r5 u5 => (if ((u.1 0) - r5) < x1 then (some (0, u5)) else (some (1, u5))))
def dt_longestUnused_4_b (k4 : ts_S → Int32 → Int32 → Int32 → Option (Int32 × ts_S)) (u : ts_S) (x1 x2 x3 : Int32) : Option (Int32 × ts_S) := (if 16 ≤ x3 then (some (x2, u)) else (ts_ix x3 16 (if (u.2 2 x3.toNatClampNeg) = x1 then (if x2 = (-1) then (k4 u x1 x3 (x3 + 1)) else (ts_ix x3 16 (ts_ix x2 16 (if (u.2 8 x2.toNatClampNeg) ≤ (u.2 8 x3.toNatClampNeg) then (k4 u x1 x2 (x3 + 1)) else (k4 u x1 x3 (x3 + 1)))))) else (k4 u x1 x2 (x3 + 1)))))
def dt_longestUnused_4 : Nat → ts_S → Int32 → Int32 → Int32 → Option (Int32 × ts_S)
  | 0 => fun _ _ _ _ => none
  | n + 1 => dt_longestUnused_4_b (dt_longestUnused_4 n)
def dt_longestUnused (u : ts_S) (x1 : Int32) : Option (Int32 × ts_S) := (dt_longestUnused_4 40 u x1 (-1) 0)
def dt_stubOldestDouble (u : ts_S) : Option (Int32 × ts_S) := (ts_b (dt_longestUnused u 2) fun r2 u2 => (if r2 = (-1) then (some (0, u2)) else (ts_ix r2 16 (some (1, (ts_a 2 r2.toNatClampNeg 3 u2))))))
def dt_makeRoom_2_b (k2 : ts_S → Int32 → Int32 → Option (Int32 × ts_S)) (u : ts_S) (x1 x2 : Int32) : Option (Int32 × ts_S) := (if 16 ≤ x2 then (ts_b (dt_hasRoom u x1) fun r33 u33 => (ts_z r33 (some (r33, u33)))) else (ts_b (dt_hasRoom u x1) fun r10 u10 => (if r10 = 0 then (ts_b (dt_stubOldestDouble u10) fun r17 u17 => (if r17 = 0 then (some (0, u17)) else (k2 u17 x1 (x2 + 1)))) else (ts_b (dt_hasRoom u10 x1) fun r33 u33 => (ts_z r33 (some (r33, u33)))))))
def dt_makeRoom_2 : Nat → ts_S → Int32 → Int32 → Option (Int32 × ts_S)
  | 0 => fun _ _ _ => none
  | n + 1 => dt_makeRoom_2_b (dt_makeRoom_2 n)
def dt_makeRoom (u : ts_S) (x1 : Int32) : Option (Int32 × ts_S) := (dt_makeRoom_2 40 u x1 0)
def dt_use (u : ts_S) (x1 : Int32) : Option (Int32 × ts_S) := (ts_ix x1 16 (some (0, (ts_a 8 x1.toNatClampNeg ((ts_p 1 ((u.1 1) + 1) u).1 1) (ts_p 1 ((u.1 1) + 1) u)))))
def dt_create_57_b (k57 : ts_S → Int32 → Int32 → Int32 → Option (Int32 × ts_S)) (u : ts_S) (x1 x2 x3 : Int32) : Option (Int32 × ts_S) := (if 4 ≤ x3 then (ts_b (dt_use u x1) fun _ u79 => (some (0, u79))) else (ts_ix x1 16 (ts_ix x3 4 (k57 (ts_a (20 + x1.toNatClampNeg) x3.toNatClampNeg 0 u) x1 x2 (x3 + 1)))))
def dt_create_57 : Nat → ts_S → Int32 → Int32 → Int32 → Option (Int32 × ts_S)
  | 0 => fun _ _ _ _ => none
  | n + 1 => dt_create_57_b (dt_create_57 n)
def dt_create (u : ts_S) (x1 x2 : Int32) : Option (Int32 × ts_S) := (ts_b (dt_isFileNumber u x1) fun r1 u1 => (if r1 = 0 then (some ((-1), u1)) else (if x2 < 1 then (some ((-1), u1)) else (if x2 ≤ 4 then (ts_ix x1 16 (if (u1.2 2 x1.toNatClampNeg) = 0 then (ts_b (dt_makeRoom u1 x2) fun r32 u32 => (if r32 = 0 then (some ((-2), u32)) else (ts_ix x1 16 (ts_ix x1 16 (dt_create_57 40 (ts_a 3 x1.toNatClampNeg x2 (ts_a 2 x1.toNatClampNeg 1 u32)) x1 x2 0))))) else (some ((-1), u1)))) else (some ((-1), u1))))))
def dp_goTo (u : ts_S) (x1 x2 : Int32) : Option (Int32 × ts_S) := (if (u.1 4) = x1 then (some (0, (ts_p 5 x2 (ts_p 6 ((u.1 6) + (if 0 ≤ ((u.1 5) - x2) then ((u.1 5) - x2) else 0 - ((u.1 5) - x2))) u)))) else (some (0, (ts_p 5 x2 (ts_p 6 (((ts_p 5 0 (ts_p 4 x1 (ts_p 6 ((u.1 6) + 20) u))).1 6) + (if 0 ≤ (((ts_p 5 0 (ts_p 4 x1 (ts_p 6 ((u.1 6) + 20) u))).1 5) - x2) then (((ts_p 5 0 (ts_p 4 x1 (ts_p 6 ((u.1 6) + 20) u))).1 5) - x2) else 0 - (((ts_p 5 0 (ts_p 4 x1 (ts_p 6 ((u.1 6) + 20) u))).1 5) - x2))) (ts_p 5 0 (ts_p 4 x1 (ts_p 6 ((u.1 6) + 20) u))))))))
def dp_pass (u : ts_S) (x1 x2 x3 : Int32) : Option (Int32 × ts_S) := (ts_b (dp_goTo u x1 x2) fun _ u3 => (some (0, (ts_p 5 (((ts_p 6 ((u3.1 6) + x3) u3).1 5) + x3) (ts_p 6 ((u3.1 6) + x3) u3)))))
def dt_bringToDisk (u : ts_S) (x1 : Int32) : Option (Int32 × ts_S) := (ts_ix x1 16 (if (u.2 2 x1.toNatClampNeg) = 3 then (ts_ix x1 16 (ts_b (dt_makeRoom u (u.2 3 x1.toNatClampNeg)) fun r19 u19 => (if r19 = 0 then (some (0, u19)) else (ts_ix x1 16 (ts_ix x1 16 (ts_ix x1 16 (ts_b (dp_pass u19 (u19.2 5 x1.toNatClampNeg) (u19.2 6 x1.toNatClampNeg) (u19.2 3 x1.toNatClampNeg)) fun _ u49 => (ts_ix x1 16 (ts_b (dt_use (ts_a 2 x1.toNatClampNeg 2 u49) x1) fun _ u61 => (some (1, u61))))))))))) else (some (1, u))))
def dt_isPresent (u : ts_S) (x1 : Int32) : Option (Int32 × ts_S) := (ts_b (dt_isFileNumber u x1) fun r1 u1 => (if r1 = 0 then (some (0, u1)) else (ts_ix x1 16 (if (u1.2 2 x1.toNatClampNeg) = 0 then (some (0, u1)) else (some (1, u1))))))
def dt_isCell (u : ts_S) (x1 x2 : Int32) : Option (Int32 × ts_S) := (ts_b (dt_isPresent u x1) fun r2 u2 => (if r2 = 0 then (some (0, u2)) else (if x2 < 0 then (some (0, u2)) else (ts_ix x1 16 (if (u2.2 3 x1.toNatClampNeg) ≤ x2 then (some (0, u2)) else (some (1, u2)))))))
def dt_write (u : ts_S) (x1 x2 x3 : Int32) : Option (Int32 × ts_S) := (ts_b (dt_isCell u x1 x2) fun r3 u3 => (if r3 = 0 then (some ((-1), u3)) else (ts_ix x1 16 (if (u3.2 2 x1.toNatClampNeg) = 4 then (some ((-3), u3)) else (ts_b (dt_bringToDisk u3 x1) fun r26 u26 => (if r26 = 0 then (some ((-2), u26)) else (ts_ix x1 16 (ts_ix x2 4 (ts_ix x1 16 (ts_b (dt_use (ts_a 2 x1.toNatClampNeg 1 (ts_a (20 + x1.toNatClampNeg) x2.toNatClampNeg x3 u26)) x1) fun _ u53 => (some (0, u53))))))))))))
def dt_read (u : ts_S) (x1 x2 : Int32) : Option (Int64 × ts_S) := (ts_b (dt_isCell u x1 x2) fun r3 u3 => (if r3 = 0 then (some ((-1000000000000), u3)) else (ts_ix x1 16 (if (u3.2 2 x1.toNatClampNeg) = 4 then (some ((-3000000000000), u3)) else (ts_b (dt_bringToDisk u3 x1) fun r29 u29 => (if r29 = 0 then (some ((-2000000000000), u29)) else (ts_b (dt_use u29 x1) fun _ u41 => (ts_ix x1 16 (ts_ix x2 4 (some (((u41.2 (20 + x1.toNatClampNeg) x2.toNatClampNeg).toInt64), u41)))))))))))
def dt_remove (u : ts_S) (x1 : Int32) : Option (Int32 × ts_S) := (ts_b (dt_isPresent u x1) fun r2 u2 => (if r2 = 0 then (some ((-1), u2)) else (ts_ix x1 16 (ts_ix x1 16 (some (0, (ts_a 7 x1.toNatClampNeg 0 (ts_a 2 x1.toNatClampNeg 0 u2))))))))
def dp_firstFitting_10_3_b (k3 : ts_S → Int32 → Int32 → Int32 → Option (Int32 × ts_S)) (u : ts_S) (x2 x3 x4 : Int32) : Option (Int32 × ts_S) := (if 4 ≤ x4 then (some ((-1), u)) else (if x4 = x3 then (k3 u x2 x3 (x4 + 1)) else (ts_ix x4 4 (if (u.1 3) < ((u.2 10 x4.toNatClampNeg) + x2) then (k3 u x2 x3 (x4 + 1)) else (some (x4, u))))))
def dp_firstFitting_10_3 : Nat → ts_S → Int32 → Int32 → Int32 → Option (Int32 × ts_S)
  | 0 => fun _ _ _ _ => none
  | n + 1 => dp_firstFitting_10_3_b (dp_firstFitting_10_3 n)
def dp_firstFitting_10 (u : ts_S) (x2 x3 : Int32) : Option (Int32 × ts_S) := (dp_firstFitting_10_3 40 u x2 x3 0)
def dp_cartridgeFor (u : ts_S) (x1 x2 : Int32) : Option (Int32 × ts_S) := (if (u.1 4) = (-1) then (ts_b (dp_firstFitting_10 u x1 x2) fun r46 u46 => (some (r46, u46))) else (if (u.1 4) = x2 then (ts_b (dp_firstFitting_10 u x1 x2) fun r46 u46 => (some (r46, u46))) else (ts_ix (u.1 4) 4 (if (u.1 3) < ((u.2 10 (u.1 4).toNatClampNeg) + x1) then (ts_b (dp_firstFitting_10 u x1 x2) fun r46 u46 => (some (r46, u46))) else (some ((u.1 4), u))))))
def dp_append (u : ts_S) (x1 x2 : Int32) : Option (Int32 × ts_S) := (ts_ix x1 4 (ts_b (dp_pass u x1 (u.2 10 x1.toNatClampNeg) x2) fun _ u11 => (ts_ix x1 4 (ts_ix x1 4 (some ((u.2 10 x1.toNatClampNeg), (ts_a 10 x1.toNatClampNeg ((u11.2 10 x1.toNatClampNeg) + x2) u11)))))))
def dt_putCopy (u : ts_S) (x1 x2 : Int32) : Option (Int32 × ts_S) := (ts_ix x1 16 (ts_ix x1 16 (ts_b (dp_append (ts_a 5 x1.toNatClampNeg x2 u) x2 ((ts_a 5 x1.toNatClampNeg x2 u).2 3 x1.toNatClampNeg)) fun r23 u23 => (ts_ix x1 16 (some (0, (ts_a 6 x1.toNatClampNeg r23 u23)))))))
def dt_backUp (u : ts_S) : Option (Int32 × ts_S) := (ts_b (dt_longestUnused u 1) fun r2 u2 => (if r2 = (-1) then (some ((-1), u2)) else (ts_ix r2 16 (ts_b (dp_cartridgeFor u2 (u2.2 3 r2.toNatClampNeg) (-1)) fun r24 u24 => (if r24 = (-1) then (some ((-2), u24)) else (ts_b (dt_putCopy u24 r2 r24) fun _ u39 => (ts_ix r2 16 (some (r2, (ts_a 2 r2.toNatClampNeg 2 u39))))))))))
def dt_isUnits (u : ts_S) (x0 : Int32) : Option (Int32 × ts_S) := (if x0 < 0 then (some (0, u)) else (if 24 < x0 then (some (0, u)) else (some (1, u))))
def dt_tidy_33_b (k33 : ts_S → Int32 → Int32 → Int32 → Option (Int32 × ts_S)) (u : ts_S) (x1 x2 x3 : Int32) : Option (Int32 × ts_S) := (if 16 ≤ x3 then (some (x3, u)) else (ts_b (dt_unitsTaken u) fun r40 u40 => (if r40 ≤ x2 then (some (x3, u40)) else (ts_b (dt_stubOldestDouble u40) fun r48 u48 => (if r48 = 0 then (some (x3, u48)) else (k33 u48 x1 x2 (x3 + 1)))))))
def dt_tidy_33 : Nat → ts_S → Int32 → Int32 → Int32 → Option (Int32 × ts_S)
  | 0 => fun _ _ _ _ => none
  | n + 1 => dt_tidy_33_b (dt_tidy_33 n)
def dt_tidy (u : ts_S) (x1 x2 : Int32) : Option (Int32 × ts_S) := (ts_b (dt_isUnits u x1) fun r1 u1 => (if r1 = 0 then (some ((-1), u1)) else (ts_b (dt_isUnits u1 x2) fun r8 u8 => (if r8 = 0 then (some ((-1), u8)) else (if x2 ≤ x1 then (ts_b (dt_unitsTaken u8) fun r22 u22 => (if x1 < r22 then (dt_tidy_33 40 u22 x1 x2 0) else (some (0, u22)))) else (some ((-1), u8)))))))
def dt_filesWaiting_4_b (k4 : ts_S → Int32 → Int32 → Option (Int32 × ts_S)) (u : ts_S) (x1 x2 : Int32) : Option (Int32 × ts_S) := (if 16 ≤ x2 then (some (x1, u)) else (ts_ix x2 16 (if (u.2 7 x2.toNatClampNeg) = 0 then (k4 u x1 (x2 + 1)) else (k4 u (x1 + 1) (x2 + 1)))))
def dt_filesWaiting_4 : Nat → ts_S → Int32 → Int32 → Option (Int32 × ts_S)
  | 0 => fun _ _ _ => none
  | n + 1 => dt_filesWaiting_4_b (dt_filesWaiting_4 n)
def dt_filesWaiting (u : ts_S) : Option (Int32 × ts_S) := (dt_filesWaiting_4 40 u 0 0)
def dt_ask (u : ts_S) (x1 : Int32) : Option (Int32 × ts_S) := (ts_b (dt_isPresent u x1) fun r2 u2 => (if r2 = 0 then (some ((-1), u2)) else (ts_ix x1 16 (if (u2.2 2 x1.toNatClampNeg) = 3 then (ts_ix x1 16 (if (u2.2 7 x1.toNatClampNeg) = 0 then (ts_b (dt_filesWaiting u2) fun r32 u32 => (if r32 < 6 then (ts_ix x1 16 (some (0, (ts_a 7 x1.toNatClampNeg 1 u32)))) else (some ((-2), u32)))) else (some ((-1), u2)))) else (some ((-1), u2))))))
def dt_keepWaitingStubs_4_b (k4 : ts_S → Int32 → Int32 → Option (Int32 × ts_S)) (u : ts_S) (x1 x2 : Int32) : Option (Int32 × ts_S) := (if (u.1 2) ≤ x2 then (some (0, (ts_p 2 x1 u))) else (ts_ix x2 16 (ts_ix (u.2 9 x2.toNatClampNeg) 16 (if (u.2 7 (u.2 9 x2.toNatClampNeg).toNatClampNeg) = 0 then (k4 u x1 (x2 + 1)) else (ts_ix (u.2 9 x2.toNatClampNeg) 16 (if (u.2 2 (u.2 9 x2.toNatClampNeg).toNatClampNeg) = 3 then (ts_ix x1 16 (k4 (ts_a 9 x1.toNatClampNeg (u.2 9 x2.toNatClampNeg) u) (x1 + 1) (x2 + 1))) else (k4 u x1 (x2 + 1))))))))
def dt_keepWaitingStubs_4 : Nat → ts_S → Int32 → Int32 → Option (Int32 × ts_S)
  | 0 => fun _ _ _ => none
  | n + 1 => dt_keepWaitingStubs_4_b (dt_keepWaitingStubs_4 n)
def dt_keepWaitingStubs (u : ts_S) : Option (Int32 × ts_S) := (dt_keepWaitingStubs_4 40 u 0 0)
def dt_hasCopy (u : ts_S) (x1 : Int32) : Option (Int32 × ts_S) := (ts_ix x1 16 (if (u.2 2 x1.toNatClampNeg) = 2 then (some (1, u)) else (ts_ix x1 16 (if (u.2 2 x1.toNatClampNeg) = 3 then (some (1, u)) else (some (0, u))))))
def dt_hasCopyOn (u : ts_S) (x1 x2 : Int32) : Option (Int32 × ts_S) := (ts_b (dt_hasCopy u x1) fun r2 u2 => (if r2 = 0 then (some (0, u2)) else (ts_ix x1 16 (if (u2.2 5 x1.toNatClampNeg) = x2 then (some (1, u2)) else (some (0, u2))))))
def dt_fileWithCopyAt_2_b (k2 : ts_S → Int32 → Int32 → Int32 → Option (Int32 × ts_S)) (u : ts_S) (x1 x2 x3 : Int32) : Option (Int32 × ts_S) := (if 16 ≤ x3 then (some ((-1), u)) else (ts_b (dt_hasCopyOn u x3 x1) fun r11 u11 => (if r11 = 0 then (k2 u11 x1 x2 (x3 + 1)) else (ts_ix x3 16 (if (u11.2 6 x3.toNatClampNeg) = x2 then (some (x3, u11)) else (k2 u11 x1 x2 (x3 + 1)))))))
def dt_fileWithCopyAt_2 : Nat → ts_S → Int32 → Int32 → Int32 → Option (Int32 × ts_S)
  | 0 => fun _ _ _ _ => none
  | n + 1 => dt_fileWithCopyAt_2_b (dt_fileWithCopyAt_2 n)
def dt_fileWithCopyAt (u : ts_S) (x1 x2 : Int32) : Option (Int32 × ts_S) := (dt_fileWithCopyAt_2 40 u x1 x2 0)
def dt_listCopiesOn_2_b (k2 : ts_S → Int32 → Int32 → Option (Int32 × ts_S)) (u : ts_S) (x1 x2 : Int32) : Option (Int32 × ts_S) := (if (u.1 3) ≤ x2 then (some (0, u)) else (ts_b (dt_fileWithCopyAt u x1 x2) fun r16 u16 => (if r16 = (-1) then (k2 u16 x1 (x2 + 1)) else (if 16 ≤ (u16.1 2) then (k2 u16 x1 (x2 + 1)) else (ts_ix (u16.1 2) 16 (k2 (ts_p 2 (((ts_a 9 (u16.1 2).toNatClampNeg r16 u16).1 2) + 1) (ts_a 9 (u16.1 2).toNatClampNeg r16 u16)) x1 (x2 + 1)))))))
def dt_listCopiesOn_2 : Nat → ts_S → Int32 → Int32 → Option (Int32 × ts_S)
  | 0 => fun _ _ _ => none
  | n + 1 => dt_listCopiesOn_2_b (dt_listCopiesOn_2 n)
def dt_listCopiesOn (u : ts_S) (x1 : Int32) : Option (Int32 × ts_S) := (dt_listCopiesOn_2 40 u x1 0)
def dt_listWaitingStubs_25_b (k25 : ts_S → Int32 → Int32 → Option (Int32 × ts_S)) (u : ts_S) (x1 x2 : Int32) : Option (Int32 × ts_S) := (if 4 ≤ x2 then (ts_b (dt_keepWaitingStubs u) fun _ u47 => (some (0, u47))) else (if x2 = x1 then (k25 u x1 (x2 + 1)) else (ts_b (dt_listCopiesOn u x2) fun _ u37 => (k25 u37 x1 (x2 + 1)))))
def dt_listWaitingStubs_25 : Nat → ts_S → Int32 → Int32 → Option (Int32 × ts_S)
  | 0 => fun _ _ _ => none
  | n + 1 => dt_listWaitingStubs_25_b (dt_listWaitingStubs_25 n)
def dt_listWaitingStubs (u : ts_S) : Option (Int32 × ts_S) := (if ((ts_p 2 0 u).1 4) = (-1) then (dt_listWaitingStubs_25 40 (ts_p 2 0 u) ((ts_p 2 0 u).1 4) 0) else (ts_b (dt_listCopiesOn (ts_p 2 0 u) ((ts_p 2 0 u).1 4)) fun _ u20 => (dt_listWaitingStubs_25 40 u20 ((ts_p 2 0 u).1 4) 0)))
def dt_serve_29_b (k29 : ts_S → Int32 → Int32 → Option (Int32 × ts_S)) (u : ts_S) (x1 x2 : Int32) : Option (Int32 × ts_S) := (if (u.1 2) ≤ x2 then (some (x1, u)) else (ts_ix x2 16 (ts_b (dt_bringToDisk u (u.2 9 x2.toNatClampNeg)) fun r44 u44 => (if r44 = 0 then (k29 u44 x1 (x2 + 1)) else (k29 u44 (x1 + 1) (x2 + 1))))))
def dt_serve_29 : Nat → ts_S → Int32 → Int32 → Option (Int32 × ts_S)
  | 0 => fun _ _ _ => none
  | n + 1 => dt_serve_29_b (dt_serve_29 n)
def dt_serve_6_b (k6 : ts_S → Int32 → Option (Int32 × ts_S)) (u : ts_S) (x1 : Int32) : Option (Int32 × ts_S) := (if 16 ≤ x1 then (dt_serve_29 40 u 0 0) else (ts_ix x1 16 (k6 (ts_a 7 x1.toNatClampNeg 0 u) (x1 + 1))))
def dt_serve_6 : Nat → ts_S → Int32 → Option (Int32 × ts_S)
  | 0 => fun _ _ => none
  | n + 1 => dt_serve_6_b (dt_serve_6 n)
def dt_serve (u : ts_S) : Option (Int32 × ts_S) := (ts_b (dt_listWaitingStubs u) fun _ u1 => (dt_serve_6 40 u1 0))
def dt_isCartridgeNumber (u : ts_S) (x0 : Int32) : Option (Int32 × ts_S) := (if x0 < 0 then (some (0, u)) else (if 4 ≤ x0 then (some (0, u)) else (some (1, u))))
def dp_startTrial (u : ts_S) : Option (Int32 × ts_S) := (some (0, (ts_c u)))
def dp_firstFitting_11_3_b (k3 : ts_S → Int32 → Int32 → Int32 → Option (Int32 × ts_S)) (u : ts_S) (x2 x3 x4 : Int32) : Option (Int32 × ts_S) := (if 4 ≤ x4 then (some ((-1), u)) else (if x4 = x3 then (k3 u x2 x3 (x4 + 1)) else (ts_ix x4 4 (if (u.1 3) < ((u.2 11 x4.toNatClampNeg) + x2) then (k3 u x2 x3 (x4 + 1)) else (some (x4, u))))))
def dp_firstFitting_11_3 : Nat → ts_S → Int32 → Int32 → Int32 → Option (Int32 × ts_S)
  | 0 => fun _ _ _ _ => none
  | n + 1 => dp_firstFitting_11_3_b (dp_firstFitting_11_3 n)
def dp_firstFitting_11 (u : ts_S) (x2 x3 : Int32) : Option (Int32 × ts_S) := (dp_firstFitting_11_3 40 u x2 x3 0)
def dp_tryBeside (u : ts_S) (x1 x2 : Int32) : Option (Int32 × ts_S) := (ts_b (dp_firstFitting_11 u x2 x1) fun r7 u7 => (if r7 = (-1) then (some (0, u7)) else (ts_ix r7 4 (ts_ix r7 4 (some (1, (ts_a 11 r7.toNatClampNeg ((u7.2 11 r7.toNatClampNeg) + x2) u7)))))))
def dt_listedFitBeside_9_b (k9 : ts_S → Int32 → Int32 → Option (Int32 × ts_S)) (u : ts_S) (x1 x2 : Int32) : Option (Int32 × ts_S) := (if (u.1 2) ≤ x2 then (some (1, u)) else (ts_ix x2 16 (ts_ix (u.2 9 x2.toNatClampNeg) 16 (ts_b (dp_tryBeside u x1 (u.2 3 (u.2 9 x2.toNatClampNeg).toNatClampNeg)) fun r33 u33 => (if r33 = 0 then (some (0, u33)) else (k9 u33 x1 (x2 + 1)))))))
def dt_listedFitBeside_9 : Nat → ts_S → Int32 → Int32 → Option (Int32 × ts_S)
  | 0 => fun _ _ _ => none
  | n + 1 => dt_listedFitBeside_9_b (dt_listedFitBeside_9 n)
def dt_listedFitBeside (u : ts_S) (x1 : Int32) : Option (Int32 × ts_S) := (ts_b (dp_startTrial u) fun _ u4 => (dt_listedFitBeside_9 40 u4 x1 0))
def dt_moveCopy (u : ts_S) (x1 x2 : Int32) : Option (Int32 × ts_S) := (ts_ix x1 16 (ts_ix x1 16 (ts_b (dp_pass u x2 (u.2 6 x1.toNatClampNeg) (u.2 3 x1.toNatClampNeg)) fun _ u17 => (ts_ix x1 16 (ts_b (dp_cartridgeFor u17 (u17.2 3 x1.toNatClampNeg) x2) fun r31 u31 => (if r31 = (-1) then (some (0, u31)) else (ts_b (dt_putCopy u31 x1 r31) fun _ u43 => (some (0, u43)))))))))
def dt_empty_32_b (k32 : ts_S → Int32 → Int32 → Option (Int32 × ts_S)) (u : ts_S) (x1 x2 : Int32) : Option (Int32 × ts_S) := (if (u.1 2) ≤ x2 then (ts_ix x1 4 (some (((ts_a 10 x1.toNatClampNeg 0 u).1 2), (ts_a 10 x1.toNatClampNeg 0 u)))) else (ts_ix x2 16 (ts_b (dt_moveCopy u (u.2 9 x2.toNatClampNeg) x1) fun _ u48 => (k32 u48 x1 (x2 + 1)))))
def dt_empty_32 : Nat → ts_S → Int32 → Int32 → Option (Int32 × ts_S)
  | 0 => fun _ _ _ => none
  | n + 1 => dt_empty_32_b (dt_empty_32 n)
def dt_empty (u : ts_S) (x1 : Int32) : Option (Int32 × ts_S) := (ts_b (dt_isCartridgeNumber u x1) fun r1 u1 => (if r1 = 0 then (some ((-1), u1)) else (ts_b (dt_listCopiesOn (ts_p 2 0 u1) x1) fun _ u16 => (ts_b (dt_listedFitBeside u16 x1) fun r21 u21 => (if r21 = 0 then (some ((-2), u21)) else (dt_empty_32 40 u21 x1 0))))))
def dp_replace (u : ts_S) (x1 : Int32) : Option (Int32 × ts_S) := (ts_ix x1 4 (if ((ts_a 10 x1.toNatClampNeg 0 u).1 4) = x1 then (some (0, (ts_p 5 0 (ts_p 4 (-1) (ts_a 10 x1.toNatClampNeg 0 u))))) else (some (0, (ts_a 10 x1.toNatClampNeg 0 u)))))
def dt_lose_13_b (k13 : ts_S → Int32 → Int32 → Int32 → Option (Int32 × ts_S)) (u : ts_S) (x1 x2 x3 : Int32) : Option (Int32 × ts_S) := (if 16 ≤ x3 then (ts_b (dp_replace u x1) fun _ u72 => (some (x2, u72))) else (ts_b (dt_hasCopyOn u x3 x1) fun r22 u22 => (if r22 = 0 then (k13 u22 x1 x2 (x3 + 1)) else (ts_ix x3 16 (if (u22.2 2 x3.toNatClampNeg) = 3 then (ts_ix x3 16 (k13 (ts_a 2 x3.toNatClampNeg 4 u22) x1 (x2 + 1) (x3 + 1))) else (ts_ix x3 16 (k13 (ts_a 2 x3.toNatClampNeg 1 u22) x1 x2 (x3 + 1))))))))
def dt_lose_13 : Nat → ts_S → Int32 → Int32 → Int32 → Option (Int32 × ts_S)
  | 0 => fun _ _ _ _ => none
  | n + 1 => dt_lose_13_b (dt_lose_13 n)
def dt_lose (u : ts_S) (x1 : Int32) : Option (Int32 × ts_S) := (ts_b (dt_isCartridgeNumber u x1) fun r1 u1 => (if r1 = 0 then (some ((-1), u1)) else (dt_lose_13 40 u1 x1 0 0)))
def dt_usedSince_4_b (k4 : ts_S → Int32 → Int32 → Int32 → Option (Int32 × ts_S)) (u : ts_S) (x1 x2 x3 : Int32) : Option (Int32 × ts_S) := (if 16 ≤ x3 then (some (x2, u)) else (ts_ix x3 16 (if (u.2 2 x3.toNatClampNeg) = 0 then (k4 u x1 x2 (x3 + 1)) else (ts_ix x3 16 (ts_ix x1 16 (if (u.2 8 x3.toNatClampNeg) ≤ (u.2 8 x1.toNatClampNeg) then (k4 u x1 x2 (x3 + 1)) else (k4 u x1 (x2 + 1) (x3 + 1))))))))
def dt_usedSince_4 : Nat → ts_S → Int32 → Int32 → Int32 → Option (Int32 × ts_S)
  | 0 => fun _ _ _ _ => none
  | n + 1 => dt_usedSince_4_b (dt_usedSince_4 n)
def dt_usedSince (u : ts_S) (x1 : Int32) : Option (Int32 × ts_S) := (dt_usedSince_4 40 u x1 0 0)
def dt_file (u : ts_S) (x1 x2 : Int32) : Option (Int32 × ts_S) := (ts_b (dt_isFileNumber u x1) fun r1 u1 => (if r1 = 0 then (some ((-1), u1)) else (ts_ix x1 16 (if (u1.2 2 x1.toNatClampNeg) = 0 then (if x2 = 0 then (ts_ix x1 16 (some ((u1.2 2 x1.toNatClampNeg), u1))) else (if x2 = 1 then (some (0, u1)) else (if x2 = 2 then (ts_b (dt_hasCopy u1 x1) fun r88 u88 => (if r88 = 0 then (some ((-1), u88)) else (ts_ix x1 16 (some ((u88.2 5 x1.toNatClampNeg), u88))))) else (if x2 = 3 then (ts_b (dt_hasCopy u1 x1) fun r107 u107 => (if r107 = 0 then (some ((-1), u107)) else (ts_ix x1 16 (some ((u107.2 6 x1.toNatClampNeg), u107))))) else (if x2 = 4 then (ts_ix x1 16 (if (u1.2 7 x1.toNatClampNeg) = 0 then (some (0, u1)) else (some (1, u1)))) else (if x2 = 5 then (some ((-1), u1)) else (some ((-1), u1)))))))) else (if x2 = 0 then (ts_ix x1 16 (some ((u1.2 2 x1.toNatClampNeg), u1))) else (if x2 = 1 then (ts_ix x1 16 (some ((u1.2 3 x1.toNatClampNeg), u1))) else (if x2 = 2 then (ts_b (dt_hasCopy u1 x1) fun r88 u88 => (if r88 = 0 then (some ((-1), u88)) else (ts_ix x1 16 (some ((u88.2 5 x1.toNatClampNeg), u88))))) else (if x2 = 3 then (ts_b (dt_hasCopy u1 x1) fun r107 u107 => (if r107 = 0 then (some ((-1), u107)) else (ts_ix x1 16 (some ((u107.2 6 x1.toNatClampNeg), u107))))) else (if x2 = 4 then (ts_ix x1 16 (if (u1.2 7 x1.toNatClampNeg) = 0 then (some (0, u1)) else (some (1, u1)))) else (if x2 = 5 then (ts_b (dt_usedSince u1 x1) fun r145 u145 => (some (r145, u145))) else (some ((-1), u1))))))))))))
def dt_liveUnits_4_b (k4 : ts_S → Int32 → Int32 → Int32 → Option (Int32 × ts_S)) (u : ts_S) (x1 x2 x3 : Int32) : Option (Int32 × ts_S) := (if 16 ≤ x3 then (some (x2, u)) else (ts_b (dt_hasCopyOn u x3 x1) fun r13 u13 => (if r13 = 0 then (k4 u13 x1 x2 (x3 + 1)) else (ts_ix x3 16 (k4 u13 x1 (x2 + (u13.2 3 x3.toNatClampNeg)) (x3 + 1))))))
def dt_liveUnits_4 : Nat → ts_S → Int32 → Int32 → Int32 → Option (Int32 × ts_S)
  | 0 => fun _ _ _ _ => none
  | n + 1 => dt_liveUnits_4_b (dt_liveUnits_4 n)
def dt_liveUnits (u : ts_S) (x1 : Int32) : Option (Int32 × ts_S) := (dt_liveUnits_4 40 u x1 0 0)
def dt_cartridge (u : ts_S) (x1 x2 : Int32) : Option (Int32 × ts_S) := (ts_b (dt_isCartridgeNumber u x1) fun r1 u1 => (if r1 = 0 then (some ((-1), u1)) else (if x2 = 0 then (ts_ix x1 4 (some ((u1.2 10 x1.toNatClampNeg), u1))) else (if x2 = 1 then (ts_b (dt_liveUnits u1 x1) fun r48 u48 => (some (r48, u48))) else (if x2 = 2 then (if (u1.1 4) = x1 then (some (1, u1)) else (some (0, u1))) else (some ((-1), u1)))))))
def dt_count (u : ts_S) (x1 : Int32) : Option (Int32 × ts_S) := (if x1 = 0 then (ts_b (dt_unitsTaken u) fun r33 u33 => (some (r33, u33))) else (if x1 = 1 then (some ((u.1 6), u)) else (if x1 = 2 then (some ((u.1 5), u)) else (if x1 = 3 then (ts_b (dt_filesWaiting u) fun r54 u54 => (some (r54, u54))) else (some ((-1), u))))))
def dm_in (u : ts_S) (x0 x1 : Int32) : Option (Int32 × ts_S) := (if x0 < 0 then (some (0, u)) else (if x1 ≤ x0 then (some (0, u)) else (some (1, u))))
def dm_oldest_4_b (k4 : ts_S → Int32 → Int32 → Int32 → Option (Int32 × ts_S)) (u : ts_S) (x1 x2 x3 : Int32) : Option (Int32 × ts_S) := (if 16 ≤ x3 then (some (x2, u)) else (ts_ix x3 16 (if (u.2 2 x3.toNatClampNeg) = x1 then (if x2 < 0 then (k4 u x1 x3 (x3 + 1)) else (ts_ix x3 16 (ts_ix x2 16 (if (u.2 8 x2.toNatClampNeg) ≤ (u.2 8 x3.toNatClampNeg) then (k4 u x1 x2 (x3 + 1)) else (k4 u x1 x3 (x3 + 1)))))) else (k4 u x1 x2 (x3 + 1)))))
def dm_oldest_4 : Nat → ts_S → Int32 → Int32 → Int32 → Option (Int32 × ts_S)
  | 0 => fun _ _ _ _ => none
  | n + 1 => dm_oldest_4_b (dm_oldest_4 n)
def dm_oldest (u : ts_S) (x1 : Int32) : Option (Int32 × ts_S) := (dm_oldest_4 40 u x1 (-1) 0)
def dm_taken_4_b (k4 : ts_S → Int32 → Int32 → Option (Int32 × ts_S)) (u : ts_S) (x1 x2 : Int32) : Option (Int32 × ts_S) := (if 16 ≤ x2 then (some (x1, u)) else (ts_ix x2 16 (if (u.2 2 x2.toNatClampNeg) = 1 then (ts_ix x2 16 (k4 u (x1 + (u.2 3 x2.toNatClampNeg)) (x2 + 1))) else (ts_ix x2 16 (if (u.2 2 x2.toNatClampNeg) = 2 then (ts_ix x2 16 (k4 u (x1 + (u.2 3 x2.toNatClampNeg)) (x2 + 1))) else (k4 u x1 (x2 + 1)))))))
def dm_taken_4 : Nat → ts_S → Int32 → Int32 → Option (Int32 × ts_S)
  | 0 => fun _ _ _ => none
  | n + 1 => dm_taken_4_b (dm_taken_4 n)
def dm_taken (u : ts_S) : Option (Int32 × ts_S) := (dm_taken_4 40 u 0 0)
def dm_makeRoom_2_b (k2 : ts_S → Int32 → Int32 → Option (Int32 × ts_S)) (u : ts_S) (x1 x2 : Int32) : Option (Int32 × ts_S) := (if 16 ≤ x2 then (ts_b (dm_taken u) fun r49 u49 => (if ((u.1 0) - r49) < x1 then (some (0, u49)) else (some (1, u49)))) else (ts_b (dm_taken u) fun r13 u13 => (if x1 ≤ ((u.1 0) - r13) then (ts_b (dm_taken u13) fun r49 u49 => (if ((u13.1 0) - r49) < x1 then (some (0, u49)) else (some (1, u49)))) else (ts_b (dm_oldest u13 2) fun r23 u23 => (if r23 < 0 then (k2 u23 x1 (x2 + 1)) else (ts_ix r23 16 (k2 (ts_a 2 r23.toNatClampNeg 3 u23) x1 (x2 + 1))))))))
def dm_makeRoom_2 : Nat → ts_S → Int32 → Int32 → Option (Int32 × ts_S)
  | 0 => fun _ _ _ => none
  | n + 1 => dm_makeRoom_2_b (dm_makeRoom_2 n)
def dm_makeRoom (u : ts_S) (x1 : Int32) : Option (Int32 × ts_S) := (dm_makeRoom_2 40 u x1 0)
def dm_use (u : ts_S) (x1 : Int32) : Option (Int32 × ts_S) := (ts_ix x1 16 (some (0, (ts_a 8 x1.toNatClampNeg ((ts_p 1 ((u.1 1) + 1) u).1 1) (ts_p 1 ((u.1 1) + 1) u)))))
def dm_create_57_b (k57 : ts_S → Int32 → Int32 → Int32 → Option (Int32 × ts_S)) (u : ts_S) (x1 x2 x3 : Int32) : Option (Int32 × ts_S) := (if 4 ≤ x3 then (ts_b (dm_use u x1) fun _ u81 => (some (0, u81))) else (ts_ix ((x1 * 4) + x3) 64 (k57 (ts_a 4 ((x1 * 4) + x3).toNatClampNeg 0 u) x1 x2 (x3 + 1))))
def dm_create_57 : Nat → ts_S → Int32 → Int32 → Int32 → Option (Int32 × ts_S)
  | 0 => fun _ _ _ _ => none
  | n + 1 => dm_create_57_b (dm_create_57 n)
def dm_create (u : ts_S) (x1 x2 : Int32) : Option (Int32 × ts_S) := (ts_b (dm_in u x1 16) fun r3 u3 => (if r3 = 0 then (some ((-1), u3)) else (if x2 < 1 then (some ((-1), u3)) else (if 4 < x2 then (some ((-1), u3)) else (ts_ix x1 16 (if (u3.2 2 x1.toNatClampNeg) = 0 then (ts_b (dm_makeRoom u3 x2) fun r32 u32 => (if r32 = 0 then (some ((-2), u32)) else (ts_ix x1 16 (ts_ix x1 16 (dm_create_57 40 (ts_a 3 x1.toNatClampNeg x2 (ts_a 2 x1.toNatClampNeg 1 u32)) x1 x2 0))))) else (some ((-1), u3))))))))
def dm_move (u : ts_S) (x1 x2 x3 : Int32) : Option (Int32 × ts_S) := (if (u.1 4) = x1 then (if x2 ≤ (u.1 5) then (some (0, (ts_p 5 (x2 + x3) (ts_p 6 (((ts_p 6 ((u.1 6) + ((u.1 5) - x2)) u).1 6) + x3) (ts_p 6 ((u.1 6) + ((u.1 5) - x2)) u))))) else (some (0, (ts_p 5 (x2 + x3) (ts_p 6 (((ts_p 6 ((u.1 6) + (x2 - (u.1 5))) u).1 6) + x3) (ts_p 6 ((u.1 6) + (x2 - (u.1 5))) u)))))) else (if x2 ≤ ((ts_p 5 0 (ts_p 4 x1 (ts_p 6 ((u.1 6) + 20) u))).1 5) then (some (0, (ts_p 5 (x2 + x3) (ts_p 6 (((ts_p 6 (((ts_p 5 0 (ts_p 4 x1 (ts_p 6 ((u.1 6) + 20) u))).1 6) + (((ts_p 5 0 (ts_p 4 x1 (ts_p 6 ((u.1 6) + 20) u))).1 5) - x2)) (ts_p 5 0 (ts_p 4 x1 (ts_p 6 ((u.1 6) + 20) u)))).1 6) + x3) (ts_p 6 (((ts_p 5 0 (ts_p 4 x1 (ts_p 6 ((u.1 6) + 20) u))).1 6) + (((ts_p 5 0 (ts_p 4 x1 (ts_p 6 ((u.1 6) + 20) u))).1 5) - x2)) (ts_p 5 0 (ts_p 4 x1 (ts_p 6 ((u.1 6) + 20) u)))))))) else (some (0, (ts_p 5 (x2 + x3) (ts_p 6 (((ts_p 6 (((ts_p 5 0 (ts_p 4 x1 (ts_p 6 ((u.1 6) + 20) u))).1 6) + (x2 - ((ts_p 5 0 (ts_p 4 x1 (ts_p 6 ((u.1 6) + 20) u))).1 5))) (ts_p 5 0 (ts_p 4 x1 (ts_p 6 ((u.1 6) + 20) u)))).1 6) + x3) (ts_p 6 (((ts_p 5 0 (ts_p 4 x1 (ts_p 6 ((u.1 6) + 20) u))).1 6) + (x2 - ((ts_p 5 0 (ts_p 4 x1 (ts_p 6 ((u.1 6) + 20) u))).1 5))) (ts_p 5 0 (ts_p 4 x1 (ts_p 6 ((u.1 6) + 20) u))))))))))
def dm_bringBack (u : ts_S) (x1 : Int32) : Option (Int32 × ts_S) := (ts_ix x1 16 (ts_b (dm_makeRoom u (u.2 3 x1.toNatClampNeg)) fun r7 u7 => (if r7 = 0 then (some (0, u7)) else (ts_ix x1 16 (ts_ix x1 16 (ts_ix x1 16 (ts_b (dm_move u7 (u7.2 5 x1.toNatClampNeg) (u7.2 6 x1.toNatClampNeg) (u7.2 3 x1.toNatClampNeg)) fun _ u34 => (ts_ix x1 16 (ts_b (dm_use (ts_a 2 x1.toNatClampNeg 2 u34) x1) fun _ u46 => (some (1, u46)))))))))))
def dm_there (u : ts_S) (x1 : Int32) : Option (Int32 × ts_S) := (ts_b (dm_in u x1 16) fun r3 u3 => (if r3 = 0 then (some (0, u3)) else (ts_ix x1 16 (if (u3.2 2 x1.toNatClampNeg) = 0 then (some (0, u3)) else (some (1, u3))))))
def dm_write (u : ts_S) (x1 x2 x3 : Int32) : Option (Int32 × ts_S) := (ts_b (dm_there u x1) fun r2 u2 => (if r2 = 0 then (some ((-1), u2)) else (ts_ix x1 16 (ts_b (dm_in u2 x2 (u2.2 3 x1.toNatClampNeg)) fun r15 u15 => (if r15 = 0 then (some ((-1), u15)) else (ts_ix x1 16 (if (u15.2 2 x1.toNatClampNeg) = 4 then (some ((-3), u15)) else (ts_ix x1 16 (if (u15.2 2 x1.toNatClampNeg) = 3 then (ts_b (dm_bringBack u15 x1) fun r48 u48 => (if r48 = 0 then (some ((-2), u48)) else (ts_ix ((x1 * 4) + x2) 64 (ts_ix x1 16 (ts_b (dm_use (ts_a 2 x1.toNatClampNeg 1 (ts_a 4 ((x1 * 4) + x2).toNatClampNeg x3 u48)) x1) fun _ u77 => (some (0, u77))))))) else (ts_ix ((x1 * 4) + x2) 64 (ts_ix x1 16 (ts_b (dm_use (ts_a 2 x1.toNatClampNeg 1 (ts_a 4 ((x1 * 4) + x2).toNatClampNeg x3 u15)) x1) fun _ u77 => (some (0, u77))))))))))))))
def dm_read (u : ts_S) (x1 x2 : Int32) : Option (Int64 × ts_S) := (ts_b (dm_there u x1) fun r2 u2 => (if r2 = 0 then (some ((-1000000000000), u2)) else (ts_ix x1 16 (ts_b (dm_in u2 x2 (u2.2 3 x1.toNatClampNeg)) fun r15 u15 => (if r15 = 0 then (some ((-1000000000000), u15)) else (ts_ix x1 16 (if (u15.2 2 x1.toNatClampNeg) = 4 then (some ((-3000000000000), u15)) else (ts_ix x1 16 (if (u15.2 2 x1.toNatClampNeg) = 3 then (ts_b (dm_bringBack u15 x1) fun r51 u51 => (if r51 = 0 then (some ((-2000000000000), u51)) else (ts_b (dm_use u51 x1) fun _ u63 => (ts_ix ((x1 * 4) + x2) 64 (some (((u63.2 4 ((x1 * 4) + x2).toNatClampNeg).toInt64), u63)))))) else (ts_b (dm_use u15 x1) fun _ u63 => (ts_ix ((x1 * 4) + x2) 64 (some (((u63.2 4 ((x1 * 4) + x2).toNatClampNeg).toInt64), u63)))))))))))))
def dm_remove (u : ts_S) (x1 : Int32) : Option (Int32 × ts_S) := (ts_b (dm_there u x1) fun r2 u2 => (if r2 = 0 then (some ((-1), u2)) else (ts_ix x1 16 (ts_ix x1 16 (some (0, (ts_a 7 x1.toNatClampNeg 0 (ts_a 2 x1.toNatClampNeg 0 u2))))))))
def dm_copy_5_b (k5 : ts_S → Int32 → Int32 → Int32 → Int32 → Option (Int32 × ts_S)) (u : ts_S) (x1 x2 x3 x4 : Int32) : Option (Int32 × ts_S) := (if x4 < 0 then (if (u.1 4) < 0 then (if 0 ≤ x3 then (ts_ix x1 16 (ts_ix x3 4 (ts_ix x1 16 (ts_ix x3 4 (ts_ix x1 16 (ts_ix x3 4 (ts_ix x1 16 (ts_ix x1 16 (ts_b (dm_move (ts_a 10 x3.toNatClampNeg (((ts_a 6 x1.toNatClampNeg ((ts_a 5 x1.toNatClampNeg x3 u).2 10 x3.toNatClampNeg) (ts_a 5 x1.toNatClampNeg x3 u)).2 10 x3.toNatClampNeg) + ((ts_a 6 x1.toNatClampNeg ((ts_a 5 x1.toNatClampNeg x3 u).2 10 x3.toNatClampNeg) (ts_a 5 x1.toNatClampNeg x3 u)).2 3 x1.toNatClampNeg)) (ts_a 6 x1.toNatClampNeg ((ts_a 5 x1.toNatClampNeg x3 u).2 10 x3.toNatClampNeg) (ts_a 5 x1.toNatClampNeg x3 u))) x3 ((ts_a 10 x3.toNatClampNeg (((ts_a 6 x1.toNatClampNeg ((ts_a 5 x1.toNatClampNeg x3 u).2 10 x3.toNatClampNeg) (ts_a 5 x1.toNatClampNeg x3 u)).2 10 x3.toNatClampNeg) + ((ts_a 6 x1.toNatClampNeg ((ts_a 5 x1.toNatClampNeg x3 u).2 10 x3.toNatClampNeg) (ts_a 5 x1.toNatClampNeg x3 u)).2 3 x1.toNatClampNeg)) (ts_a 6 x1.toNatClampNeg ((ts_a 5 x1.toNatClampNeg x3 u).2 10 x3.toNatClampNeg) (ts_a 5 x1.toNatClampNeg x3 u))).2 6 x1.toNatClampNeg) ((ts_a 10 x3.toNatClampNeg (((ts_a 6 x1.toNatClampNeg ((ts_a 5 x1.toNatClampNeg x3 u).2 10 x3.toNatClampNeg) (ts_a 5 x1.toNatClampNeg x3 u)).2 10 x3.toNatClampNeg) + ((ts_a 6 x1.toNatClampNeg ((ts_a 5 x1.toNatClampNeg x3 u).2 10 x3.toNatClampNeg) (ts_a 5 x1.toNatClampNeg x3 u)).2 3 x1.toNatClampNeg)) (ts_a 6 x1.toNatClampNeg ((ts_a 5 x1.toNatClampNeg x3 u).2 10 x3.toNatClampNeg) (ts_a 5 x1.toNatClampNeg x3 u))).2 3 x1.toNatClampNeg)) fun _ u152 => (some (1, u152))))))))))) else (some (0, u))) else (if (u.1 4) = x2 then (if 0 ≤ x3 then (ts_ix x1 16 (ts_ix x3 4 (ts_ix x1 16 (ts_ix x3 4 (ts_ix x1 16 (ts_ix x3 4 (ts_ix x1 16 (ts_ix x1 16 (ts_b (dm_move (ts_a 10 x3.toNatClampNeg (((ts_a 6 x1.toNatClampNeg ((ts_a 5 x1.toNatClampNeg x3 u).2 10 x3.toNatClampNeg) (ts_a 5 x1.toNatClampNeg x3 u)).2 10 x3.toNatClampNeg) + ((ts_a 6 x1.toNatClampNeg ((ts_a 5 x1.toNatClampNeg x3 u).2 10 x3.toNatClampNeg) (ts_a 5 x1.toNatClampNeg x3 u)).2 3 x1.toNatClampNeg)) (ts_a 6 x1.toNatClampNeg ((ts_a 5 x1.toNatClampNeg x3 u).2 10 x3.toNatClampNeg) (ts_a 5 x1.toNatClampNeg x3 u))) x3 ((ts_a 10 x3.toNatClampNeg (((ts_a 6 x1.toNatClampNeg ((ts_a 5 x1.toNatClampNeg x3 u).2 10 x3.toNatClampNeg) (ts_a 5 x1.toNatClampNeg x3 u)).2 10 x3.toNatClampNeg) + ((ts_a 6 x1.toNatClampNeg ((ts_a 5 x1.toNatClampNeg x3 u).2 10 x3.toNatClampNeg) (ts_a 5 x1.toNatClampNeg x3 u)).2 3 x1.toNatClampNeg)) (ts_a 6 x1.toNatClampNeg ((ts_a 5 x1.toNatClampNeg x3 u).2 10 x3.toNatClampNeg) (ts_a 5 x1.toNatClampNeg x3 u))).2 6 x1.toNatClampNeg) ((ts_a 10 x3.toNatClampNeg (((ts_a 6 x1.toNatClampNeg ((ts_a 5 x1.toNatClampNeg x3 u).2 10 x3.toNatClampNeg) (ts_a 5 x1.toNatClampNeg x3 u)).2 10 x3.toNatClampNeg) + ((ts_a 6 x1.toNatClampNeg ((ts_a 5 x1.toNatClampNeg x3 u).2 10 x3.toNatClampNeg) (ts_a 5 x1.toNatClampNeg x3 u)).2 3 x1.toNatClampNeg)) (ts_a 6 x1.toNatClampNeg ((ts_a 5 x1.toNatClampNeg x3 u).2 10 x3.toNatClampNeg) (ts_a 5 x1.toNatClampNeg x3 u))).2 3 x1.toNatClampNeg)) fun _ u152 => (some (1, u152))))))))))) else (some (0, u))) else (ts_ix (u.1 4) 4 (ts_ix x1 16 (if (u.1 3) < ((u.2 10 (u.1 4).toNatClampNeg) + (u.2 3 x1.toNatClampNeg)) then (if 0 ≤ x3 then (ts_ix x1 16 (ts_ix x3 4 (ts_ix x1 16 (ts_ix x3 4 (ts_ix x1 16 (ts_ix x3 4 (ts_ix x1 16 (ts_ix x1 16 (ts_b (dm_move (ts_a 10 x3.toNatClampNeg (((ts_a 6 x1.toNatClampNeg ((ts_a 5 x1.toNatClampNeg x3 u).2 10 x3.toNatClampNeg) (ts_a 5 x1.toNatClampNeg x3 u)).2 10 x3.toNatClampNeg) + ((ts_a 6 x1.toNatClampNeg ((ts_a 5 x1.toNatClampNeg x3 u).2 10 x3.toNatClampNeg) (ts_a 5 x1.toNatClampNeg x3 u)).2 3 x1.toNatClampNeg)) (ts_a 6 x1.toNatClampNeg ((ts_a 5 x1.toNatClampNeg x3 u).2 10 x3.toNatClampNeg) (ts_a 5 x1.toNatClampNeg x3 u))) x3 ((ts_a 10 x3.toNatClampNeg (((ts_a 6 x1.toNatClampNeg ((ts_a 5 x1.toNatClampNeg x3 u).2 10 x3.toNatClampNeg) (ts_a 5 x1.toNatClampNeg x3 u)).2 10 x3.toNatClampNeg) + ((ts_a 6 x1.toNatClampNeg ((ts_a 5 x1.toNatClampNeg x3 u).2 10 x3.toNatClampNeg) (ts_a 5 x1.toNatClampNeg x3 u)).2 3 x1.toNatClampNeg)) (ts_a 6 x1.toNatClampNeg ((ts_a 5 x1.toNatClampNeg x3 u).2 10 x3.toNatClampNeg) (ts_a 5 x1.toNatClampNeg x3 u))).2 6 x1.toNatClampNeg) ((ts_a 10 x3.toNatClampNeg (((ts_a 6 x1.toNatClampNeg ((ts_a 5 x1.toNatClampNeg x3 u).2 10 x3.toNatClampNeg) (ts_a 5 x1.toNatClampNeg x3 u)).2 10 x3.toNatClampNeg) + ((ts_a 6 x1.toNatClampNeg ((ts_a 5 x1.toNatClampNeg x3 u).2 10 x3.toNatClampNeg) (ts_a 5 x1.toNatClampNeg x3 u)).2 3 x1.toNatClampNeg)) (ts_a 6 x1.toNatClampNeg ((ts_a 5 x1.toNatClampNeg x3 u).2 10 x3.toNatClampNeg) (ts_a 5 x1.toNatClampNeg x3 u))).2 3 x1.toNatClampNeg)) fun _ u152 => (some (1, u152))))))))))) else (some (0, u))) else (if 0 ≤ (u.1 4) then (ts_ix x1 16 (ts_ix (u.1 4) 4 (ts_ix x1 16 (ts_ix (u.1 4) 4 (ts_ix x1 16 (ts_ix (u.1 4) 4 (ts_ix x1 16 (ts_ix x1 16 (ts_b (dm_move (ts_a 10 (u.1 4).toNatClampNeg (((ts_a 6 x1.toNatClampNeg ((ts_a 5 x1.toNatClampNeg (u.1 4) u).2 10 (u.1 4).toNatClampNeg) (ts_a 5 x1.toNatClampNeg (u.1 4) u)).2 10 (u.1 4).toNatClampNeg) + ((ts_a 6 x1.toNatClampNeg ((ts_a 5 x1.toNatClampNeg (u.1 4) u).2 10 (u.1 4).toNatClampNeg) (ts_a 5 x1.toNatClampNeg (u.1 4) u)).2 3 x1.toNatClampNeg)) (ts_a 6 x1.toNatClampNeg ((ts_a 5 x1.toNatClampNeg (u.1 4) u).2 10 (u.1 4).toNatClampNeg) (ts_a 5 x1.toNatClampNeg (u.1 4) u))) (u.1 4) ((ts_a 10 (u.1 4).toNatClampNeg (((ts_a 6 x1.toNatClampNeg ((ts_a 5 x1.toNatClampNeg (u.1 4) u).2 10 (u.1 4).toNatClampNeg) (ts_a 5 x1.toNatClampNeg (u.1 4) u)).2 10 (u.1 4).toNatClampNeg) + ((ts_a 6 x1.toNatClampNeg ((ts_a 5 x1.toNatClampNeg (u.1 4) u).2 10 (u.1 4).toNatClampNeg) (ts_a 5 x1.toNatClampNeg (u.1 4) u)).2 3 x1.toNatClampNeg)) (ts_a 6 x1.toNatClampNeg ((ts_a 5 x1.toNatClampNeg (u.1 4) u).2 10 (u.1 4).toNatClampNeg) (ts_a 5 x1.toNatClampNeg (u.1 4) u))).2 6 x1.toNatClampNeg) ((ts_a 10 (u.1 4).toNatClampNeg (((ts_a 6 x1.toNatClampNeg ((ts_a 5 x1.toNatClampNeg (u.1 4) u).2 10 (u.1 4).toNatClampNeg) (ts_a 5 x1.toNatClampNeg (u.1 4) u)).2 10 (u.1 4).toNatClampNeg) + ((ts_a 6 x1.toNatClampNeg ((ts_a 5 x1.toNatClampNeg (u.1 4) u).2 10 (u.1 4).toNatClampNeg) (ts_a 5 x1.toNatClampNeg (u.1 4) u)).2 3 x1.toNatClampNeg)) (ts_a 6 x1.toNatClampNeg ((ts_a 5 x1.toNatClampNeg (u.1 4) u).2 10 (u.1 4).toNatClampNeg) (ts_a 5 x1.toNatClampNeg (u.1 4) u))).2 3 x1.toNatClampNeg)) fun _ u152 => (some (1, u152))))))))))) else (some (0, u)))))))) else (if x4 = x2 then (k5 u x1 x2 x3 (x4 + (-1))) else (if x4 = (u.1 4) then (k5 u x1 x2 x3 (x4 + (-1))) else (ts_ix x4 4 (ts_ix x1 16 (if (u.1 3) < ((u.2 10 x4.toNatClampNeg) + (u.2 3 x1.toNatClampNeg)) then (k5 u x1 x2 x3 (x4 + (-1))) else (k5 u x1 x2 x4 (x4 + (-1)))))))))
def dm_copy_5 : Nat → ts_S → Int32 → Int32 → Int32 → Int32 → Option (Int32 × ts_S)
  | 0 => fun _ _ _ _ _ => none
  | n + 1 => dm_copy_5_b (dm_copy_5 n)
def dm_copy (u : ts_S) (x1 x2 : Int32) : Option (Int32 × ts_S) := (dm_copy_5 40 u x1 x2 (-1) 3)
def dm_backUp (u : ts_S) : Option (Int32 × ts_S) := (ts_b (dm_oldest u 1) fun r2 u2 => (if 0 ≤ r2 then (ts_b (dm_copy u2 r2 (-1)) fun r15 u15 => (if r15 = 0 then (some ((-2), u15)) else (ts_ix r2 16 (some (r2, (ts_a 2 r2.toNatClampNeg 2 u15)))))) else (some ((-1), u2))))
def dm_tidy_45_b (k45 : ts_S → Int32 → Int32 → Int32 → Int32 → Int32 → Option (Int32 × ts_S)) (u : ts_S) (x1 x2 x3 x4 x5 : Int32) : Option (Int32 × ts_S) := (if 16 ≤ x5 then (some (x3, u)) else (ts_b (dm_oldest u 2) fun r54 u54 => (if x4 = 0 then (k45 u54 x1 x2 x3 x4 (x5 + 1)) else (ts_b (dm_taken u54) fun r65 u65 => (if r65 ≤ x2 then (k45 u65 x1 x2 x3 x4 (x5 + 1)) else (if r54 < 0 then (k45 u65 x1 x2 x3 x4 (x5 + 1)) else (ts_ix r54 16 (k45 (ts_a 2 r54.toNatClampNeg 3 u65) x1 x2 (x3 + 1) x4 (x5 + 1)))))))))
def dm_tidy_45 : Nat → ts_S → Int32 → Int32 → Int32 → Int32 → Int32 → Option (Int32 × ts_S)
  | 0 => fun _ _ _ _ _ _ => none
  | n + 1 => dm_tidy_45_b (dm_tidy_45 n)
def dm_tidy (u : ts_S) (x1 x2 : Int32) : Option (Int32 × ts_S) := (ts_b (dm_in u x1 25) fun r3 u3 => (if r3 = 0 then (some ((-1), u3)) else (ts_b (dm_in u3 x2 25) fun r12 u12 => (if r12 = 0 then (some ((-1), u12)) else (if x2 ≤ x1 then (ts_b (dm_taken u12) fun r28 u28 => (if r28 ≤ x1 then (dm_tidy_45 40 u28 x1 x2 0 0 0) else (dm_tidy_45 40 u28 x1 x2 0 1 0))) else (some ((-1), u12)))))))
def dm_waiting_4_b (k4 : ts_S → Int32 → Int32 → Option (Int32 × ts_S)) (u : ts_S) (x1 x2 : Int32) : Option (Int32 × ts_S) := (if 16 ≤ x2 then (some (x1, u)) else (ts_ix x2 16 (if (u.2 7 x2.toNatClampNeg) = 0 then (k4 u x1 (x2 + 1)) else (k4 u (x1 + 1) (x2 + 1)))))
def dm_waiting_4 : Nat → ts_S → Int32 → Int32 → Option (Int32 × ts_S)
  | 0 => fun _ _ _ => none
  | n + 1 => dm_waiting_4_b (dm_waiting_4 n)
def dm_waiting (u : ts_S) : Option (Int32 × ts_S) := (dm_waiting_4 40 u 0 0)
def dm_ask (u : ts_S) (x1 : Int32) : Option (Int32 × ts_S) := (ts_b (dm_there u x1) fun r2 u2 => (if r2 = 0 then (some ((-1), u2)) else (ts_ix x1 16 (if (u2.2 2 x1.toNatClampNeg) = 3 then (ts_ix x1 16 (if (u2.2 7 x1.toNatClampNeg) = 0 then (ts_b (dm_waiting u2) fun r30 u30 => (if r30 = 6 then (some ((-2), u30)) else (ts_ix x1 16 (some (0, (ts_a 7 x1.toNatClampNeg 1 u30)))))) else (some ((-1), u2)))) else (some ((-1), u2))))))
def dm_rank (u : ts_S) (x1 : Int32) : Option (Int32 × ts_S) := (ts_ix x1 16 (if (u.2 5 x1.toNatClampNeg) = (u.1 4) then (ts_ix x1 16 (some ((0 + (u.2 6 x1.toNatClampNeg)), u))) else (ts_ix x1 16 (ts_ix x1 16 (some (((100 + (100 * (u.2 5 x1.toNatClampNeg))) + (u.2 6 x1.toNatClampNeg)), u))))))
def dm_serve_141_b (k141 : ts_S → Int32 → Int32 → Int32 → Option (Int32 × ts_S)) (u : ts_S) (x1 x2 x3 : Int32) : Option (Int32 × ts_S) := (if x1 ≤ x3 then (some (x2, u)) else (ts_ix x3 16 (ts_b (dm_bringBack u (u.2 9 x3.toNatClampNeg)) fun r153 u153 => (if r153 = 0 then (k141 u153 x1 x2 (x3 + 1)) else (k141 u153 x1 (x2 + 1) (x3 + 1))))))
def dm_serve_141 : Nat → ts_S → Int32 → Int32 → Int32 → Option (Int32 × ts_S)
  | 0 => fun _ _ _ _ => none
  | n + 1 => dm_serve_141_b (dm_serve_141 n)
def dm_serve_63_b (k54 : ts_S → Int32 → Int32 → Option (Int32 × ts_S)) (k63 : ts_S → Int32 → Int32 → Int32 → Option (Int32 × ts_S)) (u : ts_S) (x1 x2 x3 : Int32) : Option (Int32 × ts_S) := (if x3 ≤ x2 then (k54 u x1 (x2 + 1)) else (ts_ix x3 16 (ts_b (dm_rank u (u.2 9 x3.toNatClampNeg)) fun r75 u75 => (ts_ix (x3 - 1) 16 (ts_b (dm_rank u75 (u75.2 9 (x3 - 1).toNatClampNeg)) fun r87 u87 => (if r87 ≤ r75 then (k63 u87 x1 x2 (x3 + (-1))) else (ts_ix x3 16 (ts_ix (x3 - 1) 16 (ts_ix x3 16 (ts_ix (x3 - 1) 16 (k63 (ts_a 9 (x3 - 1).toNatClampNeg (u87.2 9 x3.toNatClampNeg) (ts_a 9 x3.toNatClampNeg (u87.2 9 (x3 - 1).toNatClampNeg) u87)) x1 x2 (x3 + (-1)))))))))))))
def dm_serve_63 (k54 : ts_S → Int32 → Int32 → Option (Int32 × ts_S)) : Nat → ts_S → Int32 → Int32 → Int32 → Option (Int32 × ts_S)
  | 0 => fun _ _ _ _ => none
  | n + 1 => dm_serve_63_b k54 (dm_serve_63 k54 n)
def dm_serve_54_b (k54 : ts_S → Int32 → Int32 → Option (Int32 × ts_S)) (u : ts_S) (x1 x2 : Int32) : Option (Int32 × ts_S) := (if x1 ≤ x2 then (dm_serve_141 40 u x1 0 0) else (dm_serve_63 k54 40 u x1 x2 (x1 - 1)))
def dm_serve_54 : Nat → ts_S → Int32 → Int32 → Option (Int32 × ts_S)
  | 0 => fun _ _ _ => none
  | n + 1 => dm_serve_54_b (dm_serve_54 n)
def dm_serve_4_b (k4 : ts_S → Int32 → Int32 → Option (Int32 × ts_S)) (u : ts_S) (x1 x2 : Int32) : Option (Int32 × ts_S) := (if 16 ≤ x2 then (dm_serve_54 40 u x1 0) else (ts_ix x2 16 (if (u.2 7 x2.toNatClampNeg) = 0 then (ts_ix x2 16 (k4 (ts_a 7 x2.toNatClampNeg 0 u) x1 (x2 + 1))) else (ts_ix x2 16 (if (u.2 2 x2.toNatClampNeg) = 3 then (ts_ix x1 16 (ts_ix x2 16 (k4 (ts_a 7 x2.toNatClampNeg 0 (ts_a 9 x1.toNatClampNeg x2 u)) (x1 + 1) (x2 + 1)))) else (ts_ix x2 16 (k4 (ts_a 7 x2.toNatClampNeg 0 u) x1 (x2 + 1))))))))
def dm_serve_4 : Nat → ts_S → Int32 → Int32 → Option (Int32 × ts_S)
  | 0 => fun _ _ _ => none
  | n + 1 => dm_serve_4_b (dm_serve_4 n)
def dm_serve (u : ts_S) : Option (Int32 × ts_S) := (dm_serve_4 40 u 0 0)
def dm_copied (u : ts_S) (x1 : Int32) : Option (Int32 × ts_S) := (ts_ix x1 16 (if (u.2 2 x1.toNatClampNeg) = 2 then (some (1, u)) else (ts_ix x1 16 (if (u.2 2 x1.toNatClampNeg) = 3 then (some (1, u)) else (some (0, u))))))
def dm_next_5_b (k5 : ts_S → Int32 → Int32 → Int32 → Int32 → Option (Int32 × ts_S)) (u : ts_S) (x1 x2 x3 x4 : Int32) : Option (Int32 × ts_S) := (if 16 ≤ x4 then (some (x3, u)) else (ts_b (dm_copied u x4) fun r15 u15 => (if r15 = 0 then (k5 u15 x1 x2 x3 (x4 + 1)) else (ts_ix x4 16 (if (u15.2 5 x4.toNatClampNeg) = x1 then (ts_ix x4 16 (if (u15.2 6 x4.toNatClampNeg) < x2 then (k5 u15 x1 x2 x3 (x4 + 1)) else (if x3 < 0 then (k5 u15 x1 x2 x4 (x4 + 1)) else (ts_ix x4 16 (ts_ix x3 16 (if (u15.2 6 x3.toNatClampNeg) ≤ (u15.2 6 x4.toNatClampNeg) then (k5 u15 x1 x2 x3 (x4 + 1)) else (k5 u15 x1 x2 x4 (x4 + 1)))))))) else (k5 u15 x1 x2 x3 (x4 + 1)))))))
def dm_next_5 : Nat → ts_S → Int32 → Int32 → Int32 → Int32 → Option (Int32 × ts_S)
  | 0 => fun _ _ _ _ _ => none
  | n + 1 => dm_next_5_b (dm_next_5 n)
def dm_next (u : ts_S) (x1 x2 : Int32) : Option (Int32 × ts_S) := (dm_next_5 40 u x1 x2 (-1) 0)
def dm_canEmpty_50_b (k34 : ts_S → Int32 → Int32 → Int32 → Option (Int32 × ts_S)) (k50 : ts_S → Int32 → Int32 → Int32 → Int32 → Int32 → Option (Int32 × ts_S)) (u : ts_S) (x1 x2 x3 x4 x5 : Int32) : Option (Int32 × ts_S) := (if x5 < 0 then (if 0 ≤ x4 then (ts_ix x4 4 (ts_ix x2 16 (ts_ix x4 4 (ts_ix x2 16 (ts_b (dm_next (ts_a 11 x4.toNatClampNeg ((u.2 11 x4.toNatClampNeg) + (u.2 3 x2.toNatClampNeg)) u) x1 (((ts_a 11 x4.toNatClampNeg ((u.2 11 x4.toNatClampNeg) + (u.2 3 x2.toNatClampNeg)) u).2 6 x2.toNatClampNeg) + 1)) fun r125 u125 => (k34 u125 x1 r125 (x3 + 1))))))) else (some (0, u))) else (if x5 = x1 then (k50 u x1 x2 x3 x4 (x5 + (-1))) else (ts_ix x5 4 (ts_ix x2 16 (if (u.1 3) < ((u.2 11 x5.toNatClampNeg) + (u.2 3 x2.toNatClampNeg)) then (k50 u x1 x2 x3 x4 (x5 + (-1))) else (k50 u x1 x2 x3 x5 (x5 + (-1))))))))
def dm_canEmpty_50 (k34 : ts_S → Int32 → Int32 → Int32 → Option (Int32 × ts_S)) : Nat → ts_S → Int32 → Int32 → Int32 → Int32 → Int32 → Option (Int32 × ts_S)
  | 0 => fun _ _ _ _ _ _ => none
  | n + 1 => dm_canEmpty_50_b k34 (dm_canEmpty_50 k34 n)
def dm_canEmpty_34_b (k34 : ts_S → Int32 → Int32 → Int32 → Option (Int32 × ts_S)) (u : ts_S) (x1 x2 x3 : Int32) : Option (Int32 × ts_S) := (if 16 ≤ x3 then (some (1, u)) else (if x2 < 0 then (some (1, u)) else (dm_canEmpty_50 k34 40 u x1 x2 x3 (-1) 3)))
def dm_canEmpty_34 : Nat → ts_S → Int32 → Int32 → Int32 → Option (Int32 × ts_S)
  | 0 => fun _ _ _ _ => none
  | n + 1 => dm_canEmpty_34_b (dm_canEmpty_34 n)
def dm_canEmpty_2_b (k2 : ts_S → Int32 → Int32 → Option (Int32 × ts_S)) (u : ts_S) (x1 x2 : Int32) : Option (Int32 × ts_S) := (if 4 ≤ x2 then (ts_b (dm_next u x1 0) fun r28 u28 => (dm_canEmpty_34 40 u28 x1 r28 0)) else (ts_ix x2 4 (ts_ix x2 4 (k2 (ts_a 11 x2.toNatClampNeg (u.2 10 x2.toNatClampNeg) u) x1 (x2 + 1)))))
def dm_canEmpty_2 : Nat → ts_S → Int32 → Int32 → Option (Int32 × ts_S)
  | 0 => fun _ _ _ => none
  | n + 1 => dm_canEmpty_2_b (dm_canEmpty_2 n)
def dm_canEmpty (u : ts_S) (x1 : Int32) : Option (Int32 × ts_S) := (dm_canEmpty_2 40 u x1 0)
def dm_empty_30_b (k30 : ts_S → Int32 → Int32 → Int32 → Option (Int32 × ts_S)) (u : ts_S) (x1 x2 x3 : Int32) : Option (Int32 × ts_S) := (if 16 ≤ x2 then (ts_ix x1 4 (some (x2, (ts_a 10 x1.toNatClampNeg 0 u)))) else (if x3 < 0 then (ts_ix x1 4 (some (x2, (ts_a 10 x1.toNatClampNeg 0 u)))) else (ts_ix x3 16 (ts_ix x3 16 (ts_b (dm_move u x1 (u.2 6 x3.toNatClampNeg) (u.2 3 x3.toNatClampNeg)) fun _ u58 => (ts_b (dm_copy u58 x3 x1) fun r64 u64 => (if r64 = 0 then (ts_b (dm_next u64 x1 ((u.2 6 x3.toNatClampNeg) + 1)) fun r79 u79 => (k30 u79 x1 x2 r79)) else (ts_b (dm_next u64 x1 ((u.2 6 x3.toNatClampNeg) + 1)) fun r79 u79 => (k30 u79 x1 (x2 + 1) r79)))))))))
def dm_empty_30 : Nat → ts_S → Int32 → Int32 → Int32 → Option (Int32 × ts_S)
  | 0 => fun _ _ _ _ => none
  | n + 1 => dm_empty_30_b (dm_empty_30 n)
def dm_empty (u : ts_S) (x1 : Int32) : Option (Int32 × ts_S) := (ts_b (dm_in u x1 4) fun r2 u2 => (if r2 = 0 then (some ((-1), u2)) else (ts_b (dm_canEmpty u2 x1) fun r12 u12 => (if r12 = 0 then (some ((-2), u12)) else (ts_b (dm_next u12 x1 0) fun r26 u26 => (dm_empty_30 40 u26 x1 0 r26))))))
def dm_lose_14_b (k14 : ts_S → Int32 → Int32 → Int32 → Option (Int32 × ts_S)) (u : ts_S) (x1 x2 x3 : Int32) : Option (Int32 × ts_S) := (if 16 ≤ x3 then (ts_ix x1 4 (if ((ts_a 10 x1.toNatClampNeg 0 u).1 4) = x1 then (some (x2, (ts_p 4 (-1) (ts_a 10 x1.toNatClampNeg 0 u)))) else (some (x2, (ts_a 10 x1.toNatClampNeg 0 u))))) else (ts_b (dm_copied u x3) fun r22 u22 => (if r22 = 0 then (k14 u22 x1 x2 (x3 + 1)) else (ts_ix x3 16 (if (u22.2 5 x3.toNatClampNeg) = x1 then (ts_ix x3 16 (if (u22.2 2 x3.toNatClampNeg) = 3 then (ts_ix x3 16 (if (u22.2 2 x3.toNatClampNeg) = 3 then (ts_ix x3 16 (k14 (ts_a 2 x3.toNatClampNeg 4 u22) x1 (x2 + 1) (x3 + 1))) else (ts_ix x3 16 (k14 (ts_a 2 x3.toNatClampNeg 1 u22) x1 (x2 + 1) (x3 + 1))))) else (ts_ix x3 16 (if (u22.2 2 x3.toNatClampNeg) = 3 then (ts_ix x3 16 (k14 (ts_a 2 x3.toNatClampNeg 4 u22) x1 x2 (x3 + 1))) else (ts_ix x3 16 (k14 (ts_a 2 x3.toNatClampNeg 1 u22) x1 x2 (x3 + 1))))))) else (k14 u22 x1 x2 (x3 + 1)))))))
def dm_lose_14 : Nat → ts_S → Int32 → Int32 → Int32 → Option (Int32 × ts_S)
  | 0 => fun _ _ _ _ => none
  | n + 1 => dm_lose_14_b (dm_lose_14 n)
def dm_lose (u : ts_S) (x1 : Int32) : Option (Int32 × ts_S) := (ts_b (dm_in u x1 4) fun r2 u2 => (if r2 = 0 then (some ((-1), u2)) else (dm_lose_14 40 u2 x1 0 0)))
def dm_file_135_b (k135 : ts_S → Int32 → Int32 → Int32 → Int32 → Option (Int32 × ts_S)) (u : ts_S) (x1 x2 x3 x4 : Int32) : Option (Int32 × ts_S) := (if 16 ≤ x4 then (some (x3, u)) else (ts_ix x4 16 (if (u.2 2 x4.toNatClampNeg) = 0 then (k135 u x1 x2 x3 (x4 + 1)) else (ts_ix x4 16 (ts_ix x1 16 (if (u.2 8 x4.toNatClampNeg) ≤ (u.2 8 x1.toNatClampNeg) then (k135 u x1 x2 x3 (x4 + 1)) else (k135 u x1 x2 (x3 + 1) (x4 + 1))))))))
def dm_file_135 : Nat → ts_S → Int32 → Int32 → Int32 → Int32 → Option (Int32 × ts_S)
  | 0 => fun _ _ _ _ _ => none
  | n + 1 => dm_file_135_b (dm_file_135 n)
def dm_file (u : ts_S) (x1 x2 : Int32) : Option (Int32 × ts_S) := (ts_b (dm_in u x1 16) fun r3 u3 => (if r3 = 0 then (some ((-1), u3)) else (ts_b (dm_in u3 x2 6) fun r12 u12 => (if r12 = 0 then (some ((-1), u12)) else (if x2 = 0 then (ts_ix x1 16 (some ((u12.2 2 x1.toNatClampNeg), u12))) else (if x2 = 1 then (ts_ix x1 16 (if (u12.2 2 x1.toNatClampNeg) = 0 then (some (0, u12)) else (ts_ix x1 16 (some ((u12.2 3 x1.toNatClampNeg), u12))))) else (if x2 = 2 then (ts_b (dm_copied u12 x1) fun r68 u68 => (if r68 = 0 then (some ((-1), u68)) else (if x2 = 2 then (ts_ix x1 16 (some ((u68.2 5 x1.toNatClampNeg), u68))) else (ts_ix x1 16 (some ((u68.2 6 x1.toNatClampNeg), u68)))))) else (if x2 = 3 then (ts_b (dm_copied u12 x1) fun r68 u68 => (if r68 = 0 then (some ((-1), u68)) else (if x2 = 2 then (ts_ix x1 16 (some ((u68.2 5 x1.toNatClampNeg), u68))) else (ts_ix x1 16 (some ((u68.2 6 x1.toNatClampNeg), u68)))))) else (if x2 = 4 then (ts_ix x1 16 (if (u12.2 7 x1.toNatClampNeg) = 0 then (some (0, u12)) else (some (1, u12)))) else (ts_ix x1 16 (if (u12.2 2 x1.toNatClampNeg) = 0 then (some ((-1), u12)) else (dm_file_135 40 u12 x1 x2 0 0))))))))))))
def dm_cartridge_53_b (k53 : ts_S → Int32 → Int32 → Int32 → Int32 → Option (Int32 × ts_S)) (u : ts_S) (x1 x2 x3 x4 : Int32) : Option (Int32 × ts_S) := (if 16 ≤ x4 then (some (x3, u)) else (ts_b (dm_copied u x4) fun r63 u63 => (if r63 = 0 then (k53 u63 x1 x2 x3 (x4 + 1)) else (ts_ix x4 16 (if (u63.2 5 x4.toNatClampNeg) = x1 then (ts_ix x4 16 (k53 u63 x1 x2 (x3 + (u63.2 3 x4.toNatClampNeg)) (x4 + 1))) else (k53 u63 x1 x2 x3 (x4 + 1)))))))
def dm_cartridge_53 : Nat → ts_S → Int32 → Int32 → Int32 → Int32 → Option (Int32 × ts_S)
  | 0 => fun _ _ _ _ _ => none
  | n + 1 => dm_cartridge_53_b (dm_cartridge_53 n)
def dm_cartridge (u : ts_S) (x1 x2 : Int32) : Option (Int32 × ts_S) := (ts_b (dm_in u x1 4) fun r2 u2 => (if r2 = 0 then (some ((-1), u2)) else (ts_b (dm_in u2 x2 3) fun r10 u10 => (if r10 = 0 then (some ((-1), u10)) else (if x2 = 0 then (ts_ix x1 4 (some ((u10.2 10 x1.toNatClampNeg), u10))) else (if x2 = 2 then (if (u10.1 4) = x1 then (some (1, u10)) else (some (0, u10))) else (dm_cartridge_53 40 u10 x1 x2 0 0)))))))
def dm_count (u : ts_S) (x1 : Int32) : Option (Int32 × ts_S) := (if x1 = 0 then (ts_b (dm_taken u) fun r5 u5 => (some (r5, u5))) else (if x1 = 1 then (some ((u.1 6), u)) else (if x1 = 2 then (if 0 ≤ (u.1 4) then (some ((u.1 5), u)) else (some (0, u))) else (if x1 = 3 then (ts_b (dm_waiting u) fun r46 u46 => (some (r46, u46))) else (some ((-1), u))))))
end
section
theorem code_T_init : Cond.code yT_init bT_init 3 none ∈ uW := uW_in (List.mem_of_getElem? (i := 53) rfl) rfl
theorem code_T_create : Cond.code yT_create bT_create 4 (some .int) ∈ uW := uW_in (List.mem_of_getElem? (i := 137) rfl) rfl
theorem code_T_write : Cond.code yT_write bT_write 4 (some .int) ∈ uW := uW_in (List.mem_of_getElem? (i := 172) rfl) rfl
theorem code_T_read : Cond.code yT_read bT_read 3 (some .long) ∈ uW := uW_in (List.mem_of_getElem? (i := 199) rfl) rfl
theorem code_T_remove : Cond.code yT_remove bT_remove 2 (some .int) ∈ uW := uW_in (List.mem_of_getElem? (i := 206) rfl) rfl
theorem code_T_backUp : Cond.code yT_backUp bT_backUp 3 (some .int) ∈ uW := uW_in (List.mem_of_getElem? (i := 210) rfl) rfl
theorem code_T_tidy : Cond.code yT_tidy bT_tidy 4 (some .int) ∈ uW := uW_in (List.mem_of_getElem? (i := 231) rfl) rfl
theorem code_T_ask : Cond.code yT_ask bT_ask 2 (some .int) ∈ uW := uW_in (List.mem_of_getElem? (i := 238) rfl) rfl
theorem code_T_serve : Cond.code yT_serve bT_serve 3 (some .int) ∈ uW := uW_in (List.mem_of_getElem? (i := 246) rfl) rfl
theorem code_T_empty : Cond.code yT_empty bT_empty 3 (some .int) ∈ uW := uW_in (List.mem_of_getElem? (i := 274) rfl) rfl
theorem code_T_lose : Cond.code yT_lose bT_lose 4 (some .int) ∈ uW := uW_in (List.mem_of_getElem? (i := 300) rfl) rfl
theorem code_T_file : Cond.code yT_file bT_file 4 (some .int) ∈ uW := uW_in (List.mem_of_getElem? (i := 308) rfl) rfl
theorem code_T_cartridge : Cond.code yT_cartridge bT_cartridge 3 (some .int) ∈ uW := uW_in (List.mem_of_getElem? (i := 316) rfl) rfl
theorem code_T_count : Cond.code yT_count bT_count 2 (some .int) ∈ uW := uW_in (List.mem_of_getElem? (i := 324) rfl) rfl
theorem code_T_isFileNumber : Cond.code yT_isFileNumber bT_isFileNumber 1 (some .boolean) ∈ uW := uW_in (List.mem_of_getElem? (i := 140) rfl) rfl
theorem code_T_isCartridgeNumber : Cond.code yT_isCartridgeNumber bT_isCartridgeNumber 1 (some .boolean) ∈ uW := uW_in (List.mem_of_getElem? (i := 277) rfl) rfl
theorem code_T_isUnits : Cond.code yT_isUnits bT_isUnits 1 (some .boolean) ∈ uW := uW_in (List.mem_of_getElem? (i := 234) rfl) rfl
theorem code_T_isPresent : Cond.code yT_isPresent bT_isPresent 2 (some .boolean) ∈ uW := uW_in (List.mem_of_getElem? (i := 180) rfl) rfl
theorem code_T_isCell : Cond.code yT_isCell bT_isCell 3 (some .boolean) ∈ uW := uW_in (List.mem_of_getElem? (i := 176) rfl) rfl
theorem code_T_isOnDisk : Cond.code yT_isOnDisk bT_isOnDisk 2 (some .boolean) ∈ uW := uW_in (List.mem_of_getElem? (i := 156) rfl) rfl
theorem code_T_hasCopy : Cond.code yT_hasCopy bT_hasCopy 2 (some .boolean) ∈ uW := uW_in (List.mem_of_getElem? (i := 266) rfl) rfl
theorem code_T_hasCopyOn : Cond.code yT_hasCopyOn bT_hasCopyOn 3 (some .boolean) ∈ uW := uW_in (List.mem_of_getElem? (i := 262) rfl) rfl
theorem code_T_use : Cond.code yT_use bT_use 2 none ∈ uW := uW_in (List.mem_of_getElem? (i := 168) rfl) rfl
theorem code_T_usedSince : Cond.code yT_usedSince bT_usedSince 4 (some .int) ∈ uW := uW_in (List.mem_of_getElem? (i := 312) rfl) rfl
theorem code_T_longestUnused : Cond.code yT_longestUnused bT_longestUnused 4 (some .int) ∈ uW := uW_in (List.mem_of_getElem? (i := 164) rfl) rfl
theorem code_T_unitsTaken : Cond.code yT_unitsTaken bT_unitsTaken 3 (some .int) ∈ uW := uW_in (List.mem_of_getElem? (i := 152) rfl) rfl
theorem code_T_liveUnits : Cond.code yT_liveUnits bT_liveUnits 4 (some .int) ∈ uW := uW_in (List.mem_of_getElem? (i := 320) rfl) rfl
theorem code_T_filesWaiting : Cond.code yT_filesWaiting bT_filesWaiting 3 (some .int) ∈ uW := uW_in (List.mem_of_getElem? (i := 242) rfl) rfl
theorem code_T_stubOldestDouble : Cond.code yT_stubOldestDouble bT_stubOldestDouble 2 (some .boolean) ∈ uW := uW_in (List.mem_of_getElem? (i := 160) rfl) rfl
theorem code_T_hasRoom : Cond.code yT_hasRoom bT_hasRoom 2 (some .boolean) ∈ uW := uW_in (List.mem_of_getElem? (i := 148) rfl) rfl
theorem code_T_makeRoom : Cond.code yT_makeRoom bT_makeRoom 3 (some .boolean) ∈ uW := uW_in (List.mem_of_getElem? (i := 144) rfl) rfl
theorem code_T_bringToDisk : Cond.code yT_bringToDisk bT_bringToDisk 2 (some .boolean) ∈ uW := uW_in (List.mem_of_getElem? (i := 184) rfl) rfl
theorem code_T_putCopy : Cond.code yT_putCopy bT_putCopy 3 none ∈ uW := uW_in (List.mem_of_getElem? (i := 222) rfl) rfl
theorem code_T_moveCopy : Cond.code yT_moveCopy bT_moveCopy 4 none ∈ uW := uW_in (List.mem_of_getElem? (i := 296) rfl) rfl
theorem code_T_listedFitBeside : Cond.code yT_listedFitBeside bT_listedFitBeside 3 (some .boolean) ∈ uW := uW_in (List.mem_of_getElem? (i := 281) rfl) rfl
theorem code_T_listWaitingStubs : Cond.code yT_listWaitingStubs bT_listWaitingStubs 3 none ∈ uW := uW_in (List.mem_of_getElem? (i := 250) rfl) rfl
theorem code_T_listCopiesOn : Cond.code yT_listCopiesOn bT_listCopiesOn 4 none ∈ uW := uW_in (List.mem_of_getElem? (i := 254) rfl) rfl
theorem code_T_fileWithCopyAt : Cond.code yT_fileWithCopyAt bT_fileWithCopyAt 4 (some .int) ∈ uW := uW_in (List.mem_of_getElem? (i := 258) rfl) rfl
theorem code_T_keepWaitingStubs : Cond.code yT_keepWaitingStubs bT_keepWaitingStubs 4 none ∈ uW := uW_in (List.mem_of_getElem? (i := 270) rfl) rfl
theorem code_P_init : Cond.code yP_init bP_init 2 none ∈ uW := uW_in (List.mem_of_getElem? (i := 69) rfl) rfl
theorem code_P_goTo : Cond.code yP_goTo bP_goTo 3 none ∈ uW := uW_in (List.mem_of_getElem? (i := 192) rfl) rfl
theorem code_P_pass : Cond.code yP_pass bP_pass 4 none ∈ uW := uW_in (List.mem_of_getElem? (i := 188) rfl) rfl
theorem code_P_append : Cond.code yP_append bP_append 4 (some .int) ∈ uW := uW_in (List.mem_of_getElem? (i := 226) rfl) rfl
theorem code_P_cartridgeFor : Cond.code yP_cartridgeFor bP_cartridgeFor 3 (some .int) ∈ uW := uW_in (List.mem_of_getElem? (i := 214) rfl) rfl
theorem code_P_firstFitting : Cond.code yP_firstFitting bP_firstFitting 5 (some .int) ∈ uW := uW_in (List.mem_of_getElem? (i := 218) rfl) rfl
theorem code_P_startTrial : Cond.code yP_startTrial bP_startTrial 1 none ∈ uW := uW_in (List.mem_of_getElem? (i := 285) rfl) rfl
theorem code_P_tryBeside : Cond.code yP_tryBeside bP_tryBeside 4 (some .boolean) ∈ uW := uW_in (List.mem_of_getElem? (i := 292) rfl) rfl
theorem code_P_replace : Cond.code yP_replace bP_replace 2 none ∈ uW := uW_in (List.mem_of_getElem? (i := 304) rfl) rfl
theorem code_M_init : Cond.code yM_init bM_init 3 none ∈ uW := uW_in (List.mem_of_getElem? (i := 332) rfl) rfl
theorem code_M_in : Cond.code yM_in bM_in 2 (some .boolean) ∈ uW := uW_in (List.mem_of_getElem? (i := 389) rfl) rfl
theorem code_M_there : Cond.code yM_there bM_there 2 (some .boolean) ∈ uW := uW_in (List.mem_of_getElem? (i := 413) rfl) rfl
theorem code_M_taken : Cond.code yM_taken bM_taken 3 (some .int) ∈ uW := uW_in (List.mem_of_getElem? (i := 397) rfl) rfl
theorem code_M_use : Cond.code yM_use bM_use 2 none ∈ uW := uW_in (List.mem_of_getElem? (i := 405) rfl) rfl
theorem code_M_oldest : Cond.code yM_oldest bM_oldest 4 (some .int) ∈ uW := uW_in (List.mem_of_getElem? (i := 401) rfl) rfl
theorem code_M_makeRoom : Cond.code yM_makeRoom bM_makeRoom 4 (some .boolean) ∈ uW := uW_in (List.mem_of_getElem? (i := 393) rfl) rfl
theorem code_M_move : Cond.code yM_move bM_move 4 none ∈ uW := uW_in (List.mem_of_getElem? (i := 421) rfl) rfl
theorem code_M_bringBack : Cond.code yM_bringBack bM_bringBack 2 (some .boolean) ∈ uW := uW_in (List.mem_of_getElem? (i := 417) rfl) rfl
theorem code_M_copy : Cond.code yM_copy bM_copy 5 (some .boolean) ∈ uW := uW_in (List.mem_of_getElem? (i := 440) rfl) rfl
theorem code_M_create : Cond.code yM_create bM_create 4 (some .int) ∈ uW := uW_in (List.mem_of_getElem? (i := 386) rfl) rfl
theorem code_M_write : Cond.code yM_write bM_write 4 (some .int) ∈ uW := uW_in (List.mem_of_getElem? (i := 409) rfl) rfl
theorem code_M_read : Cond.code yM_read bM_read 3 (some .long) ∈ uW := uW_in (List.mem_of_getElem? (i := 425) rfl) rfl
theorem code_M_remove : Cond.code yM_remove bM_remove 2 (some .int) ∈ uW := uW_in (List.mem_of_getElem? (i := 432) rfl) rfl
theorem code_M_backUp : Cond.code yM_backUp bM_backUp 2 (some .int) ∈ uW := uW_in (List.mem_of_getElem? (i := 436) rfl) rfl
theorem code_M_tidy : Cond.code yM_tidy bM_tidy 7 (some .int) ∈ uW := uW_in (List.mem_of_getElem? (i := 444) rfl) rfl
theorem code_M_waiting : Cond.code yM_waiting bM_waiting 3 (some .int) ∈ uW := uW_in (List.mem_of_getElem? (i := 452) rfl) rfl
theorem code_M_ask : Cond.code yM_ask bM_ask 2 (some .int) ∈ uW := uW_in (List.mem_of_getElem? (i := 448) rfl) rfl
theorem code_M_rank : Cond.code yM_rank bM_rank 2 (some .int) ∈ uW := uW_in (List.mem_of_getElem? (i := 460) rfl) rfl
theorem code_M_serve : Cond.code yM_serve bM_serve 5 (some .int) ∈ uW := uW_in (List.mem_of_getElem? (i := 456) rfl) rfl
theorem code_M_copied : Cond.code yM_copied bM_copied 2 (some .boolean) ∈ uW := uW_in (List.mem_of_getElem? (i := 476) rfl) rfl
theorem code_M_next : Cond.code yM_next bM_next 6 (some .int) ∈ uW := uW_in (List.mem_of_getElem? (i := 472) rfl) rfl
theorem code_M_canEmpty : Cond.code yM_canEmpty bM_canEmpty 6 (some .boolean) ∈ uW := uW_in (List.mem_of_getElem? (i := 468) rfl) rfl
theorem code_M_empty : Cond.code yM_empty bM_empty 5 (some .int) ∈ uW := uW_in (List.mem_of_getElem? (i := 464) rfl) rfl
theorem code_M_lose : Cond.code yM_lose bM_lose 4 (some .int) ∈ uW := uW_in (List.mem_of_getElem? (i := 480) rfl) rfl
theorem code_M_file : Cond.code yM_file bM_file 5 (some .int) ∈ uW := uW_in (List.mem_of_getElem? (i := 484) rfl) rfl
theorem code_M_cartridge : Cond.code yM_cartridge bM_cartridge 5 (some .int) ∈ uW := uW_in (List.mem_of_getElem? (i := 488) rfl) rfl
theorem code_M_count : Cond.code yM_count bM_count 2 (some .int) ∈ uW := uW_in (List.mem_of_getElem? (i := 492) rfl) rfl
theorem code_L_cell : Cond.code yL_cell bL_cell 2 (some .int) ∈ uW := uW_in (List.mem_of_getElem? (i := 327) rfl) rfl
end
section
section
variable {p : Program} {l : Launch} {e : Env} {R : Room} {s : State} {m : MethodId} {args : Array Value} {below : List Frame} {meth : Method} {c : Code} {H : Heap} {locs : List Loc} {Q : State → Prop} {cc : ByteArray} {pc : Nat} {ls : Array Slot} {rest : List Value} {D : va_G} {cl : List vw_C} {tys : List (ClassId × FieldType)} {ws : va_W} {a : Nat} {cells slots : Nat}
theorem ts_aldA (hexec : p.tables.exec = Jvm.exec) (hb : c.code = cc) (hK : va_K D cl tys s) (hP : va_P D cl ws H) (q0 t0 : Nat) {cA : ClassId} {t : FieldType} {n : Nat} {f : Nat → Option Nat} (ha : ws[q0]? = some (a, .inl (cA, n, .inr (.inr (.inr (.inr f)))))) (ht : tys[t0]? = some (cA, .array t)) {i : Int32} (hin : vp_in i n) (hdg : decode cc pc = .ok (.aaload, 1))
    (kk : W p l e R s m args below meth c H locs cells slots Q (F0 m (pc + 1) ls (va_rf (f i.toNatClampNeg) :: rest))) : W p l e R s m args below meth c H locs cells slots Q (F0 m pc ls (.int i :: .ref a :: rest)) := by
  have hlt : i.toNatClampNeg < n := Nat.not_le.mp fun q => hin (Or.inr q)
  refine W.aald (v := va_rf (f i.toNatClampNeg)) (ty := .array t) hexec hb (hP q0 _ ha) ((hK.2 t0 _ ht).1 n (fun j => va_rf (f j))) rfl (fun q => by cases q) ?_ ?_ rfl rfl hdg kk
  · show ¬ (i < 0 ∨ (arrV _ _ _).slots.size ≤ _)
    rw [arrV_size]
    exact hin
  · show (arrV _ _ _).slots[_]? = _
    rw [arrV_read _ _ hlt]

end
/-! the two worlds. Numbers of both: 0 room, 1 uses, 2 listedSize, 3 length, 4 held, 5 head, 6 cost; rows: 2 states, 3 lengths, 5 cartridges of the copies, 6 their places, 7 waits, 8 used, 9 listed (order), 10 ends, 11 trial ends; 4 the reference's cells, 20 + i the class's row of cells of the file i -/
def tt_f (ad : Nat → Nat) (u : ts_S) : List Value := [.int (u.1 0), .ref (ad 1), .ref (ad 2), .ref (ad 3), .ref (ad 4), .ref (ad 5), .ref (ad 6), .ref (ad 7), .ref (ad 8), .int (u.1 1), .ref (ad 9), .int (u.1 2)]
def tt_g (ad : Nat → Nat) (u : ts_S) : List Value := [.int (u.1 3), .ref (ad 10), .ref (ad 11), .int (u.1 4), .int (u.1 5), .int (u.1 6)]
def tt_rw (ad : Nat → Nat) (ca : Nat → ClassId) (u : ts_S) (i : Nat) : Nat × va_E := (ad (20 + i), .inl (ca 20, 4, .inl (u.2 (20 + i))))
def tt_q (ad : Nat → Nat) : Nat → Option Nat := fun i => if i < 16 then some (ad (20 + i)) else none
def tt_x (ad : Nat → Nat) (ca : Nat → ClassId) (u : ts_S) : va_W := [(ad 0, .inr (1, tt_f ad u)), (ad 1, .inr (0, tt_g ad u)), (ad 2, .inl (ca 2, 16, .inl (u.2 2))), (ad 3, .inl (ca 3, 16, .inl (u.2 3))), (ad 4, .inl (ca 4, 16, .inr (.inr (.inr (.inr (tt_q ad)))))), (ad 5, .inl (ca 5, 16, .inl (u.2 5))), (ad 6, .inl (ca 6, 16, .inl (u.2 6))), (ad 7, .inl (ca 7, 16, .inl (u.2 7))), (ad 8, .inl (ca 8, 16, .inl (u.2 8))), (ad 9, .inl (ca 9, 16, .inl (u.2 9))), (ad 10, .inl (ca 10, 4, .inl (u.2 10))), (ad 11, .inl (ca 11, 4, .inl (u.2 11)))]
def tt_w (ad : Nat → Nat) (ca : Nat → ClassId) (u : ts_S) : va_W := tt_x ad ca u ++ (List.range 16).map (tt_rw ad ca u)
def tt_k (ca : Nat → ClassId) : List (ClassId × FieldType) := [(ca 2, .int), (ca 3, .int), (ca 4, .array .int), (ca 5, .int), (ca 6, .int), (ca 7, .boolean), (ca 8, .int), (ca 9, .int), (ca 10, .int), (ca 11, .int), (ca 20, .int)]
def tF : ts_F := (tt_w, tt_k)
def mm_f (ad : Nat → Nat) (u : ts_S) : List Value := [.int (u.1 0), .int (u.1 3), .ref (ad 2), .ref (ad 3), .ref (ad 4), .ref (ad 8), .ref (ad 5), .ref (ad 6), .ref (ad 7), .ref (ad 10), .ref (ad 11), .ref (ad 9), .int (u.1 1), .int (u.1 4), .int (u.1 5), .int (u.1 6)]
def mm_w (ad : Nat → Nat) (ca : Nat → ClassId) (u : ts_S) : va_W := [(ad 0, .inr (2, mm_f ad u)), (ad 2, .inl (ca 2, 16, .inl (u.2 2))), (ad 3, .inl (ca 3, 16, .inl (u.2 3))), (ad 4, .inl (ca 4, 64, .inl (u.2 4))), (ad 8, .inl (ca 8, 16, .inl (u.2 8))), (ad 5, .inl (ca 5, 16, .inl (u.2 5))), (ad 6, .inl (ca 6, 16, .inl (u.2 6))), (ad 7, .inl (ca 7, 16, .inl (u.2 7))), (ad 10, .inl (ca 10, 4, .inl (u.2 10))), (ad 11, .inl (ca 11, 4, .inl (u.2 11))), (ad 9, .inl (ca 9, 16, .inl (u.2 9)))]
def mm_k (ca : Nat → ClassId) : List (ClassId × FieldType) := [(ca 2, .int), (ca 3, .int), (ca 4, .int), (ca 8, .int), (ca 5, .int), (ca 6, .int), (ca 7, .boolean), (ca 10, .int), (ca 11, .int), (ca 9, .int)]
def mF : ts_F := (mm_w, mm_k)
theorem inT : ∀ w ∈ u_ws RT FT 12, w ∈ uW := by decide +kernel
theorem inP : ∀ w ∈ u_ws RP FP 6, w ∈ uW := by decide +kernel
theorem inM : ∀ w ∈ u_ws RM FM 16, w ∈ uW := by decide +kernel
theorem tt_rw_a (ad : Nat → Nat) (ca : Nat → ClassId) (u : ts_S) (i : Nat) (x : Int32) {j : Nat} (hj : j < 20) : tt_rw ad ca (ts_a j i x u) = tt_rw ad ca u := by
  funext k
  have h : ¬ (20 + k = j) := by omega
  simp only [tt_rw, ts_a, va_up, if_neg h]
theorem tt_rw_c (ad : Nat → Nat) (ca : Nat → ClassId) (u : ts_S) : tt_rw ad ca (ts_c u) = tt_rw ad ca u := by
  funext k
  have h : ¬ (20 + k = 11) := by omega
  simp only [tt_rw, ts_c, va_up, if_neg h]
theorem tt_ec (ad : Nat → Nat) (ca : Nat → ClassId) (u : ts_S) : (tt_w ad ca u).set 11 (ad 11, .inl (ca 11, 4, .inl (va_cpy (u.2 10) (u.2 11) 0 0 4))) = tt_w ad ca (ts_c u) := by
  unfold tt_w
  rw [tt_rw_c ad ca u]
  rfl
theorem tt_x_r (ad : Nat → Nat) (ca : Nat → ClassId) (u : ts_S) (i k : Nat) (x : Int32) : tt_x ad ca (ts_a (20 + i) k x u) = tt_x ad ca u := by
  have h2 : ¬ (2 = 20 + i) := by omega
  have h3 : ¬ (3 = 20 + i) := by omega
  have h5 : ¬ (5 = 20 + i) := by omega
  have h6 : ¬ (6 = 20 + i) := by omega
  have h7 : ¬ (7 = 20 + i) := by omega
  have h8 : ¬ (8 = 20 + i) := by omega
  have h9 : ¬ (9 = 20 + i) := by omega
  have h10 : ¬ (10 = 20 + i) := by omega
  have h11 : ¬ (11 = 20 + i) := by omega
  simp only [tt_x, tt_f, tt_g, ts_a, va_up, if_neg h2, if_neg h3, if_neg h5, if_neg h6, if_neg h7, if_neg h8, if_neg h9, if_neg h10, if_neg h11]
theorem tt_get_r (ad : Nat → Nat) (ca : Nat → ClassId) (u : ts_S) {i : Nat} (hi : i < 16) : (tt_w ad ca u)[12 + i]? = some (ad (20 + i), .inl (ca 20, 4, .inl (u.2 (20 + i)))) := by
  have hx : (tt_x ad ca u).length = 12 := rfl
  unfold tt_w
  rw [List.getElem?_append_right (by omega), hx]
  have : 12 + i - 12 = i := by omega
  rw [this, List.getElem?_map, List.getElem?_range hi]
  rfl
theorem tt_er (ad : Nat → Nat) (ca : Nat → ClassId) (u : ts_S) {i : Nat} (hi : i < 16) (k : Nat) (x : Int32) : (tt_w ad ca u).set (12 + i) (ad (20 + i), .inl (ca 20, 4, .inl (upd (u.2 (20 + i)) k x))) = tt_w ad ca (ts_a (20 + i) k x u) := by
  have hx : (tt_x ad ca u).length = 12 := rfl
  have e : 12 + i - 12 = i := by omega
  apply List.ext_getElem?
  intro t
  unfold tt_w
  rw [tt_x_r]
  rw [List.getElem?_set]
  by_cases ht : t < 12
  · rw [if_neg (by omega), List.getElem?_append_left (by omega), List.getElem?_append_left (by omega)]
  · rw [List.getElem?_append_right (by omega), List.getElem?_append_right (by omega), hx, List.getElem?_map, List.getElem?_map]
    by_cases hit : 12 + i = t
    · subst hit
      rw [if_pos rfl, if_pos (by simp [hx]; omega), e, List.getElem?_range hi]
      simp only [Option.map_some, tt_rw, ts_a, va_up, if_pos]
    · rw [if_neg hit]
      by_cases h2 : t - 12 < 16
      · rw [List.getElem?_range h2]
        have h : ¬ (20 + (t - 12) = 20 + i) := by omega
        simp only [Option.map_some, tt_rw, ts_a, va_up, if_neg h]
      · rw [List.getElem?_eq_none (by simp; omega)]
        rfl
section
variable {p : Program} {l : Launch} {e : Env} {R : Room} {s : State} {m : MethodId} {args : Array Value} {below : List Frame} {meth : Method} {c : Code} {H : Heap} {locs : List Loc} {Q : State → Prop} {cc : ByteArray} {pc nL : Nat} {ls : Array Slot} {rest : List Value} {D : va_G} {ca : Nat → ClassId} {ad : Nat → Nat} {A : Nat → Prop} {u : ts_S} {cells slots : Nat}
theorem ts_lt {i : Int32} {n : Nat} (h : vp_in i n) : i.toNatClampNeg < n := Nat.not_le.mp fun q => h (Or.inr q)
theorem tt_aa {own : String} (hc : CallFix p m c cc nL s args uW own) (hw : ts_W tF D ca ad A s H locs u) {i : Int32} (h : vp_in i 16) (hdg : decode cc pc = .ok (.aaload, 1)) (kk : W p l e R s m args below meth c H locs cells slots Q (F0 m (pc + 1) ls (.ref (ad (20 + i.toNatClampNeg)) :: rest))) : W p l e R s m args below meth c H locs cells slots Q (F0 m pc ls (.int i :: .ref (ad 4) :: rest)) := by
  refine ts_aldA hc.1 hc.2.1 hw.2.2.2.1 hw.1 4 2 (f := tt_q ad) rfl rfl h hdg ?_
  have e : va_rf (tt_q ad i.toNatClampNeg) = .ref (ad (20 + i.toNatClampNeg)) := by
    unfold tt_q
    rw [if_pos (ts_lt h)]
    rfl
  rw [e]
  exact kk
theorem tt_lr {own : String} (hc : CallFix p m c cc nL s args uW own) (hw : ts_W tF D ca ad A s H locs u) {f i : Int32} (hf : vp_in f 16) (h : vp_in i 4) (hdg : decode cc pc = .ok (.iaload, 1)) (kk : W p l e R s m args below meth c H locs cells slots Q (F0 m (pc + 1) ls (.int (u.2 (20 + f.toNatClampNeg) i.toNatClampNeg) :: rest))) : W p l e R s m args below meth c H locs cells slots Q (F0 m pc ls (.int i :: .ref (ad (20 + f.toNatClampNeg)) :: rest)) :=
  va_iald hc.1 hc.2.1 hw.2.2.2.1 hw.1 (12 + f.toNatClampNeg) 10 (tt_get_r ad ca u (ts_lt hf)) rfl h hdg kk
theorem tt_sr {own : String} (hc : CallFix p m c cc nL s args uW own) (hw : ts_W tF D ca ad A s H locs u) {f i x : Int32} (hf : vp_in f 16) (h : vp_in i 4) (hdg : decode cc pc = .ok (.iastore, 1)) (kk : ∀ (H1 : Heap) (locs1 : List Loc), ts_W tF D ca ad A s H1 locs1 (ts_a (20 + f.toNatClampNeg) i.toNatClampNeg x u) → W p l e R s m args below meth c H1 locs1 cells slots Q (F0 m (pc + 1) ls rest)) : W p l e R s m args below meth c H locs cells slots Q (F0 m pc ls (.int x :: .int i :: .ref (ad (20 + f.toNatClampNeg)) :: rest)) := by
  refine va_iast hc.1 hc.2.1 hw.2.2.2.1 hw.1 hw.2.1 hw.2.2.1 (12 + f.toNatClampNeg) 10 (tt_get_r ad ca u (ts_lt hf)) rfl h hdg (fun H1 locs1 a b c => kk H1 locs1 ?_)
  exact ⟨cast (congrArg (fun z => va_P D vwCl z H1) (tt_er ad ca u (ts_lt hf) _ _)) a, cast (congrArg (fun z => va_D A z) (tt_er ad ca u (ts_lt hf) _ _)) b, c, hw.2.2.2⟩
end

theorem tt_e2 (ad : Nat → Nat) (ca : Nat → ClassId) (u : ts_S) (i : Nat) (x : Int32) : (tt_w ad ca u).set 2 (ad 2, .inl (ca 2, 16, .inl (upd (u.2 2) i x))) = tt_w ad ca (ts_a 2 i x u) := by
  unfold tt_w
  rw [tt_rw_a ad ca u i x (by decide : 2 < 20)]
  rfl
theorem tt_e3 (ad : Nat → Nat) (ca : Nat → ClassId) (u : ts_S) (i : Nat) (x : Int32) : (tt_w ad ca u).set 3 (ad 3, .inl (ca 3, 16, .inl (upd (u.2 3) i x))) = tt_w ad ca (ts_a 3 i x u) := by
  unfold tt_w
  rw [tt_rw_a ad ca u i x (by decide : 3 < 20)]
  rfl
theorem tt_e5 (ad : Nat → Nat) (ca : Nat → ClassId) (u : ts_S) (i : Nat) (x : Int32) : (tt_w ad ca u).set 5 (ad 5, .inl (ca 5, 16, .inl (upd (u.2 5) i x))) = tt_w ad ca (ts_a 5 i x u) := by
  unfold tt_w
  rw [tt_rw_a ad ca u i x (by decide : 5 < 20)]
  rfl
theorem tt_e6 (ad : Nat → Nat) (ca : Nat → ClassId) (u : ts_S) (i : Nat) (x : Int32) : (tt_w ad ca u).set 6 (ad 6, .inl (ca 6, 16, .inl (upd (u.2 6) i x))) = tt_w ad ca (ts_a 6 i x u) := by
  unfold tt_w
  rw [tt_rw_a ad ca u i x (by decide : 6 < 20)]
  rfl
theorem tt_e7 (ad : Nat → Nat) (ca : Nat → ClassId) (u : ts_S) (i : Nat) (x : Int32) : (tt_w ad ca u).set 7 (ad 7, .inl (ca 7, 16, .inl (upd (u.2 7) i x))) = tt_w ad ca (ts_a 7 i x u) := by
  unfold tt_w
  rw [tt_rw_a ad ca u i x (by decide : 7 < 20)]
  rfl
theorem tt_e8 (ad : Nat → Nat) (ca : Nat → ClassId) (u : ts_S) (i : Nat) (x : Int32) : (tt_w ad ca u).set 8 (ad 8, .inl (ca 8, 16, .inl (upd (u.2 8) i x))) = tt_w ad ca (ts_a 8 i x u) := by
  unfold tt_w
  rw [tt_rw_a ad ca u i x (by decide : 8 < 20)]
  rfl
theorem tt_e9 (ad : Nat → Nat) (ca : Nat → ClassId) (u : ts_S) (i : Nat) (x : Int32) : (tt_w ad ca u).set 9 (ad 9, .inl (ca 9, 16, .inl (upd (u.2 9) i x))) = tt_w ad ca (ts_a 9 i x u) := by
  unfold tt_w
  rw [tt_rw_a ad ca u i x (by decide : 9 < 20)]
  rfl
theorem tt_e10 (ad : Nat → Nat) (ca : Nat → ClassId) (u : ts_S) (i : Nat) (x : Int32) : (tt_w ad ca u).set 10 (ad 10, .inl (ca 10, 4, .inl (upd (u.2 10) i x))) = tt_w ad ca (ts_a 10 i x u) := by
  unfold tt_w
  rw [tt_rw_a ad ca u i x (by decide : 10 < 20)]
  rfl
theorem tt_e11 (ad : Nat → Nat) (ca : Nat → ClassId) (u : ts_S) (i : Nat) (x : Int32) : (tt_w ad ca u).set 11 (ad 11, .inl (ca 11, 4, .inl (upd (u.2 11) i x))) = tt_w ad ca (ts_a 11 i x u) := by
  unfold tt_w
  rw [tt_rw_a ad ca u i x (by decide : 11 < 20)]
  rfl
theorem mm_e2 (ad : Nat → Nat) (ca : Nat → ClassId) (u : ts_S) (i : Nat) (x : Int32) : (mm_w ad ca u).set 1 (ad 2, .inl (ca 2, 16, .inl (upd (u.2 2) i x))) = mm_w ad ca (ts_a 2 i x u) := by
  rfl
theorem mm_e3 (ad : Nat → Nat) (ca : Nat → ClassId) (u : ts_S) (i : Nat) (x : Int32) : (mm_w ad ca u).set 2 (ad 3, .inl (ca 3, 16, .inl (upd (u.2 3) i x))) = mm_w ad ca (ts_a 3 i x u) := by
  rfl
theorem mm_e4 (ad : Nat → Nat) (ca : Nat → ClassId) (u : ts_S) (i : Nat) (x : Int32) : (mm_w ad ca u).set 3 (ad 4, .inl (ca 4, 64, .inl (upd (u.2 4) i x))) = mm_w ad ca (ts_a 4 i x u) := by
  rfl
theorem mm_e8 (ad : Nat → Nat) (ca : Nat → ClassId) (u : ts_S) (i : Nat) (x : Int32) : (mm_w ad ca u).set 4 (ad 8, .inl (ca 8, 16, .inl (upd (u.2 8) i x))) = mm_w ad ca (ts_a 8 i x u) := by
  rfl
theorem mm_e5 (ad : Nat → Nat) (ca : Nat → ClassId) (u : ts_S) (i : Nat) (x : Int32) : (mm_w ad ca u).set 5 (ad 5, .inl (ca 5, 16, .inl (upd (u.2 5) i x))) = mm_w ad ca (ts_a 5 i x u) := by
  rfl
theorem mm_e6 (ad : Nat → Nat) (ca : Nat → ClassId) (u : ts_S) (i : Nat) (x : Int32) : (mm_w ad ca u).set 6 (ad 6, .inl (ca 6, 16, .inl (upd (u.2 6) i x))) = mm_w ad ca (ts_a 6 i x u) := by
  rfl
theorem mm_e7 (ad : Nat → Nat) (ca : Nat → ClassId) (u : ts_S) (i : Nat) (x : Int32) : (mm_w ad ca u).set 7 (ad 7, .inl (ca 7, 16, .inl (upd (u.2 7) i x))) = mm_w ad ca (ts_a 7 i x u) := by
  rfl
theorem mm_e10 (ad : Nat → Nat) (ca : Nat → ClassId) (u : ts_S) (i : Nat) (x : Int32) : (mm_w ad ca u).set 8 (ad 10, .inl (ca 10, 4, .inl (upd (u.2 10) i x))) = mm_w ad ca (ts_a 10 i x u) := by
  rfl
theorem mm_e11 (ad : Nat → Nat) (ca : Nat → ClassId) (u : ts_S) (i : Nat) (x : Int32) : (mm_w ad ca u).set 9 (ad 11, .inl (ca 11, 4, .inl (upd (u.2 11) i x))) = mm_w ad ca (ts_a 11 i x u) := by
  rfl
theorem mm_e9 (ad : Nat → Nat) (ca : Nat → ClassId) (u : ts_S) (i : Nat) (x : Int32) : (mm_w ad ca u).set 10 (ad 9, .inl (ca 9, 16, .inl (upd (u.2 9) i x))) = mm_w ad ca (ts_a 9 i x u) := by
  rfl
end
section
section
variable {p : Program} {l : Launch} {e : Env} {R : Room} {s : State} {m : MethodId} {args : Array Value} {below : List Frame} {meth : Method} {c : Code} {H : Heap} {locs : List Loc} {Q : State → Prop} {cc : ByteArray} {pc nL : Nat} {ls : Array Slot} {rest : List Value} {D : va_G} {ca : Nat → ClassId} {ad : Nat → Nat} {A : Nat → Prop} {u : ts_S} {cells slots : Nat}
theorem gT_9 (hc : CallFix p m c cc nL s args uW RT) (hn : nx s) (hw : ts_W tF D ca ad A s H locs u) (hdg : decode cc pc = .ok (.getfield 9, 3)) (kk : W p l e R s m args below meth c H locs cells slots Q (F0 m (pc + 3) ls (.ref (ad 2) :: rest))) : W p l e R s m args below meth c H locs cells slots Q (F0 m pc ls (.ref (ad 0) :: rest)) :=
  va_get (D := D) (ci := 1) (v := .ref (ad 2)) (C := RT) (T := FT) (N := 12) hc.1 hc.2.1 hc.2.2.2.2 inT hc.2.2.2.1 hw.2.2.2.1 hw.1 0 rfl rfl 2 (by decide) (hc.2.2.2.2 (.fieldLink RT 9 "TierStore" "states" "[I") (by decide +kernel)) (fun _ h9 => h9) rfl hdg kk
theorem gT_13 (hc : CallFix p m c cc nL s args uW RT) (hn : nx s) (hw : ts_W tF D ca ad A s H locs u) (hdg : decode cc pc = .ok (.getfield 13, 3)) (kk : W p l e R s m args below meth c H locs cells slots Q (F0 m (pc + 3) ls (.ref (ad 3) :: rest))) : W p l e R s m args below meth c H locs cells slots Q (F0 m pc ls (.ref (ad 0) :: rest)) :=
  va_get (D := D) (ci := 1) (v := .ref (ad 3)) (C := RT) (T := FT) (N := 12) hc.1 hc.2.1 hc.2.2.2.2 inT hc.2.2.2.1 hw.2.2.2.1 hw.1 0 rfl rfl 3 (by decide) (hc.2.2.2.2 (.fieldLink RT 13 "TierStore" "lengths" "[I") (by decide +kernel)) (fun _ h9 => h9) rfl hdg kk
theorem gT_18 (hc : CallFix p m c cc nL s args uW RT) (hn : nx s) (hw : ts_W tF D ca ad A s H locs u) (hdg : decode cc pc = .ok (.getfield 18, 3)) (kk : W p l e R s m args below meth c H locs cells slots Q (F0 m (pc + 3) ls (.ref (ad 4) :: rest))) : W p l e R s m args below meth c H locs cells slots Q (F0 m pc ls (.ref (ad 0) :: rest)) :=
  va_get (D := D) (ci := 1) (v := .ref (ad 4)) (C := RT) (T := FT) (N := 12) hc.1 hc.2.1 hc.2.2.2.2 inT hc.2.2.2.1 hw.2.2.2.1 hw.1 0 rfl rfl 4 (by decide) (hc.2.2.2.2 (.fieldLink RT 18 "TierStore" "cells" "[[I") (by decide +kernel)) (fun _ h9 => h9) rfl hdg kk
theorem gT_27 (hc : CallFix p m c cc nL s args uW RT) (hn : nx s) (hw : ts_W tF D ca ad A s H locs u) (hdg : decode cc pc = .ok (.getfield 27, 3)) (kk : W p l e R s m args below meth c H locs cells slots Q (F0 m (pc + 3) ls (.ref (ad 7) :: rest))) : W p l e R s m args below meth c H locs cells slots Q (F0 m pc ls (.ref (ad 0) :: rest)) :=
  va_get (D := D) (ci := 1) (v := .ref (ad 7)) (C := RT) (T := FT) (N := 12) hc.1 hc.2.1 hc.2.2.2.2 inT hc.2.2.2.1 hw.2.2.2.1 hw.1 0 rfl rfl 7 (by decide) (hc.2.2.2.2 (.fieldLink RT 27 "TierStore" "waits" "[Z") (by decide +kernel)) (fun _ h9 => h9) rfl hdg kk
theorem gT_61 (hc : CallFix p m c cc nL s args uW RT) (hn : nx s) (hw : ts_W tF D ca ad A s H locs u) (hdg : decode cc pc = .ok (.getfield 61, 3)) (kk : W p l e R s m args below meth c H locs cells slots Q (F0 m (pc + 3) ls (.ref (ad 1) :: rest))) : W p l e R s m args below meth c H locs cells slots Q (F0 m pc ls (.ref (ad 0) :: rest)) :=
  va_get (D := D) (ci := 1) (v := .ref (ad 1)) (C := RT) (T := FT) (N := 12) hc.1 hc.2.1 hc.2.2.2.2 inT hc.2.2.2.1 hw.2.2.2.1 hw.1 0 rfl rfl 1 (by decide) (hc.2.2.2.2 (.fieldLink RT 61 "TierStore" "tapes" "LTierStore$Tapes;") (by decide +kernel)) (fun _ h9 => h9) rfl hdg kk
theorem gT_41 (hc : CallFix p m c cc nL s args uW RT) (hn : nx s) (hw : ts_W tF D ca ad A s H locs u) (hdg : decode cc pc = .ok (.getfield 41, 3)) (kk : W p l e R s m args below meth c H locs cells slots Q (F0 m (pc + 3) ls (.int (u.1 2) :: rest))) : W p l e R s m args below meth c H locs cells slots Q (F0 m pc ls (.ref (ad 0) :: rest)) :=
  va_get (D := D) (ci := 1) (v := .int (u.1 2)) (C := RT) (T := FT) (N := 12) hc.1 hc.2.1 hc.2.2.2.2 inT hc.2.2.2.1 hw.2.2.2.1 hw.1 0 rfl rfl 11 (by decide) (hc.2.2.2.2 (.fieldLink RT 41 "TierStore" "listedSize" "I") (by decide +kernel)) (fun _ h9 => h9) rfl hdg kk
theorem gT_38 (hc : CallFix p m c cc nL s args uW RT) (hn : nx s) (hw : ts_W tF D ca ad A s H locs u) (hdg : decode cc pc = .ok (.getfield 38, 3)) (kk : W p l e R s m args below meth c H locs cells slots Q (F0 m (pc + 3) ls (.ref (ad 9) :: rest))) : W p l e R s m args below meth c H locs cells slots Q (F0 m pc ls (.ref (ad 0) :: rest)) :=
  va_get (D := D) (ci := 1) (v := .ref (ad 9)) (C := RT) (T := FT) (N := 12) hc.1 hc.2.1 hc.2.2.2.2 inT hc.2.2.2.1 hw.2.2.2.1 hw.1 0 rfl rfl 10 (by decide) (hc.2.2.2.2 (.fieldLink RT 38 "TierStore" "listed" "[I") (by decide +kernel)) (fun _ h9 => h9) rfl hdg kk
theorem pT_41 (hc : CallFix p m c cc nL s args uW RT) (hn : nx s) (hw : ts_W tF D ca ad A s H locs u) {v : Int32} (hdg : decode cc pc = .ok (.putfield 41, 3)) (kk : ∀ (H1 : Heap) (locs1 : List Loc), ts_W tF D ca ad A s H1 locs1 (ts_p 2 v u) → W p l e R s m args below meth c H1 locs1 cells slots Q (F0 m (pc + 3) ls rest)) : W p l e R s m args below meth c H locs cells slots Q (F0 m pc ls (.int v :: .ref (ad 0) :: rest)) :=
  va_put (D := D) (ci := 1) (v := .int v) (ty := .int) (C := RT) (T := FT) (N := 12) hc.1 hc.2.1 hc.2.2.2.2 inT tT tT_ok nT hc.2.2.2.1 hw.2.2.2.1 hw.1 hw.2.1 hw.2.2.1 0 rfl rfl 11 (by decide) (hc.2.2.2.2 (.fieldLink RT 41 "TierStore" "listedSize" "I") (by decide +kernel)) (fun _ h9 => h9) rfl (by decide +kernel) rfl rfl (Nat.le_of_ble_eq_true rfl) hdg (fun H1 locs1 a b c => kk H1 locs1 ⟨a, b, c, hw.2.2.2⟩)
theorem gT_131 (hc : CallFix p m c cc nL s args uW RT) (hn : nx s) (hw : ts_W tF D ca ad A s H locs u) (hdg : decode cc pc = .ok (.getfield 131, 3)) (kk : W p l e R s m args below meth c H locs cells slots Q (F0 m (pc + 3) ls (.ref (ad 10) :: rest))) : W p l e R s m args below meth c H locs cells slots Q (F0 m pc ls (.ref (ad 1) :: rest)) :=
  va_getN (D := D) (ci := 0) (v := .ref (ad 10)) (C := RP) (T := FP) (N := 6) hc.1 hc.2.1 hc.2.2.2.2 inP hc.2.2.2.1 hw.2.2.2.1 hw.1 1 rfl rfl 1 (by decide) (va_Nw.use rfl (hn (.fieldLinkNest RT 131 "TierStore$Tapes" "ends" "[I" "TierStore") (by decide +kernel))) (fun _ h9 => h9) rfl hdg kk
theorem gT_21 (hc : CallFix p m c cc nL s args uW RT) (hn : nx s) (hw : ts_W tF D ca ad A s H locs u) (hdg : decode cc pc = .ok (.getfield 21, 3)) (kk : W p l e R s m args below meth c H locs cells slots Q (F0 m (pc + 3) ls (.ref (ad 5) :: rest))) : W p l e R s m args below meth c H locs cells slots Q (F0 m pc ls (.ref (ad 0) :: rest)) :=
  va_get (D := D) (ci := 1) (v := .ref (ad 5)) (C := RT) (T := FT) (N := 12) hc.1 hc.2.1 hc.2.2.2.2 inT hc.2.2.2.1 hw.2.2.2.1 hw.1 0 rfl rfl 5 (by decide) (hc.2.2.2.2 (.fieldLink RT 21 "TierStore" "copyCartridges" "[I") (by decide +kernel)) (fun _ h9 => h9) rfl hdg kk
theorem gT_24 (hc : CallFix p m c cc nL s args uW RT) (hn : nx s) (hw : ts_W tF D ca ad A s H locs u) (hdg : decode cc pc = .ok (.getfield 24, 3)) (kk : W p l e R s m args below meth c H locs cells slots Q (F0 m (pc + 3) ls (.ref (ad 6) :: rest))) : W p l e R s m args below meth c H locs cells slots Q (F0 m pc ls (.ref (ad 0) :: rest)) :=
  va_get (D := D) (ci := 1) (v := .ref (ad 6)) (C := RT) (T := FT) (N := 12) hc.1 hc.2.1 hc.2.2.2.2 inT hc.2.2.2.1 hw.2.2.2.1 hw.1 0 rfl rfl 6 (by decide) (hc.2.2.2.2 (.fieldLink RT 24 "TierStore" "copyPlaces" "[I") (by decide +kernel)) (fun _ h9 => h9) rfl hdg kk
theorem gT_149 (hc : CallFix p m c cc nL s args uW RT) (hn : nx s) (hw : ts_W tF D ca ad A s H locs u) (hdg : decode cc pc = .ok (.getfield 149, 3)) (kk : W p l e R s m args below meth c H locs cells slots Q (F0 m (pc + 3) ls (.int (u.1 4) :: rest))) : W p l e R s m args below meth c H locs cells slots Q (F0 m pc ls (.ref (ad 1) :: rest)) :=
  va_getN (D := D) (ci := 0) (v := .int (u.1 4)) (C := RP) (T := FP) (N := 6) hc.1 hc.2.1 hc.2.2.2.2 inP hc.2.2.2.1 hw.2.2.2.1 hw.1 1 rfl rfl 3 (by decide) (va_Nw.use rfl (hn (.fieldLinkNest RT 149 "TierStore$Tapes" "held" "I" "TierStore") (by decide +kernel))) (fun _ h9 => h9) rfl hdg kk
theorem gT_152 (hc : CallFix p m c cc nL s args uW RT) (hn : nx s) (hw : ts_W tF D ca ad A s H locs u) (hdg : decode cc pc = .ok (.getfield 152, 3)) (kk : W p l e R s m args below meth c H locs cells slots Q (F0 m (pc + 3) ls (.int (u.1 6) :: rest))) : W p l e R s m args below meth c H locs cells slots Q (F0 m pc ls (.ref (ad 1) :: rest)) :=
  va_getN (D := D) (ci := 0) (v := .int (u.1 6)) (C := RP) (T := FP) (N := 6) hc.1 hc.2.1 hc.2.2.2.2 inP hc.2.2.2.1 hw.2.2.2.1 hw.1 1 rfl rfl 5 (by decide) (va_Nw.use rfl (hn (.fieldLinkNest RT 152 "TierStore$Tapes" "cost" "I" "TierStore") (by decide +kernel))) (fun _ h9 => h9) rfl hdg kk
theorem gT_155 (hc : CallFix p m c cc nL s args uW RT) (hn : nx s) (hw : ts_W tF D ca ad A s H locs u) (hdg : decode cc pc = .ok (.getfield 155, 3)) (kk : W p l e R s m args below meth c H locs cells slots Q (F0 m (pc + 3) ls (.int (u.1 5) :: rest))) : W p l e R s m args below meth c H locs cells slots Q (F0 m pc ls (.ref (ad 1) :: rest)) :=
  va_getN (D := D) (ci := 0) (v := .int (u.1 5)) (C := RP) (T := FP) (N := 6) hc.1 hc.2.1 hc.2.2.2.2 inP hc.2.2.2.1 hw.2.2.2.1 hw.1 1 rfl rfl 4 (by decide) (va_Nw.use rfl (hn (.fieldLinkNest RT 155 "TierStore$Tapes" "head" "I" "TierStore") (by decide +kernel))) (fun _ h9 => h9) rfl hdg kk
theorem gT_34 (hc : CallFix p m c cc nL s args uW RT) (hn : nx s) (hw : ts_W tF D ca ad A s H locs u) (hdg : decode cc pc = .ok (.getfield 34, 3)) (kk : W p l e R s m args below meth c H locs cells slots Q (F0 m (pc + 3) ls (.int (u.1 1) :: rest))) : W p l e R s m args below meth c H locs cells slots Q (F0 m pc ls (.ref (ad 0) :: rest)) :=
  va_get (D := D) (ci := 1) (v := .int (u.1 1)) (C := RT) (T := FT) (N := 12) hc.1 hc.2.1 hc.2.2.2.2 inT hc.2.2.2.1 hw.2.2.2.1 hw.1 0 rfl rfl 9 (by decide) (hc.2.2.2.2 (.fieldLink RT 34 "TierStore" "uses" "I") (by decide +kernel)) (fun _ h9 => h9) rfl hdg kk
theorem pT_34 (hc : CallFix p m c cc nL s args uW RT) (hn : nx s) (hw : ts_W tF D ca ad A s H locs u) {v : Int32} (hdg : decode cc pc = .ok (.putfield 34, 3)) (kk : ∀ (H1 : Heap) (locs1 : List Loc), ts_W tF D ca ad A s H1 locs1 (ts_p 1 v u) → W p l e R s m args below meth c H1 locs1 cells slots Q (F0 m (pc + 3) ls rest)) : W p l e R s m args below meth c H locs cells slots Q (F0 m pc ls (.int v :: .ref (ad 0) :: rest)) :=
  va_put (D := D) (ci := 1) (v := .int v) (ty := .int) (C := RT) (T := FT) (N := 12) hc.1 hc.2.1 hc.2.2.2.2 inT tT tT_ok nT hc.2.2.2.1 hw.2.2.2.1 hw.1 hw.2.1 hw.2.2.1 0 rfl rfl 9 (by decide) (hc.2.2.2.2 (.fieldLink RT 34 "TierStore" "uses" "I") (by decide +kernel)) (fun _ h9 => h9) rfl (by decide +kernel) rfl rfl (Nat.le_of_ble_eq_true rfl) hdg (fun H1 locs1 a b c => kk H1 locs1 ⟨a, b, c, hw.2.2.2⟩)
theorem gT_31 (hc : CallFix p m c cc nL s args uW RT) (hn : nx s) (hw : ts_W tF D ca ad A s H locs u) (hdg : decode cc pc = .ok (.getfield 31, 3)) (kk : W p l e R s m args below meth c H locs cells slots Q (F0 m (pc + 3) ls (.ref (ad 8) :: rest))) : W p l e R s m args below meth c H locs cells slots Q (F0 m pc ls (.ref (ad 0) :: rest)) :=
  va_get (D := D) (ci := 1) (v := .ref (ad 8)) (C := RT) (T := FT) (N := 12) hc.1 hc.2.1 hc.2.2.2.2 inT hc.2.2.2.1 hw.2.2.2.1 hw.1 0 rfl rfl 8 (by decide) (hc.2.2.2.2 (.fieldLink RT 31 "TierStore" "usedAt" "[I") (by decide +kernel)) (fun _ h9 => h9) rfl hdg kk
theorem gT_53 (hc : CallFix p m c cc nL s args uW RT) (hn : nx s) (hw : ts_W tF D ca ad A s H locs u) (hdg : decode cc pc = .ok (.getfield 53, 3)) (kk : W p l e R s m args below meth c H locs cells slots Q (F0 m (pc + 3) ls (.int (u.1 0) :: rest))) : W p l e R s m args below meth c H locs cells slots Q (F0 m pc ls (.ref (ad 0) :: rest)) :=
  va_get (D := D) (ci := 1) (v := .int (u.1 0)) (C := RT) (T := FT) (N := 12) hc.1 hc.2.1 hc.2.2.2.2 inT hc.2.2.2.1 hw.2.2.2.1 hw.1 0 rfl rfl 0 (by decide) (hc.2.2.2.2 (.fieldLink RT 53 "TierStore" "room" "I") (by decide +kernel)) (fun _ h9 => h9) rfl hdg kk
theorem gT_180 (hc : CallFix p m c cc nL s args uW RT) (hn : nx s) (hw : ts_W tF D ca ad A s H locs u) (hdg : decode cc pc = .ok (.getfield 180, 3)) (kk : W p l e R s m args below meth c H locs cells slots Q (F0 m (pc + 3) ls (.int (u.1 3) :: rest))) : W p l e R s m args below meth c H locs cells slots Q (F0 m pc ls (.ref (ad 1) :: rest)) :=
  va_getN (D := D) (ci := 0) (v := .int (u.1 3)) (C := RP) (T := FP) (N := 6) hc.1 hc.2.1 hc.2.2.2.2 inP hc.2.2.2.1 hw.2.2.2.1 hw.1 1 rfl rfl 0 (by decide) (va_Nw.use rfl (hn (.fieldLinkNest RT 180 "TierStore$Tapes" "length" "I" "TierStore") (by decide +kernel))) (fun _ h9 => h9) rfl hdg kk
theorem gP_18 (hc : CallFix p m c cc nL s args uW RP) (hn : nx s) (hw : ts_W tF D ca ad A s H locs u) (hdg : decode cc pc = .ok (.getfield 18, 3)) (kk : W p l e R s m args below meth c H locs cells slots Q (F0 m (pc + 3) ls (.int (u.1 4) :: rest))) : W p l e R s m args below meth c H locs cells slots Q (F0 m pc ls (.ref (ad 1) :: rest)) :=
  va_get (D := D) (ci := 0) (v := .int (u.1 4)) (C := RP) (T := FP) (N := 6) hc.1 hc.2.1 hc.2.2.2.2 inP hc.2.2.2.1 hw.2.2.2.1 hw.1 1 rfl rfl 3 (by decide) (hc.2.2.2.2 (.fieldLink RP 18 "TierStore$Tapes" "held" "I") (by decide +kernel)) (fun _ h9 => h9) rfl hdg kk
theorem gP_25 (hc : CallFix p m c cc nL s args uW RP) (hn : nx s) (hw : ts_W tF D ca ad A s H locs u) (hdg : decode cc pc = .ok (.getfield 25, 3)) (kk : W p l e R s m args below meth c H locs cells slots Q (F0 m (pc + 3) ls (.int (u.1 6) :: rest))) : W p l e R s m args below meth c H locs cells slots Q (F0 m pc ls (.ref (ad 1) :: rest)) :=
  va_get (D := D) (ci := 0) (v := .int (u.1 6)) (C := RP) (T := FP) (N := 6) hc.1 hc.2.1 hc.2.2.2.2 inP hc.2.2.2.1 hw.2.2.2.1 hw.1 1 rfl rfl 5 (by decide) (hc.2.2.2.2 (.fieldLink RP 25 "TierStore$Tapes" "cost" "I") (by decide +kernel)) (fun _ h9 => h9) rfl hdg kk
theorem pP_25 (hc : CallFix p m c cc nL s args uW RP) (hn : nx s) (hw : ts_W tF D ca ad A s H locs u) {v : Int32} (hdg : decode cc pc = .ok (.putfield 25, 3)) (kk : ∀ (H1 : Heap) (locs1 : List Loc), ts_W tF D ca ad A s H1 locs1 (ts_p 6 v u) → W p l e R s m args below meth c H1 locs1 cells slots Q (F0 m (pc + 3) ls rest)) : W p l e R s m args below meth c H locs cells slots Q (F0 m pc ls (.int v :: .ref (ad 1) :: rest)) :=
  va_put (D := D) (ci := 0) (v := .int v) (ty := .int) (C := RP) (T := FP) (N := 6) hc.1 hc.2.1 hc.2.2.2.2 inP tP tP_ok nP hc.2.2.2.1 hw.2.2.2.1 hw.1 hw.2.1 hw.2.2.1 1 rfl rfl 5 (by decide) (hc.2.2.2.2 (.fieldLink RP 25 "TierStore$Tapes" "cost" "I") (by decide +kernel)) (fun _ h9 => h9) rfl (by decide +kernel) rfl rfl (Nat.le_of_ble_eq_true rfl) hdg (fun H1 locs1 a b c => kk H1 locs1 ⟨a, b, c, hw.2.2.2⟩)
theorem pP_18 (hc : CallFix p m c cc nL s args uW RP) (hn : nx s) (hw : ts_W tF D ca ad A s H locs u) {v : Int32} (hdg : decode cc pc = .ok (.putfield 18, 3)) (kk : ∀ (H1 : Heap) (locs1 : List Loc), ts_W tF D ca ad A s H1 locs1 (ts_p 4 v u) → W p l e R s m args below meth c H1 locs1 cells slots Q (F0 m (pc + 3) ls rest)) : W p l e R s m args below meth c H locs cells slots Q (F0 m pc ls (.int v :: .ref (ad 1) :: rest)) :=
  va_put (D := D) (ci := 0) (v := .int v) (ty := .int) (C := RP) (T := FP) (N := 6) hc.1 hc.2.1 hc.2.2.2.2 inP tP tP_ok nP hc.2.2.2.1 hw.2.2.2.1 hw.1 hw.2.1 hw.2.2.1 1 rfl rfl 3 (by decide) (hc.2.2.2.2 (.fieldLink RP 18 "TierStore$Tapes" "held" "I") (by decide +kernel)) (fun _ h9 => h9) rfl (by decide +kernel) rfl rfl (Nat.le_of_ble_eq_true rfl) hdg (fun H1 locs1 a b c => kk H1 locs1 ⟨a, b, c, hw.2.2.2⟩)
theorem pP_22 (hc : CallFix p m c cc nL s args uW RP) (hn : nx s) (hw : ts_W tF D ca ad A s H locs u) {v : Int32} (hdg : decode cc pc = .ok (.putfield 22, 3)) (kk : ∀ (H1 : Heap) (locs1 : List Loc), ts_W tF D ca ad A s H1 locs1 (ts_p 5 v u) → W p l e R s m args below meth c H1 locs1 cells slots Q (F0 m (pc + 3) ls rest)) : W p l e R s m args below meth c H locs cells slots Q (F0 m pc ls (.int v :: .ref (ad 1) :: rest)) :=
  va_put (D := D) (ci := 0) (v := .int v) (ty := .int) (C := RP) (T := FP) (N := 6) hc.1 hc.2.1 hc.2.2.2.2 inP tP tP_ok nP hc.2.2.2.1 hw.2.2.2.1 hw.1 hw.2.1 hw.2.2.1 1 rfl rfl 4 (by decide) (hc.2.2.2.2 (.fieldLink RP 22 "TierStore$Tapes" "head" "I") (by decide +kernel)) (fun _ h9 => h9) rfl (by decide +kernel) rfl rfl (Nat.le_of_ble_eq_true rfl) hdg (fun H1 locs1 a b c => kk H1 locs1 ⟨a, b, c, hw.2.2.2⟩)
theorem gP_22 (hc : CallFix p m c cc nL s args uW RP) (hn : nx s) (hw : ts_W tF D ca ad A s H locs u) (hdg : decode cc pc = .ok (.getfield 22, 3)) (kk : W p l e R s m args below meth c H locs cells slots Q (F0 m (pc + 3) ls (.int (u.1 5) :: rest))) : W p l e R s m args below meth c H locs cells slots Q (F0 m pc ls (.ref (ad 1) :: rest)) :=
  va_get (D := D) (ci := 0) (v := .int (u.1 5)) (C := RP) (T := FP) (N := 6) hc.1 hc.2.1 hc.2.2.2.2 inP hc.2.2.2.1 hw.2.2.2.1 hw.1 1 rfl rfl 4 (by decide) (hc.2.2.2.2 (.fieldLink RP 22 "TierStore$Tapes" "head" "I") (by decide +kernel)) (fun _ h9 => h9) rfl hdg kk
theorem gP_9 (hc : CallFix p m c cc nL s args uW RP) (hn : nx s) (hw : ts_W tF D ca ad A s H locs u) (hdg : decode cc pc = .ok (.getfield 9, 3)) (kk : W p l e R s m args below meth c H locs cells slots Q (F0 m (pc + 3) ls (.ref (ad 10) :: rest))) : W p l e R s m args below meth c H locs cells slots Q (F0 m pc ls (.ref (ad 1) :: rest)) :=
  va_get (D := D) (ci := 0) (v := .ref (ad 10)) (C := RP) (T := FP) (N := 6) hc.1 hc.2.1 hc.2.2.2.2 inP hc.2.2.2.1 hw.2.2.2.1 hw.1 1 rfl rfl 1 (by decide) (hc.2.2.2.2 (.fieldLink RP 9 "TierStore$Tapes" "ends" "[I") (by decide +kernel)) (fun _ h9 => h9) rfl hdg kk
theorem gP_28 (hc : CallFix p m c cc nL s args uW RP) (hn : nx s) (hw : ts_W tF D ca ad A s H locs u) (hdg : decode cc pc = .ok (.getfield 28, 3)) (kk : W p l e R s m args below meth c H locs cells slots Q (F0 m (pc + 3) ls (.int (u.1 3) :: rest))) : W p l e R s m args below meth c H locs cells slots Q (F0 m pc ls (.ref (ad 1) :: rest)) :=
  va_get (D := D) (ci := 0) (v := .int (u.1 3)) (C := RP) (T := FP) (N := 6) hc.1 hc.2.1 hc.2.2.2.2 inP hc.2.2.2.1 hw.2.2.2.1 hw.1 1 rfl rfl 0 (by decide) (hc.2.2.2.2 (.fieldLink RP 28 "TierStore$Tapes" "length" "I") (by decide +kernel)) (fun _ h9 => h9) rfl hdg kk
theorem gP_15 (hc : CallFix p m c cc nL s args uW RP) (hn : nx s) (hw : ts_W tF D ca ad A s H locs u) (hdg : decode cc pc = .ok (.getfield 15, 3)) (kk : W p l e R s m args below meth c H locs cells slots Q (F0 m (pc + 3) ls (.ref (ad 11) :: rest))) : W p l e R s m args below meth c H locs cells slots Q (F0 m pc ls (.ref (ad 1) :: rest)) :=
  va_get (D := D) (ci := 0) (v := .ref (ad 11)) (C := RP) (T := FP) (N := 6) hc.1 hc.2.1 hc.2.2.2.2 inP hc.2.2.2.1 hw.2.2.2.1 hw.1 1 rfl rfl 2 (by decide) (hc.2.2.2.2 (.fieldLink RP 15 "TierStore$Tapes" "trialEnds" "[I") (by decide +kernel)) (fun _ h9 => h9) rfl hdg kk
theorem gM_7 (hc : CallFix p m c cc nL s args uW RM) (hn : nx s) (hw : ts_W mF D ca ad A s H locs u) (hdg : decode cc pc = .ok (.getfield 7, 3)) (kk : W p l e R s m args below meth c H locs cells slots Q (F0 m (pc + 3) ls (.ref (ad 2) :: rest))) : W p l e R s m args below meth c H locs cells slots Q (F0 m pc ls (.ref (ad 0) :: rest)) :=
  va_get (D := D) (ci := 2) (v := .ref (ad 2)) (C := RM) (T := FM) (N := 16) hc.1 hc.2.1 hc.2.2.2.2 inM hc.2.2.2.1 hw.2.2.2.1 hw.1 0 rfl rfl 2 (by decide) (hc.2.2.2.2 (.fieldLink RM 7 "TierStoreModel" "state" "[I") (by decide +kernel)) (fun _ h9 => h9) rfl hdg kk
theorem gM_13 (hc : CallFix p m c cc nL s args uW RM) (hn : nx s) (hw : ts_W mF D ca ad A s H locs u) (hdg : decode cc pc = .ok (.getfield 13, 3)) (kk : W p l e R s m args below meth c H locs cells slots Q (F0 m (pc + 3) ls (.ref (ad 3) :: rest))) : W p l e R s m args below meth c H locs cells slots Q (F0 m pc ls (.ref (ad 0) :: rest)) :=
  va_get (D := D) (ci := 2) (v := .ref (ad 3)) (C := RM) (T := FM) (N := 16) hc.1 hc.2.1 hc.2.2.2.2 inM hc.2.2.2.1 hw.2.2.2.1 hw.1 0 rfl rfl 3 (by decide) (hc.2.2.2.2 (.fieldLink RM 13 "TierStoreModel" "size" "[I") (by decide +kernel)) (fun _ h9 => h9) rfl hdg kk
theorem gM_55 (hc : CallFix p m c cc nL s args uW RM) (hn : nx s) (hw : ts_W mF D ca ad A s H locs u) (hdg : decode cc pc = .ok (.getfield 55, 3)) (kk : W p l e R s m args below meth c H locs cells slots Q (F0 m (pc + 3) ls (.int (u.1 1) :: rest))) : W p l e R s m args below meth c H locs cells slots Q (F0 m pc ls (.ref (ad 0) :: rest)) :=
  va_get (D := D) (ci := 2) (v := .int (u.1 1)) (C := RM) (T := FM) (N := 16) hc.1 hc.2.1 hc.2.2.2.2 inM hc.2.2.2.1 hw.2.2.2.1 hw.1 0 rfl rfl 12 (by decide) (hc.2.2.2.2 (.fieldLink RM 55 "TierStoreModel" "uses" "I") (by decide +kernel)) (fun _ h9 => h9) rfl hdg kk
theorem pM_55 (hc : CallFix p m c cc nL s args uW RM) (hn : nx s) (hw : ts_W mF D ca ad A s H locs u) {v : Int32} (hdg : decode cc pc = .ok (.putfield 55, 3)) (kk : ∀ (H1 : Heap) (locs1 : List Loc), ts_W mF D ca ad A s H1 locs1 (ts_p 1 v u) → W p l e R s m args below meth c H1 locs1 cells slots Q (F0 m (pc + 3) ls rest)) : W p l e R s m args below meth c H locs cells slots Q (F0 m pc ls (.int v :: .ref (ad 0) :: rest)) :=
  va_put (D := D) (ci := 2) (v := .int v) (ty := .int) (C := RM) (T := FM) (N := 16) hc.1 hc.2.1 hc.2.2.2.2 inM tM tM_ok nM hc.2.2.2.1 hw.2.2.2.1 hw.1 hw.2.1 hw.2.2.1 0 rfl rfl 12 (by decide) (hc.2.2.2.2 (.fieldLink RM 55 "TierStoreModel" "uses" "I") (by decide +kernel)) (fun _ h9 => h9) rfl (by decide +kernel) rfl rfl (Nat.le_of_ble_eq_true rfl) hdg (fun H1 locs1 a b c => kk H1 locs1 ⟨a, b, c, hw.2.2.2⟩)
theorem gM_19 (hc : CallFix p m c cc nL s args uW RM) (hn : nx s) (hw : ts_W mF D ca ad A s H locs u) (hdg : decode cc pc = .ok (.getfield 19, 3)) (kk : W p l e R s m args below meth c H locs cells slots Q (F0 m (pc + 3) ls (.ref (ad 8) :: rest))) : W p l e R s m args below meth c H locs cells slots Q (F0 m pc ls (.ref (ad 0) :: rest)) :=
  va_get (D := D) (ci := 2) (v := .ref (ad 8)) (C := RM) (T := FM) (N := 16) hc.1 hc.2.1 hc.2.2.2.2 inM hc.2.2.2.1 hw.2.2.2.1 hw.1 0 rfl rfl 5 (by decide) (hc.2.2.2.2 (.fieldLink RM 19 "TierStoreModel" "used" "[I") (by decide +kernel)) (fun _ h9 => h9) rfl hdg kk
theorem gM_45 (hc : CallFix p m c cc nL s args uW RM) (hn : nx s) (hw : ts_W mF D ca ad A s H locs u) (hdg : decode cc pc = .ok (.getfield 45, 3)) (kk : W p l e R s m args below meth c H locs cells slots Q (F0 m (pc + 3) ls (.int (u.1 0) :: rest))) : W p l e R s m args below meth c H locs cells slots Q (F0 m pc ls (.ref (ad 0) :: rest)) :=
  va_get (D := D) (ci := 2) (v := .int (u.1 0)) (C := RM) (T := FM) (N := 16) hc.1 hc.2.1 hc.2.2.2.2 inM hc.2.2.2.1 hw.2.2.2.1 hw.1 0 rfl rfl 0 (by decide) (hc.2.2.2.2 (.fieldLink RM 45 "TierStoreModel" "room" "I") (by decide +kernel)) (fun _ h9 => h9) rfl hdg kk
theorem gM_41 (hc : CallFix p m c cc nL s args uW RM) (hn : nx s) (hw : ts_W mF D ca ad A s H locs u) (hdg : decode cc pc = .ok (.getfield 41, 3)) (kk : W p l e R s m args below meth c H locs cells slots Q (F0 m (pc + 3) ls (.int (u.1 4) :: rest))) : W p l e R s m args below meth c H locs cells slots Q (F0 m pc ls (.ref (ad 0) :: rest)) :=
  va_get (D := D) (ci := 2) (v := .int (u.1 4)) (C := RM) (T := FM) (N := 16) hc.1 hc.2.1 hc.2.2.2.2 inM hc.2.2.2.1 hw.2.2.2.1 hw.1 0 rfl rfl 13 (by decide) (hc.2.2.2.2 (.fieldLink RM 41 "TierStoreModel" "drive" "I") (by decide +kernel)) (fun _ h9 => h9) rfl hdg kk
theorem gM_66 (hc : CallFix p m c cc nL s args uW RM) (hn : nx s) (hw : ts_W mF D ca ad A s H locs u) (hdg : decode cc pc = .ok (.getfield 66, 3)) (kk : W p l e R s m args below meth c H locs cells slots Q (F0 m (pc + 3) ls (.int (u.1 6) :: rest))) : W p l e R s m args below meth c H locs cells slots Q (F0 m pc ls (.ref (ad 0) :: rest)) :=
  va_get (D := D) (ci := 2) (v := .int (u.1 6)) (C := RM) (T := FM) (N := 16) hc.1 hc.2.1 hc.2.2.2.2 inM hc.2.2.2.1 hw.2.2.2.1 hw.1 0 rfl rfl 15 (by decide) (hc.2.2.2.2 (.fieldLink RM 66 "TierStoreModel" "cost" "I") (by decide +kernel)) (fun _ h9 => h9) rfl hdg kk
theorem pM_66 (hc : CallFix p m c cc nL s args uW RM) (hn : nx s) (hw : ts_W mF D ca ad A s H locs u) {v : Int32} (hdg : decode cc pc = .ok (.putfield 66, 3)) (kk : ∀ (H1 : Heap) (locs1 : List Loc), ts_W mF D ca ad A s H1 locs1 (ts_p 6 v u) → W p l e R s m args below meth c H1 locs1 cells slots Q (F0 m (pc + 3) ls rest)) : W p l e R s m args below meth c H locs cells slots Q (F0 m pc ls (.int v :: .ref (ad 0) :: rest)) :=
  va_put (D := D) (ci := 2) (v := .int v) (ty := .int) (C := RM) (T := FM) (N := 16) hc.1 hc.2.1 hc.2.2.2.2 inM tM tM_ok nM hc.2.2.2.1 hw.2.2.2.1 hw.1 hw.2.1 hw.2.2.1 0 rfl rfl 15 (by decide) (hc.2.2.2.2 (.fieldLink RM 66 "TierStoreModel" "cost" "I") (by decide +kernel)) (fun _ h9 => h9) rfl (by decide +kernel) rfl rfl (Nat.le_of_ble_eq_true rfl) hdg (fun H1 locs1 a b c => kk H1 locs1 ⟨a, b, c, hw.2.2.2⟩)
theorem pM_41 (hc : CallFix p m c cc nL s args uW RM) (hn : nx s) (hw : ts_W mF D ca ad A s H locs u) {v : Int32} (hdg : decode cc pc = .ok (.putfield 41, 3)) (kk : ∀ (H1 : Heap) (locs1 : List Loc), ts_W mF D ca ad A s H1 locs1 (ts_p 4 v u) → W p l e R s m args below meth c H1 locs1 cells slots Q (F0 m (pc + 3) ls rest)) : W p l e R s m args below meth c H locs cells slots Q (F0 m pc ls (.int v :: .ref (ad 0) :: rest)) :=
  va_put (D := D) (ci := 2) (v := .int v) (ty := .int) (C := RM) (T := FM) (N := 16) hc.1 hc.2.1 hc.2.2.2.2 inM tM tM_ok nM hc.2.2.2.1 hw.2.2.2.1 hw.1 hw.2.1 hw.2.2.1 0 rfl rfl 13 (by decide) (hc.2.2.2.2 (.fieldLink RM 41 "TierStoreModel" "drive" "I") (by decide +kernel)) (fun _ h9 => h9) rfl (by decide +kernel) rfl rfl (Nat.le_of_ble_eq_true rfl) hdg (fun H1 locs1 a b c => kk H1 locs1 ⟨a, b, c, hw.2.2.2⟩)
theorem pM_69 (hc : CallFix p m c cc nL s args uW RM) (hn : nx s) (hw : ts_W mF D ca ad A s H locs u) {v : Int32} (hdg : decode cc pc = .ok (.putfield 69, 3)) (kk : ∀ (H1 : Heap) (locs1 : List Loc), ts_W mF D ca ad A s H1 locs1 (ts_p 5 v u) → W p l e R s m args below meth c H1 locs1 cells slots Q (F0 m (pc + 3) ls rest)) : W p l e R s m args below meth c H locs cells slots Q (F0 m pc ls (.int v :: .ref (ad 0) :: rest)) :=
  va_put (D := D) (ci := 2) (v := .int v) (ty := .int) (C := RM) (T := FM) (N := 16) hc.1 hc.2.1 hc.2.2.2.2 inM tM tM_ok nM hc.2.2.2.1 hw.2.2.2.1 hw.1 hw.2.1 hw.2.2.1 0 rfl rfl 14 (by decide) (hc.2.2.2.2 (.fieldLink RM 69 "TierStoreModel" "head" "I") (by decide +kernel)) (fun _ h9 => h9) rfl (by decide +kernel) rfl rfl (Nat.le_of_ble_eq_true rfl) hdg (fun H1 locs1 a b c => kk H1 locs1 ⟨a, b, c, hw.2.2.2⟩)
theorem gM_69 (hc : CallFix p m c cc nL s args uW RM) (hn : nx s) (hw : ts_W mF D ca ad A s H locs u) (hdg : decode cc pc = .ok (.getfield 69, 3)) (kk : W p l e R s m args below meth c H locs cells slots Q (F0 m (pc + 3) ls (.int (u.1 5) :: rest))) : W p l e R s m args below meth c H locs cells slots Q (F0 m pc ls (.ref (ad 0) :: rest)) :=
  va_get (D := D) (ci := 2) (v := .int (u.1 5)) (C := RM) (T := FM) (N := 16) hc.1 hc.2.1 hc.2.2.2.2 inM hc.2.2.2.1 hw.2.2.2.1 hw.1 0 rfl rfl 14 (by decide) (hc.2.2.2.2 (.fieldLink RM 69 "TierStoreModel" "head" "I") (by decide +kernel)) (fun _ h9 => h9) rfl hdg kk
theorem gM_22 (hc : CallFix p m c cc nL s args uW RM) (hn : nx s) (hw : ts_W mF D ca ad A s H locs u) (hdg : decode cc pc = .ok (.getfield 22, 3)) (kk : W p l e R s m args below meth c H locs cells slots Q (F0 m (pc + 3) ls (.ref (ad 5) :: rest))) : W p l e R s m args below meth c H locs cells slots Q (F0 m pc ls (.ref (ad 0) :: rest)) :=
  va_get (D := D) (ci := 2) (v := .ref (ad 5)) (C := RM) (T := FM) (N := 16) hc.1 hc.2.1 hc.2.2.2.2 inM hc.2.2.2.1 hw.2.2.2.1 hw.1 0 rfl rfl 6 (by decide) (hc.2.2.2.2 (.fieldLink RM 22 "TierStoreModel" "where" "[I") (by decide +kernel)) (fun _ h9 => h9) rfl hdg kk
theorem gM_25 (hc : CallFix p m c cc nL s args uW RM) (hn : nx s) (hw : ts_W mF D ca ad A s H locs u) (hdg : decode cc pc = .ok (.getfield 25, 3)) (kk : W p l e R s m args below meth c H locs cells slots Q (F0 m (pc + 3) ls (.ref (ad 6) :: rest))) : W p l e R s m args below meth c H locs cells slots Q (F0 m pc ls (.ref (ad 0) :: rest)) :=
  va_get (D := D) (ci := 2) (v := .ref (ad 6)) (C := RM) (T := FM) (N := 16) hc.1 hc.2.1 hc.2.2.2.2 inM hc.2.2.2.1 hw.2.2.2.1 hw.1 0 rfl rfl 7 (by decide) (hc.2.2.2.2 (.fieldLink RM 25 "TierStoreModel" "place" "[I") (by decide +kernel)) (fun _ h9 => h9) rfl hdg kk
theorem gM_32 (hc : CallFix p m c cc nL s args uW RM) (hn : nx s) (hw : ts_W mF D ca ad A s H locs u) (hdg : decode cc pc = .ok (.getfield 32, 3)) (kk : W p l e R s m args below meth c H locs cells slots Q (F0 m (pc + 3) ls (.ref (ad 10) :: rest))) : W p l e R s m args below meth c H locs cells slots Q (F0 m pc ls (.ref (ad 0) :: rest)) :=
  va_get (D := D) (ci := 2) (v := .ref (ad 10)) (C := RM) (T := FM) (N := 16) hc.1 hc.2.1 hc.2.2.2.2 inM hc.2.2.2.1 hw.2.2.2.1 hw.1 0 rfl rfl 9 (by decide) (hc.2.2.2.2 (.fieldLink RM 32 "TierStoreModel" "end" "[I") (by decide +kernel)) (fun _ h9 => h9) rfl hdg kk
theorem gM_48 (hc : CallFix p m c cc nL s args uW RM) (hn : nx s) (hw : ts_W mF D ca ad A s H locs u) (hdg : decode cc pc = .ok (.getfield 48, 3)) (kk : W p l e R s m args below meth c H locs cells slots Q (F0 m (pc + 3) ls (.int (u.1 3) :: rest))) : W p l e R s m args below meth c H locs cells slots Q (F0 m pc ls (.ref (ad 0) :: rest)) :=
  va_get (D := D) (ci := 2) (v := .int (u.1 3)) (C := RM) (T := FM) (N := 16) hc.1 hc.2.1 hc.2.2.2.2 inM hc.2.2.2.1 hw.2.2.2.1 hw.1 0 rfl rfl 1 (by decide) (hc.2.2.2.2 (.fieldLink RM 48 "TierStoreModel" "length" "I") (by decide +kernel)) (fun _ h9 => h9) rfl hdg kk
theorem gM_16 (hc : CallFix p m c cc nL s args uW RM) (hn : nx s) (hw : ts_W mF D ca ad A s H locs u) (hdg : decode cc pc = .ok (.getfield 16, 3)) (kk : W p l e R s m args below meth c H locs cells slots Q (F0 m (pc + 3) ls (.ref (ad 4) :: rest))) : W p l e R s m args below meth c H locs cells slots Q (F0 m pc ls (.ref (ad 0) :: rest)) :=
  va_get (D := D) (ci := 2) (v := .ref (ad 4)) (C := RM) (T := FM) (N := 16) hc.1 hc.2.1 hc.2.2.2.2 inM hc.2.2.2.1 hw.2.2.2.1 hw.1 0 rfl rfl 4 (by decide) (hc.2.2.2.2 (.fieldLink RM 16 "TierStoreModel" "cell" "[I") (by decide +kernel)) (fun _ h9 => h9) rfl hdg kk
theorem gM_28 (hc : CallFix p m c cc nL s args uW RM) (hn : nx s) (hw : ts_W mF D ca ad A s H locs u) (hdg : decode cc pc = .ok (.getfield 28, 3)) (kk : W p l e R s m args below meth c H locs cells slots Q (F0 m (pc + 3) ls (.ref (ad 7) :: rest))) : W p l e R s m args below meth c H locs cells slots Q (F0 m pc ls (.ref (ad 0) :: rest)) :=
  va_get (D := D) (ci := 2) (v := .ref (ad 7)) (C := RM) (T := FM) (N := 16) hc.1 hc.2.1 hc.2.2.2.2 inM hc.2.2.2.1 hw.2.2.2.1 hw.1 0 rfl rfl 8 (by decide) (hc.2.2.2.2 (.fieldLink RM 28 "TierStoreModel" "waits" "[Z") (by decide +kernel)) (fun _ h9 => h9) rfl hdg kk
theorem gM_38 (hc : CallFix p m c cc nL s args uW RM) (hn : nx s) (hw : ts_W mF D ca ad A s H locs u) (hdg : decode cc pc = .ok (.getfield 38, 3)) (kk : W p l e R s m args below meth c H locs cells slots Q (F0 m (pc + 3) ls (.ref (ad 9) :: rest))) : W p l e R s m args below meth c H locs cells slots Q (F0 m pc ls (.ref (ad 0) :: rest)) :=
  va_get (D := D) (ci := 2) (v := .ref (ad 9)) (C := RM) (T := FM) (N := 16) hc.1 hc.2.1 hc.2.2.2.2 inM hc.2.2.2.1 hw.2.2.2.1 hw.1 0 rfl rfl 11 (by decide) (hc.2.2.2.2 (.fieldLink RM 38 "TierStoreModel" "order" "[I") (by decide +kernel)) (fun _ h9 => h9) rfl hdg kk
theorem gM_35 (hc : CallFix p m c cc nL s args uW RM) (hn : nx s) (hw : ts_W mF D ca ad A s H locs u) (hdg : decode cc pc = .ok (.getfield 35, 3)) (kk : W p l e R s m args below meth c H locs cells slots Q (F0 m (pc + 3) ls (.ref (ad 11) :: rest))) : W p l e R s m args below meth c H locs cells slots Q (F0 m pc ls (.ref (ad 0) :: rest)) :=
  va_get (D := D) (ci := 2) (v := .ref (ad 11)) (C := RM) (T := FM) (N := 16) hc.1 hc.2.1 hc.2.2.2.2 inM hc.2.2.2.1 hw.2.2.2.1 hw.1 0 rfl rfl 10 (by decide) (hc.2.2.2.2 (.fieldLink RM 35 "TierStoreModel" "tried" "[I") (by decide +kernel)) (fun _ h9 => h9) rfl hdg kk
end
section
variable {p : Program} {l : Launch} {e : Env} {R : Room} {s : State} {m : MethodId} {args : Array Value} {below : List Frame} {meth : Method} {c : Code} {H : Heap} {locs : List Loc} {Q : State → Prop} {cc : ByteArray} {pc nL : Nat} {ls : Array Slot} {rest : List Value} {D : va_G} {ca : Nat → ClassId} {ad : Nat → Nat} {A : Nat → Prop} {u : ts_S} {cells slots : Nat}
theorem tt_l2 {own : String} (hc : CallFix p m c cc nL s args uW own) (hw : ts_W tF D ca ad A s H locs u) {i : Int32} (h : vp_in i 16) (hdg : decode cc pc = .ok (.iaload, 1)) (kk : W p l e R s m args below meth c H locs cells slots Q (F0 m (pc + 1) ls (.int (u.2 2 i.toNatClampNeg) :: rest))) : W p l e R s m args below meth c H locs cells slots Q (F0 m pc ls (.int i :: .ref (ad 2) :: rest)) :=
  va_iald hc.1 hc.2.1 hw.2.2.2.1 hw.1 2 0 rfl rfl h hdg kk
theorem tt_s2 {own : String} (hc : CallFix p m c cc nL s args uW own) (hw : ts_W tF D ca ad A s H locs u) {i x : Int32} (h : vp_in i 16) (hdg : decode cc pc = .ok (.iastore, 1)) (kk : ∀ (H1 : Heap) (locs1 : List Loc), ts_W tF D ca ad A s H1 locs1 (ts_a 2 i.toNatClampNeg x u) → W p l e R s m args below meth c H1 locs1 cells slots Q (F0 m (pc + 1) ls rest)) : W p l e R s m args below meth c H locs cells slots Q (F0 m pc ls (.int x :: .int i :: .ref (ad 2) :: rest)) := by
  refine va_iast hc.1 hc.2.1 hw.2.2.2.1 hw.1 hw.2.1 hw.2.2.1 2 0 rfl rfl h hdg (fun H1 locs1 a b c => kk H1 locs1 ?_)
  exact ⟨cast (congrArg (fun z => va_P D vwCl z H1) (tt_e2 ad ca u _ _)) a, cast (congrArg (fun z => va_D A z) (tt_e2 ad ca u _ _)) b, c, hw.2.2.2⟩
theorem tt_l3 {own : String} (hc : CallFix p m c cc nL s args uW own) (hw : ts_W tF D ca ad A s H locs u) {i : Int32} (h : vp_in i 16) (hdg : decode cc pc = .ok (.iaload, 1)) (kk : W p l e R s m args below meth c H locs cells slots Q (F0 m (pc + 1) ls (.int (u.2 3 i.toNatClampNeg) :: rest))) : W p l e R s m args below meth c H locs cells slots Q (F0 m pc ls (.int i :: .ref (ad 3) :: rest)) :=
  va_iald hc.1 hc.2.1 hw.2.2.2.1 hw.1 3 1 rfl rfl h hdg kk
theorem tt_s3 {own : String} (hc : CallFix p m c cc nL s args uW own) (hw : ts_W tF D ca ad A s H locs u) {i x : Int32} (h : vp_in i 16) (hdg : decode cc pc = .ok (.iastore, 1)) (kk : ∀ (H1 : Heap) (locs1 : List Loc), ts_W tF D ca ad A s H1 locs1 (ts_a 3 i.toNatClampNeg x u) → W p l e R s m args below meth c H1 locs1 cells slots Q (F0 m (pc + 1) ls rest)) : W p l e R s m args below meth c H locs cells slots Q (F0 m pc ls (.int x :: .int i :: .ref (ad 3) :: rest)) := by
  refine va_iast hc.1 hc.2.1 hw.2.2.2.1 hw.1 hw.2.1 hw.2.2.1 3 1 rfl rfl h hdg (fun H1 locs1 a b c => kk H1 locs1 ?_)
  exact ⟨cast (congrArg (fun z => va_P D vwCl z H1) (tt_e3 ad ca u _ _)) a, cast (congrArg (fun z => va_D A z) (tt_e3 ad ca u _ _)) b, c, hw.2.2.2⟩
theorem tt_l5 {own : String} (hc : CallFix p m c cc nL s args uW own) (hw : ts_W tF D ca ad A s H locs u) {i : Int32} (h : vp_in i 16) (hdg : decode cc pc = .ok (.iaload, 1)) (kk : W p l e R s m args below meth c H locs cells slots Q (F0 m (pc + 1) ls (.int (u.2 5 i.toNatClampNeg) :: rest))) : W p l e R s m args below meth c H locs cells slots Q (F0 m pc ls (.int i :: .ref (ad 5) :: rest)) :=
  va_iald hc.1 hc.2.1 hw.2.2.2.1 hw.1 5 3 rfl rfl h hdg kk
theorem tt_s5 {own : String} (hc : CallFix p m c cc nL s args uW own) (hw : ts_W tF D ca ad A s H locs u) {i x : Int32} (h : vp_in i 16) (hdg : decode cc pc = .ok (.iastore, 1)) (kk : ∀ (H1 : Heap) (locs1 : List Loc), ts_W tF D ca ad A s H1 locs1 (ts_a 5 i.toNatClampNeg x u) → W p l e R s m args below meth c H1 locs1 cells slots Q (F0 m (pc + 1) ls rest)) : W p l e R s m args below meth c H locs cells slots Q (F0 m pc ls (.int x :: .int i :: .ref (ad 5) :: rest)) := by
  refine va_iast hc.1 hc.2.1 hw.2.2.2.1 hw.1 hw.2.1 hw.2.2.1 5 3 rfl rfl h hdg (fun H1 locs1 a b c => kk H1 locs1 ?_)
  exact ⟨cast (congrArg (fun z => va_P D vwCl z H1) (tt_e5 ad ca u _ _)) a, cast (congrArg (fun z => va_D A z) (tt_e5 ad ca u _ _)) b, c, hw.2.2.2⟩
theorem tt_l6 {own : String} (hc : CallFix p m c cc nL s args uW own) (hw : ts_W tF D ca ad A s H locs u) {i : Int32} (h : vp_in i 16) (hdg : decode cc pc = .ok (.iaload, 1)) (kk : W p l e R s m args below meth c H locs cells slots Q (F0 m (pc + 1) ls (.int (u.2 6 i.toNatClampNeg) :: rest))) : W p l e R s m args below meth c H locs cells slots Q (F0 m pc ls (.int i :: .ref (ad 6) :: rest)) :=
  va_iald hc.1 hc.2.1 hw.2.2.2.1 hw.1 6 4 rfl rfl h hdg kk
theorem tt_s6 {own : String} (hc : CallFix p m c cc nL s args uW own) (hw : ts_W tF D ca ad A s H locs u) {i x : Int32} (h : vp_in i 16) (hdg : decode cc pc = .ok (.iastore, 1)) (kk : ∀ (H1 : Heap) (locs1 : List Loc), ts_W tF D ca ad A s H1 locs1 (ts_a 6 i.toNatClampNeg x u) → W p l e R s m args below meth c H1 locs1 cells slots Q (F0 m (pc + 1) ls rest)) : W p l e R s m args below meth c H locs cells slots Q (F0 m pc ls (.int x :: .int i :: .ref (ad 6) :: rest)) := by
  refine va_iast hc.1 hc.2.1 hw.2.2.2.1 hw.1 hw.2.1 hw.2.2.1 6 4 rfl rfl h hdg (fun H1 locs1 a b c => kk H1 locs1 ?_)
  exact ⟨cast (congrArg (fun z => va_P D vwCl z H1) (tt_e6 ad ca u _ _)) a, cast (congrArg (fun z => va_D A z) (tt_e6 ad ca u _ _)) b, c, hw.2.2.2⟩
theorem tt_l7 {own : String} (hc : CallFix p m c cc nL s args uW own) (hw : ts_W tF D ca ad A s H locs u) {i : Int32} (h : vp_in i 16) (hdg : decode cc pc = .ok (.baload, 1)) (kk : W p l e R s m args below meth c H locs cells slots Q (F0 m (pc + 1) ls (.int (u.2 7 i.toNatClampNeg) :: rest))) : W p l e R s m args below meth c H locs cells slots Q (F0 m pc ls (.int i :: .ref (ad 7) :: rest)) :=
  va_zald hc.1 hc.2.1 hw.2.2.2.1 hw.1 7 5 rfl rfl h hdg kk
theorem tt_s7 {own : String} (hc : CallFix p m c cc nL s args uW own) (hw : ts_W tF D ca ad A s H locs u) {i x : Int32} (h : vp_in i 16) (hz : vp_nar .boolean x = x) (hdg : decode cc pc = .ok (.bastore, 1)) (kk : ∀ (H1 : Heap) (locs1 : List Loc), ts_W tF D ca ad A s H1 locs1 (ts_a 7 i.toNatClampNeg x u) → W p l e R s m args below meth c H1 locs1 cells slots Q (F0 m (pc + 1) ls rest)) : W p l e R s m args below meth c H locs cells slots Q (F0 m pc ls (.int x :: .int i :: .ref (ad 7) :: rest)) := by
  refine va_zast hc.1 hc.2.1 hw.2.2.2.1 hw.1 hw.2.1 hw.2.2.1 7 5 rfl rfl h hdg (fun H1 locs1 a b c => kk H1 locs1 ?_)
  rw [hz] at a b
  exact ⟨cast (congrArg (fun z => va_P D vwCl z H1) (tt_e7 ad ca u _ _)) a, cast (congrArg (fun z => va_D A z) (tt_e7 ad ca u _ _)) b, c, hw.2.2.2⟩
theorem tt_l8 {own : String} (hc : CallFix p m c cc nL s args uW own) (hw : ts_W tF D ca ad A s H locs u) {i : Int32} (h : vp_in i 16) (hdg : decode cc pc = .ok (.iaload, 1)) (kk : W p l e R s m args below meth c H locs cells slots Q (F0 m (pc + 1) ls (.int (u.2 8 i.toNatClampNeg) :: rest))) : W p l e R s m args below meth c H locs cells slots Q (F0 m pc ls (.int i :: .ref (ad 8) :: rest)) :=
  va_iald hc.1 hc.2.1 hw.2.2.2.1 hw.1 8 6 rfl rfl h hdg kk
theorem tt_s8 {own : String} (hc : CallFix p m c cc nL s args uW own) (hw : ts_W tF D ca ad A s H locs u) {i x : Int32} (h : vp_in i 16) (hdg : decode cc pc = .ok (.iastore, 1)) (kk : ∀ (H1 : Heap) (locs1 : List Loc), ts_W tF D ca ad A s H1 locs1 (ts_a 8 i.toNatClampNeg x u) → W p l e R s m args below meth c H1 locs1 cells slots Q (F0 m (pc + 1) ls rest)) : W p l e R s m args below meth c H locs cells slots Q (F0 m pc ls (.int x :: .int i :: .ref (ad 8) :: rest)) := by
  refine va_iast hc.1 hc.2.1 hw.2.2.2.1 hw.1 hw.2.1 hw.2.2.1 8 6 rfl rfl h hdg (fun H1 locs1 a b c => kk H1 locs1 ?_)
  exact ⟨cast (congrArg (fun z => va_P D vwCl z H1) (tt_e8 ad ca u _ _)) a, cast (congrArg (fun z => va_D A z) (tt_e8 ad ca u _ _)) b, c, hw.2.2.2⟩
theorem tt_l9 {own : String} (hc : CallFix p m c cc nL s args uW own) (hw : ts_W tF D ca ad A s H locs u) {i : Int32} (h : vp_in i 16) (hdg : decode cc pc = .ok (.iaload, 1)) (kk : W p l e R s m args below meth c H locs cells slots Q (F0 m (pc + 1) ls (.int (u.2 9 i.toNatClampNeg) :: rest))) : W p l e R s m args below meth c H locs cells slots Q (F0 m pc ls (.int i :: .ref (ad 9) :: rest)) :=
  va_iald hc.1 hc.2.1 hw.2.2.2.1 hw.1 9 7 rfl rfl h hdg kk
theorem tt_s9 {own : String} (hc : CallFix p m c cc nL s args uW own) (hw : ts_W tF D ca ad A s H locs u) {i x : Int32} (h : vp_in i 16) (hdg : decode cc pc = .ok (.iastore, 1)) (kk : ∀ (H1 : Heap) (locs1 : List Loc), ts_W tF D ca ad A s H1 locs1 (ts_a 9 i.toNatClampNeg x u) → W p l e R s m args below meth c H1 locs1 cells slots Q (F0 m (pc + 1) ls rest)) : W p l e R s m args below meth c H locs cells slots Q (F0 m pc ls (.int x :: .int i :: .ref (ad 9) :: rest)) := by
  refine va_iast hc.1 hc.2.1 hw.2.2.2.1 hw.1 hw.2.1 hw.2.2.1 9 7 rfl rfl h hdg (fun H1 locs1 a b c => kk H1 locs1 ?_)
  exact ⟨cast (congrArg (fun z => va_P D vwCl z H1) (tt_e9 ad ca u _ _)) a, cast (congrArg (fun z => va_D A z) (tt_e9 ad ca u _ _)) b, c, hw.2.2.2⟩
theorem tt_l10 {own : String} (hc : CallFix p m c cc nL s args uW own) (hw : ts_W tF D ca ad A s H locs u) {i : Int32} (h : vp_in i 4) (hdg : decode cc pc = .ok (.iaload, 1)) (kk : W p l e R s m args below meth c H locs cells slots Q (F0 m (pc + 1) ls (.int (u.2 10 i.toNatClampNeg) :: rest))) : W p l e R s m args below meth c H locs cells slots Q (F0 m pc ls (.int i :: .ref (ad 10) :: rest)) :=
  va_iald hc.1 hc.2.1 hw.2.2.2.1 hw.1 10 8 rfl rfl h hdg kk
theorem tt_s10 {own : String} (hc : CallFix p m c cc nL s args uW own) (hw : ts_W tF D ca ad A s H locs u) {i x : Int32} (h : vp_in i 4) (hdg : decode cc pc = .ok (.iastore, 1)) (kk : ∀ (H1 : Heap) (locs1 : List Loc), ts_W tF D ca ad A s H1 locs1 (ts_a 10 i.toNatClampNeg x u) → W p l e R s m args below meth c H1 locs1 cells slots Q (F0 m (pc + 1) ls rest)) : W p l e R s m args below meth c H locs cells slots Q (F0 m pc ls (.int x :: .int i :: .ref (ad 10) :: rest)) := by
  refine va_iast hc.1 hc.2.1 hw.2.2.2.1 hw.1 hw.2.1 hw.2.2.1 10 8 rfl rfl h hdg (fun H1 locs1 a b c => kk H1 locs1 ?_)
  exact ⟨cast (congrArg (fun z => va_P D vwCl z H1) (tt_e10 ad ca u _ _)) a, cast (congrArg (fun z => va_D A z) (tt_e10 ad ca u _ _)) b, c, hw.2.2.2⟩
theorem tt_l11 {own : String} (hc : CallFix p m c cc nL s args uW own) (hw : ts_W tF D ca ad A s H locs u) {i : Int32} (h : vp_in i 4) (hdg : decode cc pc = .ok (.iaload, 1)) (kk : W p l e R s m args below meth c H locs cells slots Q (F0 m (pc + 1) ls (.int (u.2 11 i.toNatClampNeg) :: rest))) : W p l e R s m args below meth c H locs cells slots Q (F0 m pc ls (.int i :: .ref (ad 11) :: rest)) :=
  va_iald hc.1 hc.2.1 hw.2.2.2.1 hw.1 11 9 rfl rfl h hdg kk
theorem tt_s11 {own : String} (hc : CallFix p m c cc nL s args uW own) (hw : ts_W tF D ca ad A s H locs u) {i x : Int32} (h : vp_in i 4) (hdg : decode cc pc = .ok (.iastore, 1)) (kk : ∀ (H1 : Heap) (locs1 : List Loc), ts_W tF D ca ad A s H1 locs1 (ts_a 11 i.toNatClampNeg x u) → W p l e R s m args below meth c H1 locs1 cells slots Q (F0 m (pc + 1) ls rest)) : W p l e R s m args below meth c H locs cells slots Q (F0 m pc ls (.int x :: .int i :: .ref (ad 11) :: rest)) := by
  refine va_iast hc.1 hc.2.1 hw.2.2.2.1 hw.1 hw.2.1 hw.2.2.1 11 9 rfl rfl h hdg (fun H1 locs1 a b c => kk H1 locs1 ?_)
  exact ⟨cast (congrArg (fun z => va_P D vwCl z H1) (tt_e11 ad ca u _ _)) a, cast (congrArg (fun z => va_D A z) (tt_e11 ad ca u _ _)) b, c, hw.2.2.2⟩
theorem mm_l2 {own : String} (hc : CallFix p m c cc nL s args uW own) (hw : ts_W mF D ca ad A s H locs u) {i : Int32} (h : vp_in i 16) (hdg : decode cc pc = .ok (.iaload, 1)) (kk : W p l e R s m args below meth c H locs cells slots Q (F0 m (pc + 1) ls (.int (u.2 2 i.toNatClampNeg) :: rest))) : W p l e R s m args below meth c H locs cells slots Q (F0 m pc ls (.int i :: .ref (ad 2) :: rest)) :=
  va_iald hc.1 hc.2.1 hw.2.2.2.1 hw.1 1 0 rfl rfl h hdg kk
theorem mm_s2 {own : String} (hc : CallFix p m c cc nL s args uW own) (hw : ts_W mF D ca ad A s H locs u) {i x : Int32} (h : vp_in i 16) (hdg : decode cc pc = .ok (.iastore, 1)) (kk : ∀ (H1 : Heap) (locs1 : List Loc), ts_W mF D ca ad A s H1 locs1 (ts_a 2 i.toNatClampNeg x u) → W p l e R s m args below meth c H1 locs1 cells slots Q (F0 m (pc + 1) ls rest)) : W p l e R s m args below meth c H locs cells slots Q (F0 m pc ls (.int x :: .int i :: .ref (ad 2) :: rest)) := by
  refine va_iast hc.1 hc.2.1 hw.2.2.2.1 hw.1 hw.2.1 hw.2.2.1 1 0 rfl rfl h hdg (fun H1 locs1 a b c => kk H1 locs1 ?_)
  exact ⟨cast (congrArg (fun z => va_P D vwCl z H1) (mm_e2 ad ca u _ _)) a, cast (congrArg (fun z => va_D A z) (mm_e2 ad ca u _ _)) b, c, hw.2.2.2⟩
theorem mm_l3 {own : String} (hc : CallFix p m c cc nL s args uW own) (hw : ts_W mF D ca ad A s H locs u) {i : Int32} (h : vp_in i 16) (hdg : decode cc pc = .ok (.iaload, 1)) (kk : W p l e R s m args below meth c H locs cells slots Q (F0 m (pc + 1) ls (.int (u.2 3 i.toNatClampNeg) :: rest))) : W p l e R s m args below meth c H locs cells slots Q (F0 m pc ls (.int i :: .ref (ad 3) :: rest)) :=
  va_iald hc.1 hc.2.1 hw.2.2.2.1 hw.1 2 1 rfl rfl h hdg kk
theorem mm_s3 {own : String} (hc : CallFix p m c cc nL s args uW own) (hw : ts_W mF D ca ad A s H locs u) {i x : Int32} (h : vp_in i 16) (hdg : decode cc pc = .ok (.iastore, 1)) (kk : ∀ (H1 : Heap) (locs1 : List Loc), ts_W mF D ca ad A s H1 locs1 (ts_a 3 i.toNatClampNeg x u) → W p l e R s m args below meth c H1 locs1 cells slots Q (F0 m (pc + 1) ls rest)) : W p l e R s m args below meth c H locs cells slots Q (F0 m pc ls (.int x :: .int i :: .ref (ad 3) :: rest)) := by
  refine va_iast hc.1 hc.2.1 hw.2.2.2.1 hw.1 hw.2.1 hw.2.2.1 2 1 rfl rfl h hdg (fun H1 locs1 a b c => kk H1 locs1 ?_)
  exact ⟨cast (congrArg (fun z => va_P D vwCl z H1) (mm_e3 ad ca u _ _)) a, cast (congrArg (fun z => va_D A z) (mm_e3 ad ca u _ _)) b, c, hw.2.2.2⟩
theorem mm_l4 {own : String} (hc : CallFix p m c cc nL s args uW own) (hw : ts_W mF D ca ad A s H locs u) {i : Int32} (h : vp_in i 64) (hdg : decode cc pc = .ok (.iaload, 1)) (kk : W p l e R s m args below meth c H locs cells slots Q (F0 m (pc + 1) ls (.int (u.2 4 i.toNatClampNeg) :: rest))) : W p l e R s m args below meth c H locs cells slots Q (F0 m pc ls (.int i :: .ref (ad 4) :: rest)) :=
  va_iald hc.1 hc.2.1 hw.2.2.2.1 hw.1 3 2 rfl rfl h hdg kk
theorem mm_s4 {own : String} (hc : CallFix p m c cc nL s args uW own) (hw : ts_W mF D ca ad A s H locs u) {i x : Int32} (h : vp_in i 64) (hdg : decode cc pc = .ok (.iastore, 1)) (kk : ∀ (H1 : Heap) (locs1 : List Loc), ts_W mF D ca ad A s H1 locs1 (ts_a 4 i.toNatClampNeg x u) → W p l e R s m args below meth c H1 locs1 cells slots Q (F0 m (pc + 1) ls rest)) : W p l e R s m args below meth c H locs cells slots Q (F0 m pc ls (.int x :: .int i :: .ref (ad 4) :: rest)) := by
  refine va_iast hc.1 hc.2.1 hw.2.2.2.1 hw.1 hw.2.1 hw.2.2.1 3 2 rfl rfl h hdg (fun H1 locs1 a b c => kk H1 locs1 ?_)
  exact ⟨cast (congrArg (fun z => va_P D vwCl z H1) (mm_e4 ad ca u _ _)) a, cast (congrArg (fun z => va_D A z) (mm_e4 ad ca u _ _)) b, c, hw.2.2.2⟩
theorem mm_l8 {own : String} (hc : CallFix p m c cc nL s args uW own) (hw : ts_W mF D ca ad A s H locs u) {i : Int32} (h : vp_in i 16) (hdg : decode cc pc = .ok (.iaload, 1)) (kk : W p l e R s m args below meth c H locs cells slots Q (F0 m (pc + 1) ls (.int (u.2 8 i.toNatClampNeg) :: rest))) : W p l e R s m args below meth c H locs cells slots Q (F0 m pc ls (.int i :: .ref (ad 8) :: rest)) :=
  va_iald hc.1 hc.2.1 hw.2.2.2.1 hw.1 4 3 rfl rfl h hdg kk
theorem mm_s8 {own : String} (hc : CallFix p m c cc nL s args uW own) (hw : ts_W mF D ca ad A s H locs u) {i x : Int32} (h : vp_in i 16) (hdg : decode cc pc = .ok (.iastore, 1)) (kk : ∀ (H1 : Heap) (locs1 : List Loc), ts_W mF D ca ad A s H1 locs1 (ts_a 8 i.toNatClampNeg x u) → W p l e R s m args below meth c H1 locs1 cells slots Q (F0 m (pc + 1) ls rest)) : W p l e R s m args below meth c H locs cells slots Q (F0 m pc ls (.int x :: .int i :: .ref (ad 8) :: rest)) := by
  refine va_iast hc.1 hc.2.1 hw.2.2.2.1 hw.1 hw.2.1 hw.2.2.1 4 3 rfl rfl h hdg (fun H1 locs1 a b c => kk H1 locs1 ?_)
  exact ⟨cast (congrArg (fun z => va_P D vwCl z H1) (mm_e8 ad ca u _ _)) a, cast (congrArg (fun z => va_D A z) (mm_e8 ad ca u _ _)) b, c, hw.2.2.2⟩
theorem mm_l5 {own : String} (hc : CallFix p m c cc nL s args uW own) (hw : ts_W mF D ca ad A s H locs u) {i : Int32} (h : vp_in i 16) (hdg : decode cc pc = .ok (.iaload, 1)) (kk : W p l e R s m args below meth c H locs cells slots Q (F0 m (pc + 1) ls (.int (u.2 5 i.toNatClampNeg) :: rest))) : W p l e R s m args below meth c H locs cells slots Q (F0 m pc ls (.int i :: .ref (ad 5) :: rest)) :=
  va_iald hc.1 hc.2.1 hw.2.2.2.1 hw.1 5 4 rfl rfl h hdg kk
theorem mm_s5 {own : String} (hc : CallFix p m c cc nL s args uW own) (hw : ts_W mF D ca ad A s H locs u) {i x : Int32} (h : vp_in i 16) (hdg : decode cc pc = .ok (.iastore, 1)) (kk : ∀ (H1 : Heap) (locs1 : List Loc), ts_W mF D ca ad A s H1 locs1 (ts_a 5 i.toNatClampNeg x u) → W p l e R s m args below meth c H1 locs1 cells slots Q (F0 m (pc + 1) ls rest)) : W p l e R s m args below meth c H locs cells slots Q (F0 m pc ls (.int x :: .int i :: .ref (ad 5) :: rest)) := by
  refine va_iast hc.1 hc.2.1 hw.2.2.2.1 hw.1 hw.2.1 hw.2.2.1 5 4 rfl rfl h hdg (fun H1 locs1 a b c => kk H1 locs1 ?_)
  exact ⟨cast (congrArg (fun z => va_P D vwCl z H1) (mm_e5 ad ca u _ _)) a, cast (congrArg (fun z => va_D A z) (mm_e5 ad ca u _ _)) b, c, hw.2.2.2⟩
theorem mm_l6 {own : String} (hc : CallFix p m c cc nL s args uW own) (hw : ts_W mF D ca ad A s H locs u) {i : Int32} (h : vp_in i 16) (hdg : decode cc pc = .ok (.iaload, 1)) (kk : W p l e R s m args below meth c H locs cells slots Q (F0 m (pc + 1) ls (.int (u.2 6 i.toNatClampNeg) :: rest))) : W p l e R s m args below meth c H locs cells slots Q (F0 m pc ls (.int i :: .ref (ad 6) :: rest)) :=
  va_iald hc.1 hc.2.1 hw.2.2.2.1 hw.1 6 5 rfl rfl h hdg kk
theorem mm_s6 {own : String} (hc : CallFix p m c cc nL s args uW own) (hw : ts_W mF D ca ad A s H locs u) {i x : Int32} (h : vp_in i 16) (hdg : decode cc pc = .ok (.iastore, 1)) (kk : ∀ (H1 : Heap) (locs1 : List Loc), ts_W mF D ca ad A s H1 locs1 (ts_a 6 i.toNatClampNeg x u) → W p l e R s m args below meth c H1 locs1 cells slots Q (F0 m (pc + 1) ls rest)) : W p l e R s m args below meth c H locs cells slots Q (F0 m pc ls (.int x :: .int i :: .ref (ad 6) :: rest)) := by
  refine va_iast hc.1 hc.2.1 hw.2.2.2.1 hw.1 hw.2.1 hw.2.2.1 6 5 rfl rfl h hdg (fun H1 locs1 a b c => kk H1 locs1 ?_)
  exact ⟨cast (congrArg (fun z => va_P D vwCl z H1) (mm_e6 ad ca u _ _)) a, cast (congrArg (fun z => va_D A z) (mm_e6 ad ca u _ _)) b, c, hw.2.2.2⟩
theorem mm_l7 {own : String} (hc : CallFix p m c cc nL s args uW own) (hw : ts_W mF D ca ad A s H locs u) {i : Int32} (h : vp_in i 16) (hdg : decode cc pc = .ok (.baload, 1)) (kk : W p l e R s m args below meth c H locs cells slots Q (F0 m (pc + 1) ls (.int (u.2 7 i.toNatClampNeg) :: rest))) : W p l e R s m args below meth c H locs cells slots Q (F0 m pc ls (.int i :: .ref (ad 7) :: rest)) :=
  va_zald hc.1 hc.2.1 hw.2.2.2.1 hw.1 7 6 rfl rfl h hdg kk
theorem mm_s7 {own : String} (hc : CallFix p m c cc nL s args uW own) (hw : ts_W mF D ca ad A s H locs u) {i x : Int32} (h : vp_in i 16) (hz : vp_nar .boolean x = x) (hdg : decode cc pc = .ok (.bastore, 1)) (kk : ∀ (H1 : Heap) (locs1 : List Loc), ts_W mF D ca ad A s H1 locs1 (ts_a 7 i.toNatClampNeg x u) → W p l e R s m args below meth c H1 locs1 cells slots Q (F0 m (pc + 1) ls rest)) : W p l e R s m args below meth c H locs cells slots Q (F0 m pc ls (.int x :: .int i :: .ref (ad 7) :: rest)) := by
  refine va_zast hc.1 hc.2.1 hw.2.2.2.1 hw.1 hw.2.1 hw.2.2.1 7 6 rfl rfl h hdg (fun H1 locs1 a b c => kk H1 locs1 ?_)
  rw [hz] at a b
  exact ⟨cast (congrArg (fun z => va_P D vwCl z H1) (mm_e7 ad ca u _ _)) a, cast (congrArg (fun z => va_D A z) (mm_e7 ad ca u _ _)) b, c, hw.2.2.2⟩
theorem mm_l10 {own : String} (hc : CallFix p m c cc nL s args uW own) (hw : ts_W mF D ca ad A s H locs u) {i : Int32} (h : vp_in i 4) (hdg : decode cc pc = .ok (.iaload, 1)) (kk : W p l e R s m args below meth c H locs cells slots Q (F0 m (pc + 1) ls (.int (u.2 10 i.toNatClampNeg) :: rest))) : W p l e R s m args below meth c H locs cells slots Q (F0 m pc ls (.int i :: .ref (ad 10) :: rest)) :=
  va_iald hc.1 hc.2.1 hw.2.2.2.1 hw.1 8 7 rfl rfl h hdg kk
theorem mm_s10 {own : String} (hc : CallFix p m c cc nL s args uW own) (hw : ts_W mF D ca ad A s H locs u) {i x : Int32} (h : vp_in i 4) (hdg : decode cc pc = .ok (.iastore, 1)) (kk : ∀ (H1 : Heap) (locs1 : List Loc), ts_W mF D ca ad A s H1 locs1 (ts_a 10 i.toNatClampNeg x u) → W p l e R s m args below meth c H1 locs1 cells slots Q (F0 m (pc + 1) ls rest)) : W p l e R s m args below meth c H locs cells slots Q (F0 m pc ls (.int x :: .int i :: .ref (ad 10) :: rest)) := by
  refine va_iast hc.1 hc.2.1 hw.2.2.2.1 hw.1 hw.2.1 hw.2.2.1 8 7 rfl rfl h hdg (fun H1 locs1 a b c => kk H1 locs1 ?_)
  exact ⟨cast (congrArg (fun z => va_P D vwCl z H1) (mm_e10 ad ca u _ _)) a, cast (congrArg (fun z => va_D A z) (mm_e10 ad ca u _ _)) b, c, hw.2.2.2⟩
theorem mm_l11 {own : String} (hc : CallFix p m c cc nL s args uW own) (hw : ts_W mF D ca ad A s H locs u) {i : Int32} (h : vp_in i 4) (hdg : decode cc pc = .ok (.iaload, 1)) (kk : W p l e R s m args below meth c H locs cells slots Q (F0 m (pc + 1) ls (.int (u.2 11 i.toNatClampNeg) :: rest))) : W p l e R s m args below meth c H locs cells slots Q (F0 m pc ls (.int i :: .ref (ad 11) :: rest)) :=
  va_iald hc.1 hc.2.1 hw.2.2.2.1 hw.1 9 8 rfl rfl h hdg kk
theorem mm_s11 {own : String} (hc : CallFix p m c cc nL s args uW own) (hw : ts_W mF D ca ad A s H locs u) {i x : Int32} (h : vp_in i 4) (hdg : decode cc pc = .ok (.iastore, 1)) (kk : ∀ (H1 : Heap) (locs1 : List Loc), ts_W mF D ca ad A s H1 locs1 (ts_a 11 i.toNatClampNeg x u) → W p l e R s m args below meth c H1 locs1 cells slots Q (F0 m (pc + 1) ls rest)) : W p l e R s m args below meth c H locs cells slots Q (F0 m pc ls (.int x :: .int i :: .ref (ad 11) :: rest)) := by
  refine va_iast hc.1 hc.2.1 hw.2.2.2.1 hw.1 hw.2.1 hw.2.2.1 9 8 rfl rfl h hdg (fun H1 locs1 a b c => kk H1 locs1 ?_)
  exact ⟨cast (congrArg (fun z => va_P D vwCl z H1) (mm_e11 ad ca u _ _)) a, cast (congrArg (fun z => va_D A z) (mm_e11 ad ca u _ _)) b, c, hw.2.2.2⟩
theorem mm_l9 {own : String} (hc : CallFix p m c cc nL s args uW own) (hw : ts_W mF D ca ad A s H locs u) {i : Int32} (h : vp_in i 16) (hdg : decode cc pc = .ok (.iaload, 1)) (kk : W p l e R s m args below meth c H locs cells slots Q (F0 m (pc + 1) ls (.int (u.2 9 i.toNatClampNeg) :: rest))) : W p l e R s m args below meth c H locs cells slots Q (F0 m pc ls (.int i :: .ref (ad 9) :: rest)) :=
  va_iald hc.1 hc.2.1 hw.2.2.2.1 hw.1 10 9 rfl rfl h hdg kk
theorem mm_s9 {own : String} (hc : CallFix p m c cc nL s args uW own) (hw : ts_W mF D ca ad A s H locs u) {i x : Int32} (h : vp_in i 16) (hdg : decode cc pc = .ok (.iastore, 1)) (kk : ∀ (H1 : Heap) (locs1 : List Loc), ts_W mF D ca ad A s H1 locs1 (ts_a 9 i.toNatClampNeg x u) → W p l e R s m args below meth c H1 locs1 cells slots Q (F0 m (pc + 1) ls rest)) : W p l e R s m args below meth c H locs cells slots Q (F0 m pc ls (.int x :: .int i :: .ref (ad 9) :: rest)) := by
  refine va_iast hc.1 hc.2.1 hw.2.2.2.1 hw.1 hw.2.1 hw.2.2.1 10 9 rfl rfl h hdg (fun H1 locs1 a b c => kk H1 locs1 ?_)
  exact ⟨cast (congrArg (fun z => va_P D vwCl z H1) (mm_e9 ad ca u _ _)) a, cast (congrArg (fun z => va_D A z) (mm_e9 ad ca u _ _)) b, c, hw.2.2.2⟩
end
end
section
section
variable {p : Program} {l : Launch} {e : Env} {R : Room} {s : State} {m : MethodId} {args : Array Value} {below : List Frame} {meth : Method} {c : Code} {H : Heap} {locs : List Loc} {Q : State → Prop} {cc : ByteArray} {pc nL : Nat} {ls : Array Slot} {rest : List Value} {D : va_G} {ca : Nat → ClassId} {ad : Nat → Nat} {A : Nat → Prop} {u : ts_S} {cells slots : Nat}
theorem kT_82 : Cond.constantLong RT 82 (-1000000000000) ∈ uW := by decide +kernel
theorem kT_84 : Cond.constantLong RT 84 (-3000000000000) ∈ uW := by decide +kernel
theorem kT_86 : Cond.constantLong RT 86 (-2000000000000) ∈ uW := by decide +kernel
theorem jm_P_31 (hc : CallFix p m c cc nL s args uW RP) (hsz : ls.size = nL) (h1 : 1 ≤ R.frames) {x : Int32} (h2 : (rest.map fun v => v.category).sum + 13 ≤ R.locals) (hdg : decode cc pc = .ok (.invokestatic 31, 3)) (kk : W p l e R s m args below meth c H locs 0 0 Q (F0 m (pc + 3) ls (.int (if 0 ≤ x then x else 0 - x) :: rest))) : W p l e R s m args below meth c H locs 0 0 Q (F0 m pc ls (.int x :: rest)) :=
  va_mabs hc.1 hc.2.1 (hc.2.2.1.trans hsz.symm) hc.2.2.2.1 (hc.2.2.2.2 (.methodLink RP 31 Lib.Math.abs.name) (by decide +kernel)) (hc.2.2.2.2 (.static Lib.Math.abs.name) (by decide +kernel)) (hc.2.2.2.2 (.initialized "java/lang/Math") (by decide +kernel)) (hc.2.2.2.2 (.code Lib.Math.abs.name Lib.Math.abs.code 1 (some .int)) (uW_in (List.mem_of_getElem? (i := 195) rfl) rfl)) h1 h2 (Nat.zero_le _) (Nat.zero_le _) hdg kk
theorem jc_P_49 (hc : CallFix p m c cc nL s args uW RP) (hw : ts_W tF D ca ad A s H locs u) (hsz : ls.size = nL) (h1 : 1 ≤ R.frames) (h2 : (rest.map fun v => v.category).sum + (nativeFrameWords "java/lang/System" "arraycopy" 5 + 11) ≤ R.locals) (hdg : decode cc pc = .ok (.invokestatic 49, 3)) (kk : ∀ (H1 : Heap) (locs1 : List Loc), ts_W tF D ca ad A s H1 locs1 (ts_c u) → W p l e R s m args below meth c H1 locs1 cells slots Q (F0 m (pc + 3) ls rest)) : W p l e R s m args below meth c H locs cells slots Q (F0 m pc ls (.int 4 :: .int 0 :: .ref (ad 11) :: .int 0 :: .ref (ad 10) :: rest)) := by
  refine va_copyi (ty := .int) hc.1 hc.2.1 (hc.2.2.1.trans hsz.symm) hc.2.2.2.1 (hc.2.2.2.2 (.methodLink RP 49 arraycopyName) (by decide +kernel)) (hc.2.2.2.2 (.native arraycopyName) (by decide +kernel)) (hc.2.2.2.2 (.static arraycopyName) (by decide +kernel)) (hc.2.2.2.2 (.initialized "java/lang/System") (by decide +kernel)) hw.2.2.2.1 hw.1 hw.2.1 hw.2.2.1 10 11 8 9 rfl rfl rfl rfl rfl (by decide) (by decide) (by decide) (by decide) (by decide) (fun _ _ => rfl) h1 h2 hdg (fun H1 locs1 a b c => kk H1 locs1 ?_)
  have e0 : (0 : Int32).toNatClampNeg = 0 := by decide
  have e4 : (4 : Int32).toNatClampNeg = 4 := by decide
  rw [e0, e4] at a b
  exact ⟨cast (congrArg (fun z => va_P D vwCl z H1) (tt_ec ad ca u)) a, cast (congrArg (fun z => va_D A z) (tt_ec ad ca u)) b, c, hw.2.2.2⟩
theorem kM_90 : Cond.constantLong RM 90 (-1000000000000) ∈ uW := by decide +kernel
theorem kM_92 : Cond.constantLong RM 92 (-3000000000000) ∈ uW := by decide +kernel
theorem kM_94 : Cond.constantLong RM 94 (-2000000000000) ∈ uW := by decide +kernel
end
end
section
def rT_isFileNumber : Room := { frames := 0, cells := 0, slots := 0, locals := 0 }
set_option maxHeartbeats 4000000 in
set_option maxRecDepth 100000 in
theorem ct_isFileNumber (l : Launch) {u : ts_S} {x0 : Int32} {r0 : Int32} {u0 : ts_S} (hd : dt_isFileNumber u x0 = some (r0, u0)) : ts_Ci tF l yT_isFileNumber (.code yT_isFileNumber bT_isFileNumber 1 (some .boolean) :: uW) rT_isFileNumber (fun ad => [.int x0]) u r0 u0 := by
  refine ts_in_i tF l (by decide) (fun p e s m args below meth c D ca ad A hc hn hr hlk hw => ?_)
  have hx := hc.1
  have hb := hc.2.1
  have hl := lv_entry ([.int x0]) (n := 1) (Nat.le_of_ble_eq_true rfl)
  rw [lg_entry_eq]
  generalize (lg_sl ([.int x0]) ++ List.replicate (1 - (lg_sl ([.int x0])).length) Slot.unset).toArray = ls at hl ⊢
  replace hl : lv_has ls 1 [(0, .int x0)] := hl
  unfold dt_isFileNumber at hd
  refine lv_iload_n hx hb dT_isFileNumber_0 rfl (lv_at hl 0 rfl) ?_
  refine lv_if_lt (tgt := 14) hx hb dT_isFileNumber_1 (by decide) (fun cq => ?_) (fun cq => ?_)
  · replace hd := ts_if_p cq hd
    refine lv_iconst (v := 0) hx hb dT_isFileNumber_14 (by decide) ?_
    exact ts_iret hx hb hr hlk (by decide +kernel) hw hd dT_isFileNumber_15
  · replace hd := ts_if_n cq hd
    refine lv_iload_n hx hb dT_isFileNumber_4 rfl (lv_at hl 0 rfl) ?_
    refine lv_bipush (v := 16) hx hb dT_isFileNumber_5 (by decide) ?_
    refine lv_icmp_ge (tgt := 14) hx hb dT_isFileNumber_7 (by decide) (fun cq => ?_) (fun cq => ?_)
    · replace hd := ts_if_p cq hd
      refine lv_iconst (v := 0) hx hb dT_isFileNumber_14 (by decide) ?_
      exact ts_iret hx hb hr hlk (by decide +kernel) hw hd dT_isFileNumber_15
    · replace hd := ts_if_n cq hd
      refine lv_iconst (v := 1) hx hb dT_isFileNumber_10 (by decide) ?_
      refine lv_goto (tgt := 15) hx hb dT_isFileNumber_11 (by decide) ?_
      exact ts_iret hx hb hr hlk (by decide +kernel) hw hd dT_isFileNumber_15
section
variable {p : Program} {l : Launch} {e : Env} {R : Room} {s : State} {m : MethodId} {args : Array Value} {below : List Frame} {meth : Method} {c : Code} {H : Heap} {locs : List Loc} {Q : State → Prop} {cc : ByteArray} {pc nL : Nat} {ls : Array Slot} {rest : List Value} {D : va_G} {ca : Nat → ClassId} {ad : Nat → Nat} {A : Nat → Prop} {u : ts_S} {cells slots : Nat}
theorem cT_65 (hc : CallFix p m c cc nL s args uW RT) (hn : nx s) (hw : ts_W tF D ca ad A s H locs u) {x0 : Int32} {r0 : Int32} {u0 : ts_S} (hq : dt_isFileNumber u x0 = some (r0, u0)) (hsz : ls.size = nL) (hR : rT_isFileNumber.frames + 1 ≤ R.frames ∧ 8 + (1 + 11) + rT_isFileNumber.locals ≤ R.locals) (hrest : (rest.map fun v => v.category).sum ≤ 8) (hdg : decode cc pc = .ok (.invokestatic 65, 3)) (kk : ∀ (H1 : Heap) (locs1 : List Loc), ts_W tF D ca ad A s H1 locs1 u0 → W p l e R s m args below meth c H1 locs1 0 0 Q (F0 m (pc + 3) ls (.int r0 :: rest))) : W p l e R s m args below meth c H locs 0 0 Q (F0 m pc ls (.int x0 :: rest)) :=
  ts_callSi (As := [.int x0]) hc hn hw (ct_isFileNumber l hq) rfl (cwS 1 hc.2.2.2.2 (gd_S (by decide +kernel) (by decide +kernel) (by decide +kernel) (code_T_isFileNumber)) rfl rfl rfl (by decide +kernel) hR) rfl hsz hrest hdg kk
end
def rT_isOnDisk : Room := { frames := 0, cells := 0, slots := 0, locals := 0 }
set_option maxHeartbeats 4000000 in
set_option maxRecDepth 100000 in
theorem ct_isOnDisk (l : Launch) {u : ts_S} {x1 : Int32} {r0 : Int32} {u0 : ts_S} (hd : dt_isOnDisk u x1 = some (r0, u0)) : ts_Ci tF l yT_isOnDisk (.code yT_isOnDisk bT_isOnDisk 2 (some .boolean) :: uW) rT_isOnDisk (fun ad => [.ref (ad 0), .int x1]) u r0 u0 := by
  refine ts_in_i tF l (by decide) (fun p e s m args below meth c D ca ad A hc hn hr hlk hw => ?_)
  have hx := hc.1
  have hb := hc.2.1
  have hl := lv_entry ([.ref (ad 0), .int x1]) (n := 2) (Nat.le_of_ble_eq_true rfl)
  rw [lg_entry_eq]
  generalize (lg_sl ([.ref (ad 0), .int x1]) ++ List.replicate (2 - (lg_sl ([.ref (ad 0), .int x1])).length) Slot.unset).toArray = ls at hl ⊢
  replace hl : lv_has ls 2 [(0, .ref (ad 0)), (1, .int x1)] := hl
  unfold dt_isOnDisk at hd
  refine lv_aload_n hx hb dT_isOnDisk_0 rfl (lv_at hl 0 rfl) ?_
  refine gT_9 hc hn hw dT_isOnDisk_1 ?_
  refine lv_iload_n hx hb dT_isOnDisk_4 rfl (lv_at hl 1 rfl) ?_
  obtain ⟨h, hd⟩ := ts_ix_s hd
  refine tt_l2 hc hw h dT_isOnDisk_5 ?_
  refine lv_iconst (v := 1) hx hb dT_isOnDisk_6 (by decide) ?_
  refine lv_icmp_eq (tgt := 20) hx hb dT_isOnDisk_7 (by decide) (fun cq => ?_) (fun cq => ?_)
  · replace hd := ts_if_p cq hd
    refine lv_iconst (v := 1) hx hb dT_isOnDisk_20 (by decide) ?_
    refine lv_goto (tgt := 25) hx hb dT_isOnDisk_21 (by decide) ?_
    exact ts_iret hx hb hr hlk (by decide +kernel) hw hd dT_isOnDisk_25
  · replace hd := ts_if_n cq hd
    refine lv_aload_n hx hb dT_isOnDisk_10 rfl (lv_at hl 0 rfl) ?_
    refine gT_9 hc hn hw dT_isOnDisk_11 ?_
    refine lv_iload_n hx hb dT_isOnDisk_14 rfl (lv_at hl 1 rfl) ?_
    obtain ⟨h, hd⟩ := ts_ix_s hd
    refine tt_l2 hc hw h dT_isOnDisk_15 ?_
    refine lv_iconst (v := 2) hx hb dT_isOnDisk_16 (by decide) ?_
    refine lv_icmp_ne (tgt := 24) hx hb dT_isOnDisk_17 (by decide) (fun cq => ?_) (fun cq => ?_)
    · replace hd := ts_if_n cq hd
      refine lv_iconst (v := 0) hx hb dT_isOnDisk_24 (by decide) ?_
      exact ts_iret hx hb hr hlk (by decide +kernel) hw hd dT_isOnDisk_25
    · replace hd := ts_if_p cq hd
      refine lv_iconst (v := 1) hx hb dT_isOnDisk_20 (by decide) ?_
      refine lv_goto (tgt := 25) hx hb dT_isOnDisk_21 (by decide) ?_
      exact ts_iret hx hb hr hlk (by decide +kernel) hw hd dT_isOnDisk_25
section
variable {p : Program} {l : Launch} {e : Env} {R : Room} {s : State} {m : MethodId} {args : Array Value} {below : List Frame} {meth : Method} {c : Code} {H : Heap} {locs : List Loc} {Q : State → Prop} {cc : ByteArray} {pc nL : Nat} {ls : Array Slot} {rest : List Value} {D : va_G} {ca : Nat → ClassId} {ad : Nat → Nat} {A : Nat → Prop} {u : ts_S} {cells slots : Nat}
theorem cT_158 (hc : CallFix p m c cc nL s args uW RT) (hn : nx s) (hw : ts_W tF D ca ad A s H locs u) {x1 : Int32} {r0 : Int32} {u0 : ts_S} (hq : dt_isOnDisk u x1 = some (r0, u0)) (hsz : ls.size = nL) (hR : rT_isOnDisk.frames + 1 ≤ R.frames ∧ 8 + (2 + 11) + rT_isOnDisk.locals ≤ R.locals) (hrest : (rest.map fun v => v.category).sum ≤ 8) (hdg : decode cc pc = .ok (.invokevirtual 158, 3)) (kk : ∀ (H1 : Heap) (locs1 : List Loc), ts_W tF D ca ad A s H1 locs1 u0 → W p l e R s m args below meth c H1 locs1 0 0 Q (F0 m (pc + 3) ls (.int r0 :: rest))) : W p l e R s m args below meth c H locs 0 0 Q (F0 m pc ls (.int x1 :: .ref (ad 0) :: rest)) :=
  ts_callVi (b := ad 0) (As := [.int x1]) hc hn hw (ct_isOnDisk l hq) rfl (cwV 1 hc.2.2.2.2 (gd_V (by decide +kernel) (by decide +kernel) (by decide +kernel) (by decide +kernel) (code_T_isOnDisk)) rfl rfl rfl (by decide +kernel) hR) (va_recv hw.2.2.2.1 hw.1 (ci := 1) (q0 := 0) rfl rfl) rfl hsz hrest hdg kk
end
def rT_unitsTaken : Room := { frames := 1, cells := 0, slots := 0, locals := 21 }
set_option maxHeartbeats 4000000 in
set_option maxRecDepth 100000 in
theorem ct_unitsTaken (l : Launch) {u : ts_S} {r0 : Int32} {u0 : ts_S} (hd : dt_unitsTaken u = some (r0, u0)) : ts_Ci tF l yT_unitsTaken (.code yT_unitsTaken bT_unitsTaken 3 (some .int) :: uW) rT_unitsTaken (fun ad => [.ref (ad 0)]) u r0 u0 := by
  refine ts_in_i tF l (by decide) (fun p e s m args below meth c D ca ad A hc hn hr hlk hw => ?_)
  have hx := hc.1
  have hb := hc.2.1
  have hl := lv_entry ([.ref (ad 0)]) (n := 3) (Nat.le_of_ble_eq_true rfl)
  rw [lg_entry_eq]
  generalize (lg_sl ([.ref (ad 0)]) ++ List.replicate (3 - (lg_sl ([.ref (ad 0)])).length) Slot.unset).toArray = ls at hl ⊢
  replace hl : lv_has ls 3 [(0, .ref (ad 0))] := hl
  have L4 : ∀ (n : Nat) (u : ts_S) (x1 x2 : Int32) (H : Heap) (locs : List Loc) (ls : Array Slot), dt_unitsTaken_4 n u x1 x2 = some (r0, u0) → ts_W tF D ca ad A s H locs u → lv_has ls 3 [(0, .ref (ad 0)), (1, .int x1), (2, .int x2)] → W p l e rT_unitsTaken s m args below meth c H locs 0 0 (MQ below (va_Qi (fun r v => r = r0 ∧ v = u0) (ts_post tF D ca ad A) A) args s 0 0 A) (F0 m 4 ls []) := by
    intro n
    induction n with
    | zero => intro u x1 x2 H locs ls hd; cases (show (none : Option (Int32 × ts_S)) = some (r0, u0) from hd)
    | succ n4 ih4 =>
      intro u x1 x2 H locs ls hd hw hl
      replace hd : dt_unitsTaken_4_b (dt_unitsTaken_4 n4) u x1 x2 = some (r0, u0) := hd
      unfold dt_unitsTaken_4_b at hd
      refine lv_iload_n hx hb dT_unitsTaken_4 rfl (lv_at hl 2 rfl) ?_
      refine lv_bipush (v := 16) hx hb dT_unitsTaken_5 (by decide) ?_
      refine lv_icmp_ge (tgt := 33) hx hb dT_unitsTaken_7 (by decide) (fun cq => ?_) (fun cq => ?_)
      · replace hd := ts_if_p cq hd
        refine lv_iload_n hx hb dT_unitsTaken_33 rfl (lv_at hl 1 rfl) ?_
        exact ts_iret hx hb hr hlk (vp_nar_int _) hw hd dT_unitsTaken_34
      · replace hd := ts_if_n cq hd
        refine lv_aload_n hx hb dT_unitsTaken_10 rfl (lv_at hl 0 rfl) ?_
        refine lv_iload_n hx hb dT_unitsTaken_11 rfl (lv_at hl 2 rfl) ?_
        obtain ⟨r12, u12, hq, hd⟩ := ts_b_s hd
        refine cT_158 hc hn hw hq hl.1 ⟨Nat.le_of_ble_eq_true rfl, Nat.le_of_ble_eq_true rfl⟩ (Nat.le_of_ble_eq_true rfl) dT_unitsTaken_12 (fun H locs hw => ?_)
        refine lv_if_eq (tgt := 27) hx hb dT_unitsTaken_15 (by decide) (fun cq => ?_) (fun cq => ?_)
        · replace hd := ts_if_p cq hd
          refine lv_iinc (v := (x2 + 1)) (lv' := [(2, .int (x2 + 1)), (0, .ref (ad 0)), (1, .int x1)]) hx hb dT_unitsTaken_27 hl (k := 2) rfl rfl (by decide) rfl (fun ls hl => ?_)
          refine lv_goto (tgt := 4) hx hb dT_unitsTaken_30 (by decide) ?_
          exact ih4 u12 x1 (x2 + 1) _ _ _ hd hw (lv_sub hl [1, 2, 0] rfl)
        · replace hd := ts_if_n cq hd
          refine lv_iload_n hx hb dT_unitsTaken_18 rfl (lv_at hl 1 rfl) ?_
          refine lv_aload_n hx hb dT_unitsTaken_19 rfl (lv_at hl 0 rfl) ?_
          refine gT_13 hc hn hw dT_unitsTaken_20 ?_
          refine lv_iload_n hx hb dT_unitsTaken_23 rfl (lv_at hl 2 rfl) ?_
          obtain ⟨h, hd⟩ := ts_ix_s hd
          refine tt_l3 hc hw h dT_unitsTaken_24 ?_
          refine lv_iadd hx hb dT_unitsTaken_25 ?_
          refine lv_istore_n (lv' := [(1, .int (x1 + (u12.2 3 x2.toNatClampNeg))), (0, .ref (ad 0)), (2, .int x2)]) hx hb dT_unitsTaken_26 rfl hl (by decide) rfl (fun ls hl => ?_)
          refine lv_iinc (v := (x2 + 1)) (lv' := [(2, .int (x2 + 1)), (1, .int (x1 + (u12.2 3 x2.toNatClampNeg))), (0, .ref (ad 0))]) hx hb dT_unitsTaken_27 hl (k := 2) rfl rfl (by decide) rfl (fun ls hl => ?_)
          refine lv_goto (tgt := 4) hx hb dT_unitsTaken_30 (by decide) ?_
          exact ih4 u12 (x1 + (u12.2 3 x2.toNatClampNeg)) (x2 + 1) _ _ _ hd hw (lv_sub hl [2, 1, 0] rfl)
  unfold dt_unitsTaken at hd
  refine lv_iconst (v := 0) hx hb dT_unitsTaken_0 (by decide) ?_
  refine lv_istore_n (lv' := [(1, .int 0), (0, .ref (ad 0))]) hx hb dT_unitsTaken_1 rfl hl (by decide) rfl (fun ls hl => ?_)
  refine lv_iconst (v := 0) hx hb dT_unitsTaken_2 (by decide) ?_
  refine lv_istore_n (lv' := [(2, .int 0), (1, .int 0), (0, .ref (ad 0))]) hx hb dT_unitsTaken_3 rfl hl (by decide) rfl (fun ls hl => ?_)
  exact L4 40 u 0 0 _ _ _ hd hw (lv_sub hl [2, 1, 0] rfl)
section
variable {p : Program} {l : Launch} {e : Env} {R : Room} {s : State} {m : MethodId} {args : Array Value} {below : List Frame} {meth : Method} {c : Code} {H : Heap} {locs : List Loc} {Q : State → Prop} {cc : ByteArray} {pc nL : Nat} {ls : Array Slot} {rest : List Value} {D : va_G} {ca : Nat → ClassId} {ad : Nat → Nat} {A : Nat → Prop} {u : ts_S} {cells slots : Nat}
theorem cT_105 (hc : CallFix p m c cc nL s args uW RT) (hn : nx s) (hw : ts_W tF D ca ad A s H locs u) {r0 : Int32} {u0 : ts_S} (hq : dt_unitsTaken u = some (r0, u0)) (hsz : ls.size = nL) (hR : rT_unitsTaken.frames + 1 ≤ R.frames ∧ 8 + (3 + 11) + rT_unitsTaken.locals ≤ R.locals) (hrest : (rest.map fun v => v.category).sum ≤ 8) (hdg : decode cc pc = .ok (.invokevirtual 105, 3)) (kk : ∀ (H1 : Heap) (locs1 : List Loc), ts_W tF D ca ad A s H1 locs1 u0 → W p l e R s m args below meth c H1 locs1 0 0 Q (F0 m (pc + 3) ls (.int r0 :: rest))) : W p l e R s m args below meth c H locs 0 0 Q (F0 m pc ls (.ref (ad 0) :: rest)) :=
  ts_callVi (b := ad 0) (As := []) hc hn hw (ct_unitsTaken l hq) rfl (cwV 0 hc.2.2.2.2 (gd_V (by decide +kernel) (by decide +kernel) (by decide +kernel) (by decide +kernel) (code_T_unitsTaken)) rfl rfl rfl (by decide +kernel) hR) (va_recv hw.2.2.2.1 hw.1 (ci := 1) (q0 := 0) rfl rfl) rfl hsz hrest hdg kk
end
def rT_hasRoom : Room := { frames := 2, cells := 0, slots := 0, locals := 43 }
set_option maxHeartbeats 4000000 in
set_option maxRecDepth 100000 in
theorem ct_hasRoom (l : Launch) {u : ts_S} {x1 : Int32} {r0 : Int32} {u0 : ts_S} (hd : dt_hasRoom u x1 = some (r0, u0)) : ts_Ci tF l yT_hasRoom (.code yT_hasRoom bT_hasRoom 2 (some .boolean) :: uW) rT_hasRoom (fun ad => [.ref (ad 0), .int x1]) u r0 u0 := by
  refine ts_in_i tF l (by decide) (fun p e s m args below meth c D ca ad A hc hn hr hlk hw => ?_)
  have hx := hc.1
  have hb := hc.2.1
  have hl := lv_entry ([.ref (ad 0), .int x1]) (n := 2) (Nat.le_of_ble_eq_true rfl)
  rw [lg_entry_eq]
  generalize (lg_sl ([.ref (ad 0), .int x1]) ++ List.replicate (2 - (lg_sl ([.ref (ad 0), .int x1])).length) Slot.unset).toArray = ls at hl ⊢
  replace hl : lv_has ls 2 [(0, .ref (ad 0)), (1, .int x1)] := hl
  unfold dt_hasRoom at hd
  refine lv_aload_n hx hb dT_hasRoom_0 rfl (lv_at hl 0 rfl) ?_
  refine gT_53 hc hn hw dT_hasRoom_1 ?_
  refine lv_aload_n hx hb dT_hasRoom_4 rfl (lv_at hl 0 rfl) ?_
  obtain ⟨r5, u5, hq, hd⟩ := ts_b_s hd
  refine cT_105 hc hn hw hq hl.1 ⟨Nat.le_of_ble_eq_true rfl, Nat.le_of_ble_eq_true rfl⟩ (Nat.le_of_ble_eq_true rfl) dT_hasRoom_5 (fun H locs hw => ?_)
  refine lv_isub hx hb dT_hasRoom_8 ?_
  refine lv_iload_n hx hb dT_hasRoom_9 rfl (lv_at hl 1 rfl) ?_
  refine lv_icmp_lt (tgt := 17) hx hb dT_hasRoom_10 (by decide) (fun cq => ?_) (fun cq => ?_)
  · replace hd := ts_if_p cq hd
    refine lv_iconst (v := 0) hx hb dT_hasRoom_17 (by decide) ?_
    exact ts_iret hx hb hr hlk (by decide +kernel) hw hd dT_hasRoom_18
  · replace hd := ts_if_n cq hd
    refine lv_iconst (v := 1) hx hb dT_hasRoom_13 (by decide) ?_
    refine lv_goto (tgt := 18) hx hb dT_hasRoom_14 (by decide) ?_
    exact ts_iret hx hb hr hlk (by decide +kernel) hw hd dT_hasRoom_18
section
variable {p : Program} {l : Launch} {e : Env} {R : Room} {s : State} {m : MethodId} {args : Array Value} {below : List Frame} {meth : Method} {c : Code} {H : Heap} {locs : List Loc} {Q : State → Prop} {cc : ByteArray} {pc nL : Nat} {ls : Array Slot} {rest : List Value} {D : va_G} {ca : Nat → ClassId} {ad : Nat → Nat} {A : Nat → Prop} {u : ts_S} {cells slots : Nat}
theorem cT_161 (hc : CallFix p m c cc nL s args uW RT) (hn : nx s) (hw : ts_W tF D ca ad A s H locs u) {x1 : Int32} {r0 : Int32} {u0 : ts_S} (hq : dt_hasRoom u x1 = some (r0, u0)) (hsz : ls.size = nL) (hR : rT_hasRoom.frames + 1 ≤ R.frames ∧ 8 + (2 + 11) + rT_hasRoom.locals ≤ R.locals) (hrest : (rest.map fun v => v.category).sum ≤ 8) (hdg : decode cc pc = .ok (.invokevirtual 161, 3)) (kk : ∀ (H1 : Heap) (locs1 : List Loc), ts_W tF D ca ad A s H1 locs1 u0 → W p l e R s m args below meth c H1 locs1 0 0 Q (F0 m (pc + 3) ls (.int r0 :: rest))) : W p l e R s m args below meth c H locs 0 0 Q (F0 m pc ls (.int x1 :: .ref (ad 0) :: rest)) :=
  ts_callVi (b := ad 0) (As := [.int x1]) hc hn hw (ct_hasRoom l hq) rfl (cwV 1 hc.2.2.2.2 (gd_V (by decide +kernel) (by decide +kernel) (by decide +kernel) (by decide +kernel) (code_T_hasRoom)) rfl rfl rfl (by decide +kernel) hR) (va_recv hw.2.2.2.1 hw.1 (ci := 1) (q0 := 0) rfl rfl) rfl hsz hrest hdg kk
end
def rT_longestUnused : Room := { frames := 0, cells := 0, slots := 0, locals := 0 }
set_option maxHeartbeats 4000000 in
set_option maxRecDepth 100000 in
theorem ct_longestUnused (l : Launch) {u : ts_S} {x1 : Int32} {r0 : Int32} {u0 : ts_S} (hd : dt_longestUnused u x1 = some (r0, u0)) : ts_Ci tF l yT_longestUnused (.code yT_longestUnused bT_longestUnused 4 (some .int) :: uW) rT_longestUnused (fun ad => [.ref (ad 0), .int x1]) u r0 u0 := by
  refine ts_in_i tF l (by decide) (fun p e s m args below meth c D ca ad A hc hn hr hlk hw => ?_)
  have hx := hc.1
  have hb := hc.2.1
  have hl := lv_entry ([.ref (ad 0), .int x1]) (n := 4) (Nat.le_of_ble_eq_true rfl)
  rw [lg_entry_eq]
  generalize (lg_sl ([.ref (ad 0), .int x1]) ++ List.replicate (4 - (lg_sl ([.ref (ad 0), .int x1])).length) Slot.unset).toArray = ls at hl ⊢
  replace hl : lv_has ls 4 [(0, .ref (ad 0)), (1, .int x1)] := hl
  have L4 : ∀ (n : Nat) (u : ts_S) (x1 x2 x3 : Int32) (H : Heap) (locs : List Loc) (ls : Array Slot), dt_longestUnused_4 n u x1 x2 x3 = some (r0, u0) → ts_W tF D ca ad A s H locs u → lv_has ls 4 [(0, .ref (ad 0)), (1, .int x1), (2, .int x2), (3, .int x3)] → W p l e rT_longestUnused s m args below meth c H locs 0 0 (MQ below (va_Qi (fun r v => r = r0 ∧ v = u0) (ts_post tF D ca ad A) A) args s 0 0 A) (F0 m 4 ls []) := by
    intro n
    induction n with
    | zero => intro u x1 x2 x3 H locs ls hd; cases (show (none : Option (Int32 × ts_S)) = some (r0, u0) from hd)
    | succ n4 ih4 =>
      intro u x1 x2 x3 H locs ls hd hw hl
      replace hd : dt_longestUnused_4_b (dt_longestUnused_4 n4) u x1 x2 x3 = some (r0, u0) := hd
      unfold dt_longestUnused_4_b at hd
      refine lv_iload_n hx hb dT_longestUnused_4 rfl (lv_at hl 3 rfl) ?_
      refine lv_bipush (v := 16) hx hb dT_longestUnused_5 (by decide) ?_
      refine lv_icmp_ge (tgt := 48) hx hb dT_longestUnused_7 (by decide) (fun cq => ?_) (fun cq => ?_)
      · replace hd := ts_if_p cq hd
        refine lv_iload_n hx hb dT_longestUnused_48 rfl (lv_at hl 2 rfl) ?_
        exact ts_iret hx hb hr hlk (vp_nar_int _) hw hd dT_longestUnused_49
      · replace hd := ts_if_n cq hd
        refine lv_aload_n hx hb dT_longestUnused_10 rfl (lv_at hl 0 rfl) ?_
        refine gT_9 hc hn hw dT_longestUnused_11 ?_
        refine lv_iload_n hx hb dT_longestUnused_14 rfl (lv_at hl 3 rfl) ?_
        obtain ⟨h, hd⟩ := ts_ix_s hd
        refine tt_l2 hc hw h dT_longestUnused_15 ?_
        refine lv_iload_n hx hb dT_longestUnused_16 rfl (lv_at hl 1 rfl) ?_
        refine lv_icmp_ne (tgt := 42) hx hb dT_longestUnused_17 (by decide) (fun cq => ?_) (fun cq => ?_)
        · replace hd := ts_if_n cq hd
          refine lv_iinc (v := (x3 + 1)) (lv' := [(3, .int (x3 + 1)), (0, .ref (ad 0)), (1, .int x1), (2, .int x2)]) hx hb dT_longestUnused_42 hl (k := 3) rfl rfl (by decide) rfl (fun ls hl => ?_)
          refine lv_goto (tgt := 4) hx hb dT_longestUnused_45 (by decide) ?_
          exact ih4 u x1 x2 (x3 + 1) _ _ _ hd hw (lv_sub hl [1, 2, 3, 0] rfl)
        · replace hd := ts_if_p cq hd
          refine lv_iload_n hx hb dT_longestUnused_20 rfl (lv_at hl 2 rfl) ?_
          refine lv_iconst (v := (-1)) hx hb dT_longestUnused_21 (by decide) ?_
          refine lv_icmp_eq (tgt := 40) hx hb dT_longestUnused_22 (by decide) (fun cq => ?_) (fun cq => ?_)
          · replace hd := ts_if_p cq hd
            refine lv_iload_n hx hb dT_longestUnused_40 rfl (lv_at hl 3 rfl) ?_
            refine lv_istore_n (lv' := [(2, .int x3), (0, .ref (ad 0)), (1, .int x1), (3, .int x3)]) hx hb dT_longestUnused_41 rfl hl (by decide) rfl (fun ls hl => ?_)
            refine lv_iinc (v := (x3 + 1)) (lv' := [(3, .int (x3 + 1)), (2, .int x3), (0, .ref (ad 0)), (1, .int x1)]) hx hb dT_longestUnused_42 hl (k := 3) rfl rfl (by decide) rfl (fun ls hl => ?_)
            refine lv_goto (tgt := 4) hx hb dT_longestUnused_45 (by decide) ?_
            exact ih4 u x1 x3 (x3 + 1) _ _ _ hd hw (lv_sub hl [2, 3, 1, 0] rfl)
          · replace hd := ts_if_n cq hd
            refine lv_aload_n hx hb dT_longestUnused_25 rfl (lv_at hl 0 rfl) ?_
            refine gT_31 hc hn hw dT_longestUnused_26 ?_
            refine lv_iload_n hx hb dT_longestUnused_29 rfl (lv_at hl 3 rfl) ?_
            obtain ⟨h, hd⟩ := ts_ix_s hd
            refine tt_l8 hc hw h dT_longestUnused_30 ?_
            refine lv_aload_n hx hb dT_longestUnused_31 rfl (lv_at hl 0 rfl) ?_
            refine gT_31 hc hn hw dT_longestUnused_32 ?_
            refine lv_iload_n hx hb dT_longestUnused_35 rfl (lv_at hl 2 rfl) ?_
            obtain ⟨h, hd⟩ := ts_ix_s hd
            refine tt_l8 hc hw h dT_longestUnused_36 ?_
            refine lv_icmp_ge (tgt := 42) hx hb dT_longestUnused_37 (by decide) (fun cq => ?_) (fun cq => ?_)
            · replace hd := ts_if_p cq hd
              refine lv_iinc (v := (x3 + 1)) (lv' := [(3, .int (x3 + 1)), (0, .ref (ad 0)), (1, .int x1), (2, .int x2)]) hx hb dT_longestUnused_42 hl (k := 3) rfl rfl (by decide) rfl (fun ls hl => ?_)
              refine lv_goto (tgt := 4) hx hb dT_longestUnused_45 (by decide) ?_
              exact ih4 u x1 x2 (x3 + 1) _ _ _ hd hw (lv_sub hl [1, 2, 3, 0] rfl)
            · replace hd := ts_if_n cq hd
              refine lv_iload_n hx hb dT_longestUnused_40 rfl (lv_at hl 3 rfl) ?_
              refine lv_istore_n (lv' := [(2, .int x3), (0, .ref (ad 0)), (1, .int x1), (3, .int x3)]) hx hb dT_longestUnused_41 rfl hl (by decide) rfl (fun ls hl => ?_)
              refine lv_iinc (v := (x3 + 1)) (lv' := [(3, .int (x3 + 1)), (2, .int x3), (0, .ref (ad 0)), (1, .int x1)]) hx hb dT_longestUnused_42 hl (k := 3) rfl rfl (by decide) rfl (fun ls hl => ?_)
              refine lv_goto (tgt := 4) hx hb dT_longestUnused_45 (by decide) ?_
              exact ih4 u x1 x3 (x3 + 1) _ _ _ hd hw (lv_sub hl [2, 3, 1, 0] rfl)
  unfold dt_longestUnused at hd
  refine lv_iconst (v := (-1)) hx hb dT_longestUnused_0 (by decide) ?_
  refine lv_istore_n (lv' := [(2, .int (-1)), (0, .ref (ad 0)), (1, .int x1)]) hx hb dT_longestUnused_1 rfl hl (by decide) rfl (fun ls hl => ?_)
  refine lv_iconst (v := 0) hx hb dT_longestUnused_2 (by decide) ?_
  refine lv_istore_n (lv' := [(3, .int 0), (2, .int (-1)), (0, .ref (ad 0)), (1, .int x1)]) hx hb dT_longestUnused_3 rfl hl (by decide) rfl (fun ls hl => ?_)
  exact L4 40 u x1 (-1) 0 _ _ _ hd hw (lv_sub hl [2, 3, 1, 0] rfl)
section
variable {p : Program} {l : Launch} {e : Env} {R : Room} {s : State} {m : MethodId} {args : Array Value} {below : List Frame} {meth : Method} {c : Code} {H : Heap} {locs : List Loc} {Q : State → Prop} {cc : ByteArray} {pc nL : Nat} {ls : Array Slot} {rest : List Value} {D : va_G} {ca : Nat → ClassId} {ad : Nat → Nat} {A : Nat → Prop} {u : ts_S} {cells slots : Nat}
theorem cT_91 (hc : CallFix p m c cc nL s args uW RT) (hn : nx s) (hw : ts_W tF D ca ad A s H locs u) {x1 : Int32} {r0 : Int32} {u0 : ts_S} (hq : dt_longestUnused u x1 = some (r0, u0)) (hsz : ls.size = nL) (hR : rT_longestUnused.frames + 1 ≤ R.frames ∧ 8 + (4 + 11) + rT_longestUnused.locals ≤ R.locals) (hrest : (rest.map fun v => v.category).sum ≤ 8) (hdg : decode cc pc = .ok (.invokevirtual 91, 3)) (kk : ∀ (H1 : Heap) (locs1 : List Loc), ts_W tF D ca ad A s H1 locs1 u0 → W p l e R s m args below meth c H1 locs1 0 0 Q (F0 m (pc + 3) ls (.int r0 :: rest))) : W p l e R s m args below meth c H locs 0 0 Q (F0 m pc ls (.int x1 :: .ref (ad 0) :: rest)) :=
  ts_callVi (b := ad 0) (As := [.int x1]) hc hn hw (ct_longestUnused l hq) rfl (cwV 1 hc.2.2.2.2 (gd_V (by decide +kernel) (by decide +kernel) (by decide +kernel) (by decide +kernel) (code_T_longestUnused)) rfl rfl rfl (by decide +kernel) hR) (va_recv hw.2.2.2.1 hw.1 (ci := 1) (q0 := 0) rfl rfl) rfl hsz hrest hdg kk
end
def rT_stubOldestDouble : Room := { frames := 1, cells := 0, slots := 0, locals := 23 }
set_option maxHeartbeats 4000000 in
set_option maxRecDepth 100000 in
theorem ct_stubOldestDouble (l : Launch) {u : ts_S} {r0 : Int32} {u0 : ts_S} (hd : dt_stubOldestDouble u = some (r0, u0)) : ts_Ci tF l yT_stubOldestDouble (.code yT_stubOldestDouble bT_stubOldestDouble 2 (some .boolean) :: uW) rT_stubOldestDouble (fun ad => [.ref (ad 0)]) u r0 u0 := by
  refine ts_in_i tF l (by decide) (fun p e s m args below meth c D ca ad A hc hn hr hlk hw => ?_)
  have hx := hc.1
  have hb := hc.2.1
  have hl := lv_entry ([.ref (ad 0)]) (n := 2) (Nat.le_of_ble_eq_true rfl)
  rw [lg_entry_eq]
  generalize (lg_sl ([.ref (ad 0)]) ++ List.replicate (2 - (lg_sl ([.ref (ad 0)])).length) Slot.unset).toArray = ls at hl ⊢
  replace hl : lv_has ls 2 [(0, .ref (ad 0))] := hl
  unfold dt_stubOldestDouble at hd
  refine lv_aload_n hx hb dT_stubOldestDouble_0 rfl (lv_at hl 0 rfl) ?_
  refine lv_iconst (v := 2) hx hb dT_stubOldestDouble_1 (by decide) ?_
  obtain ⟨r2, u2, hq, hd⟩ := ts_b_s hd
  refine cT_91 hc hn hw hq hl.1 ⟨Nat.le_of_ble_eq_true rfl, Nat.le_of_ble_eq_true rfl⟩ (Nat.le_of_ble_eq_true rfl) dT_stubOldestDouble_2 (fun H locs hw => ?_)
  refine lv_istore_n (lv' := [(1, .int r2), (0, .ref (ad 0))]) hx hb dT_stubOldestDouble_5 rfl hl (by decide) rfl (fun ls hl => ?_)
  refine lv_iload_n hx hb dT_stubOldestDouble_6 rfl (lv_at hl 0 rfl) ?_
  refine lv_iconst (v := (-1)) hx hb dT_stubOldestDouble_7 (by decide) ?_
  refine lv_icmp_ne (tgt := 13) hx hb dT_stubOldestDouble_8 (by decide) (fun cq => ?_) (fun cq => ?_)
  · replace hd := ts_if_n cq hd
    refine lv_aload_n hx hb dT_stubOldestDouble_13 rfl (lv_at hl 1 rfl) ?_
    refine gT_9 hc hn hw dT_stubOldestDouble_14 ?_
    refine lv_iload_n hx hb dT_stubOldestDouble_17 rfl (lv_at hl 0 rfl) ?_
    refine lv_iconst (v := 3) hx hb dT_stubOldestDouble_18 (by decide) ?_
    obtain ⟨h, hd⟩ := ts_ix_s hd
    refine tt_s2 hc hw h dT_stubOldestDouble_19 (fun H locs hw => ?_)
    refine lv_iconst (v := 1) hx hb dT_stubOldestDouble_20 (by decide) ?_
    exact ts_iret hx hb hr hlk (by decide +kernel) hw hd dT_stubOldestDouble_21
  · replace hd := ts_if_p cq hd
    refine lv_iconst (v := 0) hx hb dT_stubOldestDouble_11 (by decide) ?_
    exact ts_iret hx hb hr hlk (by decide +kernel) hw hd dT_stubOldestDouble_12
section
variable {p : Program} {l : Launch} {e : Env} {R : Room} {s : State} {m : MethodId} {args : Array Value} {below : List Frame} {meth : Method} {c : Code} {H : Heap} {locs : List Loc} {Q : State → Prop} {cc : ByteArray} {pc nL : Nat} {ls : Array Slot} {rest : List Value} {D : va_G} {ca : Nat → ClassId} {ad : Nat → Nat} {A : Nat → Prop} {u : ts_S} {cells slots : Nat}
theorem cT_109 (hc : CallFix p m c cc nL s args uW RT) (hn : nx s) (hw : ts_W tF D ca ad A s H locs u) {r0 : Int32} {u0 : ts_S} (hq : dt_stubOldestDouble u = some (r0, u0)) (hsz : ls.size = nL) (hR : rT_stubOldestDouble.frames + 1 ≤ R.frames ∧ 8 + (2 + 11) + rT_stubOldestDouble.locals ≤ R.locals) (hrest : (rest.map fun v => v.category).sum ≤ 8) (hdg : decode cc pc = .ok (.invokevirtual 109, 3)) (kk : ∀ (H1 : Heap) (locs1 : List Loc), ts_W tF D ca ad A s H1 locs1 u0 → W p l e R s m args below meth c H1 locs1 0 0 Q (F0 m (pc + 3) ls (.int r0 :: rest))) : W p l e R s m args below meth c H locs 0 0 Q (F0 m pc ls (.ref (ad 0) :: rest)) :=
  ts_callVi (b := ad 0) (As := []) hc hn hw (ct_stubOldestDouble l hq) rfl (cwV 0 hc.2.2.2.2 (gd_V (by decide +kernel) (by decide +kernel) (by decide +kernel) (by decide +kernel) (code_T_stubOldestDouble)) rfl rfl rfl (by decide +kernel) hR) (va_recv hw.2.2.2.1 hw.1 (ci := 1) (q0 := 0) rfl rfl) rfl hsz hrest hdg kk
end
def rT_makeRoom : Room := { frames := 3, cells := 0, slots := 0, locals := 64 }
set_option maxHeartbeats 4000000 in
set_option maxRecDepth 100000 in
theorem ct_makeRoom (l : Launch) {u : ts_S} {x1 : Int32} {r0 : Int32} {u0 : ts_S} (hd : dt_makeRoom u x1 = some (r0, u0)) : ts_Ci tF l yT_makeRoom (.code yT_makeRoom bT_makeRoom 3 (some .boolean) :: uW) rT_makeRoom (fun ad => [.ref (ad 0), .int x1]) u r0 u0 := by
  refine ts_in_i tF l (by decide) (fun p e s m args below meth c D ca ad A hc hn hr hlk hw => ?_)
  have hx := hc.1
  have hb := hc.2.1
  have hl := lv_entry ([.ref (ad 0), .int x1]) (n := 3) (Nat.le_of_ble_eq_true rfl)
  rw [lg_entry_eq]
  generalize (lg_sl ([.ref (ad 0), .int x1]) ++ List.replicate (3 - (lg_sl ([.ref (ad 0), .int x1])).length) Slot.unset).toArray = ls at hl ⊢
  replace hl : lv_has ls 3 [(0, .ref (ad 0)), (1, .int x1)] := hl
  have L2 : ∀ (n : Nat) (u : ts_S) (x1 x2 : Int32) (H : Heap) (locs : List Loc) (ls : Array Slot), dt_makeRoom_2 n u x1 x2 = some (r0, u0) → ts_W tF D ca ad A s H locs u → lv_has ls 3 [(0, .ref (ad 0)), (1, .int x1), (2, .int x2)] → W p l e rT_makeRoom s m args below meth c H locs 0 0 (MQ below (va_Qi (fun r v => r = r0 ∧ v = u0) (ts_post tF D ca ad A) A) args s 0 0 A) (F0 m 2 ls []) := by
    intro n
    induction n with
    | zero => intro u x1 x2 H locs ls hd; cases (show (none : Option (Int32 × ts_S)) = some (r0, u0) from hd)
    | succ n2 ih2 =>
      intro u x1 x2 H locs ls hd hw hl
      replace hd : dt_makeRoom_2_b (dt_makeRoom_2 n2) u x1 x2 = some (r0, u0) := hd
      unfold dt_makeRoom_2_b at hd
      refine lv_iload_n hx hb dT_makeRoom_2 rfl (lv_at hl 2 rfl) ?_
      refine lv_bipush (v := 16) hx hb dT_makeRoom_3 (by decide) ?_
      refine lv_icmp_ge (tgt := 31) hx hb dT_makeRoom_5 (by decide) (fun cq => ?_) (fun cq => ?_)
      · replace hd := ts_if_p cq hd
        refine lv_aload_n hx hb dT_makeRoom_31 rfl (lv_at hl 0 rfl) ?_
        refine lv_iload_n hx hb dT_makeRoom_32 rfl (lv_at hl 1 rfl) ?_
        obtain ⟨r33, u33, hq, hd⟩ := ts_b_s hd
        refine cT_161 hc hn hw hq hl.1 ⟨Nat.le_of_ble_eq_true rfl, Nat.le_of_ble_eq_true rfl⟩ (Nat.le_of_ble_eq_true rfl) dT_makeRoom_33 (fun H locs hw => ?_)
        obtain ⟨hz, hd⟩ := ts_z_s hd
        exact ts_iret hx hb hr hlk hz hw hd dT_makeRoom_36
      · replace hd := ts_if_n cq hd
        refine lv_aload_n hx hb dT_makeRoom_8 rfl (lv_at hl 0 rfl) ?_
        refine lv_iload_n hx hb dT_makeRoom_9 rfl (lv_at hl 1 rfl) ?_
        obtain ⟨r10, u10, hq, hd⟩ := ts_b_s hd
        refine cT_161 hc hn hw hq hl.1 ⟨Nat.le_of_ble_eq_true rfl, Nat.le_of_ble_eq_true rfl⟩ (Nat.le_of_ble_eq_true rfl) dT_makeRoom_10 (fun H locs hw => ?_)
        refine lv_if_ne (tgt := 31) hx hb dT_makeRoom_13 (by decide) (fun cq => ?_) (fun cq => ?_)
        · replace hd := ts_if_n cq hd
          refine lv_aload_n hx hb dT_makeRoom_31 rfl (lv_at hl 0 rfl) ?_
          refine lv_iload_n hx hb dT_makeRoom_32 rfl (lv_at hl 1 rfl) ?_
          obtain ⟨r33, u33, hq, hd⟩ := ts_b_s hd
          refine cT_161 hc hn hw hq hl.1 ⟨Nat.le_of_ble_eq_true rfl, Nat.le_of_ble_eq_true rfl⟩ (Nat.le_of_ble_eq_true rfl) dT_makeRoom_33 (fun H locs hw => ?_)
          obtain ⟨hz, hd⟩ := ts_z_s hd
          exact ts_iret hx hb hr hlk hz hw hd dT_makeRoom_36
        · replace hd := ts_if_p cq hd
          refine lv_aload_n hx hb dT_makeRoom_16 rfl (lv_at hl 0 rfl) ?_
          obtain ⟨r17, u17, hq, hd⟩ := ts_b_s hd
          refine cT_109 hc hn hw hq hl.1 ⟨Nat.le_of_ble_eq_true rfl, Nat.le_of_ble_eq_true rfl⟩ (Nat.le_of_ble_eq_true rfl) dT_makeRoom_17 (fun H locs hw => ?_)
          refine lv_if_ne (tgt := 25) hx hb dT_makeRoom_20 (by decide) (fun cq => ?_) (fun cq => ?_)
          · replace hd := ts_if_n cq hd
            refine lv_iinc (v := (x2 + 1)) (lv' := [(2, .int (x2 + 1)), (0, .ref (ad 0)), (1, .int x1)]) hx hb dT_makeRoom_25 hl (k := 2) rfl rfl (by decide) rfl (fun ls hl => ?_)
            refine lv_goto (tgt := 2) hx hb dT_makeRoom_28 (by decide) ?_
            exact ih2 u17 x1 (x2 + 1) _ _ _ hd hw (lv_sub hl [1, 2, 0] rfl)
          · replace hd := ts_if_p cq hd
            refine lv_iconst (v := 0) hx hb dT_makeRoom_23 (by decide) ?_
            exact ts_iret hx hb hr hlk (by decide +kernel) hw hd dT_makeRoom_24
  unfold dt_makeRoom at hd
  refine lv_iconst (v := 0) hx hb dT_makeRoom_0 (by decide) ?_
  refine lv_istore_n (lv' := [(2, .int 0), (0, .ref (ad 0)), (1, .int x1)]) hx hb dT_makeRoom_1 rfl hl (by decide) rfl (fun ls hl => ?_)
  exact L2 40 u x1 0 _ _ _ hd hw (lv_sub hl [1, 2, 0] rfl)
section
variable {p : Program} {l : Launch} {e : Env} {R : Room} {s : State} {m : MethodId} {args : Array Value} {below : List Frame} {meth : Method} {c : Code} {H : Heap} {locs : List Loc} {Q : State → Prop} {cc : ByteArray} {pc nL : Nat} {ls : Array Slot} {rest : List Value} {D : va_G} {ca : Nat → ClassId} {ad : Nat → Nat} {A : Nat → Prop} {u : ts_S} {cells slots : Nat}
theorem cT_69 (hc : CallFix p m c cc nL s args uW RT) (hn : nx s) (hw : ts_W tF D ca ad A s H locs u) {x1 : Int32} {r0 : Int32} {u0 : ts_S} (hq : dt_makeRoom u x1 = some (r0, u0)) (hsz : ls.size = nL) (hR : rT_makeRoom.frames + 1 ≤ R.frames ∧ 8 + (3 + 11) + rT_makeRoom.locals ≤ R.locals) (hrest : (rest.map fun v => v.category).sum ≤ 8) (hdg : decode cc pc = .ok (.invokevirtual 69, 3)) (kk : ∀ (H1 : Heap) (locs1 : List Loc), ts_W tF D ca ad A s H1 locs1 u0 → W p l e R s m args below meth c H1 locs1 0 0 Q (F0 m (pc + 3) ls (.int r0 :: rest))) : W p l e R s m args below meth c H locs 0 0 Q (F0 m pc ls (.int x1 :: .ref (ad 0) :: rest)) :=
  ts_callVi (b := ad 0) (As := [.int x1]) hc hn hw (ct_makeRoom l hq) rfl (cwV 1 hc.2.2.2.2 (gd_V (by decide +kernel) (by decide +kernel) (by decide +kernel) (by decide +kernel) (code_T_makeRoom)) rfl rfl rfl (by decide +kernel) hR) (va_recv hw.2.2.2.1 hw.1 (ci := 1) (q0 := 0) rfl rfl) rfl hsz hrest hdg kk
end
def rT_use : Room := { frames := 0, cells := 0, slots := 0, locals := 0 }
set_option maxHeartbeats 4000000 in
set_option maxRecDepth 100000 in
theorem ct_use (l : Launch) {u : ts_S} {x1 : Int32} {r0 : Int32} {u0 : ts_S} (hd : dt_use u x1 = some (r0, u0)) : ts_Cv tF l yT_use (.code yT_use bT_use 2 none :: uW) rT_use (fun ad => [.ref (ad 0), .int x1]) u u0 := by
  refine ts_in_v tF l (by decide) (fun p e s m args below meth c D ca ad A hc hn hr hlk hw => ?_)
  have hx := hc.1
  have hb := hc.2.1
  have hl := lv_entry ([.ref (ad 0), .int x1]) (n := 2) (Nat.le_of_ble_eq_true rfl)
  rw [lg_entry_eq]
  generalize (lg_sl ([.ref (ad 0), .int x1]) ++ List.replicate (2 - (lg_sl ([.ref (ad 0), .int x1])).length) Slot.unset).toArray = ls at hl ⊢
  replace hl : lv_has ls 2 [(0, .ref (ad 0)), (1, .int x1)] := hl
  unfold dt_use at hd
  refine lv_aload_n hx hb dT_use_0 rfl (lv_at hl 0 rfl) ?_
  refine lv_dup hx hb dT_use_1 rfl ?_
  refine gT_34 hc hn hw dT_use_2 ?_
  refine lv_iconst (v := 1) hx hb dT_use_5 (by decide) ?_
  refine lv_iadd hx hb dT_use_6 ?_
  refine pT_34 hc hn hw dT_use_7 (fun H locs hw => ?_)
  refine lv_aload_n hx hb dT_use_10 rfl (lv_at hl 0 rfl) ?_
  refine gT_31 hc hn hw dT_use_11 ?_
  refine lv_iload_n hx hb dT_use_14 rfl (lv_at hl 1 rfl) ?_
  refine lv_aload_n hx hb dT_use_15 rfl (lv_at hl 0 rfl) ?_
  refine gT_34 hc hn hw dT_use_16 ?_
  obtain ⟨h, hd⟩ := ts_ix_s hd
  refine tt_s8 hc hw h dT_use_19 (fun H locs hw => ?_)
  exact ts_vret hx hb hr hlk hw hd dT_use_20
section
variable {p : Program} {l : Launch} {e : Env} {R : Room} {s : State} {m : MethodId} {args : Array Value} {below : List Frame} {meth : Method} {c : Code} {H : Heap} {locs : List Loc} {Q : State → Prop} {cc : ByteArray} {pc nL : Nat} {ls : Array Slot} {rest : List Value} {D : va_G} {ca : Nat → ClassId} {ad : Nat → Nat} {A : Nat → Prop} {u : ts_S} {cells slots : Nat}
theorem cT_72 (hc : CallFix p m c cc nL s args uW RT) (hn : nx s) (hw : ts_W tF D ca ad A s H locs u) {x1 : Int32} {r0 : Int32} {u0 : ts_S} (hq : dt_use u x1 = some (r0, u0)) (hsz : ls.size = nL) (hR : rT_use.frames + 1 ≤ R.frames ∧ 8 + (2 + 11) + rT_use.locals ≤ R.locals) (hrest : (rest.map fun v => v.category).sum ≤ 8) (hdg : decode cc pc = .ok (.invokevirtual 72, 3)) (kk : ∀ (H1 : Heap) (locs1 : List Loc), ts_W tF D ca ad A s H1 locs1 u0 → W p l e R s m args below meth c H1 locs1 0 0 Q (F0 m (pc + 3) ls rest)) : W p l e R s m args below meth c H locs 0 0 Q (F0 m pc ls (.int x1 :: .ref (ad 0) :: rest)) :=
  ts_callVv (b := ad 0) (As := [.int x1]) hc hn hw (ct_use l hq) rfl (cwV 1 hc.2.2.2.2 (gd_V (by decide +kernel) (by decide +kernel) (by decide +kernel) (by decide +kernel) (code_T_use)) rfl rfl rfl (by decide +kernel) hR) (va_recv hw.2.2.2.1 hw.1 (ci := 1) (q0 := 0) rfl rfl) rfl hsz hrest hdg kk
end
def rT_create : Room := { frames := 4, cells := 0, slots := 0, locals := 86 }
set_option maxHeartbeats 4000000 in
set_option maxRecDepth 100000 in
theorem ct_create (l : Launch) {u : ts_S} {x1 x2 : Int32} {r0 : Int32} {u0 : ts_S} (hd : dt_create u x1 x2 = some (r0, u0)) : ts_Ci tF l yT_create (.code yT_create bT_create 4 (some .int) :: uW) rT_create (fun ad => [.ref (ad 0), .int x1, .int x2]) u r0 u0 := by
  refine ts_in_i tF l (by decide) (fun p e s m args below meth c D ca ad A hc hn hr hlk hw => ?_)
  have hx := hc.1
  have hb := hc.2.1
  have hl := lv_entry ([.ref (ad 0), .int x1, .int x2]) (n := 4) (Nat.le_of_ble_eq_true rfl)
  rw [lg_entry_eq]
  generalize (lg_sl ([.ref (ad 0), .int x1, .int x2]) ++ List.replicate (4 - (lg_sl ([.ref (ad 0), .int x1, .int x2])).length) Slot.unset).toArray = ls at hl ⊢
  replace hl : lv_has ls 4 [(0, .ref (ad 0)), (1, .int x1), (2, .int x2)] := hl
  have L57 : ∀ (n : Nat) (u : ts_S) (x1 x2 x3 : Int32) (H : Heap) (locs : List Loc) (ls : Array Slot), dt_create_57 n u x1 x2 x3 = some (r0, u0) → ts_W tF D ca ad A s H locs u → lv_has ls 4 [(0, .ref (ad 0)), (1, .int x1), (2, .int x2), (3, .int x3)] → W p l e rT_create s m args below meth c H locs 0 0 (MQ below (va_Qi (fun r v => r = r0 ∧ v = u0) (ts_post tF D ca ad A) A) args s 0 0 A) (F0 m 57 ls []) := by
    intro n
    induction n with
    | zero => intro u x1 x2 x3 H locs ls hd; cases (show (none : Option (Int32 × ts_S)) = some (r0, u0) from hd)
    | succ n57 ih57 =>
      intro u x1 x2 x3 H locs ls hd hw hl
      replace hd : dt_create_57_b (dt_create_57 n57) u x1 x2 x3 = some (r0, u0) := hd
      unfold dt_create_57_b at hd
      refine lv_iload_n hx hb dT_create_57 rfl (lv_at hl 3 rfl) ?_
      refine lv_iconst (v := 4) hx hb dT_create_58 (by decide) ?_
      refine lv_icmp_ge (tgt := 77) hx hb dT_create_59 (by decide) (fun cq => ?_) (fun cq => ?_)
      · replace hd := ts_if_p cq hd
        refine lv_aload_n hx hb dT_create_77 rfl (lv_at hl 0 rfl) ?_
        refine lv_iload_n hx hb dT_create_78 rfl (lv_at hl 1 rfl) ?_
        obtain ⟨r79, u79, hq, hd⟩ := ts_b_s hd
        refine cT_72 hc hn hw hq hl.1 ⟨Nat.le_of_ble_eq_true rfl, Nat.le_of_ble_eq_true rfl⟩ (Nat.le_of_ble_eq_true rfl) dT_create_79 (fun H locs hw => ?_)
        refine lv_iconst (v := 0) hx hb dT_create_82 (by decide) ?_
        exact ts_iret hx hb hr hlk (vp_nar_int _) hw hd dT_create_83
      · replace hd := ts_if_n cq hd
        refine lv_aload_n hx hb dT_create_62 rfl (lv_at hl 0 rfl) ?_
        refine gT_18 hc hn hw dT_create_63 ?_
        refine lv_iload_n hx hb dT_create_66 rfl (lv_at hl 1 rfl) ?_
        obtain ⟨hrow, hd⟩ := ts_ix_s hd
        refine tt_aa hc hw hrow dT_create_67 ?_
        refine lv_iload_n hx hb dT_create_68 rfl (lv_at hl 3 rfl) ?_
        refine lv_iconst (v := 0) hx hb dT_create_69 (by decide) ?_
        obtain ⟨h, hd⟩ := ts_ix_s hd
        refine tt_sr hc hw hrow h dT_create_70 (fun H locs hw => ?_)
        refine lv_iinc (v := (x3 + 1)) (lv' := [(3, .int (x3 + 1)), (0, .ref (ad 0)), (1, .int x1), (2, .int x2)]) hx hb dT_create_71 hl (k := 3) rfl rfl (by decide) rfl (fun ls hl => ?_)
        refine lv_goto (tgt := 57) hx hb dT_create_74 (by decide) ?_
        exact ih57 (ts_a (20 + x1.toNatClampNeg) x3.toNatClampNeg 0 u) x1 x2 (x3 + 1) _ _ _ hd hw (lv_sub hl [1, 2, 3, 0] rfl)
  unfold dt_create at hd
  refine lv_iload_n hx hb dT_create_0 rfl (lv_at hl 1 rfl) ?_
  obtain ⟨r1, u1, hq, hd⟩ := ts_b_s hd
  refine cT_65 hc hn hw hq hl.1 ⟨Nat.le_of_ble_eq_true rfl, Nat.le_of_ble_eq_true rfl⟩ (Nat.le_of_ble_eq_true rfl) dT_create_1 (fun H locs hw => ?_)
  refine lv_if_eq (tgt := 17) hx hb dT_create_4 (by decide) (fun cq => ?_) (fun cq => ?_)
  · replace hd := ts_if_p cq hd
    refine lv_iconst (v := (-1)) hx hb dT_create_17 (by decide) ?_
    exact ts_iret hx hb hr hlk (vp_nar_int _) hw hd dT_create_18
  · replace hd := ts_if_n cq hd
    refine lv_iload_n hx hb dT_create_7 rfl (lv_at hl 2 rfl) ?_
    refine lv_iconst (v := 1) hx hb dT_create_8 (by decide) ?_
    refine lv_icmp_lt (tgt := 17) hx hb dT_create_9 (by decide) (fun cq => ?_) (fun cq => ?_)
    · replace hd := ts_if_p cq hd
      refine lv_iconst (v := (-1)) hx hb dT_create_17 (by decide) ?_
      exact ts_iret hx hb hr hlk (vp_nar_int _) hw hd dT_create_18
    · replace hd := ts_if_n cq hd
      refine lv_iload_n hx hb dT_create_12 rfl (lv_at hl 2 rfl) ?_
      refine lv_iconst (v := 4) hx hb dT_create_13 (by decide) ?_
      refine lv_icmp_le (tgt := 19) hx hb dT_create_14 (by decide) (fun cq => ?_) (fun cq => ?_)
      · replace hd := ts_if_p cq hd
        refine lv_aload_n hx hb dT_create_19 rfl (lv_at hl 0 rfl) ?_
        refine gT_9 hc hn hw dT_create_20 ?_
        refine lv_iload_n hx hb dT_create_23 rfl (lv_at hl 1 rfl) ?_
        obtain ⟨h, hd⟩ := ts_ix_s hd
        refine tt_l2 hc hw h dT_create_24 ?_
        refine lv_if_eq (tgt := 30) hx hb dT_create_25 (by decide) (fun cq => ?_) (fun cq => ?_)
        · replace hd := ts_if_p cq hd
          refine lv_aload_n hx hb dT_create_30 rfl (lv_at hl 0 rfl) ?_
          refine lv_iload_n hx hb dT_create_31 rfl (lv_at hl 2 rfl) ?_
          obtain ⟨r32, u32, hq, hd⟩ := ts_b_s hd
          refine cT_69 hc hn hw hq hl.1 ⟨Nat.le_of_ble_eq_true rfl, Nat.le_of_ble_eq_true rfl⟩ (Nat.le_of_ble_eq_true rfl) dT_create_32 (fun H locs hw => ?_)
          refine lv_if_ne (tgt := 41) hx hb dT_create_35 (by decide) (fun cq => ?_) (fun cq => ?_)
          · replace hd := ts_if_n cq hd
            refine lv_aload_n hx hb dT_create_41 rfl (lv_at hl 0 rfl) ?_
            refine gT_9 hc hn hw dT_create_42 ?_
            refine lv_iload_n hx hb dT_create_45 rfl (lv_at hl 1 rfl) ?_
            refine lv_iconst (v := 1) hx hb dT_create_46 (by decide) ?_
            obtain ⟨h, hd⟩ := ts_ix_s hd
            refine tt_s2 hc hw h dT_create_47 (fun H locs hw => ?_)
            refine lv_aload_n hx hb dT_create_48 rfl (lv_at hl 0 rfl) ?_
            refine gT_13 hc hn hw dT_create_49 ?_
            refine lv_iload_n hx hb dT_create_52 rfl (lv_at hl 1 rfl) ?_
            refine lv_iload_n hx hb dT_create_53 rfl (lv_at hl 2 rfl) ?_
            obtain ⟨h, hd⟩ := ts_ix_s hd
            refine tt_s3 hc hw h dT_create_54 (fun H locs hw => ?_)
            refine lv_iconst (v := 0) hx hb dT_create_55 (by decide) ?_
            refine lv_istore_n (lv' := [(3, .int 0), (0, .ref (ad 0)), (1, .int x1), (2, .int x2)]) hx hb dT_create_56 rfl hl (by decide) rfl (fun ls hl => ?_)
            exact L57 40 (ts_a 3 x1.toNatClampNeg x2 (ts_a 2 x1.toNatClampNeg 1 u32)) x1 x2 0 _ _ _ hd hw (lv_sub hl [1, 2, 3, 0] rfl)
          · replace hd := ts_if_p cq hd
            refine lv_bipush (v := (-2)) hx hb dT_create_38 (by decide) ?_
            exact ts_iret hx hb hr hlk (vp_nar_int _) hw hd dT_create_40
        · replace hd := ts_if_n cq hd
          refine lv_iconst (v := (-1)) hx hb dT_create_28 (by decide) ?_
          exact ts_iret hx hb hr hlk (vp_nar_int _) hw hd dT_create_29
      · replace hd := ts_if_n cq hd
        refine lv_iconst (v := (-1)) hx hb dT_create_17 (by decide) ?_
        exact ts_iret hx hb hr hlk (vp_nar_int _) hw hd dT_create_18
def rP_goTo : Room := { frames := 1, cells := 0, slots := 0, locals := 21 }
set_option maxHeartbeats 4000000 in
set_option maxRecDepth 100000 in
theorem cp_goTo (l : Launch) {u : ts_S} {x1 x2 : Int32} {r0 : Int32} {u0 : ts_S} (hd : dp_goTo u x1 x2 = some (r0, u0)) : ts_Cv tF l yP_goTo (.code yP_goTo bP_goTo 3 none :: uW) rP_goTo (fun ad => [.ref (ad 1), .int x1, .int x2]) u u0 := by
  refine ts_in_v tF l (by decide) (fun p e s m args below meth c D ca ad A hc hn hr hlk hw => ?_)
  have hx := hc.1
  have hb := hc.2.1
  have hl := lv_entry ([.ref (ad 1), .int x1, .int x2]) (n := 3) (Nat.le_of_ble_eq_true rfl)
  rw [lg_entry_eq]
  generalize (lg_sl ([.ref (ad 1), .int x1, .int x2]) ++ List.replicate (3 - (lg_sl ([.ref (ad 1), .int x1, .int x2])).length) Slot.unset).toArray = ls at hl ⊢
  replace hl : lv_has ls 3 [(0, .ref (ad 1)), (1, .int x1), (2, .int x2)] := hl
  unfold dp_goTo at hd
  refine lv_aload_n hx hb dP_goTo_0 rfl (lv_at hl 0 rfl) ?_
  refine gP_18 hc hn hw dP_goTo_1 ?_
  refine lv_iload_n hx hb dP_goTo_4 rfl (lv_at hl 1 rfl) ?_
  refine lv_icmp_eq (tgt := 29) hx hb dP_goTo_5 (by decide) (fun cq => ?_) (fun cq => ?_)
  · replace hd := ts_if_p cq hd
    refine lv_aload_n hx hb dP_goTo_29 rfl (lv_at hl 0 rfl) ?_
    refine lv_dup hx hb dP_goTo_30 rfl ?_
    refine gP_25 hc hn hw dP_goTo_31 ?_
    refine lv_aload_n hx hb dP_goTo_34 rfl (lv_at hl 0 rfl) ?_
    refine gP_22 hc hn hw dP_goTo_35 ?_
    refine lv_iload_n hx hb dP_goTo_38 rfl (lv_at hl 2 rfl) ?_
    refine lv_isub hx hb dP_goTo_39 ?_
    refine jm_P_31 hc hl.1 (Nat.le_of_ble_eq_true rfl) (Nat.le_of_ble_eq_true rfl) dP_goTo_40 ?_
    refine lv_iadd hx hb dP_goTo_43 ?_
    refine pP_25 hc hn hw dP_goTo_44 (fun H locs hw => ?_)
    refine lv_aload_n hx hb dP_goTo_47 rfl (lv_at hl 0 rfl) ?_
    refine lv_iload_n hx hb dP_goTo_48 rfl (lv_at hl 2 rfl) ?_
    refine pP_22 hc hn hw dP_goTo_49 (fun H locs hw => ?_)
    exact ts_vret hx hb hr hlk hw hd dP_goTo_52
  · replace hd := ts_if_n cq hd
    refine lv_aload_n hx hb dP_goTo_8 rfl (lv_at hl 0 rfl) ?_
    refine lv_dup hx hb dP_goTo_9 rfl ?_
    refine gP_25 hc hn hw dP_goTo_10 ?_
    refine lv_bipush (v := 20) hx hb dP_goTo_13 (by decide) ?_
    refine lv_iadd hx hb dP_goTo_15 ?_
    refine pP_25 hc hn hw dP_goTo_16 (fun H locs hw => ?_)
    refine lv_aload_n hx hb dP_goTo_19 rfl (lv_at hl 0 rfl) ?_
    refine lv_iload_n hx hb dP_goTo_20 rfl (lv_at hl 1 rfl) ?_
    refine pP_18 hc hn hw dP_goTo_21 (fun H locs hw => ?_)
    refine lv_aload_n hx hb dP_goTo_24 rfl (lv_at hl 0 rfl) ?_
    refine lv_iconst (v := 0) hx hb dP_goTo_25 (by decide) ?_
    refine pP_22 hc hn hw dP_goTo_26 (fun H locs hw => ?_)
    refine lv_aload_n hx hb dP_goTo_29 rfl (lv_at hl 0 rfl) ?_
    refine lv_dup hx hb dP_goTo_30 rfl ?_
    refine gP_25 hc hn hw dP_goTo_31 ?_
    refine lv_aload_n hx hb dP_goTo_34 rfl (lv_at hl 0 rfl) ?_
    refine gP_22 hc hn hw dP_goTo_35 ?_
    refine lv_iload_n hx hb dP_goTo_38 rfl (lv_at hl 2 rfl) ?_
    refine lv_isub hx hb dP_goTo_39 ?_
    refine jm_P_31 hc hl.1 (Nat.le_of_ble_eq_true rfl) (Nat.le_of_ble_eq_true rfl) dP_goTo_40 ?_
    refine lv_iadd hx hb dP_goTo_43 ?_
    refine pP_25 hc hn hw dP_goTo_44 (fun H locs hw => ?_)
    refine lv_aload_n hx hb dP_goTo_47 rfl (lv_at hl 0 rfl) ?_
    refine lv_iload_n hx hb dP_goTo_48 rfl (lv_at hl 2 rfl) ?_
    refine pP_22 hc hn hw dP_goTo_49 (fun H locs hw => ?_)
    exact ts_vret hx hb hr hlk hw hd dP_goTo_52
section
variable {p : Program} {l : Launch} {e : Env} {R : Room} {s : State} {m : MethodId} {args : Array Value} {below : List Frame} {meth : Method} {c : Code} {H : Heap} {locs : List Loc} {Q : State → Prop} {cc : ByteArray} {pc nL : Nat} {ls : Array Slot} {rest : List Value} {D : va_G} {ca : Nat → ClassId} {ad : Nat → Nat} {A : Nat → Prop} {u : ts_S} {cells slots : Nat}
theorem cP_37 (hc : CallFix p m c cc nL s args uW RP) (hn : nx s) (hw : ts_W tF D ca ad A s H locs u) {x1 x2 : Int32} {r0 : Int32} {u0 : ts_S} (hq : dp_goTo u x1 x2 = some (r0, u0)) (hsz : ls.size = nL) (hR : rP_goTo.frames + 1 ≤ R.frames ∧ 8 + (3 + 11) + rP_goTo.locals ≤ R.locals) (hrest : (rest.map fun v => v.category).sum ≤ 8) (hdg : decode cc pc = .ok (.invokevirtual 37, 3)) (kk : ∀ (H1 : Heap) (locs1 : List Loc), ts_W tF D ca ad A s H1 locs1 u0 → W p l e R s m args below meth c H1 locs1 0 0 Q (F0 m (pc + 3) ls rest)) : W p l e R s m args below meth c H locs 0 0 Q (F0 m pc ls (.int x2 :: .int x1 :: .ref (ad 1) :: rest)) :=
  ts_callVv (b := ad 1) (As := [.int x1, .int x2]) hc hn hw (cp_goTo l hq) rfl (cwV 2 hc.2.2.2.2 (gd_V (by decide +kernel) (by decide +kernel) (by decide +kernel) (by decide +kernel) (code_P_goTo)) rfl rfl rfl (by decide +kernel) hR) (va_recv hw.2.2.2.1 hw.1 (ci := 0) (q0 := 1) rfl rfl) rfl hsz hrest hdg kk
end
def rP_pass : Room := { frames := 2, cells := 0, slots := 0, locals := 43 }
set_option maxHeartbeats 4000000 in
set_option maxRecDepth 100000 in
theorem cp_pass (l : Launch) {u : ts_S} {x1 x2 x3 : Int32} {r0 : Int32} {u0 : ts_S} (hd : dp_pass u x1 x2 x3 = some (r0, u0)) : ts_Cv tF l yP_pass (.code yP_pass bP_pass 4 none :: uW) rP_pass (fun ad => [.ref (ad 1), .int x1, .int x2, .int x3]) u u0 := by
  refine ts_in_v tF l (by decide) (fun p e s m args below meth c D ca ad A hc hn hr hlk hw => ?_)
  have hx := hc.1
  have hb := hc.2.1
  have hl := lv_entry ([.ref (ad 1), .int x1, .int x2, .int x3]) (n := 4) (Nat.le_of_ble_eq_true rfl)
  rw [lg_entry_eq]
  generalize (lg_sl ([.ref (ad 1), .int x1, .int x2, .int x3]) ++ List.replicate (4 - (lg_sl ([.ref (ad 1), .int x1, .int x2, .int x3])).length) Slot.unset).toArray = ls at hl ⊢
  replace hl : lv_has ls 4 [(0, .ref (ad 1)), (1, .int x1), (2, .int x2), (3, .int x3)] := hl
  unfold dp_pass at hd
  refine lv_aload_n hx hb dP_pass_0 rfl (lv_at hl 0 rfl) ?_
  refine lv_iload_n hx hb dP_pass_1 rfl (lv_at hl 1 rfl) ?_
  refine lv_iload_n hx hb dP_pass_2 rfl (lv_at hl 2 rfl) ?_
  obtain ⟨r3, u3, hq, hd⟩ := ts_b_s hd
  refine cP_37 hc hn hw hq hl.1 ⟨Nat.le_of_ble_eq_true rfl, Nat.le_of_ble_eq_true rfl⟩ (Nat.le_of_ble_eq_true rfl) dP_pass_3 (fun H locs hw => ?_)
  refine lv_aload_n hx hb dP_pass_6 rfl (lv_at hl 0 rfl) ?_
  refine lv_dup hx hb dP_pass_7 rfl ?_
  refine gP_25 hc hn hw dP_pass_8 ?_
  refine lv_iload_n hx hb dP_pass_11 rfl (lv_at hl 3 rfl) ?_
  refine lv_iadd hx hb dP_pass_12 ?_
  refine pP_25 hc hn hw dP_pass_13 (fun H locs hw => ?_)
  refine lv_aload_n hx hb dP_pass_16 rfl (lv_at hl 0 rfl) ?_
  refine lv_dup hx hb dP_pass_17 rfl ?_
  refine gP_22 hc hn hw dP_pass_18 ?_
  refine lv_iload_n hx hb dP_pass_21 rfl (lv_at hl 3 rfl) ?_
  refine lv_iadd hx hb dP_pass_22 ?_
  refine pP_22 hc hn hw dP_pass_23 (fun H locs hw => ?_)
  exact ts_vret hx hb hr hlk hw hd dP_pass_26
section
variable {p : Program} {l : Launch} {e : Env} {R : Room} {s : State} {m : MethodId} {args : Array Value} {below : List Frame} {meth : Method} {c : Code} {H : Heap} {locs : List Loc} {Q : State → Prop} {cc : ByteArray} {pc nL : Nat} {ls : Array Slot} {rest : List Value} {D : va_G} {ca : Nat → ClassId} {ad : Nat → Nat} {A : Nat → Prop} {u : ts_S} {cells slots : Nat}
theorem cP_41 (hc : CallFix p m c cc nL s args uW RP) (hn : nx s) (hw : ts_W tF D ca ad A s H locs u) {x1 x2 x3 : Int32} {r0 : Int32} {u0 : ts_S} (hq : dp_pass u x1 x2 x3 = some (r0, u0)) (hsz : ls.size = nL) (hR : rP_pass.frames + 1 ≤ R.frames ∧ 8 + (4 + 11) + rP_pass.locals ≤ R.locals) (hrest : (rest.map fun v => v.category).sum ≤ 8) (hdg : decode cc pc = .ok (.invokevirtual 41, 3)) (kk : ∀ (H1 : Heap) (locs1 : List Loc), ts_W tF D ca ad A s H1 locs1 u0 → W p l e R s m args below meth c H1 locs1 0 0 Q (F0 m (pc + 3) ls rest)) : W p l e R s m args below meth c H locs 0 0 Q (F0 m pc ls (.int x3 :: .int x2 :: .int x1 :: .ref (ad 1) :: rest)) :=
  ts_callVv (b := ad 1) (As := [.int x1, .int x2, .int x3]) hc hn hw (cp_pass l hq) rfl (cwV 3 hc.2.2.2.2 (gd_V (by decide +kernel) (by decide +kernel) (by decide +kernel) (by decide +kernel) (code_P_pass)) rfl rfl rfl (by decide +kernel) hR) (va_recv hw.2.2.2.1 hw.1 (ci := 0) (q0 := 1) rfl rfl) rfl hsz hrest hdg kk
theorem cT_164 (hc : CallFix p m c cc nL s args uW RT) (hn : nx s) (hw : ts_W tF D ca ad A s H locs u) {x1 x2 x3 : Int32} {r0 : Int32} {u0 : ts_S} (hq : dp_pass u x1 x2 x3 = some (r0, u0)) (hsz : ls.size = nL) (hR : rP_pass.frames + 1 ≤ R.frames ∧ 8 + (4 + 11) + rP_pass.locals ≤ R.locals) (hrest : (rest.map fun v => v.category).sum ≤ 8) (hdg : decode cc pc = .ok (.invokevirtual 164, 3)) (kk : ∀ (H1 : Heap) (locs1 : List Loc), ts_W tF D ca ad A s H1 locs1 u0 → W p l e R s m args below meth c H1 locs1 0 0 Q (F0 m (pc + 3) ls rest)) : W p l e R s m args below meth c H locs 0 0 Q (F0 m pc ls (.int x3 :: .int x2 :: .int x1 :: .ref (ad 1) :: rest)) :=
  ts_callNv (b := ad 1) (As := [.int x1, .int x2, .int x3]) hc hn hw (cp_pass l hq) rfl ⟨va_cnB 3 hc.2.2.2.2 (gd_N (code_P_pass)) rfl rfl rfl (hn (.methodLinkNest RT 164 yP_pass "TierStore") (by decide +kernel)) (hc.2.2.2.2 (.initialized RP) (by decide +kernel)) (by decide +kernel) hR, hc.2.2.2.2 (.instanceMethod yP_pass) (by decide +kernel), hc.2.2.2.2 (.selects RP yP_pass yP_pass) (by decide +kernel)⟩ (va_recv hw.2.2.2.1 hw.1 (ci := 0) (q0 := 1) rfl rfl) rfl hsz hrest hdg kk
end
def rT_bringToDisk : Room := { frames := 4, cells := 0, slots := 0, locals := 86 }
set_option maxHeartbeats 4000000 in
set_option maxRecDepth 100000 in
theorem ct_bringToDisk (l : Launch) {u : ts_S} {x1 : Int32} {r0 : Int32} {u0 : ts_S} (hd : dt_bringToDisk u x1 = some (r0, u0)) : ts_Ci tF l yT_bringToDisk (.code yT_bringToDisk bT_bringToDisk 2 (some .boolean) :: uW) rT_bringToDisk (fun ad => [.ref (ad 0), .int x1]) u r0 u0 := by
  refine ts_in_i tF l (by decide) (fun p e s m args below meth c D ca ad A hc hn hr hlk hw => ?_)
  have hx := hc.1
  have hb := hc.2.1
  have hl := lv_entry ([.ref (ad 0), .int x1]) (n := 2) (Nat.le_of_ble_eq_true rfl)
  rw [lg_entry_eq]
  generalize (lg_sl ([.ref (ad 0), .int x1]) ++ List.replicate (2 - (lg_sl ([.ref (ad 0), .int x1])).length) Slot.unset).toArray = ls at hl ⊢
  replace hl : lv_has ls 2 [(0, .ref (ad 0)), (1, .int x1)] := hl
  unfold dt_bringToDisk at hd
  refine lv_aload_n hx hb dT_bringToDisk_0 rfl (lv_at hl 0 rfl) ?_
  refine gT_9 hc hn hw dT_bringToDisk_1 ?_
  refine lv_iload_n hx hb dT_bringToDisk_4 rfl (lv_at hl 1 rfl) ?_
  obtain ⟨h, hd⟩ := ts_ix_s hd
  refine tt_l2 hc hw h dT_bringToDisk_5 ?_
  refine lv_iconst (v := 3) hx hb dT_bringToDisk_6 (by decide) ?_
  refine lv_icmp_eq (tgt := 12) hx hb dT_bringToDisk_7 (by decide) (fun cq => ?_) (fun cq => ?_)
  · replace hd := ts_if_p cq hd
    refine lv_aload_n hx hb dT_bringToDisk_12 rfl (lv_at hl 0 rfl) ?_
    refine lv_aload_n hx hb dT_bringToDisk_13 rfl (lv_at hl 0 rfl) ?_
    refine gT_13 hc hn hw dT_bringToDisk_14 ?_
    refine lv_iload_n hx hb dT_bringToDisk_17 rfl (lv_at hl 1 rfl) ?_
    obtain ⟨h, hd⟩ := ts_ix_s hd
    refine tt_l3 hc hw h dT_bringToDisk_18 ?_
    obtain ⟨r19, u19, hq, hd⟩ := ts_b_s hd
    refine cT_69 hc hn hw hq hl.1 ⟨Nat.le_of_ble_eq_true rfl, Nat.le_of_ble_eq_true rfl⟩ (Nat.le_of_ble_eq_true rfl) dT_bringToDisk_19 (fun H locs hw => ?_)
    refine lv_if_ne (tgt := 27) hx hb dT_bringToDisk_22 (by decide) (fun cq => ?_) (fun cq => ?_)
    · replace hd := ts_if_n cq hd
      refine lv_aload_n hx hb dT_bringToDisk_27 rfl (lv_at hl 0 rfl) ?_
      refine gT_61 hc hn hw dT_bringToDisk_28 ?_
      refine lv_aload_n hx hb dT_bringToDisk_31 rfl (lv_at hl 0 rfl) ?_
      refine gT_21 hc hn hw dT_bringToDisk_32 ?_
      refine lv_iload_n hx hb dT_bringToDisk_35 rfl (lv_at hl 1 rfl) ?_
      obtain ⟨h, hd⟩ := ts_ix_s hd
      refine tt_l5 hc hw h dT_bringToDisk_36 ?_
      refine lv_aload_n hx hb dT_bringToDisk_37 rfl (lv_at hl 0 rfl) ?_
      refine gT_24 hc hn hw dT_bringToDisk_38 ?_
      refine lv_iload_n hx hb dT_bringToDisk_41 rfl (lv_at hl 1 rfl) ?_
      obtain ⟨h, hd⟩ := ts_ix_s hd
      refine tt_l6 hc hw h dT_bringToDisk_42 ?_
      refine lv_aload_n hx hb dT_bringToDisk_43 rfl (lv_at hl 0 rfl) ?_
      refine gT_13 hc hn hw dT_bringToDisk_44 ?_
      refine lv_iload_n hx hb dT_bringToDisk_47 rfl (lv_at hl 1 rfl) ?_
      obtain ⟨h, hd⟩ := ts_ix_s hd
      refine tt_l3 hc hw h dT_bringToDisk_48 ?_
      obtain ⟨r49, u49, hq, hd⟩ := ts_b_s hd
      refine cT_164 hc hn hw hq hl.1 ⟨Nat.le_of_ble_eq_true rfl, Nat.le_of_ble_eq_true rfl⟩ (Nat.le_of_ble_eq_true rfl) dT_bringToDisk_49 (fun H locs hw => ?_)
      refine lv_aload_n hx hb dT_bringToDisk_52 rfl (lv_at hl 0 rfl) ?_
      refine gT_9 hc hn hw dT_bringToDisk_53 ?_
      refine lv_iload_n hx hb dT_bringToDisk_56 rfl (lv_at hl 1 rfl) ?_
      refine lv_iconst (v := 2) hx hb dT_bringToDisk_57 (by decide) ?_
      obtain ⟨h, hd⟩ := ts_ix_s hd
      refine tt_s2 hc hw h dT_bringToDisk_58 (fun H locs hw => ?_)
      refine lv_aload_n hx hb dT_bringToDisk_59 rfl (lv_at hl 0 rfl) ?_
      refine lv_iload_n hx hb dT_bringToDisk_60 rfl (lv_at hl 1 rfl) ?_
      obtain ⟨r61, u61, hq, hd⟩ := ts_b_s hd
      refine cT_72 hc hn hw hq hl.1 ⟨Nat.le_of_ble_eq_true rfl, Nat.le_of_ble_eq_true rfl⟩ (Nat.le_of_ble_eq_true rfl) dT_bringToDisk_61 (fun H locs hw => ?_)
      refine lv_iconst (v := 1) hx hb dT_bringToDisk_64 (by decide) ?_
      exact ts_iret hx hb hr hlk (by decide +kernel) hw hd dT_bringToDisk_65
    · replace hd := ts_if_p cq hd
      refine lv_iconst (v := 0) hx hb dT_bringToDisk_25 (by decide) ?_
      exact ts_iret hx hb hr hlk (by decide +kernel) hw hd dT_bringToDisk_26
  · replace hd := ts_if_n cq hd
    refine lv_iconst (v := 1) hx hb dT_bringToDisk_10 (by decide) ?_
    exact ts_iret hx hb hr hlk (by decide +kernel) hw hd dT_bringToDisk_11
section
variable {p : Program} {l : Launch} {e : Env} {R : Room} {s : State} {m : MethodId} {args : Array Value} {below : List Frame} {meth : Method} {c : Code} {H : Heap} {locs : List Loc} {Q : State → Prop} {cc : ByteArray} {pc nL : Nat} {ls : Array Slot} {rest : List Value} {D : va_G} {ca : Nat → ClassId} {ad : Nat → Nat} {A : Nat → Prop} {u : ts_S} {cells slots : Nat}
theorem cT_79 (hc : CallFix p m c cc nL s args uW RT) (hn : nx s) (hw : ts_W tF D ca ad A s H locs u) {x1 : Int32} {r0 : Int32} {u0 : ts_S} (hq : dt_bringToDisk u x1 = some (r0, u0)) (hsz : ls.size = nL) (hR : rT_bringToDisk.frames + 1 ≤ R.frames ∧ 8 + (2 + 11) + rT_bringToDisk.locals ≤ R.locals) (hrest : (rest.map fun v => v.category).sum ≤ 8) (hdg : decode cc pc = .ok (.invokevirtual 79, 3)) (kk : ∀ (H1 : Heap) (locs1 : List Loc), ts_W tF D ca ad A s H1 locs1 u0 → W p l e R s m args below meth c H1 locs1 0 0 Q (F0 m (pc + 3) ls (.int r0 :: rest))) : W p l e R s m args below meth c H locs 0 0 Q (F0 m pc ls (.int x1 :: .ref (ad 0) :: rest)) :=
  ts_callVi (b := ad 0) (As := [.int x1]) hc hn hw (ct_bringToDisk l hq) rfl (cwV 1 hc.2.2.2.2 (gd_V (by decide +kernel) (by decide +kernel) (by decide +kernel) (by decide +kernel) (code_T_bringToDisk)) rfl rfl rfl (by decide +kernel) hR) (va_recv hw.2.2.2.1 hw.1 (ci := 1) (q0 := 0) rfl rfl) rfl hsz hrest hdg kk
end
def rT_isPresent : Room := { frames := 1, cells := 0, slots := 0, locals := 20 }
set_option maxHeartbeats 4000000 in
set_option maxRecDepth 100000 in
theorem ct_isPresent (l : Launch) {u : ts_S} {x1 : Int32} {r0 : Int32} {u0 : ts_S} (hd : dt_isPresent u x1 = some (r0, u0)) : ts_Ci tF l yT_isPresent (.code yT_isPresent bT_isPresent 2 (some .boolean) :: uW) rT_isPresent (fun ad => [.ref (ad 0), .int x1]) u r0 u0 := by
  refine ts_in_i tF l (by decide) (fun p e s m args below meth c D ca ad A hc hn hr hlk hw => ?_)
  have hx := hc.1
  have hb := hc.2.1
  have hl := lv_entry ([.ref (ad 0), .int x1]) (n := 2) (Nat.le_of_ble_eq_true rfl)
  rw [lg_entry_eq]
  generalize (lg_sl ([.ref (ad 0), .int x1]) ++ List.replicate (2 - (lg_sl ([.ref (ad 0), .int x1])).length) Slot.unset).toArray = ls at hl ⊢
  replace hl : lv_has ls 2 [(0, .ref (ad 0)), (1, .int x1)] := hl
  unfold dt_isPresent at hd
  refine lv_iload_n hx hb dT_isPresent_0 rfl (lv_at hl 1 rfl) ?_
  obtain ⟨r1, u1, hq, hd⟩ := ts_b_s hd
  refine cT_65 hc hn hw hq hl.1 ⟨Nat.le_of_ble_eq_true rfl, Nat.le_of_ble_eq_true rfl⟩ (Nat.le_of_ble_eq_true rfl) dT_isPresent_1 (fun H locs hw => ?_)
  refine lv_if_eq (tgt := 20) hx hb dT_isPresent_4 (by decide) (fun cq => ?_) (fun cq => ?_)
  · replace hd := ts_if_p cq hd
    refine lv_iconst (v := 0) hx hb dT_isPresent_20 (by decide) ?_
    exact ts_iret hx hb hr hlk (by decide +kernel) hw hd dT_isPresent_21
  · replace hd := ts_if_n cq hd
    refine lv_aload_n hx hb dT_isPresent_7 rfl (lv_at hl 0 rfl) ?_
    refine gT_9 hc hn hw dT_isPresent_8 ?_
    refine lv_iload_n hx hb dT_isPresent_11 rfl (lv_at hl 1 rfl) ?_
    obtain ⟨h, hd⟩ := ts_ix_s hd
    refine tt_l2 hc hw h dT_isPresent_12 ?_
    refine lv_if_eq (tgt := 20) hx hb dT_isPresent_13 (by decide) (fun cq => ?_) (fun cq => ?_)
    · replace hd := ts_if_p cq hd
      refine lv_iconst (v := 0) hx hb dT_isPresent_20 (by decide) ?_
      exact ts_iret hx hb hr hlk (by decide +kernel) hw hd dT_isPresent_21
    · replace hd := ts_if_n cq hd
      refine lv_iconst (v := 1) hx hb dT_isPresent_16 (by decide) ?_
      refine lv_goto (tgt := 21) hx hb dT_isPresent_17 (by decide) ?_
      exact ts_iret hx hb hr hlk (by decide +kernel) hw hd dT_isPresent_21
section
variable {p : Program} {l : Launch} {e : Env} {R : Room} {s : State} {m : MethodId} {args : Array Value} {below : List Frame} {meth : Method} {c : Code} {H : Heap} {locs : List Loc} {Q : State → Prop} {cc : ByteArray} {pc nL : Nat} {ls : Array Slot} {rest : List Value} {D : va_G} {ca : Nat → ClassId} {ad : Nat → Nat} {A : Nat → Prop} {u : ts_S} {cells slots : Nat}
theorem cT_88 (hc : CallFix p m c cc nL s args uW RT) (hn : nx s) (hw : ts_W tF D ca ad A s H locs u) {x1 : Int32} {r0 : Int32} {u0 : ts_S} (hq : dt_isPresent u x1 = some (r0, u0)) (hsz : ls.size = nL) (hR : rT_isPresent.frames + 1 ≤ R.frames ∧ 8 + (2 + 11) + rT_isPresent.locals ≤ R.locals) (hrest : (rest.map fun v => v.category).sum ≤ 8) (hdg : decode cc pc = .ok (.invokevirtual 88, 3)) (kk : ∀ (H1 : Heap) (locs1 : List Loc), ts_W tF D ca ad A s H1 locs1 u0 → W p l e R s m args below meth c H1 locs1 0 0 Q (F0 m (pc + 3) ls (.int r0 :: rest))) : W p l e R s m args below meth c H locs 0 0 Q (F0 m pc ls (.int x1 :: .ref (ad 0) :: rest)) :=
  ts_callVi (b := ad 0) (As := [.int x1]) hc hn hw (ct_isPresent l hq) rfl (cwV 1 hc.2.2.2.2 (gd_V (by decide +kernel) (by decide +kernel) (by decide +kernel) (by decide +kernel) (code_T_isPresent)) rfl rfl rfl (by decide +kernel) hR) (va_recv hw.2.2.2.1 hw.1 (ci := 1) (q0 := 0) rfl rfl) rfl hsz hrest hdg kk
end
def rT_isCell : Room := { frames := 2, cells := 0, slots := 0, locals := 41 }
set_option maxHeartbeats 4000000 in
set_option maxRecDepth 100000 in
theorem ct_isCell (l : Launch) {u : ts_S} {x1 x2 : Int32} {r0 : Int32} {u0 : ts_S} (hd : dt_isCell u x1 x2 = some (r0, u0)) : ts_Ci tF l yT_isCell (.code yT_isCell bT_isCell 3 (some .boolean) :: uW) rT_isCell (fun ad => [.ref (ad 0), .int x1, .int x2]) u r0 u0 := by
  refine ts_in_i tF l (by decide) (fun p e s m args below meth c D ca ad A hc hn hr hlk hw => ?_)
  have hx := hc.1
  have hb := hc.2.1
  have hl := lv_entry ([.ref (ad 0), .int x1, .int x2]) (n := 3) (Nat.le_of_ble_eq_true rfl)
  rw [lg_entry_eq]
  generalize (lg_sl ([.ref (ad 0), .int x1, .int x2]) ++ List.replicate (3 - (lg_sl ([.ref (ad 0), .int x1, .int x2])).length) Slot.unset).toArray = ls at hl ⊢
  replace hl : lv_has ls 3 [(0, .ref (ad 0)), (1, .int x1), (2, .int x2)] := hl
  unfold dt_isCell at hd
  refine lv_aload_n hx hb dT_isCell_0 rfl (lv_at hl 0 rfl) ?_
  refine lv_iload_n hx hb dT_isCell_1 rfl (lv_at hl 1 rfl) ?_
  obtain ⟨r2, u2, hq, hd⟩ := ts_b_s hd
  refine cT_88 hc hn hw hq hl.1 ⟨Nat.le_of_ble_eq_true rfl, Nat.le_of_ble_eq_true rfl⟩ (Nat.le_of_ble_eq_true rfl) dT_isCell_2 (fun H locs hw => ?_)
  refine lv_if_eq (tgt := 26) hx hb dT_isCell_5 (by decide) (fun cq => ?_) (fun cq => ?_)
  · replace hd := ts_if_p cq hd
    refine lv_iconst (v := 0) hx hb dT_isCell_26 (by decide) ?_
    exact ts_iret hx hb hr hlk (by decide +kernel) hw hd dT_isCell_27
  · replace hd := ts_if_n cq hd
    refine lv_iload_n hx hb dT_isCell_8 rfl (lv_at hl 2 rfl) ?_
    refine lv_if_lt (tgt := 26) hx hb dT_isCell_9 (by decide) (fun cq => ?_) (fun cq => ?_)
    · replace hd := ts_if_p cq hd
      refine lv_iconst (v := 0) hx hb dT_isCell_26 (by decide) ?_
      exact ts_iret hx hb hr hlk (by decide +kernel) hw hd dT_isCell_27
    · replace hd := ts_if_n cq hd
      refine lv_iload_n hx hb dT_isCell_12 rfl (lv_at hl 2 rfl) ?_
      refine lv_aload_n hx hb dT_isCell_13 rfl (lv_at hl 0 rfl) ?_
      refine gT_13 hc hn hw dT_isCell_14 ?_
      refine lv_iload_n hx hb dT_isCell_17 rfl (lv_at hl 1 rfl) ?_
      obtain ⟨h, hd⟩ := ts_ix_s hd
      refine tt_l3 hc hw h dT_isCell_18 ?_
      refine lv_icmp_ge (tgt := 26) hx hb dT_isCell_19 (by decide) (fun cq => ?_) (fun cq => ?_)
      · replace hd := ts_if_p cq hd
        refine lv_iconst (v := 0) hx hb dT_isCell_26 (by decide) ?_
        exact ts_iret hx hb hr hlk (by decide +kernel) hw hd dT_isCell_27
      · replace hd := ts_if_n cq hd
        refine lv_iconst (v := 1) hx hb dT_isCell_22 (by decide) ?_
        refine lv_goto (tgt := 27) hx hb dT_isCell_23 (by decide) ?_
        exact ts_iret hx hb hr hlk (by decide +kernel) hw hd dT_isCell_27
section
variable {p : Program} {l : Launch} {e : Env} {R : Room} {s : State} {m : MethodId} {args : Array Value} {below : List Frame} {meth : Method} {c : Code} {H : Heap} {locs : List Loc} {Q : State → Prop} {cc : ByteArray} {pc nL : Nat} {ls : Array Slot} {rest : List Value} {D : va_G} {ca : Nat → ClassId} {ad : Nat → Nat} {A : Nat → Prop} {u : ts_S} {cells slots : Nat}
theorem cT_75 (hc : CallFix p m c cc nL s args uW RT) (hn : nx s) (hw : ts_W tF D ca ad A s H locs u) {x1 x2 : Int32} {r0 : Int32} {u0 : ts_S} (hq : dt_isCell u x1 x2 = some (r0, u0)) (hsz : ls.size = nL) (hR : rT_isCell.frames + 1 ≤ R.frames ∧ 8 + (3 + 11) + rT_isCell.locals ≤ R.locals) (hrest : (rest.map fun v => v.category).sum ≤ 8) (hdg : decode cc pc = .ok (.invokevirtual 75, 3)) (kk : ∀ (H1 : Heap) (locs1 : List Loc), ts_W tF D ca ad A s H1 locs1 u0 → W p l e R s m args below meth c H1 locs1 0 0 Q (F0 m (pc + 3) ls (.int r0 :: rest))) : W p l e R s m args below meth c H locs 0 0 Q (F0 m pc ls (.int x2 :: .int x1 :: .ref (ad 0) :: rest)) :=
  ts_callVi (b := ad 0) (As := [.int x1, .int x2]) hc hn hw (ct_isCell l hq) rfl (cwV 2 hc.2.2.2.2 (gd_V (by decide +kernel) (by decide +kernel) (by decide +kernel) (by decide +kernel) (code_T_isCell)) rfl rfl rfl (by decide +kernel) hR) (va_recv hw.2.2.2.1 hw.1 (ci := 1) (q0 := 0) rfl rfl) rfl hsz hrest hdg kk
end
def rT_write : Room := { frames := 5, cells := 0, slots := 0, locals := 107 }
set_option maxHeartbeats 4000000 in
set_option maxRecDepth 100000 in
theorem ct_write (l : Launch) {u : ts_S} {x1 x2 x3 : Int32} {r0 : Int32} {u0 : ts_S} (hd : dt_write u x1 x2 x3 = some (r0, u0)) : ts_Ci tF l yT_write (.code yT_write bT_write 4 (some .int) :: uW) rT_write (fun ad => [.ref (ad 0), .int x1, .int x2, .int x3]) u r0 u0 := by
  refine ts_in_i tF l (by decide) (fun p e s m args below meth c D ca ad A hc hn hr hlk hw => ?_)
  have hx := hc.1
  have hb := hc.2.1
  have hl := lv_entry ([.ref (ad 0), .int x1, .int x2, .int x3]) (n := 4) (Nat.le_of_ble_eq_true rfl)
  rw [lg_entry_eq]
  generalize (lg_sl ([.ref (ad 0), .int x1, .int x2, .int x3]) ++ List.replicate (4 - (lg_sl ([.ref (ad 0), .int x1, .int x2, .int x3])).length) Slot.unset).toArray = ls at hl ⊢
  replace hl : lv_has ls 4 [(0, .ref (ad 0)), (1, .int x1), (2, .int x2), (3, .int x3)] := hl
  unfold dt_write at hd
  refine lv_aload_n hx hb dT_write_0 rfl (lv_at hl 0 rfl) ?_
  refine lv_iload_n hx hb dT_write_1 rfl (lv_at hl 1 rfl) ?_
  refine lv_iload_n hx hb dT_write_2 rfl (lv_at hl 2 rfl) ?_
  obtain ⟨r3, u3, hq, hd⟩ := ts_b_s hd
  refine cT_75 hc hn hw hq hl.1 ⟨Nat.le_of_ble_eq_true rfl, Nat.le_of_ble_eq_true rfl⟩ (Nat.le_of_ble_eq_true rfl) dT_write_3 (fun H locs hw => ?_)
  refine lv_if_ne (tgt := 11) hx hb dT_write_6 (by decide) (fun cq => ?_) (fun cq => ?_)
  · replace hd := ts_if_n cq hd
    refine lv_aload_n hx hb dT_write_11 rfl (lv_at hl 0 rfl) ?_
    refine gT_9 hc hn hw dT_write_12 ?_
    refine lv_iload_n hx hb dT_write_15 rfl (lv_at hl 1 rfl) ?_
    obtain ⟨h, hd⟩ := ts_ix_s hd
    refine tt_l2 hc hw h dT_write_16 ?_
    refine lv_iconst (v := 4) hx hb dT_write_17 (by decide) ?_
    refine lv_icmp_ne (tgt := 24) hx hb dT_write_18 (by decide) (fun cq => ?_) (fun cq => ?_)
    · replace hd := ts_if_n cq hd
      refine lv_aload_n hx hb dT_write_24 rfl (lv_at hl 0 rfl) ?_
      refine lv_iload_n hx hb dT_write_25 rfl (lv_at hl 1 rfl) ?_
      obtain ⟨r26, u26, hq, hd⟩ := ts_b_s hd
      refine cT_79 hc hn hw hq hl.1 ⟨Nat.le_of_ble_eq_true rfl, Nat.le_of_ble_eq_true rfl⟩ (Nat.le_of_ble_eq_true rfl) dT_write_26 (fun H locs hw => ?_)
      refine lv_if_ne (tgt := 35) hx hb dT_write_29 (by decide) (fun cq => ?_) (fun cq => ?_)
      · replace hd := ts_if_n cq hd
        refine lv_aload_n hx hb dT_write_35 rfl (lv_at hl 0 rfl) ?_
        refine gT_18 hc hn hw dT_write_36 ?_
        refine lv_iload_n hx hb dT_write_39 rfl (lv_at hl 1 rfl) ?_
        obtain ⟨hrow, hd⟩ := ts_ix_s hd
        refine tt_aa hc hw hrow dT_write_40 ?_
        refine lv_iload_n hx hb dT_write_41 rfl (lv_at hl 2 rfl) ?_
        refine lv_iload_n hx hb dT_write_42 rfl (lv_at hl 3 rfl) ?_
        obtain ⟨h, hd⟩ := ts_ix_s hd
        refine tt_sr hc hw hrow h dT_write_43 (fun H locs hw => ?_)
        refine lv_aload_n hx hb dT_write_44 rfl (lv_at hl 0 rfl) ?_
        refine gT_9 hc hn hw dT_write_45 ?_
        refine lv_iload_n hx hb dT_write_48 rfl (lv_at hl 1 rfl) ?_
        refine lv_iconst (v := 1) hx hb dT_write_49 (by decide) ?_
        obtain ⟨h, hd⟩ := ts_ix_s hd
        refine tt_s2 hc hw h dT_write_50 (fun H locs hw => ?_)
        refine lv_aload_n hx hb dT_write_51 rfl (lv_at hl 0 rfl) ?_
        refine lv_iload_n hx hb dT_write_52 rfl (lv_at hl 1 rfl) ?_
        obtain ⟨r53, u53, hq, hd⟩ := ts_b_s hd
        refine cT_72 hc hn hw hq hl.1 ⟨Nat.le_of_ble_eq_true rfl, Nat.le_of_ble_eq_true rfl⟩ (Nat.le_of_ble_eq_true rfl) dT_write_53 (fun H locs hw => ?_)
        refine lv_iconst (v := 0) hx hb dT_write_56 (by decide) ?_
        exact ts_iret hx hb hr hlk (vp_nar_int _) hw hd dT_write_57
      · replace hd := ts_if_p cq hd
        refine lv_bipush (v := (-2)) hx hb dT_write_32 (by decide) ?_
        exact ts_iret hx hb hr hlk (vp_nar_int _) hw hd dT_write_34
    · replace hd := ts_if_p cq hd
      refine lv_bipush (v := (-3)) hx hb dT_write_21 (by decide) ?_
      exact ts_iret hx hb hr hlk (vp_nar_int _) hw hd dT_write_23
  · replace hd := ts_if_p cq hd
    refine lv_iconst (v := (-1)) hx hb dT_write_9 (by decide) ?_
    exact ts_iret hx hb hr hlk (vp_nar_int _) hw hd dT_write_10
def rT_read : Room := { frames := 5, cells := 0, slots := 0, locals := 107 }
set_option maxHeartbeats 4000000 in
set_option maxRecDepth 100000 in
theorem ct_read (l : Launch) {u : ts_S} {x1 x2 : Int32} {r0 : Int64} {u0 : ts_S} (hd : dt_read u x1 x2 = some (r0, u0)) : ts_Cl tF l yT_read (.code yT_read bT_read 3 (some .long) :: uW) rT_read (fun ad => [.ref (ad 0), .int x1, .int x2]) u r0 u0 := by
  refine ts_in_l tF l (by decide) (fun p e s m args below meth c D ca ad A hc hn hr hlk hw => ?_)
  have hx := hc.1
  have hb := hc.2.1
  have hl := lv_entry ([.ref (ad 0), .int x1, .int x2]) (n := 3) (Nat.le_of_ble_eq_true rfl)
  rw [lg_entry_eq]
  generalize (lg_sl ([.ref (ad 0), .int x1, .int x2]) ++ List.replicate (3 - (lg_sl ([.ref (ad 0), .int x1, .int x2])).length) Slot.unset).toArray = ls at hl ⊢
  replace hl : lv_has ls 3 [(0, .ref (ad 0)), (1, .int x1), (2, .int x2)] := hl
  unfold dt_read at hd
  refine lv_aload_n hx hb dT_read_0 rfl (lv_at hl 0 rfl) ?_
  refine lv_iload_n hx hb dT_read_1 rfl (lv_at hl 1 rfl) ?_
  refine lv_iload_n hx hb dT_read_2 rfl (lv_at hl 2 rfl) ?_
  obtain ⟨r3, u3, hq, hd⟩ := ts_b_s hd
  refine cT_75 hc hn hw hq hl.1 ⟨Nat.le_of_ble_eq_true rfl, Nat.le_of_ble_eq_true rfl⟩ (Nat.le_of_ble_eq_true rfl) dT_read_3 (fun H locs hw => ?_)
  refine lv_if_ne (tgt := 13) hx hb dT_read_6 (by decide) (fun cq => ?_) (fun cq => ?_)
  · replace hd := ts_if_n cq hd
    refine lv_aload_n hx hb dT_read_13 rfl (lv_at hl 0 rfl) ?_
    refine gT_9 hc hn hw dT_read_14 ?_
    refine lv_iload_n hx hb dT_read_17 rfl (lv_at hl 1 rfl) ?_
    obtain ⟨h, hd⟩ := ts_ix_s hd
    refine tt_l2 hc hw h dT_read_18 ?_
    refine lv_iconst (v := 4) hx hb dT_read_19 (by decide) ?_
    refine lv_icmp_ne (tgt := 27) hx hb dT_read_20 (by decide) (fun cq => ?_) (fun cq => ?_)
    · replace hd := ts_if_n cq hd
      refine lv_aload_n hx hb dT_read_27 rfl (lv_at hl 0 rfl) ?_
      refine lv_iload_n hx hb dT_read_28 rfl (lv_at hl 1 rfl) ?_
      obtain ⟨r29, u29, hq, hd⟩ := ts_b_s hd
      refine cT_79 hc hn hw hq hl.1 ⟨Nat.le_of_ble_eq_true rfl, Nat.le_of_ble_eq_true rfl⟩ (Nat.le_of_ble_eq_true rfl) dT_read_29 (fun H locs hw => ?_)
      refine lv_if_ne (tgt := 39) hx hb dT_read_32 (by decide) (fun cq => ?_) (fun cq => ?_)
      · replace hd := ts_if_n cq hd
        refine lv_aload_n hx hb dT_read_39 rfl (lv_at hl 0 rfl) ?_
        refine lv_iload_n hx hb dT_read_40 rfl (lv_at hl 1 rfl) ?_
        obtain ⟨r41, u41, hq, hd⟩ := ts_b_s hd
        refine cT_72 hc hn hw hq hl.1 ⟨Nat.le_of_ble_eq_true rfl, Nat.le_of_ble_eq_true rfl⟩ (Nat.le_of_ble_eq_true rfl) dT_read_41 (fun H locs hw => ?_)
        refine lv_aload_n hx hb dT_read_44 rfl (lv_at hl 0 rfl) ?_
        refine gT_18 hc hn hw dT_read_45 ?_
        refine lv_iload_n hx hb dT_read_48 rfl (lv_at hl 1 rfl) ?_
        obtain ⟨hrow, hd⟩ := ts_ix_s hd
        refine tt_aa hc hw hrow dT_read_49 ?_
        refine lv_iload_n hx hb dT_read_50 rfl (lv_at hl 2 rfl) ?_
        obtain ⟨h, hd⟩ := ts_ix_s hd
        refine tt_lr hc hw hrow h dT_read_51 ?_
        refine lv_i2l hx hb dT_read_52 rfl ?_
        exact ts_lret hx hb hr hlk hw hd dT_read_53
      · replace hd := ts_if_p cq hd
        refine lv_ldc2 (v := (-2000000000000)) hx hb hc.2.2.2.1 (hc.2.2.2.2 _ (kT_86)) dT_read_35 ?_
        exact ts_lret hx hb hr hlk hw hd dT_read_38
    · replace hd := ts_if_p cq hd
      refine lv_ldc2 (v := (-3000000000000)) hx hb hc.2.2.2.1 (hc.2.2.2.2 _ (kT_84)) dT_read_23 ?_
      exact ts_lret hx hb hr hlk hw hd dT_read_26
  · replace hd := ts_if_p cq hd
    refine lv_ldc2 (v := (-1000000000000)) hx hb hc.2.2.2.1 (hc.2.2.2.2 _ (kT_82)) dT_read_9 ?_
    exact ts_lret hx hb hr hlk hw hd dT_read_12
end
section
def rT_remove : Room := { frames := 2, cells := 0, slots := 0, locals := 41 }
set_option maxHeartbeats 4000000 in
set_option maxRecDepth 100000 in
theorem ct_remove (l : Launch) {u : ts_S} {x1 : Int32} {r0 : Int32} {u0 : ts_S} (hd : dt_remove u x1 = some (r0, u0)) : ts_Ci tF l yT_remove (.code yT_remove bT_remove 2 (some .int) :: uW) rT_remove (fun ad => [.ref (ad 0), .int x1]) u r0 u0 := by
  refine ts_in_i tF l (by decide) (fun p e s m args below meth c D ca ad A hc hn hr hlk hw => ?_)
  have hx := hc.1
  have hb := hc.2.1
  have hl := lv_entry ([.ref (ad 0), .int x1]) (n := 2) (Nat.le_of_ble_eq_true rfl)
  rw [lg_entry_eq]
  generalize (lg_sl ([.ref (ad 0), .int x1]) ++ List.replicate (2 - (lg_sl ([.ref (ad 0), .int x1])).length) Slot.unset).toArray = ls at hl ⊢
  replace hl : lv_has ls 2 [(0, .ref (ad 0)), (1, .int x1)] := hl
  unfold dt_remove at hd
  refine lv_aload_n hx hb dT_remove_0 rfl (lv_at hl 0 rfl) ?_
  refine lv_iload_n hx hb dT_remove_1 rfl (lv_at hl 1 rfl) ?_
  obtain ⟨r2, u2, hq, hd⟩ := ts_b_s hd
  refine cT_88 hc hn hw hq hl.1 ⟨Nat.le_of_ble_eq_true rfl, Nat.le_of_ble_eq_true rfl⟩ (Nat.le_of_ble_eq_true rfl) dT_remove_2 (fun H locs hw => ?_)
  refine lv_if_ne (tgt := 10) hx hb dT_remove_5 (by decide) (fun cq => ?_) (fun cq => ?_)
  · replace hd := ts_if_n cq hd
    refine lv_aload_n hx hb dT_remove_10 rfl (lv_at hl 0 rfl) ?_
    refine gT_9 hc hn hw dT_remove_11 ?_
    refine lv_iload_n hx hb dT_remove_14 rfl (lv_at hl 1 rfl) ?_
    refine lv_iconst (v := 0) hx hb dT_remove_15 (by decide) ?_
    obtain ⟨h, hd⟩ := ts_ix_s hd
    refine tt_s2 hc hw h dT_remove_16 (fun H locs hw => ?_)
    refine lv_aload_n hx hb dT_remove_17 rfl (lv_at hl 0 rfl) ?_
    refine gT_27 hc hn hw dT_remove_18 ?_
    refine lv_iload_n hx hb dT_remove_21 rfl (lv_at hl 1 rfl) ?_
    refine lv_iconst (v := 0) hx hb dT_remove_22 (by decide) ?_
    obtain ⟨h, hd⟩ := ts_ix_s hd
    refine tt_s7 hc hw h (by decide +kernel) dT_remove_23 (fun H locs hw => ?_)
    refine lv_iconst (v := 0) hx hb dT_remove_24 (by decide) ?_
    exact ts_iret hx hb hr hlk (vp_nar_int _) hw hd dT_remove_25
  · replace hd := ts_if_p cq hd
    refine lv_iconst (v := (-1)) hx hb dT_remove_8 (by decide) ?_
    exact ts_iret hx hb hr hlk (vp_nar_int _) hw hd dT_remove_9
def rP_firstFitting_10 : Room := { frames := 0, cells := 0, slots := 0, locals := 0 }
set_option maxHeartbeats 4000000 in
set_option maxRecDepth 100000 in
theorem cp_firstFitting_10 (l : Launch) {u : ts_S} {x2 x3 : Int32} {r0 : Int32} {u0 : ts_S} (hd : dp_firstFitting_10 u x2 x3 = some (r0, u0)) : ts_Ci tF l yP_firstFitting (.code yP_firstFitting bP_firstFitting 5 (some .int) :: uW) rP_firstFitting_10 (fun ad => [.ref (ad 1), .ref (ad 10), .int x2, .int x3]) u r0 u0 := by
  refine ts_in_i tF l (by decide) (fun p e s m args below meth c D ca ad A hc hn hr hlk hw => ?_)
  have hx := hc.1
  have hb := hc.2.1
  have hl := lv_entry ([.ref (ad 1), .ref (ad 10), .int x2, .int x3]) (n := 5) (Nat.le_of_ble_eq_true rfl)
  rw [lg_entry_eq]
  generalize (lg_sl ([.ref (ad 1), .ref (ad 10), .int x2, .int x3]) ++ List.replicate (5 - (lg_sl ([.ref (ad 1), .ref (ad 10), .int x2, .int x3])).length) Slot.unset).toArray = ls at hl ⊢
  replace hl : lv_has ls 5 [(0, .ref (ad 1)), (1, .ref (ad 10)), (2, .int x2), (3, .int x3)] := hl
  have L3 : ∀ (n : Nat) (u : ts_S) (x2 x3 x4 : Int32) (H : Heap) (locs : List Loc) (ls : Array Slot), dp_firstFitting_10_3 n u x2 x3 x4 = some (r0, u0) → ts_W tF D ca ad A s H locs u → lv_has ls 5 [(0, .ref (ad 1)), (1, .ref (ad 10)), (2, .int x2), (3, .int x3), (4, .int x4)] → W p l e rP_firstFitting_10 s m args below meth c H locs 0 0 (MQ below (va_Qi (fun r v => r = r0 ∧ v = u0) (ts_post tF D ca ad A) A) args s 0 0 A) (F0 m 3 ls []) := by
    intro n
    induction n with
    | zero => intro u x2 x3 x4 H locs ls hd; cases (show (none : Option (Int32 × ts_S)) = some (r0, u0) from hd)
    | succ n3 ih3 =>
      intro u x2 x3 x4 H locs ls hd hw hl
      replace hd : dp_firstFitting_10_3_b (dp_firstFitting_10_3 n3) u x2 x3 x4 = some (r0, u0) := hd
      unfold dp_firstFitting_10_3_b at hd
      refine lv_iload hx hb dP_firstFitting_3 (lv_at hl 4 rfl) ?_
      refine lv_iconst (v := 4) hx hb dP_firstFitting_5 (by decide) ?_
      refine lv_icmp_ge (tgt := 37) hx hb dP_firstFitting_6 (by decide) (fun cq => ?_) (fun cq => ?_)
      · replace hd := ts_if_p cq hd
        refine lv_iconst (v := (-1)) hx hb dP_firstFitting_37 (by decide) ?_
        exact ts_iret hx hb hr hlk (vp_nar_int _) hw hd dP_firstFitting_38
      · replace hd := ts_if_n cq hd
        refine lv_iload hx hb dP_firstFitting_9 (lv_at hl 4 rfl) ?_
        refine lv_iload_n hx hb dP_firstFitting_11 rfl (lv_at hl 3 rfl) ?_
        refine lv_icmp_eq (tgt := 31) hx hb dP_firstFitting_12 (by decide) (fun cq => ?_) (fun cq => ?_)
        · replace hd := ts_if_p cq hd
          refine lv_iinc (v := (x4 + 1)) (lv' := [(4, .int (x4 + 1)), (0, .ref (ad 1)), (1, .ref (ad 10)), (2, .int x2), (3, .int x3)]) hx hb dP_firstFitting_31 hl (k := 4) rfl rfl (by decide) rfl (fun ls hl => ?_)
          refine lv_goto (tgt := 3) hx hb dP_firstFitting_34 (by decide) ?_
          exact ih3 u x2 x3 (x4 + 1) _ _ _ hd hw (lv_sub hl [1, 2, 3, 4, 0] rfl)
        · replace hd := ts_if_n cq hd
          refine lv_aload_n hx hb dP_firstFitting_15 rfl (lv_at hl 1 rfl) ?_
          refine lv_iload hx hb dP_firstFitting_16 (lv_at hl 4 rfl) ?_
          obtain ⟨h, hd⟩ := ts_ix_s hd
          refine tt_l10 hc hw h dP_firstFitting_18 ?_
          refine lv_iload_n hx hb dP_firstFitting_19 rfl (lv_at hl 2 rfl) ?_
          refine lv_iadd hx hb dP_firstFitting_20 ?_
          refine lv_aload_n hx hb dP_firstFitting_21 rfl (lv_at hl 0 rfl) ?_
          refine gP_28 hc hn hw dP_firstFitting_22 ?_
          refine lv_icmp_gt (tgt := 31) hx hb dP_firstFitting_25 (by decide) (fun cq => ?_) (fun cq => ?_)
          · replace hd := ts_if_p cq hd
            refine lv_iinc (v := (x4 + 1)) (lv' := [(4, .int (x4 + 1)), (0, .ref (ad 1)), (1, .ref (ad 10)), (2, .int x2), (3, .int x3)]) hx hb dP_firstFitting_31 hl (k := 4) rfl rfl (by decide) rfl (fun ls hl => ?_)
            refine lv_goto (tgt := 3) hx hb dP_firstFitting_34 (by decide) ?_
            exact ih3 u x2 x3 (x4 + 1) _ _ _ hd hw (lv_sub hl [1, 2, 3, 4, 0] rfl)
          · replace hd := ts_if_n cq hd
            refine lv_iload hx hb dP_firstFitting_28 (lv_at hl 4 rfl) ?_
            exact ts_iret hx hb hr hlk (vp_nar_int _) hw hd dP_firstFitting_30
  unfold dp_firstFitting_10 at hd
  refine lv_iconst (v := 0) hx hb dP_firstFitting_0 (by decide) ?_
  refine lv_istore (lv' := [(4, .int 0), (0, .ref (ad 1)), (1, .ref (ad 10)), (2, .int x2), (3, .int x3)]) hx hb dP_firstFitting_1 hl (by decide) rfl (fun ls hl => ?_)
  exact L3 40 u x2 x3 0 _ _ _ hd hw (lv_sub hl [1, 2, 3, 4, 0] rfl)
section
variable {p : Program} {l : Launch} {e : Env} {R : Room} {s : State} {m : MethodId} {args : Array Value} {below : List Frame} {meth : Method} {c : Code} {H : Heap} {locs : List Loc} {Q : State → Prop} {cc : ByteArray} {pc nL : Nat} {ls : Array Slot} {rest : List Value} {D : va_G} {ca : Nat → ClassId} {ad : Nat → Nat} {A : Nat → Prop} {u : ts_S} {cells slots : Nat}
theorem cP_45_10 (hc : CallFix p m c cc nL s args uW RP) (hn : nx s) (hw : ts_W tF D ca ad A s H locs u) {x2 x3 : Int32} {r0 : Int32} {u0 : ts_S} (hq : dp_firstFitting_10 u x2 x3 = some (r0, u0)) (hsz : ls.size = nL) (hR : rP_firstFitting_10.frames + 1 ≤ R.frames ∧ 8 + (5 + 11) + rP_firstFitting_10.locals ≤ R.locals) (hrest : (rest.map fun v => v.category).sum ≤ 8) (hdg : decode cc pc = .ok (.invokevirtual 45, 3)) (kk : ∀ (H1 : Heap) (locs1 : List Loc), ts_W tF D ca ad A s H1 locs1 u0 → W p l e R s m args below meth c H1 locs1 0 0 Q (F0 m (pc + 3) ls (.int r0 :: rest))) : W p l e R s m args below meth c H locs 0 0 Q (F0 m pc ls (.int x3 :: .int x2 :: .ref (ad 10) :: .ref (ad 1) :: rest)) :=
  ts_callVi (b := ad 1) (As := [.ref (ad 10), .int x2, .int x3]) hc hn hw (cp_firstFitting_10 l hq) rfl (cwV 3 hc.2.2.2.2 (gd_V (by decide +kernel) (by decide +kernel) (by decide +kernel) (by decide +kernel) (code_P_firstFitting)) rfl rfl rfl (by decide +kernel) hR) (va_recv hw.2.2.2.1 hw.1 (ci := 0) (q0 := 1) rfl rfl) rfl hsz hrest hdg kk
end
def rP_cartridgeFor : Room := { frames := 1, cells := 0, slots := 0, locals := 24 }
set_option maxHeartbeats 4000000 in
set_option maxRecDepth 100000 in
theorem cp_cartridgeFor (l : Launch) {u : ts_S} {x1 x2 : Int32} {r0 : Int32} {u0 : ts_S} (hd : dp_cartridgeFor u x1 x2 = some (r0, u0)) : ts_Ci tF l yP_cartridgeFor (.code yP_cartridgeFor bP_cartridgeFor 3 (some .int) :: uW) rP_cartridgeFor (fun ad => [.ref (ad 1), .int x1, .int x2]) u r0 u0 := by
  refine ts_in_i tF l (by decide) (fun p e s m args below meth c D ca ad A hc hn hr hlk hw => ?_)
  have hx := hc.1
  have hb := hc.2.1
  have hl := lv_entry ([.ref (ad 1), .int x1, .int x2]) (n := 3) (Nat.le_of_ble_eq_true rfl)
  rw [lg_entry_eq]
  generalize (lg_sl ([.ref (ad 1), .int x1, .int x2]) ++ List.replicate (3 - (lg_sl ([.ref (ad 1), .int x1, .int x2])).length) Slot.unset).toArray = ls at hl ⊢
  replace hl : lv_has ls 3 [(0, .ref (ad 1)), (1, .int x1), (2, .int x2)] := hl
  unfold dp_cartridgeFor at hd
  refine lv_aload_n hx hb dP_cartridgeFor_0 rfl (lv_at hl 0 rfl) ?_
  refine gP_18 hc hn hw dP_cartridgeFor_1 ?_
  refine lv_iconst (v := (-1)) hx hb dP_cartridgeFor_4 (by decide) ?_
  refine lv_icmp_eq (tgt := 39) hx hb dP_cartridgeFor_5 (by decide) (fun cq => ?_) (fun cq => ?_)
  · replace hd := ts_if_p cq hd
    refine lv_aload_n hx hb dP_cartridgeFor_39 rfl (lv_at hl 0 rfl) ?_
    refine lv_aload_n hx hb dP_cartridgeFor_40 rfl (lv_at hl 0 rfl) ?_
    refine gP_9 hc hn hw dP_cartridgeFor_41 ?_
    refine lv_iload_n hx hb dP_cartridgeFor_44 rfl (lv_at hl 1 rfl) ?_
    refine lv_iload_n hx hb dP_cartridgeFor_45 rfl (lv_at hl 2 rfl) ?_
    obtain ⟨r46, u46, hq, hd⟩ := ts_b_s hd
    refine cP_45_10 hc hn hw hq hl.1 ⟨Nat.le_of_ble_eq_true rfl, Nat.le_of_ble_eq_true rfl⟩ (Nat.le_of_ble_eq_true rfl) dP_cartridgeFor_46 (fun H locs hw => ?_)
    exact ts_iret hx hb hr hlk (vp_nar_int _) hw hd dP_cartridgeFor_49
  · replace hd := ts_if_n cq hd
    refine lv_aload_n hx hb dP_cartridgeFor_8 rfl (lv_at hl 0 rfl) ?_
    refine gP_18 hc hn hw dP_cartridgeFor_9 ?_
    refine lv_iload_n hx hb dP_cartridgeFor_12 rfl (lv_at hl 2 rfl) ?_
    refine lv_icmp_eq (tgt := 39) hx hb dP_cartridgeFor_13 (by decide) (fun cq => ?_) (fun cq => ?_)
    · replace hd := ts_if_p cq hd
      refine lv_aload_n hx hb dP_cartridgeFor_39 rfl (lv_at hl 0 rfl) ?_
      refine lv_aload_n hx hb dP_cartridgeFor_40 rfl (lv_at hl 0 rfl) ?_
      refine gP_9 hc hn hw dP_cartridgeFor_41 ?_
      refine lv_iload_n hx hb dP_cartridgeFor_44 rfl (lv_at hl 1 rfl) ?_
      refine lv_iload_n hx hb dP_cartridgeFor_45 rfl (lv_at hl 2 rfl) ?_
      obtain ⟨r46, u46, hq, hd⟩ := ts_b_s hd
      refine cP_45_10 hc hn hw hq hl.1 ⟨Nat.le_of_ble_eq_true rfl, Nat.le_of_ble_eq_true rfl⟩ (Nat.le_of_ble_eq_true rfl) dP_cartridgeFor_46 (fun H locs hw => ?_)
      exact ts_iret hx hb hr hlk (vp_nar_int _) hw hd dP_cartridgeFor_49
    · replace hd := ts_if_n cq hd
      refine lv_aload_n hx hb dP_cartridgeFor_16 rfl (lv_at hl 0 rfl) ?_
      refine gP_9 hc hn hw dP_cartridgeFor_17 ?_
      refine lv_aload_n hx hb dP_cartridgeFor_20 rfl (lv_at hl 0 rfl) ?_
      refine gP_18 hc hn hw dP_cartridgeFor_21 ?_
      obtain ⟨h, hd⟩ := ts_ix_s hd
      refine tt_l10 hc hw h dP_cartridgeFor_24 ?_
      refine lv_iload_n hx hb dP_cartridgeFor_25 rfl (lv_at hl 1 rfl) ?_
      refine lv_iadd hx hb dP_cartridgeFor_26 ?_
      refine lv_aload_n hx hb dP_cartridgeFor_27 rfl (lv_at hl 0 rfl) ?_
      refine gP_28 hc hn hw dP_cartridgeFor_28 ?_
      refine lv_icmp_gt (tgt := 39) hx hb dP_cartridgeFor_31 (by decide) (fun cq => ?_) (fun cq => ?_)
      · replace hd := ts_if_p cq hd
        refine lv_aload_n hx hb dP_cartridgeFor_39 rfl (lv_at hl 0 rfl) ?_
        refine lv_aload_n hx hb dP_cartridgeFor_40 rfl (lv_at hl 0 rfl) ?_
        refine gP_9 hc hn hw dP_cartridgeFor_41 ?_
        refine lv_iload_n hx hb dP_cartridgeFor_44 rfl (lv_at hl 1 rfl) ?_
        refine lv_iload_n hx hb dP_cartridgeFor_45 rfl (lv_at hl 2 rfl) ?_
        obtain ⟨r46, u46, hq, hd⟩ := ts_b_s hd
        refine cP_45_10 hc hn hw hq hl.1 ⟨Nat.le_of_ble_eq_true rfl, Nat.le_of_ble_eq_true rfl⟩ (Nat.le_of_ble_eq_true rfl) dP_cartridgeFor_46 (fun H locs hw => ?_)
        exact ts_iret hx hb hr hlk (vp_nar_int _) hw hd dP_cartridgeFor_49
      · replace hd := ts_if_n cq hd
        refine lv_aload_n hx hb dP_cartridgeFor_34 rfl (lv_at hl 0 rfl) ?_
        refine gP_18 hc hn hw dP_cartridgeFor_35 ?_
        exact ts_iret hx hb hr hlk (vp_nar_int _) hw hd dP_cartridgeFor_38
section
variable {p : Program} {l : Launch} {e : Env} {R : Room} {s : State} {m : MethodId} {args : Array Value} {below : List Frame} {meth : Method} {c : Code} {H : Heap} {locs : List Loc} {Q : State → Prop} {cc : ByteArray} {pc nL : Nat} {ls : Array Slot} {rest : List Value} {D : va_G} {ca : Nat → ClassId} {ad : Nat → Nat} {A : Nat → Prop} {u : ts_S} {cells slots : Nat}
theorem cT_95 (hc : CallFix p m c cc nL s args uW RT) (hn : nx s) (hw : ts_W tF D ca ad A s H locs u) {x1 x2 : Int32} {r0 : Int32} {u0 : ts_S} (hq : dp_cartridgeFor u x1 x2 = some (r0, u0)) (hsz : ls.size = nL) (hR : rP_cartridgeFor.frames + 1 ≤ R.frames ∧ 8 + (3 + 11) + rP_cartridgeFor.locals ≤ R.locals) (hrest : (rest.map fun v => v.category).sum ≤ 8) (hdg : decode cc pc = .ok (.invokevirtual 95, 3)) (kk : ∀ (H1 : Heap) (locs1 : List Loc), ts_W tF D ca ad A s H1 locs1 u0 → W p l e R s m args below meth c H1 locs1 0 0 Q (F0 m (pc + 3) ls (.int r0 :: rest))) : W p l e R s m args below meth c H locs 0 0 Q (F0 m pc ls (.int x2 :: .int x1 :: .ref (ad 1) :: rest)) :=
  ts_callNi (b := ad 1) (As := [.int x1, .int x2]) hc hn hw (cp_cartridgeFor l hq) rfl ⟨va_cnB 2 hc.2.2.2.2 (gd_N (code_P_cartridgeFor)) rfl rfl rfl (hn (.methodLinkNest RT 95 yP_cartridgeFor "TierStore") (by decide +kernel)) (hc.2.2.2.2 (.initialized RP) (by decide +kernel)) (by decide +kernel) hR, hc.2.2.2.2 (.instanceMethod yP_cartridgeFor) (by decide +kernel), hc.2.2.2.2 (.selects RP yP_cartridgeFor yP_cartridgeFor) (by decide +kernel)⟩ (va_recv hw.2.2.2.1 hw.1 (ci := 0) (q0 := 1) rfl rfl) rfl hsz hrest hdg kk
end
def rP_append : Room := { frames := 3, cells := 0, slots := 0, locals := 66 }
set_option maxHeartbeats 4000000 in
set_option maxRecDepth 100000 in
theorem cp_append (l : Launch) {u : ts_S} {x1 x2 : Int32} {r0 : Int32} {u0 : ts_S} (hd : dp_append u x1 x2 = some (r0, u0)) : ts_Ci tF l yP_append (.code yP_append bP_append 4 (some .int) :: uW) rP_append (fun ad => [.ref (ad 1), .int x1, .int x2]) u r0 u0 := by
  refine ts_in_i tF l (by decide) (fun p e s m args below meth c D ca ad A hc hn hr hlk hw => ?_)
  have hx := hc.1
  have hb := hc.2.1
  have hl := lv_entry ([.ref (ad 1), .int x1, .int x2]) (n := 4) (Nat.le_of_ble_eq_true rfl)
  rw [lg_entry_eq]
  generalize (lg_sl ([.ref (ad 1), .int x1, .int x2]) ++ List.replicate (4 - (lg_sl ([.ref (ad 1), .int x1, .int x2])).length) Slot.unset).toArray = ls at hl ⊢
  replace hl : lv_has ls 4 [(0, .ref (ad 1)), (1, .int x1), (2, .int x2)] := hl
  unfold dp_append at hd
  refine lv_aload_n hx hb dP_append_0 rfl (lv_at hl 0 rfl) ?_
  refine gP_9 hc hn hw dP_append_1 ?_
  refine lv_iload_n hx hb dP_append_4 rfl (lv_at hl 1 rfl) ?_
  obtain ⟨h, hd⟩ := ts_ix_s hd
  refine tt_l10 hc hw h dP_append_5 ?_
  refine lv_istore_n (lv' := [(3, .int (u.2 10 x1.toNatClampNeg)), (0, .ref (ad 1)), (1, .int x1), (2, .int x2)]) hx hb dP_append_6 rfl hl (by decide) rfl (fun ls hl => ?_)
  refine lv_aload_n hx hb dP_append_7 rfl (lv_at hl 1 rfl) ?_
  refine lv_iload_n hx hb dP_append_8 rfl (lv_at hl 2 rfl) ?_
  refine lv_iload_n hx hb dP_append_9 rfl (lv_at hl 0 rfl) ?_
  refine lv_iload_n hx hb dP_append_10 rfl (lv_at hl 3 rfl) ?_
  obtain ⟨r11, u11, hq, hd⟩ := ts_b_s hd
  refine cP_41 hc hn hw hq hl.1 ⟨Nat.le_of_ble_eq_true rfl, Nat.le_of_ble_eq_true rfl⟩ (Nat.le_of_ble_eq_true rfl) dP_append_11 (fun H locs hw => ?_)
  refine lv_aload_n hx hb dP_append_14 rfl (lv_at hl 1 rfl) ?_
  refine gP_9 hc hn hw dP_append_15 ?_
  refine lv_iload_n hx hb dP_append_18 rfl (lv_at hl 2 rfl) ?_
  refine lv_dup2_11 hx hb dP_append_19 rfl rfl ?_
  obtain ⟨h, hd⟩ := ts_ix_s hd
  refine tt_l10 hc hw h dP_append_20 ?_
  refine lv_iload_n hx hb dP_append_21 rfl (lv_at hl 3 rfl) ?_
  refine lv_iadd hx hb dP_append_22 ?_
  obtain ⟨h, hd⟩ := ts_ix_s hd
  refine tt_s10 hc hw h dP_append_23 (fun H locs hw => ?_)
  refine lv_iload_n hx hb dP_append_24 rfl (lv_at hl 0 rfl) ?_
  exact ts_iret hx hb hr hlk (vp_nar_int _) hw hd dP_append_25
section
variable {p : Program} {l : Launch} {e : Env} {R : Room} {s : State} {m : MethodId} {args : Array Value} {below : List Frame} {meth : Method} {c : Code} {H : Heap} {locs : List Loc} {Q : State → Prop} {cc : ByteArray} {pc nL : Nat} {ls : Array Slot} {rest : List Value} {D : va_G} {ca : Nat → ClassId} {ad : Nat → Nat} {A : Nat → Prop} {u : ts_S} {cells slots : Nat}
theorem cT_168 (hc : CallFix p m c cc nL s args uW RT) (hn : nx s) (hw : ts_W tF D ca ad A s H locs u) {x1 x2 : Int32} {r0 : Int32} {u0 : ts_S} (hq : dp_append u x1 x2 = some (r0, u0)) (hsz : ls.size = nL) (hR : rP_append.frames + 1 ≤ R.frames ∧ 8 + (4 + 11) + rP_append.locals ≤ R.locals) (hrest : (rest.map fun v => v.category).sum ≤ 8) (hdg : decode cc pc = .ok (.invokevirtual 168, 3)) (kk : ∀ (H1 : Heap) (locs1 : List Loc), ts_W tF D ca ad A s H1 locs1 u0 → W p l e R s m args below meth c H1 locs1 0 0 Q (F0 m (pc + 3) ls (.int r0 :: rest))) : W p l e R s m args below meth c H locs 0 0 Q (F0 m pc ls (.int x2 :: .int x1 :: .ref (ad 1) :: rest)) :=
  ts_callNi (b := ad 1) (As := [.int x1, .int x2]) hc hn hw (cp_append l hq) rfl ⟨va_cnB 2 hc.2.2.2.2 (gd_N (code_P_append)) rfl rfl rfl (hn (.methodLinkNest RT 168 yP_append "TierStore") (by decide +kernel)) (hc.2.2.2.2 (.initialized RP) (by decide +kernel)) (by decide +kernel) hR, hc.2.2.2.2 (.instanceMethod yP_append) (by decide +kernel), hc.2.2.2.2 (.selects RP yP_append yP_append) (by decide +kernel)⟩ (va_recv hw.2.2.2.1 hw.1 (ci := 0) (q0 := 1) rfl rfl) rfl hsz hrest hdg kk
end
def rT_putCopy : Room := { frames := 4, cells := 0, slots := 0, locals := 89 }
set_option maxHeartbeats 4000000 in
set_option maxRecDepth 100000 in
theorem ct_putCopy (l : Launch) {u : ts_S} {x1 x2 : Int32} {r0 : Int32} {u0 : ts_S} (hd : dt_putCopy u x1 x2 = some (r0, u0)) : ts_Cv tF l yT_putCopy (.code yT_putCopy bT_putCopy 3 none :: uW) rT_putCopy (fun ad => [.ref (ad 0), .int x1, .int x2]) u u0 := by
  refine ts_in_v tF l (by decide) (fun p e s m args below meth c D ca ad A hc hn hr hlk hw => ?_)
  have hx := hc.1
  have hb := hc.2.1
  have hl := lv_entry ([.ref (ad 0), .int x1, .int x2]) (n := 3) (Nat.le_of_ble_eq_true rfl)
  rw [lg_entry_eq]
  generalize (lg_sl ([.ref (ad 0), .int x1, .int x2]) ++ List.replicate (3 - (lg_sl ([.ref (ad 0), .int x1, .int x2])).length) Slot.unset).toArray = ls at hl ⊢
  replace hl : lv_has ls 3 [(0, .ref (ad 0)), (1, .int x1), (2, .int x2)] := hl
  unfold dt_putCopy at hd
  refine lv_aload_n hx hb dT_putCopy_0 rfl (lv_at hl 0 rfl) ?_
  refine gT_21 hc hn hw dT_putCopy_1 ?_
  refine lv_iload_n hx hb dT_putCopy_4 rfl (lv_at hl 1 rfl) ?_
  refine lv_iload_n hx hb dT_putCopy_5 rfl (lv_at hl 2 rfl) ?_
  obtain ⟨h, hd⟩ := ts_ix_s hd
  refine tt_s5 hc hw h dT_putCopy_6 (fun H locs hw => ?_)
  refine lv_aload_n hx hb dT_putCopy_7 rfl (lv_at hl 0 rfl) ?_
  refine gT_24 hc hn hw dT_putCopy_8 ?_
  refine lv_iload_n hx hb dT_putCopy_11 rfl (lv_at hl 1 rfl) ?_
  refine lv_aload_n hx hb dT_putCopy_12 rfl (lv_at hl 0 rfl) ?_
  refine gT_61 hc hn hw dT_putCopy_13 ?_
  refine lv_iload_n hx hb dT_putCopy_16 rfl (lv_at hl 2 rfl) ?_
  refine lv_aload_n hx hb dT_putCopy_17 rfl (lv_at hl 0 rfl) ?_
  refine gT_13 hc hn hw dT_putCopy_18 ?_
  refine lv_iload_n hx hb dT_putCopy_21 rfl (lv_at hl 1 rfl) ?_
  obtain ⟨h, hd⟩ := ts_ix_s hd
  refine tt_l3 hc hw h dT_putCopy_22 ?_
  obtain ⟨r23, u23, hq, hd⟩ := ts_b_s hd
  refine cT_168 hc hn hw hq hl.1 ⟨Nat.le_of_ble_eq_true rfl, Nat.le_of_ble_eq_true rfl⟩ (Nat.le_of_ble_eq_true rfl) dT_putCopy_23 (fun H locs hw => ?_)
  obtain ⟨h, hd⟩ := ts_ix_s hd
  refine tt_s6 hc hw h dT_putCopy_26 (fun H locs hw => ?_)
  exact ts_vret hx hb hr hlk hw hd dT_putCopy_27
section
variable {p : Program} {l : Launch} {e : Env} {R : Room} {s : State} {m : MethodId} {args : Array Value} {below : List Frame} {meth : Method} {c : Code} {H : Heap} {locs : List Loc} {Q : State → Prop} {cc : ByteArray} {pc nL : Nat} {ls : Array Slot} {rest : List Value} {D : va_G} {ca : Nat → ClassId} {ad : Nat → Nat} {A : Nat → Prop} {u : ts_S} {cells slots : Nat}
theorem cT_98 (hc : CallFix p m c cc nL s args uW RT) (hn : nx s) (hw : ts_W tF D ca ad A s H locs u) {x1 x2 : Int32} {r0 : Int32} {u0 : ts_S} (hq : dt_putCopy u x1 x2 = some (r0, u0)) (hsz : ls.size = nL) (hR : rT_putCopy.frames + 1 ≤ R.frames ∧ 8 + (3 + 11) + rT_putCopy.locals ≤ R.locals) (hrest : (rest.map fun v => v.category).sum ≤ 8) (hdg : decode cc pc = .ok (.invokevirtual 98, 3)) (kk : ∀ (H1 : Heap) (locs1 : List Loc), ts_W tF D ca ad A s H1 locs1 u0 → W p l e R s m args below meth c H1 locs1 0 0 Q (F0 m (pc + 3) ls rest)) : W p l e R s m args below meth c H locs 0 0 Q (F0 m pc ls (.int x2 :: .int x1 :: .ref (ad 0) :: rest)) :=
  ts_callVv (b := ad 0) (As := [.int x1, .int x2]) hc hn hw (ct_putCopy l hq) rfl (cwV 2 hc.2.2.2.2 (gd_V (by decide +kernel) (by decide +kernel) (by decide +kernel) (by decide +kernel) (code_T_putCopy)) rfl rfl rfl (by decide +kernel) hR) (va_recv hw.2.2.2.1 hw.1 (ci := 1) (q0 := 0) rfl rfl) rfl hsz hrest hdg kk
end
def rT_backUp : Room := { frames := 5, cells := 0, slots := 0, locals := 111 }
set_option maxHeartbeats 4000000 in
set_option maxRecDepth 100000 in
theorem ct_backUp (l : Launch) {u : ts_S} {r0 : Int32} {u0 : ts_S} (hd : dt_backUp u = some (r0, u0)) : ts_Ci tF l yT_backUp (.code yT_backUp bT_backUp 3 (some .int) :: uW) rT_backUp (fun ad => [.ref (ad 0)]) u r0 u0 := by
  refine ts_in_i tF l (by decide) (fun p e s m args below meth c D ca ad A hc hn hr hlk hw => ?_)
  have hx := hc.1
  have hb := hc.2.1
  have hl := lv_entry ([.ref (ad 0)]) (n := 3) (Nat.le_of_ble_eq_true rfl)
  rw [lg_entry_eq]
  generalize (lg_sl ([.ref (ad 0)]) ++ List.replicate (3 - (lg_sl ([.ref (ad 0)])).length) Slot.unset).toArray = ls at hl ⊢
  replace hl : lv_has ls 3 [(0, .ref (ad 0))] := hl
  unfold dt_backUp at hd
  refine lv_aload_n hx hb dT_backUp_0 rfl (lv_at hl 0 rfl) ?_
  refine lv_iconst (v := 1) hx hb dT_backUp_1 (by decide) ?_
  obtain ⟨r2, u2, hq, hd⟩ := ts_b_s hd
  refine cT_91 hc hn hw hq hl.1 ⟨Nat.le_of_ble_eq_true rfl, Nat.le_of_ble_eq_true rfl⟩ (Nat.le_of_ble_eq_true rfl) dT_backUp_2 (fun H locs hw => ?_)
  refine lv_istore_n (lv' := [(1, .int r2), (0, .ref (ad 0))]) hx hb dT_backUp_5 rfl hl (by decide) rfl (fun ls hl => ?_)
  refine lv_iload_n hx hb dT_backUp_6 rfl (lv_at hl 0 rfl) ?_
  refine lv_iconst (v := (-1)) hx hb dT_backUp_7 (by decide) ?_
  refine lv_icmp_ne (tgt := 13) hx hb dT_backUp_8 (by decide) (fun cq => ?_) (fun cq => ?_)
  · replace hd := ts_if_n cq hd
    refine lv_aload_n hx hb dT_backUp_13 rfl (lv_at hl 1 rfl) ?_
    refine gT_61 hc hn hw dT_backUp_14 ?_
    refine lv_aload_n hx hb dT_backUp_17 rfl (lv_at hl 1 rfl) ?_
    refine gT_13 hc hn hw dT_backUp_18 ?_
    refine lv_iload_n hx hb dT_backUp_21 rfl (lv_at hl 0 rfl) ?_
    obtain ⟨h, hd⟩ := ts_ix_s hd
    refine tt_l3 hc hw h dT_backUp_22 ?_
    refine lv_iconst (v := (-1)) hx hb dT_backUp_23 (by decide) ?_
    obtain ⟨r24, u24, hq, hd⟩ := ts_b_s hd
    refine cT_95 hc hn hw hq hl.1 ⟨Nat.le_of_ble_eq_true rfl, Nat.le_of_ble_eq_true rfl⟩ (Nat.le_of_ble_eq_true rfl) dT_backUp_24 (fun H locs hw => ?_)
    refine lv_istore_n (lv' := [(2, .int r24), (1, .int r2), (0, .ref (ad 0))]) hx hb dT_backUp_27 rfl hl (by decide) rfl (fun ls hl => ?_)
    refine lv_iload_n hx hb dT_backUp_28 rfl (lv_at hl 0 rfl) ?_
    refine lv_iconst (v := (-1)) hx hb dT_backUp_29 (by decide) ?_
    refine lv_icmp_ne (tgt := 36) hx hb dT_backUp_30 (by decide) (fun cq => ?_) (fun cq => ?_)
    · replace hd := ts_if_n cq hd
      refine lv_aload_n hx hb dT_backUp_36 rfl (lv_at hl 2 rfl) ?_
      refine lv_iload_n hx hb dT_backUp_37 rfl (lv_at hl 1 rfl) ?_
      refine lv_iload_n hx hb dT_backUp_38 rfl (lv_at hl 0 rfl) ?_
      obtain ⟨r39, u39, hq, hd⟩ := ts_b_s hd
      refine cT_98 hc hn hw hq hl.1 ⟨Nat.le_of_ble_eq_true rfl, Nat.le_of_ble_eq_true rfl⟩ (Nat.le_of_ble_eq_true rfl) dT_backUp_39 (fun H locs hw => ?_)
      refine lv_aload_n hx hb dT_backUp_42 rfl (lv_at hl 2 rfl) ?_
      refine gT_9 hc hn hw dT_backUp_43 ?_
      refine lv_iload_n hx hb dT_backUp_46 rfl (lv_at hl 1 rfl) ?_
      refine lv_iconst (v := 2) hx hb dT_backUp_47 (by decide) ?_
      obtain ⟨h, hd⟩ := ts_ix_s hd
      refine tt_s2 hc hw h dT_backUp_48 (fun H locs hw => ?_)
      refine lv_iload_n hx hb dT_backUp_49 rfl (lv_at hl 1 rfl) ?_
      exact ts_iret hx hb hr hlk (vp_nar_int _) hw hd dT_backUp_50
    · replace hd := ts_if_p cq hd
      refine lv_bipush (v := (-2)) hx hb dT_backUp_33 (by decide) ?_
      exact ts_iret hx hb hr hlk (vp_nar_int _) hw hd dT_backUp_35
  · replace hd := ts_if_p cq hd
    refine lv_iconst (v := (-1)) hx hb dT_backUp_11 (by decide) ?_
    exact ts_iret hx hb hr hlk (vp_nar_int _) hw hd dT_backUp_12
def rT_isUnits : Room := { frames := 0, cells := 0, slots := 0, locals := 0 }
set_option maxHeartbeats 4000000 in
set_option maxRecDepth 100000 in
theorem ct_isUnits (l : Launch) {u : ts_S} {x0 : Int32} {r0 : Int32} {u0 : ts_S} (hd : dt_isUnits u x0 = some (r0, u0)) : ts_Ci tF l yT_isUnits (.code yT_isUnits bT_isUnits 1 (some .boolean) :: uW) rT_isUnits (fun ad => [.int x0]) u r0 u0 := by
  refine ts_in_i tF l (by decide) (fun p e s m args below meth c D ca ad A hc hn hr hlk hw => ?_)
  have hx := hc.1
  have hb := hc.2.1
  have hl := lv_entry ([.int x0]) (n := 1) (Nat.le_of_ble_eq_true rfl)
  rw [lg_entry_eq]
  generalize (lg_sl ([.int x0]) ++ List.replicate (1 - (lg_sl ([.int x0])).length) Slot.unset).toArray = ls at hl ⊢
  replace hl : lv_has ls 1 [(0, .int x0)] := hl
  unfold dt_isUnits at hd
  refine lv_iload_n hx hb dT_isUnits_0 rfl (lv_at hl 0 rfl) ?_
  refine lv_if_lt (tgt := 14) hx hb dT_isUnits_1 (by decide) (fun cq => ?_) (fun cq => ?_)
  · replace hd := ts_if_p cq hd
    refine lv_iconst (v := 0) hx hb dT_isUnits_14 (by decide) ?_
    exact ts_iret hx hb hr hlk (by decide +kernel) hw hd dT_isUnits_15
  · replace hd := ts_if_n cq hd
    refine lv_iload_n hx hb dT_isUnits_4 rfl (lv_at hl 0 rfl) ?_
    refine lv_bipush (v := 24) hx hb dT_isUnits_5 (by decide) ?_
    refine lv_icmp_gt (tgt := 14) hx hb dT_isUnits_7 (by decide) (fun cq => ?_) (fun cq => ?_)
    · replace hd := ts_if_p cq hd
      refine lv_iconst (v := 0) hx hb dT_isUnits_14 (by decide) ?_
      exact ts_iret hx hb hr hlk (by decide +kernel) hw hd dT_isUnits_15
    · replace hd := ts_if_n cq hd
      refine lv_iconst (v := 1) hx hb dT_isUnits_10 (by decide) ?_
      refine lv_goto (tgt := 15) hx hb dT_isUnits_11 (by decide) ?_
      exact ts_iret hx hb hr hlk (by decide +kernel) hw hd dT_isUnits_15
section
variable {p : Program} {l : Launch} {e : Env} {R : Room} {s : State} {m : MethodId} {args : Array Value} {below : List Frame} {meth : Method} {c : Code} {H : Heap} {locs : List Loc} {Q : State → Prop} {cc : ByteArray} {pc nL : Nat} {ls : Array Slot} {rest : List Value} {D : va_G} {ca : Nat → ClassId} {ad : Nat → Nat} {A : Nat → Prop} {u : ts_S} {cells slots : Nat}
theorem cT_102 (hc : CallFix p m c cc nL s args uW RT) (hn : nx s) (hw : ts_W tF D ca ad A s H locs u) {x0 : Int32} {r0 : Int32} {u0 : ts_S} (hq : dt_isUnits u x0 = some (r0, u0)) (hsz : ls.size = nL) (hR : rT_isUnits.frames + 1 ≤ R.frames ∧ 8 + (1 + 11) + rT_isUnits.locals ≤ R.locals) (hrest : (rest.map fun v => v.category).sum ≤ 8) (hdg : decode cc pc = .ok (.invokestatic 102, 3)) (kk : ∀ (H1 : Heap) (locs1 : List Loc), ts_W tF D ca ad A s H1 locs1 u0 → W p l e R s m args below meth c H1 locs1 0 0 Q (F0 m (pc + 3) ls (.int r0 :: rest))) : W p l e R s m args below meth c H locs 0 0 Q (F0 m pc ls (.int x0 :: rest)) :=
  ts_callSi (As := [.int x0]) hc hn hw (ct_isUnits l hq) rfl (cwS 1 hc.2.2.2.2 (gd_S (by decide +kernel) (by decide +kernel) (by decide +kernel) (code_T_isUnits)) rfl rfl rfl (by decide +kernel) hR) rfl hsz hrest hdg kk
end
def rT_tidy : Room := { frames := 2, cells := 0, slots := 0, locals := 44 }
set_option maxHeartbeats 4000000 in
set_option maxRecDepth 100000 in
theorem ct_tidy (l : Launch) {u : ts_S} {x1 x2 : Int32} {r0 : Int32} {u0 : ts_S} (hd : dt_tidy u x1 x2 = some (r0, u0)) : ts_Ci tF l yT_tidy (.code yT_tidy bT_tidy 4 (some .int) :: uW) rT_tidy (fun ad => [.ref (ad 0), .int x1, .int x2]) u r0 u0 := by
  refine ts_in_i tF l (by decide) (fun p e s m args below meth c D ca ad A hc hn hr hlk hw => ?_)
  have hx := hc.1
  have hb := hc.2.1
  have hl := lv_entry ([.ref (ad 0), .int x1, .int x2]) (n := 4) (Nat.le_of_ble_eq_true rfl)
  rw [lg_entry_eq]
  generalize (lg_sl ([.ref (ad 0), .int x1, .int x2]) ++ List.replicate (4 - (lg_sl ([.ref (ad 0), .int x1, .int x2])).length) Slot.unset).toArray = ls at hl ⊢
  replace hl : lv_has ls 4 [(0, .ref (ad 0)), (1, .int x1), (2, .int x2)] := hl
  have L33 : ∀ (n : Nat) (u : ts_S) (x1 x2 x3 : Int32) (H : Heap) (locs : List Loc) (ls : Array Slot), dt_tidy_33 n u x1 x2 x3 = some (r0, u0) → ts_W tF D ca ad A s H locs u → lv_has ls 4 [(0, .ref (ad 0)), (1, .int x1), (2, .int x2), (3, .int x3)] → W p l e rT_tidy s m args below meth c H locs 0 0 (MQ below (va_Qi (fun r v => r = r0 ∧ v = u0) (ts_post tF D ca ad A) A) args s 0 0 A) (F0 m 33 ls []) := by
    intro n
    induction n with
    | zero => intro u x1 x2 x3 H locs ls hd; cases (show (none : Option (Int32 × ts_S)) = some (r0, u0) from hd)
    | succ n33 ih33 =>
      intro u x1 x2 x3 H locs ls hd hw hl
      replace hd : dt_tidy_33_b (dt_tidy_33 n33) u x1 x2 x3 = some (r0, u0) := hd
      unfold dt_tidy_33_b at hd
      refine lv_iload_n hx hb dT_tidy_33 rfl (lv_at hl 3 rfl) ?_
      refine lv_bipush (v := 16) hx hb dT_tidy_34 (by decide) ?_
      refine lv_icmp_ge (tgt := 60) hx hb dT_tidy_36 (by decide) (fun cq => ?_) (fun cq => ?_)
      · replace hd := ts_if_p cq hd
        refine lv_iload_n hx hb dT_tidy_60 rfl (lv_at hl 3 rfl) ?_
        exact ts_iret hx hb hr hlk (vp_nar_int _) hw hd dT_tidy_61
      · replace hd := ts_if_n cq hd
        refine lv_aload_n hx hb dT_tidy_39 rfl (lv_at hl 0 rfl) ?_
        obtain ⟨r40, u40, hq, hd⟩ := ts_b_s hd
        refine cT_105 hc hn hw hq hl.1 ⟨Nat.le_of_ble_eq_true rfl, Nat.le_of_ble_eq_true rfl⟩ (Nat.le_of_ble_eq_true rfl) dT_tidy_40 (fun H locs hw => ?_)
        refine lv_iload_n hx hb dT_tidy_43 rfl (lv_at hl 2 rfl) ?_
        refine lv_icmp_le (tgt := 60) hx hb dT_tidy_44 (by decide) (fun cq => ?_) (fun cq => ?_)
        · replace hd := ts_if_p cq hd
          refine lv_iload_n hx hb dT_tidy_60 rfl (lv_at hl 3 rfl) ?_
          exact ts_iret hx hb hr hlk (vp_nar_int _) hw hd dT_tidy_61
        · replace hd := ts_if_n cq hd
          refine lv_aload_n hx hb dT_tidy_47 rfl (lv_at hl 0 rfl) ?_
          obtain ⟨r48, u48, hq, hd⟩ := ts_b_s hd
          refine cT_109 hc hn hw hq hl.1 ⟨Nat.le_of_ble_eq_true rfl, Nat.le_of_ble_eq_true rfl⟩ (Nat.le_of_ble_eq_true rfl) dT_tidy_48 (fun H locs hw => ?_)
          refine lv_if_eq (tgt := 60) hx hb dT_tidy_51 (by decide) (fun cq => ?_) (fun cq => ?_)
          · replace hd := ts_if_p cq hd
            refine lv_iload_n hx hb dT_tidy_60 rfl (lv_at hl 3 rfl) ?_
            exact ts_iret hx hb hr hlk (vp_nar_int _) hw hd dT_tidy_61
          · replace hd := ts_if_n cq hd
            refine lv_iinc (v := (x3 + 1)) (lv' := [(3, .int (x3 + 1)), (0, .ref (ad 0)), (1, .int x1), (2, .int x2)]) hx hb dT_tidy_54 hl (k := 3) rfl rfl (by decide) rfl (fun ls hl => ?_)
            refine lv_goto (tgt := 33) hx hb dT_tidy_57 (by decide) ?_
            exact ih33 u48 x1 x2 (x3 + 1) _ _ _ hd hw (lv_sub hl [1, 2, 3, 0] rfl)
  unfold dt_tidy at hd
  refine lv_iload_n hx hb dT_tidy_0 rfl (lv_at hl 1 rfl) ?_
  obtain ⟨r1, u1, hq, hd⟩ := ts_b_s hd
  refine cT_102 hc hn hw hq hl.1 ⟨Nat.le_of_ble_eq_true rfl, Nat.le_of_ble_eq_true rfl⟩ (Nat.le_of_ble_eq_true rfl) dT_tidy_1 (fun H locs hw => ?_)
  refine lv_if_eq (tgt := 19) hx hb dT_tidy_4 (by decide) (fun cq => ?_) (fun cq => ?_)
  · replace hd := ts_if_p cq hd
    refine lv_iconst (v := (-1)) hx hb dT_tidy_19 (by decide) ?_
    exact ts_iret hx hb hr hlk (vp_nar_int _) hw hd dT_tidy_20
  · replace hd := ts_if_n cq hd
    refine lv_iload_n hx hb dT_tidy_7 rfl (lv_at hl 2 rfl) ?_
    obtain ⟨r8, u8, hq, hd⟩ := ts_b_s hd
    refine cT_102 hc hn hw hq hl.1 ⟨Nat.le_of_ble_eq_true rfl, Nat.le_of_ble_eq_true rfl⟩ (Nat.le_of_ble_eq_true rfl) dT_tidy_8 (fun H locs hw => ?_)
    refine lv_if_eq (tgt := 19) hx hb dT_tidy_11 (by decide) (fun cq => ?_) (fun cq => ?_)
    · replace hd := ts_if_p cq hd
      refine lv_iconst (v := (-1)) hx hb dT_tidy_19 (by decide) ?_
      exact ts_iret hx hb hr hlk (vp_nar_int _) hw hd dT_tidy_20
    · replace hd := ts_if_n cq hd
      refine lv_iload_n hx hb dT_tidy_14 rfl (lv_at hl 2 rfl) ?_
      refine lv_iload_n hx hb dT_tidy_15 rfl (lv_at hl 1 rfl) ?_
      refine lv_icmp_le (tgt := 21) hx hb dT_tidy_16 (by decide) (fun cq => ?_) (fun cq => ?_)
      · replace hd := ts_if_p cq hd
        refine lv_aload_n hx hb dT_tidy_21 rfl (lv_at hl 0 rfl) ?_
        obtain ⟨r22, u22, hq, hd⟩ := ts_b_s hd
        refine cT_105 hc hn hw hq hl.1 ⟨Nat.le_of_ble_eq_true rfl, Nat.le_of_ble_eq_true rfl⟩ (Nat.le_of_ble_eq_true rfl) dT_tidy_22 (fun H locs hw => ?_)
        refine lv_iload_n hx hb dT_tidy_25 rfl (lv_at hl 1 rfl) ?_
        refine lv_icmp_gt (tgt := 31) hx hb dT_tidy_26 (by decide) (fun cq => ?_) (fun cq => ?_)
        · replace hd := ts_if_p cq hd
          refine lv_iconst (v := 0) hx hb dT_tidy_31 (by decide) ?_
          refine lv_istore_n (lv' := [(3, .int 0), (0, .ref (ad 0)), (1, .int x1), (2, .int x2)]) hx hb dT_tidy_32 rfl hl (by decide) rfl (fun ls hl => ?_)
          exact L33 40 u22 x1 x2 0 _ _ _ hd hw (lv_sub hl [1, 2, 3, 0] rfl)
        · replace hd := ts_if_n cq hd
          refine lv_iconst (v := 0) hx hb dT_tidy_29 (by decide) ?_
          exact ts_iret hx hb hr hlk (vp_nar_int _) hw hd dT_tidy_30
      · replace hd := ts_if_n cq hd
        refine lv_iconst (v := (-1)) hx hb dT_tidy_19 (by decide) ?_
        exact ts_iret hx hb hr hlk (vp_nar_int _) hw hd dT_tidy_20
def rT_filesWaiting : Room := { frames := 0, cells := 0, slots := 0, locals := 0 }
set_option maxHeartbeats 4000000 in
set_option maxRecDepth 100000 in
theorem ct_filesWaiting (l : Launch) {u : ts_S} {r0 : Int32} {u0 : ts_S} (hd : dt_filesWaiting u = some (r0, u0)) : ts_Ci tF l yT_filesWaiting (.code yT_filesWaiting bT_filesWaiting 3 (some .int) :: uW) rT_filesWaiting (fun ad => [.ref (ad 0)]) u r0 u0 := by
  refine ts_in_i tF l (by decide) (fun p e s m args below meth c D ca ad A hc hn hr hlk hw => ?_)
  have hx := hc.1
  have hb := hc.2.1
  have hl := lv_entry ([.ref (ad 0)]) (n := 3) (Nat.le_of_ble_eq_true rfl)
  rw [lg_entry_eq]
  generalize (lg_sl ([.ref (ad 0)]) ++ List.replicate (3 - (lg_sl ([.ref (ad 0)])).length) Slot.unset).toArray = ls at hl ⊢
  replace hl : lv_has ls 3 [(0, .ref (ad 0))] := hl
  have L4 : ∀ (n : Nat) (u : ts_S) (x1 x2 : Int32) (H : Heap) (locs : List Loc) (ls : Array Slot), dt_filesWaiting_4 n u x1 x2 = some (r0, u0) → ts_W tF D ca ad A s H locs u → lv_has ls 3 [(0, .ref (ad 0)), (1, .int x1), (2, .int x2)] → W p l e rT_filesWaiting s m args below meth c H locs 0 0 (MQ below (va_Qi (fun r v => r = r0 ∧ v = u0) (ts_post tF D ca ad A) A) args s 0 0 A) (F0 m 4 ls []) := by
    intro n
    induction n with
    | zero => intro u x1 x2 H locs ls hd; cases (show (none : Option (Int32 × ts_S)) = some (r0, u0) from hd)
    | succ n4 ih4 =>
      intro u x1 x2 H locs ls hd hw hl
      replace hd : dt_filesWaiting_4_b (dt_filesWaiting_4 n4) u x1 x2 = some (r0, u0) := hd
      unfold dt_filesWaiting_4_b at hd
      refine lv_iload_n hx hb dT_filesWaiting_4 rfl (lv_at hl 2 rfl) ?_
      refine lv_bipush (v := 16) hx hb dT_filesWaiting_5 (by decide) ?_
      refine lv_icmp_ge (tgt := 28) hx hb dT_filesWaiting_7 (by decide) (fun cq => ?_) (fun cq => ?_)
      · replace hd := ts_if_p cq hd
        refine lv_iload_n hx hb dT_filesWaiting_28 rfl (lv_at hl 1 rfl) ?_
        exact ts_iret hx hb hr hlk (vp_nar_int _) hw hd dT_filesWaiting_29
      · replace hd := ts_if_n cq hd
        refine lv_aload_n hx hb dT_filesWaiting_10 rfl (lv_at hl 0 rfl) ?_
        refine gT_27 hc hn hw dT_filesWaiting_11 ?_
        refine lv_iload_n hx hb dT_filesWaiting_14 rfl (lv_at hl 2 rfl) ?_
        obtain ⟨h, hd⟩ := ts_ix_s hd
        refine tt_l7 hc hw h dT_filesWaiting_15 ?_
        refine lv_if_eq (tgt := 22) hx hb dT_filesWaiting_16 (by decide) (fun cq => ?_) (fun cq => ?_)
        · replace hd := ts_if_p cq hd
          refine lv_iinc (v := (x2 + 1)) (lv' := [(2, .int (x2 + 1)), (0, .ref (ad 0)), (1, .int x1)]) hx hb dT_filesWaiting_22 hl (k := 2) rfl rfl (by decide) rfl (fun ls hl => ?_)
          refine lv_goto (tgt := 4) hx hb dT_filesWaiting_25 (by decide) ?_
          exact ih4 u x1 (x2 + 1) _ _ _ hd hw (lv_sub hl [1, 2, 0] rfl)
        · replace hd := ts_if_n cq hd
          refine lv_iinc (v := (x1 + 1)) (lv' := [(1, .int (x1 + 1)), (0, .ref (ad 0)), (2, .int x2)]) hx hb dT_filesWaiting_19 hl (k := 1) rfl rfl (by decide) rfl (fun ls hl => ?_)
          refine lv_iinc (v := (x2 + 1)) (lv' := [(2, .int (x2 + 1)), (1, .int (x1 + 1)), (0, .ref (ad 0))]) hx hb dT_filesWaiting_22 hl (k := 2) rfl rfl (by decide) rfl (fun ls hl => ?_)
          refine lv_goto (tgt := 4) hx hb dT_filesWaiting_25 (by decide) ?_
          exact ih4 u (x1 + 1) (x2 + 1) _ _ _ hd hw (lv_sub hl [2, 1, 0] rfl)
  unfold dt_filesWaiting at hd
  refine lv_iconst (v := 0) hx hb dT_filesWaiting_0 (by decide) ?_
  refine lv_istore_n (lv' := [(1, .int 0), (0, .ref (ad 0))]) hx hb dT_filesWaiting_1 rfl hl (by decide) rfl (fun ls hl => ?_)
  refine lv_iconst (v := 0) hx hb dT_filesWaiting_2 (by decide) ?_
  refine lv_istore_n (lv' := [(2, .int 0), (1, .int 0), (0, .ref (ad 0))]) hx hb dT_filesWaiting_3 rfl hl (by decide) rfl (fun ls hl => ?_)
  exact L4 40 u 0 0 _ _ _ hd hw (lv_sub hl [2, 1, 0] rfl)
section
variable {p : Program} {l : Launch} {e : Env} {R : Room} {s : State} {m : MethodId} {args : Array Value} {below : List Frame} {meth : Method} {c : Code} {H : Heap} {locs : List Loc} {Q : State → Prop} {cc : ByteArray} {pc nL : Nat} {ls : Array Slot} {rest : List Value} {D : va_G} {ca : Nat → ClassId} {ad : Nat → Nat} {A : Nat → Prop} {u : ts_S} {cells slots : Nat}
theorem cT_113 (hc : CallFix p m c cc nL s args uW RT) (hn : nx s) (hw : ts_W tF D ca ad A s H locs u) {r0 : Int32} {u0 : ts_S} (hq : dt_filesWaiting u = some (r0, u0)) (hsz : ls.size = nL) (hR : rT_filesWaiting.frames + 1 ≤ R.frames ∧ 8 + (3 + 11) + rT_filesWaiting.locals ≤ R.locals) (hrest : (rest.map fun v => v.category).sum ≤ 8) (hdg : decode cc pc = .ok (.invokevirtual 113, 3)) (kk : ∀ (H1 : Heap) (locs1 : List Loc), ts_W tF D ca ad A s H1 locs1 u0 → W p l e R s m args below meth c H1 locs1 0 0 Q (F0 m (pc + 3) ls (.int r0 :: rest))) : W p l e R s m args below meth c H locs 0 0 Q (F0 m pc ls (.ref (ad 0) :: rest)) :=
  ts_callVi (b := ad 0) (As := []) hc hn hw (ct_filesWaiting l hq) rfl (cwV 0 hc.2.2.2.2 (gd_V (by decide +kernel) (by decide +kernel) (by decide +kernel) (by decide +kernel) (code_T_filesWaiting)) rfl rfl rfl (by decide +kernel) hR) (va_recv hw.2.2.2.1 hw.1 (ci := 1) (q0 := 0) rfl rfl) rfl hsz hrest hdg kk
end
def rT_ask : Room := { frames := 2, cells := 0, slots := 0, locals := 41 }
set_option maxHeartbeats 4000000 in
set_option maxRecDepth 100000 in
theorem ct_ask (l : Launch) {u : ts_S} {x1 : Int32} {r0 : Int32} {u0 : ts_S} (hd : dt_ask u x1 = some (r0, u0)) : ts_Ci tF l yT_ask (.code yT_ask bT_ask 2 (some .int) :: uW) rT_ask (fun ad => [.ref (ad 0), .int x1]) u r0 u0 := by
  refine ts_in_i tF l (by decide) (fun p e s m args below meth c D ca ad A hc hn hr hlk hw => ?_)
  have hx := hc.1
  have hb := hc.2.1
  have hl := lv_entry ([.ref (ad 0), .int x1]) (n := 2) (Nat.le_of_ble_eq_true rfl)
  rw [lg_entry_eq]
  generalize (lg_sl ([.ref (ad 0), .int x1]) ++ List.replicate (2 - (lg_sl ([.ref (ad 0), .int x1])).length) Slot.unset).toArray = ls at hl ⊢
  replace hl : lv_has ls 2 [(0, .ref (ad 0)), (1, .int x1)] := hl
  unfold dt_ask at hd
  refine lv_aload_n hx hb dT_ask_0 rfl (lv_at hl 0 rfl) ?_
  refine lv_iload_n hx hb dT_ask_1 rfl (lv_at hl 1 rfl) ?_
  obtain ⟨r2, u2, hq, hd⟩ := ts_b_s hd
  refine cT_88 hc hn hw hq hl.1 ⟨Nat.le_of_ble_eq_true rfl, Nat.le_of_ble_eq_true rfl⟩ (Nat.le_of_ble_eq_true rfl) dT_ask_2 (fun H locs hw => ?_)
  refine lv_if_ne (tgt := 10) hx hb dT_ask_5 (by decide) (fun cq => ?_) (fun cq => ?_)
  · replace hd := ts_if_n cq hd
    refine lv_aload_n hx hb dT_ask_10 rfl (lv_at hl 0 rfl) ?_
    refine gT_9 hc hn hw dT_ask_11 ?_
    refine lv_iload_n hx hb dT_ask_14 rfl (lv_at hl 1 rfl) ?_
    obtain ⟨h, hd⟩ := ts_ix_s hd
    refine tt_l2 hc hw h dT_ask_15 ?_
    refine lv_iconst (v := 3) hx hb dT_ask_16 (by decide) ?_
    refine lv_icmp_ne (tgt := 29) hx hb dT_ask_17 (by decide) (fun cq => ?_) (fun cq => ?_)
    · replace hd := ts_if_n cq hd
      refine lv_iconst (v := (-1)) hx hb dT_ask_29 (by decide) ?_
      exact ts_iret hx hb hr hlk (vp_nar_int _) hw hd dT_ask_30
    · replace hd := ts_if_p cq hd
      refine lv_aload_n hx hb dT_ask_20 rfl (lv_at hl 0 rfl) ?_
      refine gT_27 hc hn hw dT_ask_21 ?_
      refine lv_iload_n hx hb dT_ask_24 rfl (lv_at hl 1 rfl) ?_
      obtain ⟨h, hd⟩ := ts_ix_s hd
      refine tt_l7 hc hw h dT_ask_25 ?_
      refine lv_if_eq (tgt := 31) hx hb dT_ask_26 (by decide) (fun cq => ?_) (fun cq => ?_)
      · replace hd := ts_if_p cq hd
        refine lv_aload_n hx hb dT_ask_31 rfl (lv_at hl 0 rfl) ?_
        obtain ⟨r32, u32, hq, hd⟩ := ts_b_s hd
        refine cT_113 hc hn hw hq hl.1 ⟨Nat.le_of_ble_eq_true rfl, Nat.le_of_ble_eq_true rfl⟩ (Nat.le_of_ble_eq_true rfl) dT_ask_32 (fun H locs hw => ?_)
        refine lv_bipush (v := 6) hx hb dT_ask_35 (by decide) ?_
        refine lv_icmp_lt (tgt := 43) hx hb dT_ask_37 (by decide) (fun cq => ?_) (fun cq => ?_)
        · replace hd := ts_if_p cq hd
          refine lv_aload_n hx hb dT_ask_43 rfl (lv_at hl 0 rfl) ?_
          refine gT_27 hc hn hw dT_ask_44 ?_
          refine lv_iload_n hx hb dT_ask_47 rfl (lv_at hl 1 rfl) ?_
          refine lv_iconst (v := 1) hx hb dT_ask_48 (by decide) ?_
          obtain ⟨h, hd⟩ := ts_ix_s hd
          refine tt_s7 hc hw h (by decide +kernel) dT_ask_49 (fun H locs hw => ?_)
          refine lv_iconst (v := 0) hx hb dT_ask_50 (by decide) ?_
          exact ts_iret hx hb hr hlk (vp_nar_int _) hw hd dT_ask_51
        · replace hd := ts_if_n cq hd
          refine lv_bipush (v := (-2)) hx hb dT_ask_40 (by decide) ?_
          exact ts_iret hx hb hr hlk (vp_nar_int _) hw hd dT_ask_42
      · replace hd := ts_if_n cq hd
        refine lv_iconst (v := (-1)) hx hb dT_ask_29 (by decide) ?_
        exact ts_iret hx hb hr hlk (vp_nar_int _) hw hd dT_ask_30
  · replace hd := ts_if_p cq hd
    refine lv_iconst (v := (-1)) hx hb dT_ask_8 (by decide) ?_
    exact ts_iret hx hb hr hlk (vp_nar_int _) hw hd dT_ask_9
def rT_keepWaitingStubs : Room := { frames := 0, cells := 0, slots := 0, locals := 0 }
set_option maxHeartbeats 4000000 in
set_option maxRecDepth 100000 in
theorem ct_keepWaitingStubs (l : Launch) {u : ts_S} {r0 : Int32} {u0 : ts_S} (hd : dt_keepWaitingStubs u = some (r0, u0)) : ts_Cv tF l yT_keepWaitingStubs (.code yT_keepWaitingStubs bT_keepWaitingStubs 4 none :: uW) rT_keepWaitingStubs (fun ad => [.ref (ad 0)]) u u0 := by
  refine ts_in_v tF l (by decide) (fun p e s m args below meth c D ca ad A hc hn hr hlk hw => ?_)
  have hx := hc.1
  have hb := hc.2.1
  have hl := lv_entry ([.ref (ad 0)]) (n := 4) (Nat.le_of_ble_eq_true rfl)
  rw [lg_entry_eq]
  generalize (lg_sl ([.ref (ad 0)]) ++ List.replicate (4 - (lg_sl ([.ref (ad 0)])).length) Slot.unset).toArray = ls at hl ⊢
  replace hl : lv_has ls 4 [(0, .ref (ad 0))] := hl
  have L4 : ∀ (n : Nat) (u : ts_S) (x1 x2 : Int32) (H : Heap) (locs : List Loc) (ls : Array Slot), dt_keepWaitingStubs_4 n u x1 x2 = some (r0, u0) → ts_W tF D ca ad A s H locs u → lv_has ls 4 [(0, .ref (ad 0)), (1, .int x1), (2, .int x2)] → W p l e rT_keepWaitingStubs s m args below meth c H locs 0 0 (MQ below (va_Qv (fun v => v = u0) (ts_post tF D ca ad A) A) args s 0 0 A) (F0 m 4 ls []) := by
    intro n
    induction n with
    | zero => intro u x1 x2 H locs ls hd; cases (show (none : Option (Int32 × ts_S)) = some (r0, u0) from hd)
    | succ n4 ih4 =>
      intro u x1 x2 H locs ls hd hw hl
      replace hd : dt_keepWaitingStubs_4_b (dt_keepWaitingStubs_4 n4) u x1 x2 = some (r0, u0) := hd
      unfold dt_keepWaitingStubs_4_b at hd
      refine lv_iload_n hx hb dT_keepWaitingStubs_4 rfl (lv_at hl 2 rfl) ?_
      refine lv_aload_n hx hb dT_keepWaitingStubs_5 rfl (lv_at hl 0 rfl) ?_
      refine gT_41 hc hn hw dT_keepWaitingStubs_6 ?_
      refine lv_icmp_ge (tgt := 54) hx hb dT_keepWaitingStubs_9 (by decide) (fun cq => ?_) (fun cq => ?_)
      · replace hd := ts_if_p cq hd
        refine lv_aload_n hx hb dT_keepWaitingStubs_54 rfl (lv_at hl 0 rfl) ?_
        refine lv_iload_n hx hb dT_keepWaitingStubs_55 rfl (lv_at hl 1 rfl) ?_
        refine pT_41 hc hn hw dT_keepWaitingStubs_56 (fun H locs hw => ?_)
        exact ts_vret hx hb hr hlk hw hd dT_keepWaitingStubs_59
      · replace hd := ts_if_n cq hd
        refine lv_aload_n hx hb dT_keepWaitingStubs_12 rfl (lv_at hl 0 rfl) ?_
        refine gT_38 hc hn hw dT_keepWaitingStubs_13 ?_
        refine lv_iload_n hx hb dT_keepWaitingStubs_16 rfl (lv_at hl 2 rfl) ?_
        obtain ⟨h, hd⟩ := ts_ix_s hd
        refine tt_l9 hc hw h dT_keepWaitingStubs_17 ?_
        refine lv_istore_n (lv' := [(3, .int (u.2 9 x2.toNatClampNeg)), (0, .ref (ad 0)), (1, .int x1), (2, .int x2)]) hx hb dT_keepWaitingStubs_18 rfl hl (by decide) rfl (fun ls hl => ?_)
        refine lv_aload_n hx hb dT_keepWaitingStubs_19 rfl (lv_at hl 1 rfl) ?_
        refine gT_27 hc hn hw dT_keepWaitingStubs_20 ?_
        refine lv_iload_n hx hb dT_keepWaitingStubs_23 rfl (lv_at hl 0 rfl) ?_
        obtain ⟨h, hd⟩ := ts_ix_s hd
        refine tt_l7 hc hw h dT_keepWaitingStubs_24 ?_
        refine lv_if_eq (tgt := 48) hx hb dT_keepWaitingStubs_25 (by decide) (fun cq => ?_) (fun cq => ?_)
        · replace hd := ts_if_p cq hd
          refine lv_iinc (v := (x2 + 1)) (lv' := [(2, .int (x2 + 1)), (3, .int (u.2 9 x2.toNatClampNeg)), (0, .ref (ad 0)), (1, .int x1)]) hx hb dT_keepWaitingStubs_48 hl (k := 3) rfl rfl (by decide) rfl (fun ls hl => ?_)
          refine lv_goto (tgt := 4) hx hb dT_keepWaitingStubs_51 (by decide) ?_
          exact ih4 u x1 (x2 + 1) _ _ _ hd hw (lv_sub hl [2, 3, 0] rfl)
        · replace hd := ts_if_n cq hd
          refine lv_aload_n hx hb dT_keepWaitingStubs_28 rfl (lv_at hl 1 rfl) ?_
          refine gT_9 hc hn hw dT_keepWaitingStubs_29 ?_
          refine lv_iload_n hx hb dT_keepWaitingStubs_32 rfl (lv_at hl 0 rfl) ?_
          obtain ⟨h, hd⟩ := ts_ix_s hd
          refine tt_l2 hc hw h dT_keepWaitingStubs_33 ?_
          refine lv_iconst (v := 3) hx hb dT_keepWaitingStubs_34 (by decide) ?_
          refine lv_icmp_ne (tgt := 48) hx hb dT_keepWaitingStubs_35 (by decide) (fun cq => ?_) (fun cq => ?_)
          · replace hd := ts_if_n cq hd
            refine lv_iinc (v := (x2 + 1)) (lv' := [(2, .int (x2 + 1)), (3, .int (u.2 9 x2.toNatClampNeg)), (0, .ref (ad 0)), (1, .int x1)]) hx hb dT_keepWaitingStubs_48 hl (k := 3) rfl rfl (by decide) rfl (fun ls hl => ?_)
            refine lv_goto (tgt := 4) hx hb dT_keepWaitingStubs_51 (by decide) ?_
            exact ih4 u x1 (x2 + 1) _ _ _ hd hw (lv_sub hl [2, 3, 0] rfl)
          · replace hd := ts_if_p cq hd
            refine lv_aload_n hx hb dT_keepWaitingStubs_38 rfl (lv_at hl 1 rfl) ?_
            refine gT_38 hc hn hw dT_keepWaitingStubs_39 ?_
            refine lv_iload_n hx hb dT_keepWaitingStubs_42 rfl (lv_at hl 2 rfl) ?_
            refine lv_iload_n hx hb dT_keepWaitingStubs_43 rfl (lv_at hl 0 rfl) ?_
            obtain ⟨h, hd⟩ := ts_ix_s hd
            refine tt_s9 hc hw h dT_keepWaitingStubs_44 (fun H locs hw => ?_)
            refine lv_iinc (v := (x1 + 1)) (lv' := [(1, .int (x1 + 1)), (3, .int (u.2 9 x2.toNatClampNeg)), (0, .ref (ad 0)), (2, .int x2)]) hx hb dT_keepWaitingStubs_45 hl (k := 2) rfl rfl (by decide) rfl (fun ls hl => ?_)
            refine lv_iinc (v := (x2 + 1)) (lv' := [(2, .int (x2 + 1)), (1, .int (x1 + 1)), (3, .int (u.2 9 x2.toNatClampNeg)), (0, .ref (ad 0))]) hx hb dT_keepWaitingStubs_48 hl (k := 3) rfl rfl (by decide) rfl (fun ls hl => ?_)
            refine lv_goto (tgt := 4) hx hb dT_keepWaitingStubs_51 (by decide) ?_
            exact ih4 (ts_a 9 x1.toNatClampNeg (u.2 9 x2.toNatClampNeg) u) (x1 + 1) (x2 + 1) _ _ _ hd hw (lv_sub hl [3, 1, 0] rfl)
  unfold dt_keepWaitingStubs at hd
  refine lv_iconst (v := 0) hx hb dT_keepWaitingStubs_0 (by decide) ?_
  refine lv_istore_n (lv' := [(1, .int 0), (0, .ref (ad 0))]) hx hb dT_keepWaitingStubs_1 rfl hl (by decide) rfl (fun ls hl => ?_)
  refine lv_iconst (v := 0) hx hb dT_keepWaitingStubs_2 (by decide) ?_
  refine lv_istore_n (lv' := [(2, .int 0), (1, .int 0), (0, .ref (ad 0))]) hx hb dT_keepWaitingStubs_3 rfl hl (by decide) rfl (fun ls hl => ?_)
  exact L4 40 u 0 0 _ _ _ hd hw (lv_sub hl [2, 1, 0] rfl)
section
variable {p : Program} {l : Launch} {e : Env} {R : Room} {s : State} {m : MethodId} {args : Array Value} {below : List Frame} {meth : Method} {c : Code} {H : Heap} {locs : List Loc} {Q : State → Prop} {cc : ByteArray} {pc nL : Nat} {ls : Array Slot} {rest : List Value} {D : va_G} {ca : Nat → ClassId} {ad : Nat → Nat} {A : Nat → Prop} {u : ts_S} {cells slots : Nat}
theorem cT_177 (hc : CallFix p m c cc nL s args uW RT) (hn : nx s) (hw : ts_W tF D ca ad A s H locs u) {r0 : Int32} {u0 : ts_S} (hq : dt_keepWaitingStubs u = some (r0, u0)) (hsz : ls.size = nL) (hR : rT_keepWaitingStubs.frames + 1 ≤ R.frames ∧ 8 + (4 + 11) + rT_keepWaitingStubs.locals ≤ R.locals) (hrest : (rest.map fun v => v.category).sum ≤ 8) (hdg : decode cc pc = .ok (.invokevirtual 177, 3)) (kk : ∀ (H1 : Heap) (locs1 : List Loc), ts_W tF D ca ad A s H1 locs1 u0 → W p l e R s m args below meth c H1 locs1 0 0 Q (F0 m (pc + 3) ls rest)) : W p l e R s m args below meth c H locs 0 0 Q (F0 m pc ls (.ref (ad 0) :: rest)) :=
  ts_callVv (b := ad 0) (As := []) hc hn hw (ct_keepWaitingStubs l hq) rfl (cwV 0 hc.2.2.2.2 (gd_V (by decide +kernel) (by decide +kernel) (by decide +kernel) (by decide +kernel) (code_T_keepWaitingStubs)) rfl rfl rfl (by decide +kernel) hR) (va_recv hw.2.2.2.1 hw.1 (ci := 1) (q0 := 0) rfl rfl) rfl hsz hrest hdg kk
end
def rT_hasCopy : Room := { frames := 0, cells := 0, slots := 0, locals := 0 }
set_option maxHeartbeats 4000000 in
set_option maxRecDepth 100000 in
theorem ct_hasCopy (l : Launch) {u : ts_S} {x1 : Int32} {r0 : Int32} {u0 : ts_S} (hd : dt_hasCopy u x1 = some (r0, u0)) : ts_Ci tF l yT_hasCopy (.code yT_hasCopy bT_hasCopy 2 (some .boolean) :: uW) rT_hasCopy (fun ad => [.ref (ad 0), .int x1]) u r0 u0 := by
  refine ts_in_i tF l (by decide) (fun p e s m args below meth c D ca ad A hc hn hr hlk hw => ?_)
  have hx := hc.1
  have hb := hc.2.1
  have hl := lv_entry ([.ref (ad 0), .int x1]) (n := 2) (Nat.le_of_ble_eq_true rfl)
  rw [lg_entry_eq]
  generalize (lg_sl ([.ref (ad 0), .int x1]) ++ List.replicate (2 - (lg_sl ([.ref (ad 0), .int x1])).length) Slot.unset).toArray = ls at hl ⊢
  replace hl : lv_has ls 2 [(0, .ref (ad 0)), (1, .int x1)] := hl
  unfold dt_hasCopy at hd
  refine lv_aload_n hx hb dT_hasCopy_0 rfl (lv_at hl 0 rfl) ?_
  refine gT_9 hc hn hw dT_hasCopy_1 ?_
  refine lv_iload_n hx hb dT_hasCopy_4 rfl (lv_at hl 1 rfl) ?_
  obtain ⟨h, hd⟩ := ts_ix_s hd
  refine tt_l2 hc hw h dT_hasCopy_5 ?_
  refine lv_iconst (v := 2) hx hb dT_hasCopy_6 (by decide) ?_
  refine lv_icmp_eq (tgt := 20) hx hb dT_hasCopy_7 (by decide) (fun cq => ?_) (fun cq => ?_)
  · replace hd := ts_if_p cq hd
    refine lv_iconst (v := 1) hx hb dT_hasCopy_20 (by decide) ?_
    refine lv_goto (tgt := 25) hx hb dT_hasCopy_21 (by decide) ?_
    exact ts_iret hx hb hr hlk (by decide +kernel) hw hd dT_hasCopy_25
  · replace hd := ts_if_n cq hd
    refine lv_aload_n hx hb dT_hasCopy_10 rfl (lv_at hl 0 rfl) ?_
    refine gT_9 hc hn hw dT_hasCopy_11 ?_
    refine lv_iload_n hx hb dT_hasCopy_14 rfl (lv_at hl 1 rfl) ?_
    obtain ⟨h, hd⟩ := ts_ix_s hd
    refine tt_l2 hc hw h dT_hasCopy_15 ?_
    refine lv_iconst (v := 3) hx hb dT_hasCopy_16 (by decide) ?_
    refine lv_icmp_ne (tgt := 24) hx hb dT_hasCopy_17 (by decide) (fun cq => ?_) (fun cq => ?_)
    · replace hd := ts_if_n cq hd
      refine lv_iconst (v := 0) hx hb dT_hasCopy_24 (by decide) ?_
      exact ts_iret hx hb hr hlk (by decide +kernel) hw hd dT_hasCopy_25
    · replace hd := ts_if_p cq hd
      refine lv_iconst (v := 1) hx hb dT_hasCopy_20 (by decide) ?_
      refine lv_goto (tgt := 25) hx hb dT_hasCopy_21 (by decide) ?_
      exact ts_iret hx hb hr hlk (by decide +kernel) hw hd dT_hasCopy_25
section
variable {p : Program} {l : Launch} {e : Env} {R : Room} {s : State} {m : MethodId} {args : Array Value} {below : List Frame} {meth : Method} {c : Code} {H : Heap} {locs : List Loc} {Q : State → Prop} {cc : ByteArray} {pc nL : Nat} {ls : Array Slot} {rest : List Value} {D : va_G} {ca : Nat → ClassId} {ad : Nat → Nat} {A : Nat → Prop} {u : ts_S} {cells slots : Nat}
theorem cT_140 (hc : CallFix p m c cc nL s args uW RT) (hn : nx s) (hw : ts_W tF D ca ad A s H locs u) {x1 : Int32} {r0 : Int32} {u0 : ts_S} (hq : dt_hasCopy u x1 = some (r0, u0)) (hsz : ls.size = nL) (hR : rT_hasCopy.frames + 1 ≤ R.frames ∧ 8 + (2 + 11) + rT_hasCopy.locals ≤ R.locals) (hrest : (rest.map fun v => v.category).sum ≤ 8) (hdg : decode cc pc = .ok (.invokevirtual 140, 3)) (kk : ∀ (H1 : Heap) (locs1 : List Loc), ts_W tF D ca ad A s H1 locs1 u0 → W p l e R s m args below meth c H1 locs1 0 0 Q (F0 m (pc + 3) ls (.int r0 :: rest))) : W p l e R s m args below meth c H locs 0 0 Q (F0 m pc ls (.int x1 :: .ref (ad 0) :: rest)) :=
  ts_callVi (b := ad 0) (As := [.int x1]) hc hn hw (ct_hasCopy l hq) rfl (cwV 1 hc.2.2.2.2 (gd_V (by decide +kernel) (by decide +kernel) (by decide +kernel) (by decide +kernel) (code_T_hasCopy)) rfl rfl rfl (by decide +kernel) hR) (va_recv hw.2.2.2.1 hw.1 (ci := 1) (q0 := 0) rfl rfl) rfl hsz hrest hdg kk
end
def rT_hasCopyOn : Room := { frames := 1, cells := 0, slots := 0, locals := 21 }
set_option maxHeartbeats 4000000 in
set_option maxRecDepth 100000 in
theorem ct_hasCopyOn (l : Launch) {u : ts_S} {x1 x2 : Int32} {r0 : Int32} {u0 : ts_S} (hd : dt_hasCopyOn u x1 x2 = some (r0, u0)) : ts_Ci tF l yT_hasCopyOn (.code yT_hasCopyOn bT_hasCopyOn 3 (some .boolean) :: uW) rT_hasCopyOn (fun ad => [.ref (ad 0), .int x1, .int x2]) u r0 u0 := by
  refine ts_in_i tF l (by decide) (fun p e s m args below meth c D ca ad A hc hn hr hlk hw => ?_)
  have hx := hc.1
  have hb := hc.2.1
  have hl := lv_entry ([.ref (ad 0), .int x1, .int x2]) (n := 3) (Nat.le_of_ble_eq_true rfl)
  rw [lg_entry_eq]
  generalize (lg_sl ([.ref (ad 0), .int x1, .int x2]) ++ List.replicate (3 - (lg_sl ([.ref (ad 0), .int x1, .int x2])).length) Slot.unset).toArray = ls at hl ⊢
  replace hl : lv_has ls 3 [(0, .ref (ad 0)), (1, .int x1), (2, .int x2)] := hl
  unfold dt_hasCopyOn at hd
  refine lv_aload_n hx hb dT_hasCopyOn_0 rfl (lv_at hl 0 rfl) ?_
  refine lv_iload_n hx hb dT_hasCopyOn_1 rfl (lv_at hl 1 rfl) ?_
  obtain ⟨r2, u2, hq, hd⟩ := ts_b_s hd
  refine cT_140 hc hn hw hq hl.1 ⟨Nat.le_of_ble_eq_true rfl, Nat.le_of_ble_eq_true rfl⟩ (Nat.le_of_ble_eq_true rfl) dT_hasCopyOn_2 (fun H locs hw => ?_)
  refine lv_if_eq (tgt := 22) hx hb dT_hasCopyOn_5 (by decide) (fun cq => ?_) (fun cq => ?_)
  · replace hd := ts_if_p cq hd
    refine lv_iconst (v := 0) hx hb dT_hasCopyOn_22 (by decide) ?_
    exact ts_iret hx hb hr hlk (by decide +kernel) hw hd dT_hasCopyOn_23
  · replace hd := ts_if_n cq hd
    refine lv_aload_n hx hb dT_hasCopyOn_8 rfl (lv_at hl 0 rfl) ?_
    refine gT_21 hc hn hw dT_hasCopyOn_9 ?_
    refine lv_iload_n hx hb dT_hasCopyOn_12 rfl (lv_at hl 1 rfl) ?_
    obtain ⟨h, hd⟩ := ts_ix_s hd
    refine tt_l5 hc hw h dT_hasCopyOn_13 ?_
    refine lv_iload_n hx hb dT_hasCopyOn_14 rfl (lv_at hl 2 rfl) ?_
    refine lv_icmp_ne (tgt := 22) hx hb dT_hasCopyOn_15 (by decide) (fun cq => ?_) (fun cq => ?_)
    · replace hd := ts_if_n cq hd
      refine lv_iconst (v := 0) hx hb dT_hasCopyOn_22 (by decide) ?_
      exact ts_iret hx hb hr hlk (by decide +kernel) hw hd dT_hasCopyOn_23
    · replace hd := ts_if_p cq hd
      refine lv_iconst (v := 1) hx hb dT_hasCopyOn_18 (by decide) ?_
      refine lv_goto (tgt := 23) hx hb dT_hasCopyOn_19 (by decide) ?_
      exact ts_iret hx hb hr hlk (by decide +kernel) hw hd dT_hasCopyOn_23
section
variable {p : Program} {l : Launch} {e : Env} {R : Room} {s : State} {m : MethodId} {args : Array Value} {below : List Frame} {meth : Method} {c : Code} {H : Heap} {locs : List Loc} {Q : State → Prop} {cc : ByteArray} {pc nL : Nat} {ls : Array Slot} {rest : List Value} {D : va_G} {ca : Nat → ClassId} {ad : Nat → Nat} {A : Nat → Prop} {u : ts_S} {cells slots : Nat}
theorem cT_134 (hc : CallFix p m c cc nL s args uW RT) (hn : nx s) (hw : ts_W tF D ca ad A s H locs u) {x1 x2 : Int32} {r0 : Int32} {u0 : ts_S} (hq : dt_hasCopyOn u x1 x2 = some (r0, u0)) (hsz : ls.size = nL) (hR : rT_hasCopyOn.frames + 1 ≤ R.frames ∧ 8 + (3 + 11) + rT_hasCopyOn.locals ≤ R.locals) (hrest : (rest.map fun v => v.category).sum ≤ 8) (hdg : decode cc pc = .ok (.invokevirtual 134, 3)) (kk : ∀ (H1 : Heap) (locs1 : List Loc), ts_W tF D ca ad A s H1 locs1 u0 → W p l e R s m args below meth c H1 locs1 0 0 Q (F0 m (pc + 3) ls (.int r0 :: rest))) : W p l e R s m args below meth c H locs 0 0 Q (F0 m pc ls (.int x2 :: .int x1 :: .ref (ad 0) :: rest)) :=
  ts_callVi (b := ad 0) (As := [.int x1, .int x2]) hc hn hw (ct_hasCopyOn l hq) rfl (cwV 2 hc.2.2.2.2 (gd_V (by decide +kernel) (by decide +kernel) (by decide +kernel) (by decide +kernel) (code_T_hasCopyOn)) rfl rfl rfl (by decide +kernel) hR) (va_recv hw.2.2.2.1 hw.1 (ci := 1) (q0 := 0) rfl rfl) rfl hsz hrest hdg kk
end
def rT_fileWithCopyAt : Room := { frames := 2, cells := 0, slots := 0, locals := 43 }
set_option maxHeartbeats 4000000 in
set_option maxRecDepth 100000 in
theorem ct_fileWithCopyAt (l : Launch) {u : ts_S} {x1 x2 : Int32} {r0 : Int32} {u0 : ts_S} (hd : dt_fileWithCopyAt u x1 x2 = some (r0, u0)) : ts_Ci tF l yT_fileWithCopyAt (.code yT_fileWithCopyAt bT_fileWithCopyAt 4 (some .int) :: uW) rT_fileWithCopyAt (fun ad => [.ref (ad 0), .int x1, .int x2]) u r0 u0 := by
  refine ts_in_i tF l (by decide) (fun p e s m args below meth c D ca ad A hc hn hr hlk hw => ?_)
  have hx := hc.1
  have hb := hc.2.1
  have hl := lv_entry ([.ref (ad 0), .int x1, .int x2]) (n := 4) (Nat.le_of_ble_eq_true rfl)
  rw [lg_entry_eq]
  generalize (lg_sl ([.ref (ad 0), .int x1, .int x2]) ++ List.replicate (4 - (lg_sl ([.ref (ad 0), .int x1, .int x2])).length) Slot.unset).toArray = ls at hl ⊢
  replace hl : lv_has ls 4 [(0, .ref (ad 0)), (1, .int x1), (2, .int x2)] := hl
  have L2 : ∀ (n : Nat) (u : ts_S) (x1 x2 x3 : Int32) (H : Heap) (locs : List Loc) (ls : Array Slot), dt_fileWithCopyAt_2 n u x1 x2 x3 = some (r0, u0) → ts_W tF D ca ad A s H locs u → lv_has ls 4 [(0, .ref (ad 0)), (1, .int x1), (2, .int x2), (3, .int x3)] → W p l e rT_fileWithCopyAt s m args below meth c H locs 0 0 (MQ below (va_Qi (fun r v => r = r0 ∧ v = u0) (ts_post tF D ca ad A) A) args s 0 0 A) (F0 m 2 ls []) := by
    intro n
    induction n with
    | zero => intro u x1 x2 x3 H locs ls hd; cases (show (none : Option (Int32 × ts_S)) = some (r0, u0) from hd)
    | succ n2 ih2 =>
      intro u x1 x2 x3 H locs ls hd hw hl
      replace hd : dt_fileWithCopyAt_2_b (dt_fileWithCopyAt_2 n2) u x1 x2 x3 = some (r0, u0) := hd
      unfold dt_fileWithCopyAt_2_b at hd
      refine lv_iload_n hx hb dT_fileWithCopyAt_2 rfl (lv_at hl 3 rfl) ?_
      refine lv_bipush (v := 16) hx hb dT_fileWithCopyAt_3 (by decide) ?_
      refine lv_icmp_ge (tgt := 35) hx hb dT_fileWithCopyAt_5 (by decide) (fun cq => ?_) (fun cq => ?_)
      · replace hd := ts_if_p cq hd
        refine lv_iconst (v := (-1)) hx hb dT_fileWithCopyAt_35 (by decide) ?_
        exact ts_iret hx hb hr hlk (vp_nar_int _) hw hd dT_fileWithCopyAt_36
      · replace hd := ts_if_n cq hd
        refine lv_aload_n hx hb dT_fileWithCopyAt_8 rfl (lv_at hl 0 rfl) ?_
        refine lv_iload_n hx hb dT_fileWithCopyAt_9 rfl (lv_at hl 3 rfl) ?_
        refine lv_iload_n hx hb dT_fileWithCopyAt_10 rfl (lv_at hl 1 rfl) ?_
        obtain ⟨r11, u11, hq, hd⟩ := ts_b_s hd
        refine cT_134 hc hn hw hq hl.1 ⟨Nat.le_of_ble_eq_true rfl, Nat.le_of_ble_eq_true rfl⟩ (Nat.le_of_ble_eq_true rfl) dT_fileWithCopyAt_11 (fun H locs hw => ?_)
        refine lv_if_eq (tgt := 29) hx hb dT_fileWithCopyAt_14 (by decide) (fun cq => ?_) (fun cq => ?_)
        · replace hd := ts_if_p cq hd
          refine lv_iinc (v := (x3 + 1)) (lv' := [(3, .int (x3 + 1)), (0, .ref (ad 0)), (1, .int x1), (2, .int x2)]) hx hb dT_fileWithCopyAt_29 hl (k := 3) rfl rfl (by decide) rfl (fun ls hl => ?_)
          refine lv_goto (tgt := 2) hx hb dT_fileWithCopyAt_32 (by decide) ?_
          exact ih2 u11 x1 x2 (x3 + 1) _ _ _ hd hw (lv_sub hl [1, 2, 3, 0] rfl)
        · replace hd := ts_if_n cq hd
          refine lv_aload_n hx hb dT_fileWithCopyAt_17 rfl (lv_at hl 0 rfl) ?_
          refine gT_24 hc hn hw dT_fileWithCopyAt_18 ?_
          refine lv_iload_n hx hb dT_fileWithCopyAt_21 rfl (lv_at hl 3 rfl) ?_
          obtain ⟨h, hd⟩ := ts_ix_s hd
          refine tt_l6 hc hw h dT_fileWithCopyAt_22 ?_
          refine lv_iload_n hx hb dT_fileWithCopyAt_23 rfl (lv_at hl 2 rfl) ?_
          refine lv_icmp_ne (tgt := 29) hx hb dT_fileWithCopyAt_24 (by decide) (fun cq => ?_) (fun cq => ?_)
          · replace hd := ts_if_n cq hd
            refine lv_iinc (v := (x3 + 1)) (lv' := [(3, .int (x3 + 1)), (0, .ref (ad 0)), (1, .int x1), (2, .int x2)]) hx hb dT_fileWithCopyAt_29 hl (k := 3) rfl rfl (by decide) rfl (fun ls hl => ?_)
            refine lv_goto (tgt := 2) hx hb dT_fileWithCopyAt_32 (by decide) ?_
            exact ih2 u11 x1 x2 (x3 + 1) _ _ _ hd hw (lv_sub hl [1, 2, 3, 0] rfl)
          · replace hd := ts_if_p cq hd
            refine lv_iload_n hx hb dT_fileWithCopyAt_27 rfl (lv_at hl 3 rfl) ?_
            exact ts_iret hx hb hr hlk (vp_nar_int _) hw hd dT_fileWithCopyAt_28
  unfold dt_fileWithCopyAt at hd
  refine lv_iconst (v := 0) hx hb dT_fileWithCopyAt_0 (by decide) ?_
  refine lv_istore_n (lv' := [(3, .int 0), (0, .ref (ad 0)), (1, .int x1), (2, .int x2)]) hx hb dT_fileWithCopyAt_1 rfl hl (by decide) rfl (fun ls hl => ?_)
  exact L2 40 u x1 x2 0 _ _ _ hd hw (lv_sub hl [1, 2, 3, 0] rfl)
section
variable {p : Program} {l : Launch} {e : Env} {R : Room} {s : State} {m : MethodId} {args : Array Value} {below : List Frame} {meth : Method} {c : Code} {H : Heap} {locs : List Loc} {Q : State → Prop} {cc : ByteArray} {pc nL : Nat} {ls : Array Slot} {rest : List Value} {D : va_G} {ca : Nat → ClassId} {ad : Nat → Nat} {A : Nat → Prop} {u : ts_S} {cells slots : Nat}
theorem cT_183 (hc : CallFix p m c cc nL s args uW RT) (hn : nx s) (hw : ts_W tF D ca ad A s H locs u) {x1 x2 : Int32} {r0 : Int32} {u0 : ts_S} (hq : dt_fileWithCopyAt u x1 x2 = some (r0, u0)) (hsz : ls.size = nL) (hR : rT_fileWithCopyAt.frames + 1 ≤ R.frames ∧ 8 + (4 + 11) + rT_fileWithCopyAt.locals ≤ R.locals) (hrest : (rest.map fun v => v.category).sum ≤ 8) (hdg : decode cc pc = .ok (.invokevirtual 183, 3)) (kk : ∀ (H1 : Heap) (locs1 : List Loc), ts_W tF D ca ad A s H1 locs1 u0 → W p l e R s m args below meth c H1 locs1 0 0 Q (F0 m (pc + 3) ls (.int r0 :: rest))) : W p l e R s m args below meth c H locs 0 0 Q (F0 m pc ls (.int x2 :: .int x1 :: .ref (ad 0) :: rest)) :=
  ts_callVi (b := ad 0) (As := [.int x1, .int x2]) hc hn hw (ct_fileWithCopyAt l hq) rfl (cwV 2 hc.2.2.2.2 (gd_V (by decide +kernel) (by decide +kernel) (by decide +kernel) (by decide +kernel) (code_T_fileWithCopyAt)) rfl rfl rfl (by decide +kernel) hR) (va_recv hw.2.2.2.1 hw.1 (ci := 1) (q0 := 0) rfl rfl) rfl hsz hrest hdg kk
end
def rT_listCopiesOn : Room := { frames := 3, cells := 0, slots := 0, locals := 66 }
set_option maxHeartbeats 4000000 in
set_option maxRecDepth 100000 in
theorem ct_listCopiesOn (l : Launch) {u : ts_S} {x1 : Int32} {r0 : Int32} {u0 : ts_S} (hd : dt_listCopiesOn u x1 = some (r0, u0)) : ts_Cv tF l yT_listCopiesOn (.code yT_listCopiesOn bT_listCopiesOn 4 none :: uW) rT_listCopiesOn (fun ad => [.ref (ad 0), .int x1]) u u0 := by
  refine ts_in_v tF l (by decide) (fun p e s m args below meth c D ca ad A hc hn hr hlk hw => ?_)
  have hx := hc.1
  have hb := hc.2.1
  have hl := lv_entry ([.ref (ad 0), .int x1]) (n := 4) (Nat.le_of_ble_eq_true rfl)
  rw [lg_entry_eq]
  generalize (lg_sl ([.ref (ad 0), .int x1]) ++ List.replicate (4 - (lg_sl ([.ref (ad 0), .int x1])).length) Slot.unset).toArray = ls at hl ⊢
  replace hl : lv_has ls 4 [(0, .ref (ad 0)), (1, .int x1)] := hl
  have L2 : ∀ (n : Nat) (u : ts_S) (x1 x2 : Int32) (H : Heap) (locs : List Loc) (ls : Array Slot), dt_listCopiesOn_2 n u x1 x2 = some (r0, u0) → ts_W tF D ca ad A s H locs u → lv_has ls 4 [(0, .ref (ad 0)), (1, .int x1), (2, .int x2)] → W p l e rT_listCopiesOn s m args below meth c H locs 0 0 (MQ below (va_Qv (fun v => v = u0) (ts_post tF D ca ad A) A) args s 0 0 A) (F0 m 2 ls []) := by
    intro n
    induction n with
    | zero => intro u x1 x2 H locs ls hd; cases (show (none : Option (Int32 × ts_S)) = some (r0, u0) from hd)
    | succ n2 ih2 =>
      intro u x1 x2 H locs ls hd hw hl
      replace hd : dt_listCopiesOn_2_b (dt_listCopiesOn_2 n2) u x1 x2 = some (r0, u0) := hd
      unfold dt_listCopiesOn_2_b at hd
      refine lv_iload_n hx hb dT_listCopiesOn_2 rfl (lv_at hl 2 rfl) ?_
      refine lv_aload_n hx hb dT_listCopiesOn_3 rfl (lv_at hl 0 rfl) ?_
      refine gT_61 hc hn hw dT_listCopiesOn_4 ?_
      refine gT_180 hc hn hw dT_listCopiesOn_7 ?_
      refine lv_icmp_ge (tgt := 60) hx hb dT_listCopiesOn_10 (by decide) (fun cq => ?_) (fun cq => ?_)
      · replace hd := ts_if_p cq hd
        exact ts_vret hx hb hr hlk hw hd dT_listCopiesOn_60
      · replace hd := ts_if_n cq hd
        refine lv_aload_n hx hb dT_listCopiesOn_13 rfl (lv_at hl 0 rfl) ?_
        refine lv_iload_n hx hb dT_listCopiesOn_14 rfl (lv_at hl 1 rfl) ?_
        refine lv_iload_n hx hb dT_listCopiesOn_15 rfl (lv_at hl 2 rfl) ?_
        obtain ⟨r16, u16, hq, hd⟩ := ts_b_s hd
        refine cT_183 hc hn hw hq hl.1 ⟨Nat.le_of_ble_eq_true rfl, Nat.le_of_ble_eq_true rfl⟩ (Nat.le_of_ble_eq_true rfl) dT_listCopiesOn_16 (fun H locs hw => ?_)
        refine lv_istore_n (lv' := [(3, .int r16), (0, .ref (ad 0)), (1, .int x1), (2, .int x2)]) hx hb dT_listCopiesOn_19 rfl hl (by decide) rfl (fun ls hl => ?_)
        refine lv_iload_n hx hb dT_listCopiesOn_20 rfl (lv_at hl 0 rfl) ?_
        refine lv_iconst (v := (-1)) hx hb dT_listCopiesOn_21 (by decide) ?_
        refine lv_icmp_eq (tgt := 54) hx hb dT_listCopiesOn_22 (by decide) (fun cq => ?_) (fun cq => ?_)
        · replace hd := ts_if_p cq hd
          refine lv_iinc (v := (x2 + 1)) (lv' := [(2, .int (x2 + 1)), (3, .int r16), (0, .ref (ad 0)), (1, .int x1)]) hx hb dT_listCopiesOn_54 hl (k := 3) rfl rfl (by decide) rfl (fun ls hl => ?_)
          refine lv_goto (tgt := 2) hx hb dT_listCopiesOn_57 (by decide) ?_
          exact ih2 u16 x1 (x2 + 1) _ _ _ hd hw (lv_sub hl [2, 3, 0] rfl)
        · replace hd := ts_if_n cq hd
          refine lv_aload_n hx hb dT_listCopiesOn_25 rfl (lv_at hl 1 rfl) ?_
          refine gT_41 hc hn hw dT_listCopiesOn_26 ?_
          refine lv_bipush (v := 16) hx hb dT_listCopiesOn_29 (by decide) ?_
          refine lv_icmp_ge (tgt := 54) hx hb dT_listCopiesOn_31 (by decide) (fun cq => ?_) (fun cq => ?_)
          · replace hd := ts_if_p cq hd
            refine lv_iinc (v := (x2 + 1)) (lv' := [(2, .int (x2 + 1)), (3, .int r16), (0, .ref (ad 0)), (1, .int x1)]) hx hb dT_listCopiesOn_54 hl (k := 3) rfl rfl (by decide) rfl (fun ls hl => ?_)
            refine lv_goto (tgt := 2) hx hb dT_listCopiesOn_57 (by decide) ?_
            exact ih2 u16 x1 (x2 + 1) _ _ _ hd hw (lv_sub hl [2, 3, 0] rfl)
          · replace hd := ts_if_n cq hd
            refine lv_aload_n hx hb dT_listCopiesOn_34 rfl (lv_at hl 1 rfl) ?_
            refine gT_38 hc hn hw dT_listCopiesOn_35 ?_
            refine lv_aload_n hx hb dT_listCopiesOn_38 rfl (lv_at hl 1 rfl) ?_
            refine gT_41 hc hn hw dT_listCopiesOn_39 ?_
            refine lv_iload_n hx hb dT_listCopiesOn_42 rfl (lv_at hl 0 rfl) ?_
            obtain ⟨h, hd⟩ := ts_ix_s hd
            refine tt_s9 hc hw h dT_listCopiesOn_43 (fun H locs hw => ?_)
            refine lv_aload_n hx hb dT_listCopiesOn_44 rfl (lv_at hl 1 rfl) ?_
            refine lv_dup hx hb dT_listCopiesOn_45 rfl ?_
            refine gT_41 hc hn hw dT_listCopiesOn_46 ?_
            refine lv_iconst (v := 1) hx hb dT_listCopiesOn_49 (by decide) ?_
            refine lv_iadd hx hb dT_listCopiesOn_50 ?_
            refine pT_41 hc hn hw dT_listCopiesOn_51 (fun H locs hw => ?_)
            refine lv_iinc (v := (x2 + 1)) (lv' := [(2, .int (x2 + 1)), (3, .int r16), (0, .ref (ad 0)), (1, .int x1)]) hx hb dT_listCopiesOn_54 hl (k := 3) rfl rfl (by decide) rfl (fun ls hl => ?_)
            refine lv_goto (tgt := 2) hx hb dT_listCopiesOn_57 (by decide) ?_
            exact ih2 (ts_p 2 (((ts_a 9 (u16.1 2).toNatClampNeg r16 u16).1 2) + 1) (ts_a 9 (u16.1 2).toNatClampNeg r16 u16)) x1 (x2 + 1) _ _ _ hd hw (lv_sub hl [2, 3, 0] rfl)
  unfold dt_listCopiesOn at hd
  refine lv_iconst (v := 0) hx hb dT_listCopiesOn_0 (by decide) ?_
  refine lv_istore_n (lv' := [(2, .int 0), (0, .ref (ad 0)), (1, .int x1)]) hx hb dT_listCopiesOn_1 rfl hl (by decide) rfl (fun ls hl => ?_)
  exact L2 40 u x1 0 _ _ _ hd hw (lv_sub hl [1, 2, 0] rfl)
section
variable {p : Program} {l : Launch} {e : Env} {R : Room} {s : State} {m : MethodId} {args : Array Value} {below : List Frame} {meth : Method} {c : Code} {H : Heap} {locs : List Loc} {Q : State → Prop} {cc : ByteArray} {pc nL : Nat} {ls : Array Slot} {rest : List Value} {D : va_G} {ca : Nat → ClassId} {ad : Nat → Nat} {A : Nat → Prop} {u : ts_S} {cells slots : Nat}
theorem cT_122 (hc : CallFix p m c cc nL s args uW RT) (hn : nx s) (hw : ts_W tF D ca ad A s H locs u) {x1 : Int32} {r0 : Int32} {u0 : ts_S} (hq : dt_listCopiesOn u x1 = some (r0, u0)) (hsz : ls.size = nL) (hR : rT_listCopiesOn.frames + 1 ≤ R.frames ∧ 8 + (4 + 11) + rT_listCopiesOn.locals ≤ R.locals) (hrest : (rest.map fun v => v.category).sum ≤ 8) (hdg : decode cc pc = .ok (.invokevirtual 122, 3)) (kk : ∀ (H1 : Heap) (locs1 : List Loc), ts_W tF D ca ad A s H1 locs1 u0 → W p l e R s m args below meth c H1 locs1 0 0 Q (F0 m (pc + 3) ls rest)) : W p l e R s m args below meth c H locs 0 0 Q (F0 m pc ls (.int x1 :: .ref (ad 0) :: rest)) :=
  ts_callVv (b := ad 0) (As := [.int x1]) hc hn hw (ct_listCopiesOn l hq) rfl (cwV 1 hc.2.2.2.2 (gd_V (by decide +kernel) (by decide +kernel) (by decide +kernel) (by decide +kernel) (code_T_listCopiesOn)) rfl rfl rfl (by decide +kernel) hR) (va_recv hw.2.2.2.1 hw.1 (ci := 1) (q0 := 0) rfl rfl) rfl hsz hrest hdg kk
end
end
section
def rT_listWaitingStubs : Room := { frames := 4, cells := 0, slots := 0, locals := 89 }
set_option maxHeartbeats 4000000 in
set_option maxRecDepth 100000 in
theorem ct_listWaitingStubs (l : Launch) {u : ts_S} {r0 : Int32} {u0 : ts_S} (hd : dt_listWaitingStubs u = some (r0, u0)) : ts_Cv tF l yT_listWaitingStubs (.code yT_listWaitingStubs bT_listWaitingStubs 3 none :: uW) rT_listWaitingStubs (fun ad => [.ref (ad 0)]) u u0 := by
  refine ts_in_v tF l (by decide) (fun p e s m args below meth c D ca ad A hc hn hr hlk hw => ?_)
  have hx := hc.1
  have hb := hc.2.1
  have hl := lv_entry ([.ref (ad 0)]) (n := 3) (Nat.le_of_ble_eq_true rfl)
  rw [lg_entry_eq]
  generalize (lg_sl ([.ref (ad 0)]) ++ List.replicate (3 - (lg_sl ([.ref (ad 0)])).length) Slot.unset).toArray = ls at hl ⊢
  replace hl : lv_has ls 3 [(0, .ref (ad 0))] := hl
  have L25 : ∀ (n : Nat) (u : ts_S) (x1 x2 : Int32) (H : Heap) (locs : List Loc) (ls : Array Slot), dt_listWaitingStubs_25 n u x1 x2 = some (r0, u0) → ts_W tF D ca ad A s H locs u → lv_has ls 3 [(0, .ref (ad 0)), (1, .int x1), (2, .int x2)] → W p l e rT_listWaitingStubs s m args below meth c H locs 0 0 (MQ below (va_Qv (fun v => v = u0) (ts_post tF D ca ad A) A) args s 0 0 A) (F0 m 25 ls []) := by
    intro n
    induction n with
    | zero => intro u x1 x2 H locs ls hd; cases (show (none : Option (Int32 × ts_S)) = some (r0, u0) from hd)
    | succ n25 ih25 =>
      intro u x1 x2 H locs ls hd hw hl
      replace hd : dt_listWaitingStubs_25_b (dt_listWaitingStubs_25 n25) u x1 x2 = some (r0, u0) := hd
      unfold dt_listWaitingStubs_25_b at hd
      refine lv_iload_n hx hb dT_listWaitingStubs_25 rfl (lv_at hl 2 rfl) ?_
      refine lv_iconst (v := 4) hx hb dT_listWaitingStubs_26 (by decide) ?_
      refine lv_icmp_ge (tgt := 46) hx hb dT_listWaitingStubs_27 (by decide) (fun cq => ?_) (fun cq => ?_)
      · replace hd := ts_if_p cq hd
        refine lv_aload_n hx hb dT_listWaitingStubs_46 rfl (lv_at hl 0 rfl) ?_
        obtain ⟨r47, u47, hq, hd⟩ := ts_b_s hd
        refine cT_177 hc hn hw hq hl.1 ⟨Nat.le_of_ble_eq_true rfl, Nat.le_of_ble_eq_true rfl⟩ (Nat.le_of_ble_eq_true rfl) dT_listWaitingStubs_47 (fun H locs hw => ?_)
        exact ts_vret hx hb hr hlk hw hd dT_listWaitingStubs_50
      · replace hd := ts_if_n cq hd
        refine lv_iload_n hx hb dT_listWaitingStubs_30 rfl (lv_at hl 2 rfl) ?_
        refine lv_iload_n hx hb dT_listWaitingStubs_31 rfl (lv_at hl 1 rfl) ?_
        refine lv_icmp_eq (tgt := 40) hx hb dT_listWaitingStubs_32 (by decide) (fun cq => ?_) (fun cq => ?_)
        · replace hd := ts_if_p cq hd
          refine lv_iinc (v := (x2 + 1)) (lv' := [(2, .int (x2 + 1)), (0, .ref (ad 0)), (1, .int x1)]) hx hb dT_listWaitingStubs_40 hl (k := 2) rfl rfl (by decide) rfl (fun ls hl => ?_)
          refine lv_goto (tgt := 25) hx hb dT_listWaitingStubs_43 (by decide) ?_
          exact ih25 u x1 (x2 + 1) _ _ _ hd hw (lv_sub hl [1, 2, 0] rfl)
        · replace hd := ts_if_n cq hd
          refine lv_aload_n hx hb dT_listWaitingStubs_35 rfl (lv_at hl 0 rfl) ?_
          refine lv_iload_n hx hb dT_listWaitingStubs_36 rfl (lv_at hl 2 rfl) ?_
          obtain ⟨r37, u37, hq, hd⟩ := ts_b_s hd
          refine cT_122 hc hn hw hq hl.1 ⟨Nat.le_of_ble_eq_true rfl, Nat.le_of_ble_eq_true rfl⟩ (Nat.le_of_ble_eq_true rfl) dT_listWaitingStubs_37 (fun H locs hw => ?_)
          refine lv_iinc (v := (x2 + 1)) (lv' := [(2, .int (x2 + 1)), (0, .ref (ad 0)), (1, .int x1)]) hx hb dT_listWaitingStubs_40 hl (k := 2) rfl rfl (by decide) rfl (fun ls hl => ?_)
          refine lv_goto (tgt := 25) hx hb dT_listWaitingStubs_43 (by decide) ?_
          exact ih25 u37 x1 (x2 + 1) _ _ _ hd hw (lv_sub hl [1, 2, 0] rfl)
  unfold dt_listWaitingStubs at hd
  refine lv_aload_n hx hb dT_listWaitingStubs_0 rfl (lv_at hl 0 rfl) ?_
  refine lv_iconst (v := 0) hx hb dT_listWaitingStubs_1 (by decide) ?_
  refine pT_41 hc hn hw dT_listWaitingStubs_2 (fun H locs hw => ?_)
  refine lv_aload_n hx hb dT_listWaitingStubs_5 rfl (lv_at hl 0 rfl) ?_
  refine gT_61 hc hn hw dT_listWaitingStubs_6 ?_
  refine gT_149 hc hn hw dT_listWaitingStubs_9 ?_
  refine lv_istore_n (lv' := [(1, .int ((ts_p 2 0 u).1 4)), (0, .ref (ad 0))]) hx hb dT_listWaitingStubs_12 rfl hl (by decide) rfl (fun ls hl => ?_)
  refine lv_iload_n hx hb dT_listWaitingStubs_13 rfl (lv_at hl 0 rfl) ?_
  refine lv_iconst (v := (-1)) hx hb dT_listWaitingStubs_14 (by decide) ?_
  refine lv_icmp_eq (tgt := 23) hx hb dT_listWaitingStubs_15 (by decide) (fun cq => ?_) (fun cq => ?_)
  · replace hd := ts_if_p cq hd
    refine lv_iconst (v := 0) hx hb dT_listWaitingStubs_23 (by decide) ?_
    refine lv_istore_n (lv' := [(2, .int 0), (1, .int ((ts_p 2 0 u).1 4)), (0, .ref (ad 0))]) hx hb dT_listWaitingStubs_24 rfl hl (by decide) rfl (fun ls hl => ?_)
    exact L25 40 (ts_p 2 0 u) ((ts_p 2 0 u).1 4) 0 _ _ _ hd hw (lv_sub hl [2, 1, 0] rfl)
  · replace hd := ts_if_n cq hd
    refine lv_aload_n hx hb dT_listWaitingStubs_18 rfl (lv_at hl 1 rfl) ?_
    refine lv_iload_n hx hb dT_listWaitingStubs_19 rfl (lv_at hl 0 rfl) ?_
    obtain ⟨r20, u20, hq, hd⟩ := ts_b_s hd
    refine cT_122 hc hn hw hq hl.1 ⟨Nat.le_of_ble_eq_true rfl, Nat.le_of_ble_eq_true rfl⟩ (Nat.le_of_ble_eq_true rfl) dT_listWaitingStubs_20 (fun H locs hw => ?_)
    refine lv_iconst (v := 0) hx hb dT_listWaitingStubs_23 (by decide) ?_
    refine lv_istore_n (lv' := [(2, .int 0), (1, .int ((ts_p 2 0 u).1 4)), (0, .ref (ad 0))]) hx hb dT_listWaitingStubs_24 rfl hl (by decide) rfl (fun ls hl => ?_)
    exact L25 40 u20 ((ts_p 2 0 u).1 4) 0 _ _ _ hd hw (lv_sub hl [2, 1, 0] rfl)
section
variable {p : Program} {l : Launch} {e : Env} {R : Room} {s : State} {m : MethodId} {args : Array Value} {below : List Frame} {meth : Method} {c : Code} {H : Heap} {locs : List Loc} {Q : State → Prop} {cc : ByteArray} {pc nL : Nat} {ls : Array Slot} {rest : List Value} {D : va_G} {ca : Nat → ClassId} {ad : Nat → Nat} {A : Nat → Prop} {u : ts_S} {cells slots : Nat}
theorem cT_116 (hc : CallFix p m c cc nL s args uW RT) (hn : nx s) (hw : ts_W tF D ca ad A s H locs u) {r0 : Int32} {u0 : ts_S} (hq : dt_listWaitingStubs u = some (r0, u0)) (hsz : ls.size = nL) (hR : rT_listWaitingStubs.frames + 1 ≤ R.frames ∧ 8 + (3 + 11) + rT_listWaitingStubs.locals ≤ R.locals) (hrest : (rest.map fun v => v.category).sum ≤ 8) (hdg : decode cc pc = .ok (.invokevirtual 116, 3)) (kk : ∀ (H1 : Heap) (locs1 : List Loc), ts_W tF D ca ad A s H1 locs1 u0 → W p l e R s m args below meth c H1 locs1 0 0 Q (F0 m (pc + 3) ls rest)) : W p l e R s m args below meth c H locs 0 0 Q (F0 m pc ls (.ref (ad 0) :: rest)) :=
  ts_callVv (b := ad 0) (As := []) hc hn hw (ct_listWaitingStubs l hq) rfl (cwV 0 hc.2.2.2.2 (gd_V (by decide +kernel) (by decide +kernel) (by decide +kernel) (by decide +kernel) (code_T_listWaitingStubs)) rfl rfl rfl (by decide +kernel) hR) (va_recv hw.2.2.2.1 hw.1 (ci := 1) (q0 := 0) rfl rfl) rfl hsz hrest hdg kk
end
def rT_serve : Room := { frames := 5, cells := 0, slots := 0, locals := 111 }
set_option maxHeartbeats 4000000 in
set_option maxRecDepth 100000 in
theorem ct_serve (l : Launch) {u : ts_S} {r0 : Int32} {u0 : ts_S} (hd : dt_serve u = some (r0, u0)) : ts_Ci tF l yT_serve (.code yT_serve bT_serve 3 (some .int) :: uW) rT_serve (fun ad => [.ref (ad 0)]) u r0 u0 := by
  refine ts_in_i tF l (by decide) (fun p e s m args below meth c D ca ad A hc hn hr hlk hw => ?_)
  have hx := hc.1
  have hb := hc.2.1
  have hl := lv_entry ([.ref (ad 0)]) (n := 3) (Nat.le_of_ble_eq_true rfl)
  rw [lg_entry_eq]
  generalize (lg_sl ([.ref (ad 0)]) ++ List.replicate (3 - (lg_sl ([.ref (ad 0)])).length) Slot.unset).toArray = ls at hl ⊢
  replace hl : lv_has ls 3 [(0, .ref (ad 0))] := hl
  have L29 : ∀ (n : Nat) (u : ts_S) (x1 x2 : Int32) (H : Heap) (locs : List Loc) (ls : Array Slot), dt_serve_29 n u x1 x2 = some (r0, u0) → ts_W tF D ca ad A s H locs u → lv_has ls 3 [(0, .ref (ad 0)), (1, .int x1), (2, .int x2)] → W p l e rT_serve s m args below meth c H locs 0 0 (MQ below (va_Qi (fun r v => r = r0 ∧ v = u0) (ts_post tF D ca ad A) A) args s 0 0 A) (F0 m 29 ls []) := by
    intro n
    induction n with
    | zero => intro u x1 x2 H locs ls hd; cases (show (none : Option (Int32 × ts_S)) = some (r0, u0) from hd)
    | succ n29 ih29 =>
      intro u x1 x2 H locs ls hd hw hl
      replace hd : dt_serve_29_b (dt_serve_29 n29) u x1 x2 = some (r0, u0) := hd
      unfold dt_serve_29_b at hd
      refine lv_iload_n hx hb dT_serve_29 rfl (lv_at hl 2 rfl) ?_
      refine lv_aload_n hx hb dT_serve_30 rfl (lv_at hl 0 rfl) ?_
      refine gT_41 hc hn hw dT_serve_31 ?_
      refine lv_icmp_ge (tgt := 59) hx hb dT_serve_34 (by decide) (fun cq => ?_) (fun cq => ?_)
      · replace hd := ts_if_p cq hd
        refine lv_iload_n hx hb dT_serve_59 rfl (lv_at hl 1 rfl) ?_
        exact ts_iret hx hb hr hlk (vp_nar_int _) hw hd dT_serve_60
      · replace hd := ts_if_n cq hd
        refine lv_aload_n hx hb dT_serve_37 rfl (lv_at hl 0 rfl) ?_
        refine lv_aload_n hx hb dT_serve_38 rfl (lv_at hl 0 rfl) ?_
        refine gT_38 hc hn hw dT_serve_39 ?_
        refine lv_iload_n hx hb dT_serve_42 rfl (lv_at hl 2 rfl) ?_
        obtain ⟨h, hd⟩ := ts_ix_s hd
        refine tt_l9 hc hw h dT_serve_43 ?_
        obtain ⟨r44, u44, hq, hd⟩ := ts_b_s hd
        refine cT_79 hc hn hw hq hl.1 ⟨Nat.le_of_ble_eq_true rfl, Nat.le_of_ble_eq_true rfl⟩ (Nat.le_of_ble_eq_true rfl) dT_serve_44 (fun H locs hw => ?_)
        refine lv_if_eq (tgt := 53) hx hb dT_serve_47 (by decide) (fun cq => ?_) (fun cq => ?_)
        · replace hd := ts_if_p cq hd
          refine lv_iinc (v := (x2 + 1)) (lv' := [(2, .int (x2 + 1)), (0, .ref (ad 0)), (1, .int x1)]) hx hb dT_serve_53 hl (k := 2) rfl rfl (by decide) rfl (fun ls hl => ?_)
          refine lv_goto (tgt := 29) hx hb dT_serve_56 (by decide) ?_
          exact ih29 u44 x1 (x2 + 1) _ _ _ hd hw (lv_sub hl [1, 2, 0] rfl)
        · replace hd := ts_if_n cq hd
          refine lv_iinc (v := (x1 + 1)) (lv' := [(1, .int (x1 + 1)), (0, .ref (ad 0)), (2, .int x2)]) hx hb dT_serve_50 hl (k := 1) rfl rfl (by decide) rfl (fun ls hl => ?_)
          refine lv_iinc (v := (x2 + 1)) (lv' := [(2, .int (x2 + 1)), (1, .int (x1 + 1)), (0, .ref (ad 0))]) hx hb dT_serve_53 hl (k := 2) rfl rfl (by decide) rfl (fun ls hl => ?_)
          refine lv_goto (tgt := 29) hx hb dT_serve_56 (by decide) ?_
          exact ih29 u44 (x1 + 1) (x2 + 1) _ _ _ hd hw (lv_sub hl [2, 1, 0] rfl)
  have L6 : ∀ (n : Nat) (u : ts_S) (x1 : Int32) (H : Heap) (locs : List Loc) (ls : Array Slot), dt_serve_6 n u x1 = some (r0, u0) → ts_W tF D ca ad A s H locs u → lv_has ls 3 [(0, .ref (ad 0)), (1, .int x1)] → W p l e rT_serve s m args below meth c H locs 0 0 (MQ below (va_Qi (fun r v => r = r0 ∧ v = u0) (ts_post tF D ca ad A) A) args s 0 0 A) (F0 m 6 ls []) := by
    intro n
    induction n with
    | zero => intro u x1 H locs ls hd; cases (show (none : Option (Int32 × ts_S)) = some (r0, u0) from hd)
    | succ n6 ih6 =>
      intro u x1 H locs ls hd hw hl
      replace hd : dt_serve_6_b (dt_serve_6 n6) u x1 = some (r0, u0) := hd
      unfold dt_serve_6_b at hd
      refine lv_iload_n hx hb dT_serve_6 rfl (lv_at hl 1 rfl) ?_
      refine lv_bipush (v := 16) hx hb dT_serve_7 (by decide) ?_
      refine lv_icmp_ge (tgt := 25) hx hb dT_serve_9 (by decide) (fun cq => ?_) (fun cq => ?_)
      · replace hd := ts_if_p cq hd
        refine lv_iconst (v := 0) hx hb dT_serve_25 (by decide) ?_
        refine lv_istore_n (lv' := [(1, .int 0), (0, .ref (ad 0))]) hx hb dT_serve_26 rfl hl (by decide) rfl (fun ls hl => ?_)
        refine lv_iconst (v := 0) hx hb dT_serve_27 (by decide) ?_
        refine lv_istore_n (lv' := [(2, .int 0), (1, .int 0), (0, .ref (ad 0))]) hx hb dT_serve_28 rfl hl (by decide) rfl (fun ls hl => ?_)
        exact L29 40 u 0 0 _ _ _ hd hw (lv_sub hl [2, 1, 0] rfl)
      · replace hd := ts_if_n cq hd
        refine lv_aload_n hx hb dT_serve_12 rfl (lv_at hl 0 rfl) ?_
        refine gT_27 hc hn hw dT_serve_13 ?_
        refine lv_iload_n hx hb dT_serve_16 rfl (lv_at hl 1 rfl) ?_
        refine lv_iconst (v := 0) hx hb dT_serve_17 (by decide) ?_
        obtain ⟨h, hd⟩ := ts_ix_s hd
        refine tt_s7 hc hw h (by decide +kernel) dT_serve_18 (fun H locs hw => ?_)
        refine lv_iinc (v := (x1 + 1)) (lv' := [(1, .int (x1 + 1)), (0, .ref (ad 0))]) hx hb dT_serve_19 hl (k := 1) rfl rfl (by decide) rfl (fun ls hl => ?_)
        refine lv_goto (tgt := 6) hx hb dT_serve_22 (by decide) ?_
        exact ih6 (ts_a 7 x1.toNatClampNeg 0 u) (x1 + 1) _ _ _ hd hw (lv_sub hl [1, 0] rfl)
  unfold dt_serve at hd
  refine lv_aload_n hx hb dT_serve_0 rfl (lv_at hl 0 rfl) ?_
  obtain ⟨r1, u1, hq, hd⟩ := ts_b_s hd
  refine cT_116 hc hn hw hq hl.1 ⟨Nat.le_of_ble_eq_true rfl, Nat.le_of_ble_eq_true rfl⟩ (Nat.le_of_ble_eq_true rfl) dT_serve_1 (fun H locs hw => ?_)
  refine lv_iconst (v := 0) hx hb dT_serve_4 (by decide) ?_
  refine lv_istore_n (lv' := [(1, .int 0), (0, .ref (ad 0))]) hx hb dT_serve_5 rfl hl (by decide) rfl (fun ls hl => ?_)
  exact L6 40 u1 0 _ _ _ hd hw (lv_sub hl [1, 0] rfl)
def rT_isCartridgeNumber : Room := { frames := 0, cells := 0, slots := 0, locals := 0 }
set_option maxHeartbeats 4000000 in
set_option maxRecDepth 100000 in
theorem ct_isCartridgeNumber (l : Launch) {u : ts_S} {x0 : Int32} {r0 : Int32} {u0 : ts_S} (hd : dt_isCartridgeNumber u x0 = some (r0, u0)) : ts_Ci tF l yT_isCartridgeNumber (.code yT_isCartridgeNumber bT_isCartridgeNumber 1 (some .boolean) :: uW) rT_isCartridgeNumber (fun ad => [.int x0]) u r0 u0 := by
  refine ts_in_i tF l (by decide) (fun p e s m args below meth c D ca ad A hc hn hr hlk hw => ?_)
  have hx := hc.1
  have hb := hc.2.1
  have hl := lv_entry ([.int x0]) (n := 1) (Nat.le_of_ble_eq_true rfl)
  rw [lg_entry_eq]
  generalize (lg_sl ([.int x0]) ++ List.replicate (1 - (lg_sl ([.int x0])).length) Slot.unset).toArray = ls at hl ⊢
  replace hl : lv_has ls 1 [(0, .int x0)] := hl
  unfold dt_isCartridgeNumber at hd
  refine lv_iload_n hx hb dT_isCartridgeNumber_0 rfl (lv_at hl 0 rfl) ?_
  refine lv_if_lt (tgt := 13) hx hb dT_isCartridgeNumber_1 (by decide) (fun cq => ?_) (fun cq => ?_)
  · replace hd := ts_if_p cq hd
    refine lv_iconst (v := 0) hx hb dT_isCartridgeNumber_13 (by decide) ?_
    exact ts_iret hx hb hr hlk (by decide +kernel) hw hd dT_isCartridgeNumber_14
  · replace hd := ts_if_n cq hd
    refine lv_iload_n hx hb dT_isCartridgeNumber_4 rfl (lv_at hl 0 rfl) ?_
    refine lv_iconst (v := 4) hx hb dT_isCartridgeNumber_5 (by decide) ?_
    refine lv_icmp_ge (tgt := 13) hx hb dT_isCartridgeNumber_6 (by decide) (fun cq => ?_) (fun cq => ?_)
    · replace hd := ts_if_p cq hd
      refine lv_iconst (v := 0) hx hb dT_isCartridgeNumber_13 (by decide) ?_
      exact ts_iret hx hb hr hlk (by decide +kernel) hw hd dT_isCartridgeNumber_14
    · replace hd := ts_if_n cq hd
      refine lv_iconst (v := 1) hx hb dT_isCartridgeNumber_9 (by decide) ?_
      refine lv_goto (tgt := 14) hx hb dT_isCartridgeNumber_10 (by decide) ?_
      exact ts_iret hx hb hr hlk (by decide +kernel) hw hd dT_isCartridgeNumber_14
section
variable {p : Program} {l : Launch} {e : Env} {R : Room} {s : State} {m : MethodId} {args : Array Value} {below : List Frame} {meth : Method} {c : Code} {H : Heap} {locs : List Loc} {Q : State → Prop} {cc : ByteArray} {pc nL : Nat} {ls : Array Slot} {rest : List Value} {D : va_G} {ca : Nat → ClassId} {ad : Nat → Nat} {A : Nat → Prop} {u : ts_S} {cells slots : Nat}
theorem cT_119 (hc : CallFix p m c cc nL s args uW RT) (hn : nx s) (hw : ts_W tF D ca ad A s H locs u) {x0 : Int32} {r0 : Int32} {u0 : ts_S} (hq : dt_isCartridgeNumber u x0 = some (r0, u0)) (hsz : ls.size = nL) (hR : rT_isCartridgeNumber.frames + 1 ≤ R.frames ∧ 8 + (1 + 11) + rT_isCartridgeNumber.locals ≤ R.locals) (hrest : (rest.map fun v => v.category).sum ≤ 8) (hdg : decode cc pc = .ok (.invokestatic 119, 3)) (kk : ∀ (H1 : Heap) (locs1 : List Loc), ts_W tF D ca ad A s H1 locs1 u0 → W p l e R s m args below meth c H1 locs1 0 0 Q (F0 m (pc + 3) ls (.int r0 :: rest))) : W p l e R s m args below meth c H locs 0 0 Q (F0 m pc ls (.int x0 :: rest)) :=
  ts_callSi (As := [.int x0]) hc hn hw (ct_isCartridgeNumber l hq) rfl (cwS 1 hc.2.2.2.2 (gd_S (by decide +kernel) (by decide +kernel) (by decide +kernel) (code_T_isCartridgeNumber)) rfl rfl rfl (by decide +kernel) hR) rfl hsz hrest hdg kk
end
def rP_startTrial : Room := { frames := 1, cells := 0, slots := 0, locals := 60 }
set_option maxHeartbeats 4000000 in
set_option maxRecDepth 100000 in
theorem cp_startTrial (l : Launch) {u : ts_S} {r0 : Int32} {u0 : ts_S} (hd : dp_startTrial u = some (r0, u0)) : ts_Cv tF l yP_startTrial (.code yP_startTrial bP_startTrial 1 none :: uW) rP_startTrial (fun ad => [.ref (ad 1)]) u u0 := by
  refine ts_in_v tF l (by decide) (fun p e s m args below meth c D ca ad A hc hn hr hlk hw => ?_)
  have hx := hc.1
  have hb := hc.2.1
  have hl := lv_entry ([.ref (ad 1)]) (n := 1) (Nat.le_of_ble_eq_true rfl)
  rw [lg_entry_eq]
  generalize (lg_sl ([.ref (ad 1)]) ++ List.replicate (1 - (lg_sl ([.ref (ad 1)])).length) Slot.unset).toArray = ls at hl ⊢
  replace hl : lv_has ls 1 [(0, .ref (ad 1))] := hl
  unfold dp_startTrial at hd
  refine lv_aload_n hx hb dP_startTrial_0 rfl (lv_at hl 0 rfl) ?_
  refine gP_9 hc hn hw dP_startTrial_1 ?_
  refine lv_iconst (v := 0) hx hb dP_startTrial_4 (by decide) ?_
  refine lv_aload_n hx hb dP_startTrial_5 rfl (lv_at hl 0 rfl) ?_
  refine gP_15 hc hn hw dP_startTrial_6 ?_
  refine lv_iconst (v := 0) hx hb dP_startTrial_9 (by decide) ?_
  refine lv_iconst (v := 4) hx hb dP_startTrial_10 (by decide) ?_
  refine jc_P_49 hc hw hl.1 (Nat.le_of_ble_eq_true rfl) (Nat.le_of_ble_eq_true rfl) dP_startTrial_11 (fun H locs hw => ?_)
  exact ts_vret hx hb hr hlk hw hd dP_startTrial_14
section
variable {p : Program} {l : Launch} {e : Env} {R : Room} {s : State} {m : MethodId} {args : Array Value} {below : List Frame} {meth : Method} {c : Code} {H : Heap} {locs : List Loc} {Q : State → Prop} {cc : ByteArray} {pc nL : Nat} {ls : Array Slot} {rest : List Value} {D : va_G} {ca : Nat → ClassId} {ad : Nat → Nat} {A : Nat → Prop} {u : ts_S} {cells slots : Nat}
theorem cT_171 (hc : CallFix p m c cc nL s args uW RT) (hn : nx s) (hw : ts_W tF D ca ad A s H locs u) {r0 : Int32} {u0 : ts_S} (hq : dp_startTrial u = some (r0, u0)) (hsz : ls.size = nL) (hR : rP_startTrial.frames + 1 ≤ R.frames ∧ 8 + (1 + 11) + rP_startTrial.locals ≤ R.locals) (hrest : (rest.map fun v => v.category).sum ≤ 8) (hdg : decode cc pc = .ok (.invokevirtual 171, 3)) (kk : ∀ (H1 : Heap) (locs1 : List Loc), ts_W tF D ca ad A s H1 locs1 u0 → W p l e R s m args below meth c H1 locs1 0 0 Q (F0 m (pc + 3) ls rest)) : W p l e R s m args below meth c H locs 0 0 Q (F0 m pc ls (.ref (ad 1) :: rest)) :=
  ts_callNv (b := ad 1) (As := []) hc hn hw (cp_startTrial l hq) rfl ⟨va_cnB 0 hc.2.2.2.2 (gd_N (code_P_startTrial)) rfl rfl rfl (hn (.methodLinkNest RT 171 yP_startTrial "TierStore") (by decide +kernel)) (hc.2.2.2.2 (.initialized RP) (by decide +kernel)) (by decide +kernel) hR, hc.2.2.2.2 (.instanceMethod yP_startTrial) (by decide +kernel), hc.2.2.2.2 (.selects RP yP_startTrial yP_startTrial) (by decide +kernel)⟩ (va_recv hw.2.2.2.1 hw.1 (ci := 0) (q0 := 1) rfl rfl) rfl hsz hrest hdg kk
end
def rP_firstFitting_11 : Room := { frames := 0, cells := 0, slots := 0, locals := 0 }
set_option maxHeartbeats 4000000 in
set_option maxRecDepth 100000 in
theorem cp_firstFitting_11 (l : Launch) {u : ts_S} {x2 x3 : Int32} {r0 : Int32} {u0 : ts_S} (hd : dp_firstFitting_11 u x2 x3 = some (r0, u0)) : ts_Ci tF l yP_firstFitting (.code yP_firstFitting bP_firstFitting 5 (some .int) :: uW) rP_firstFitting_11 (fun ad => [.ref (ad 1), .ref (ad 11), .int x2, .int x3]) u r0 u0 := by
  refine ts_in_i tF l (by decide) (fun p e s m args below meth c D ca ad A hc hn hr hlk hw => ?_)
  have hx := hc.1
  have hb := hc.2.1
  have hl := lv_entry ([.ref (ad 1), .ref (ad 11), .int x2, .int x3]) (n := 5) (Nat.le_of_ble_eq_true rfl)
  rw [lg_entry_eq]
  generalize (lg_sl ([.ref (ad 1), .ref (ad 11), .int x2, .int x3]) ++ List.replicate (5 - (lg_sl ([.ref (ad 1), .ref (ad 11), .int x2, .int x3])).length) Slot.unset).toArray = ls at hl ⊢
  replace hl : lv_has ls 5 [(0, .ref (ad 1)), (1, .ref (ad 11)), (2, .int x2), (3, .int x3)] := hl
  have L3 : ∀ (n : Nat) (u : ts_S) (x2 x3 x4 : Int32) (H : Heap) (locs : List Loc) (ls : Array Slot), dp_firstFitting_11_3 n u x2 x3 x4 = some (r0, u0) → ts_W tF D ca ad A s H locs u → lv_has ls 5 [(0, .ref (ad 1)), (1, .ref (ad 11)), (2, .int x2), (3, .int x3), (4, .int x4)] → W p l e rP_firstFitting_11 s m args below meth c H locs 0 0 (MQ below (va_Qi (fun r v => r = r0 ∧ v = u0) (ts_post tF D ca ad A) A) args s 0 0 A) (F0 m 3 ls []) := by
    intro n
    induction n with
    | zero => intro u x2 x3 x4 H locs ls hd; cases (show (none : Option (Int32 × ts_S)) = some (r0, u0) from hd)
    | succ n3 ih3 =>
      intro u x2 x3 x4 H locs ls hd hw hl
      replace hd : dp_firstFitting_11_3_b (dp_firstFitting_11_3 n3) u x2 x3 x4 = some (r0, u0) := hd
      unfold dp_firstFitting_11_3_b at hd
      refine lv_iload hx hb dP_firstFitting_3 (lv_at hl 4 rfl) ?_
      refine lv_iconst (v := 4) hx hb dP_firstFitting_5 (by decide) ?_
      refine lv_icmp_ge (tgt := 37) hx hb dP_firstFitting_6 (by decide) (fun cq => ?_) (fun cq => ?_)
      · replace hd := ts_if_p cq hd
        refine lv_iconst (v := (-1)) hx hb dP_firstFitting_37 (by decide) ?_
        exact ts_iret hx hb hr hlk (vp_nar_int _) hw hd dP_firstFitting_38
      · replace hd := ts_if_n cq hd
        refine lv_iload hx hb dP_firstFitting_9 (lv_at hl 4 rfl) ?_
        refine lv_iload_n hx hb dP_firstFitting_11 rfl (lv_at hl 3 rfl) ?_
        refine lv_icmp_eq (tgt := 31) hx hb dP_firstFitting_12 (by decide) (fun cq => ?_) (fun cq => ?_)
        · replace hd := ts_if_p cq hd
          refine lv_iinc (v := (x4 + 1)) (lv' := [(4, .int (x4 + 1)), (0, .ref (ad 1)), (1, .ref (ad 11)), (2, .int x2), (3, .int x3)]) hx hb dP_firstFitting_31 hl (k := 4) rfl rfl (by decide) rfl (fun ls hl => ?_)
          refine lv_goto (tgt := 3) hx hb dP_firstFitting_34 (by decide) ?_
          exact ih3 u x2 x3 (x4 + 1) _ _ _ hd hw (lv_sub hl [1, 2, 3, 4, 0] rfl)
        · replace hd := ts_if_n cq hd
          refine lv_aload_n hx hb dP_firstFitting_15 rfl (lv_at hl 1 rfl) ?_
          refine lv_iload hx hb dP_firstFitting_16 (lv_at hl 4 rfl) ?_
          obtain ⟨h, hd⟩ := ts_ix_s hd
          refine tt_l11 hc hw h dP_firstFitting_18 ?_
          refine lv_iload_n hx hb dP_firstFitting_19 rfl (lv_at hl 2 rfl) ?_
          refine lv_iadd hx hb dP_firstFitting_20 ?_
          refine lv_aload_n hx hb dP_firstFitting_21 rfl (lv_at hl 0 rfl) ?_
          refine gP_28 hc hn hw dP_firstFitting_22 ?_
          refine lv_icmp_gt (tgt := 31) hx hb dP_firstFitting_25 (by decide) (fun cq => ?_) (fun cq => ?_)
          · replace hd := ts_if_p cq hd
            refine lv_iinc (v := (x4 + 1)) (lv' := [(4, .int (x4 + 1)), (0, .ref (ad 1)), (1, .ref (ad 11)), (2, .int x2), (3, .int x3)]) hx hb dP_firstFitting_31 hl (k := 4) rfl rfl (by decide) rfl (fun ls hl => ?_)
            refine lv_goto (tgt := 3) hx hb dP_firstFitting_34 (by decide) ?_
            exact ih3 u x2 x3 (x4 + 1) _ _ _ hd hw (lv_sub hl [1, 2, 3, 4, 0] rfl)
          · replace hd := ts_if_n cq hd
            refine lv_iload hx hb dP_firstFitting_28 (lv_at hl 4 rfl) ?_
            exact ts_iret hx hb hr hlk (vp_nar_int _) hw hd dP_firstFitting_30
  unfold dp_firstFitting_11 at hd
  refine lv_iconst (v := 0) hx hb dP_firstFitting_0 (by decide) ?_
  refine lv_istore (lv' := [(4, .int 0), (0, .ref (ad 1)), (1, .ref (ad 11)), (2, .int x2), (3, .int x3)]) hx hb dP_firstFitting_1 hl (by decide) rfl (fun ls hl => ?_)
  exact L3 40 u x2 x3 0 _ _ _ hd hw (lv_sub hl [1, 2, 3, 4, 0] rfl)
section
variable {p : Program} {l : Launch} {e : Env} {R : Room} {s : State} {m : MethodId} {args : Array Value} {below : List Frame} {meth : Method} {c : Code} {H : Heap} {locs : List Loc} {Q : State → Prop} {cc : ByteArray} {pc nL : Nat} {ls : Array Slot} {rest : List Value} {D : va_G} {ca : Nat → ClassId} {ad : Nat → Nat} {A : Nat → Prop} {u : ts_S} {cells slots : Nat}
theorem cP_45_11 (hc : CallFix p m c cc nL s args uW RP) (hn : nx s) (hw : ts_W tF D ca ad A s H locs u) {x2 x3 : Int32} {r0 : Int32} {u0 : ts_S} (hq : dp_firstFitting_11 u x2 x3 = some (r0, u0)) (hsz : ls.size = nL) (hR : rP_firstFitting_11.frames + 1 ≤ R.frames ∧ 8 + (5 + 11) + rP_firstFitting_11.locals ≤ R.locals) (hrest : (rest.map fun v => v.category).sum ≤ 8) (hdg : decode cc pc = .ok (.invokevirtual 45, 3)) (kk : ∀ (H1 : Heap) (locs1 : List Loc), ts_W tF D ca ad A s H1 locs1 u0 → W p l e R s m args below meth c H1 locs1 0 0 Q (F0 m (pc + 3) ls (.int r0 :: rest))) : W p l e R s m args below meth c H locs 0 0 Q (F0 m pc ls (.int x3 :: .int x2 :: .ref (ad 11) :: .ref (ad 1) :: rest)) :=
  ts_callVi (b := ad 1) (As := [.ref (ad 11), .int x2, .int x3]) hc hn hw (cp_firstFitting_11 l hq) rfl (cwV 3 hc.2.2.2.2 (gd_V (by decide +kernel) (by decide +kernel) (by decide +kernel) (by decide +kernel) (code_P_firstFitting)) rfl rfl rfl (by decide +kernel) hR) (va_recv hw.2.2.2.1 hw.1 (ci := 0) (q0 := 1) rfl rfl) rfl hsz hrest hdg kk
end
def rP_tryBeside : Room := { frames := 1, cells := 0, slots := 0, locals := 24 }
set_option maxHeartbeats 4000000 in
set_option maxRecDepth 100000 in
theorem cp_tryBeside (l : Launch) {u : ts_S} {x1 x2 : Int32} {r0 : Int32} {u0 : ts_S} (hd : dp_tryBeside u x1 x2 = some (r0, u0)) : ts_Ci tF l yP_tryBeside (.code yP_tryBeside bP_tryBeside 4 (some .boolean) :: uW) rP_tryBeside (fun ad => [.ref (ad 1), .int x1, .int x2]) u r0 u0 := by
  refine ts_in_i tF l (by decide) (fun p e s m args below meth c D ca ad A hc hn hr hlk hw => ?_)
  have hx := hc.1
  have hb := hc.2.1
  have hl := lv_entry ([.ref (ad 1), .int x1, .int x2]) (n := 4) (Nat.le_of_ble_eq_true rfl)
  rw [lg_entry_eq]
  generalize (lg_sl ([.ref (ad 1), .int x1, .int x2]) ++ List.replicate (4 - (lg_sl ([.ref (ad 1), .int x1, .int x2])).length) Slot.unset).toArray = ls at hl ⊢
  replace hl : lv_has ls 4 [(0, .ref (ad 1)), (1, .int x1), (2, .int x2)] := hl
  unfold dp_tryBeside at hd
  refine lv_aload_n hx hb dP_tryBeside_0 rfl (lv_at hl 0 rfl) ?_
  refine lv_aload_n hx hb dP_tryBeside_1 rfl (lv_at hl 0 rfl) ?_
  refine gP_15 hc hn hw dP_tryBeside_2 ?_
  refine lv_iload_n hx hb dP_tryBeside_5 rfl (lv_at hl 2 rfl) ?_
  refine lv_iload_n hx hb dP_tryBeside_6 rfl (lv_at hl 1 rfl) ?_
  obtain ⟨r7, u7, hq, hd⟩ := ts_b_s hd
  refine cP_45_11 hc hn hw hq hl.1 ⟨Nat.le_of_ble_eq_true rfl, Nat.le_of_ble_eq_true rfl⟩ (Nat.le_of_ble_eq_true rfl) dP_tryBeside_7 (fun H locs hw => ?_)
  refine lv_istore_n (lv' := [(3, .int r7), (0, .ref (ad 1)), (1, .int x1), (2, .int x2)]) hx hb dP_tryBeside_10 rfl hl (by decide) rfl (fun ls hl => ?_)
  refine lv_iload_n hx hb dP_tryBeside_11 rfl (lv_at hl 0 rfl) ?_
  refine lv_iconst (v := (-1)) hx hb dP_tryBeside_12 (by decide) ?_
  refine lv_icmp_ne (tgt := 18) hx hb dP_tryBeside_13 (by decide) (fun cq => ?_) (fun cq => ?_)
  · replace hd := ts_if_n cq hd
    refine lv_aload_n hx hb dP_tryBeside_18 rfl (lv_at hl 1 rfl) ?_
    refine gP_15 hc hn hw dP_tryBeside_19 ?_
    refine lv_iload_n hx hb dP_tryBeside_22 rfl (lv_at hl 0 rfl) ?_
    refine lv_dup2_11 hx hb dP_tryBeside_23 rfl rfl ?_
    obtain ⟨h, hd⟩ := ts_ix_s hd
    refine tt_l11 hc hw h dP_tryBeside_24 ?_
    refine lv_iload_n hx hb dP_tryBeside_25 rfl (lv_at hl 3 rfl) ?_
    refine lv_iadd hx hb dP_tryBeside_26 ?_
    obtain ⟨h, hd⟩ := ts_ix_s hd
    refine tt_s11 hc hw h dP_tryBeside_27 (fun H locs hw => ?_)
    refine lv_iconst (v := 1) hx hb dP_tryBeside_28 (by decide) ?_
    exact ts_iret hx hb hr hlk (by decide +kernel) hw hd dP_tryBeside_29
  · replace hd := ts_if_p cq hd
    refine lv_iconst (v := 0) hx hb dP_tryBeside_16 (by decide) ?_
    exact ts_iret hx hb hr hlk (by decide +kernel) hw hd dP_tryBeside_17
section
variable {p : Program} {l : Launch} {e : Env} {R : Room} {s : State} {m : MethodId} {args : Array Value} {below : List Frame} {meth : Method} {c : Code} {H : Heap} {locs : List Loc} {Q : State → Prop} {cc : ByteArray} {pc nL : Nat} {ls : Array Slot} {rest : List Value} {D : va_G} {ca : Nat → ClassId} {ad : Nat → Nat} {A : Nat → Prop} {u : ts_S} {cells slots : Nat}
theorem cT_174 (hc : CallFix p m c cc nL s args uW RT) (hn : nx s) (hw : ts_W tF D ca ad A s H locs u) {x1 x2 : Int32} {r0 : Int32} {u0 : ts_S} (hq : dp_tryBeside u x1 x2 = some (r0, u0)) (hsz : ls.size = nL) (hR : rP_tryBeside.frames + 1 ≤ R.frames ∧ 8 + (4 + 11) + rP_tryBeside.locals ≤ R.locals) (hrest : (rest.map fun v => v.category).sum ≤ 8) (hdg : decode cc pc = .ok (.invokevirtual 174, 3)) (kk : ∀ (H1 : Heap) (locs1 : List Loc), ts_W tF D ca ad A s H1 locs1 u0 → W p l e R s m args below meth c H1 locs1 0 0 Q (F0 m (pc + 3) ls (.int r0 :: rest))) : W p l e R s m args below meth c H locs 0 0 Q (F0 m pc ls (.int x2 :: .int x1 :: .ref (ad 1) :: rest)) :=
  ts_callNi (b := ad 1) (As := [.int x1, .int x2]) hc hn hw (cp_tryBeside l hq) rfl ⟨va_cnB 2 hc.2.2.2.2 (gd_N (code_P_tryBeside)) rfl rfl rfl (hn (.methodLinkNest RT 174 yP_tryBeside "TierStore") (by decide +kernel)) (hc.2.2.2.2 (.initialized RP) (by decide +kernel)) (by decide +kernel) hR, hc.2.2.2.2 (.instanceMethod yP_tryBeside) (by decide +kernel), hc.2.2.2.2 (.selects RP yP_tryBeside yP_tryBeside) (by decide +kernel)⟩ (va_recv hw.2.2.2.1 hw.1 (ci := 0) (q0 := 1) rfl rfl) rfl hsz hrest hdg kk
end
def rT_listedFitBeside : Room := { frames := 2, cells := 0, slots := 0, locals := 80 }
set_option maxHeartbeats 4000000 in
set_option maxRecDepth 100000 in
theorem ct_listedFitBeside (l : Launch) {u : ts_S} {x1 : Int32} {r0 : Int32} {u0 : ts_S} (hd : dt_listedFitBeside u x1 = some (r0, u0)) : ts_Ci tF l yT_listedFitBeside (.code yT_listedFitBeside bT_listedFitBeside 3 (some .boolean) :: uW) rT_listedFitBeside (fun ad => [.ref (ad 0), .int x1]) u r0 u0 := by
  refine ts_in_i tF l (by decide) (fun p e s m args below meth c D ca ad A hc hn hr hlk hw => ?_)
  have hx := hc.1
  have hb := hc.2.1
  have hl := lv_entry ([.ref (ad 0), .int x1]) (n := 3) (Nat.le_of_ble_eq_true rfl)
  rw [lg_entry_eq]
  generalize (lg_sl ([.ref (ad 0), .int x1]) ++ List.replicate (3 - (lg_sl ([.ref (ad 0), .int x1])).length) Slot.unset).toArray = ls at hl ⊢
  replace hl : lv_has ls 3 [(0, .ref (ad 0)), (1, .int x1)] := hl
  have L9 : ∀ (n : Nat) (u : ts_S) (x1 x2 : Int32) (H : Heap) (locs : List Loc) (ls : Array Slot), dt_listedFitBeside_9 n u x1 x2 = some (r0, u0) → ts_W tF D ca ad A s H locs u → lv_has ls 3 [(0, .ref (ad 0)), (1, .int x1), (2, .int x2)] → W p l e rT_listedFitBeside s m args below meth c H locs 0 0 (MQ below (va_Qi (fun r v => r = r0 ∧ v = u0) (ts_post tF D ca ad A) A) args s 0 0 A) (F0 m 9 ls []) := by
    intro n
    induction n with
    | zero => intro u x1 x2 H locs ls hd; cases (show (none : Option (Int32 × ts_S)) = some (r0, u0) from hd)
    | succ n9 ih9 =>
      intro u x1 x2 H locs ls hd hw hl
      replace hd : dt_listedFitBeside_9_b (dt_listedFitBeside_9 n9) u x1 x2 = some (r0, u0) := hd
      unfold dt_listedFitBeside_9_b at hd
      refine lv_iload_n hx hb dT_listedFitBeside_9 rfl (lv_at hl 2 rfl) ?_
      refine lv_aload_n hx hb dT_listedFitBeside_10 rfl (lv_at hl 0 rfl) ?_
      refine gT_41 hc hn hw dT_listedFitBeside_11 ?_
      refine lv_icmp_ge (tgt := 47) hx hb dT_listedFitBeside_14 (by decide) (fun cq => ?_) (fun cq => ?_)
      · replace hd := ts_if_p cq hd
        refine lv_iconst (v := 1) hx hb dT_listedFitBeside_47 (by decide) ?_
        exact ts_iret hx hb hr hlk (by decide +kernel) hw hd dT_listedFitBeside_48
      · replace hd := ts_if_n cq hd
        refine lv_aload_n hx hb dT_listedFitBeside_17 rfl (lv_at hl 0 rfl) ?_
        refine gT_61 hc hn hw dT_listedFitBeside_18 ?_
        refine lv_iload_n hx hb dT_listedFitBeside_21 rfl (lv_at hl 1 rfl) ?_
        refine lv_aload_n hx hb dT_listedFitBeside_22 rfl (lv_at hl 0 rfl) ?_
        refine gT_13 hc hn hw dT_listedFitBeside_23 ?_
        refine lv_aload_n hx hb dT_listedFitBeside_26 rfl (lv_at hl 0 rfl) ?_
        refine gT_38 hc hn hw dT_listedFitBeside_27 ?_
        refine lv_iload_n hx hb dT_listedFitBeside_30 rfl (lv_at hl 2 rfl) ?_
        obtain ⟨h, hd⟩ := ts_ix_s hd
        refine tt_l9 hc hw h dT_listedFitBeside_31 ?_
        obtain ⟨h, hd⟩ := ts_ix_s hd
        refine tt_l3 hc hw h dT_listedFitBeside_32 ?_
        obtain ⟨r33, u33, hq, hd⟩ := ts_b_s hd
        refine cT_174 hc hn hw hq hl.1 ⟨Nat.le_of_ble_eq_true rfl, Nat.le_of_ble_eq_true rfl⟩ (Nat.le_of_ble_eq_true rfl) dT_listedFitBeside_33 (fun H locs hw => ?_)
        refine lv_if_ne (tgt := 41) hx hb dT_listedFitBeside_36 (by decide) (fun cq => ?_) (fun cq => ?_)
        · replace hd := ts_if_n cq hd
          refine lv_iinc (v := (x2 + 1)) (lv' := [(2, .int (x2 + 1)), (0, .ref (ad 0)), (1, .int x1)]) hx hb dT_listedFitBeside_41 hl (k := 2) rfl rfl (by decide) rfl (fun ls hl => ?_)
          refine lv_goto (tgt := 9) hx hb dT_listedFitBeside_44 (by decide) ?_
          exact ih9 u33 x1 (x2 + 1) _ _ _ hd hw (lv_sub hl [1, 2, 0] rfl)
        · replace hd := ts_if_p cq hd
          refine lv_iconst (v := 0) hx hb dT_listedFitBeside_39 (by decide) ?_
          exact ts_iret hx hb hr hlk (by decide +kernel) hw hd dT_listedFitBeside_40
  unfold dt_listedFitBeside at hd
  refine lv_aload_n hx hb dT_listedFitBeside_0 rfl (lv_at hl 0 rfl) ?_
  refine gT_61 hc hn hw dT_listedFitBeside_1 ?_
  obtain ⟨r4, u4, hq, hd⟩ := ts_b_s hd
  refine cT_171 hc hn hw hq hl.1 ⟨Nat.le_of_ble_eq_true rfl, Nat.le_of_ble_eq_true rfl⟩ (Nat.le_of_ble_eq_true rfl) dT_listedFitBeside_4 (fun H locs hw => ?_)
  refine lv_iconst (v := 0) hx hb dT_listedFitBeside_7 (by decide) ?_
  refine lv_istore_n (lv' := [(2, .int 0), (0, .ref (ad 0)), (1, .int x1)]) hx hb dT_listedFitBeside_8 rfl hl (by decide) rfl (fun ls hl => ?_)
  exact L9 40 u4 x1 0 _ _ _ hd hw (lv_sub hl [1, 2, 0] rfl)
section
variable {p : Program} {l : Launch} {e : Env} {R : Room} {s : State} {m : MethodId} {args : Array Value} {below : List Frame} {meth : Method} {c : Code} {H : Heap} {locs : List Loc} {Q : State → Prop} {cc : ByteArray} {pc nL : Nat} {ls : Array Slot} {rest : List Value} {D : va_G} {ca : Nat → ClassId} {ad : Nat → Nat} {A : Nat → Prop} {u : ts_S} {cells slots : Nat}
theorem cT_125 (hc : CallFix p m c cc nL s args uW RT) (hn : nx s) (hw : ts_W tF D ca ad A s H locs u) {x1 : Int32} {r0 : Int32} {u0 : ts_S} (hq : dt_listedFitBeside u x1 = some (r0, u0)) (hsz : ls.size = nL) (hR : rT_listedFitBeside.frames + 1 ≤ R.frames ∧ 8 + (3 + 11) + rT_listedFitBeside.locals ≤ R.locals) (hrest : (rest.map fun v => v.category).sum ≤ 8) (hdg : decode cc pc = .ok (.invokevirtual 125, 3)) (kk : ∀ (H1 : Heap) (locs1 : List Loc), ts_W tF D ca ad A s H1 locs1 u0 → W p l e R s m args below meth c H1 locs1 0 0 Q (F0 m (pc + 3) ls (.int r0 :: rest))) : W p l e R s m args below meth c H locs 0 0 Q (F0 m pc ls (.int x1 :: .ref (ad 0) :: rest)) :=
  ts_callVi (b := ad 0) (As := [.int x1]) hc hn hw (ct_listedFitBeside l hq) rfl (cwV 1 hc.2.2.2.2 (gd_V (by decide +kernel) (by decide +kernel) (by decide +kernel) (by decide +kernel) (code_T_listedFitBeside)) rfl rfl rfl (by decide +kernel) hR) (va_recv hw.2.2.2.1 hw.1 (ci := 1) (q0 := 0) rfl rfl) rfl hsz hrest hdg kk
end
def rT_moveCopy : Room := { frames := 5, cells := 0, slots := 0, locals := 111 }
set_option maxHeartbeats 4000000 in
set_option maxRecDepth 100000 in
theorem ct_moveCopy (l : Launch) {u : ts_S} {x1 x2 : Int32} {r0 : Int32} {u0 : ts_S} (hd : dt_moveCopy u x1 x2 = some (r0, u0)) : ts_Cv tF l yT_moveCopy (.code yT_moveCopy bT_moveCopy 4 none :: uW) rT_moveCopy (fun ad => [.ref (ad 0), .int x1, .int x2]) u u0 := by
  refine ts_in_v tF l (by decide) (fun p e s m args below meth c D ca ad A hc hn hr hlk hw => ?_)
  have hx := hc.1
  have hb := hc.2.1
  have hl := lv_entry ([.ref (ad 0), .int x1, .int x2]) (n := 4) (Nat.le_of_ble_eq_true rfl)
  rw [lg_entry_eq]
  generalize (lg_sl ([.ref (ad 0), .int x1, .int x2]) ++ List.replicate (4 - (lg_sl ([.ref (ad 0), .int x1, .int x2])).length) Slot.unset).toArray = ls at hl ⊢
  replace hl : lv_has ls 4 [(0, .ref (ad 0)), (1, .int x1), (2, .int x2)] := hl
  unfold dt_moveCopy at hd
  refine lv_aload_n hx hb dT_moveCopy_0 rfl (lv_at hl 0 rfl) ?_
  refine gT_61 hc hn hw dT_moveCopy_1 ?_
  refine lv_iload_n hx hb dT_moveCopy_4 rfl (lv_at hl 2 rfl) ?_
  refine lv_aload_n hx hb dT_moveCopy_5 rfl (lv_at hl 0 rfl) ?_
  refine gT_24 hc hn hw dT_moveCopy_6 ?_
  refine lv_iload_n hx hb dT_moveCopy_9 rfl (lv_at hl 1 rfl) ?_
  obtain ⟨h, hd⟩ := ts_ix_s hd
  refine tt_l6 hc hw h dT_moveCopy_10 ?_
  refine lv_aload_n hx hb dT_moveCopy_11 rfl (lv_at hl 0 rfl) ?_
  refine gT_13 hc hn hw dT_moveCopy_12 ?_
  refine lv_iload_n hx hb dT_moveCopy_15 rfl (lv_at hl 1 rfl) ?_
  obtain ⟨h, hd⟩ := ts_ix_s hd
  refine tt_l3 hc hw h dT_moveCopy_16 ?_
  obtain ⟨r17, u17, hq, hd⟩ := ts_b_s hd
  refine cT_164 hc hn hw hq hl.1 ⟨Nat.le_of_ble_eq_true rfl, Nat.le_of_ble_eq_true rfl⟩ (Nat.le_of_ble_eq_true rfl) dT_moveCopy_17 (fun H locs hw => ?_)
  refine lv_aload_n hx hb dT_moveCopy_20 rfl (lv_at hl 0 rfl) ?_
  refine gT_61 hc hn hw dT_moveCopy_21 ?_
  refine lv_aload_n hx hb dT_moveCopy_24 rfl (lv_at hl 0 rfl) ?_
  refine gT_13 hc hn hw dT_moveCopy_25 ?_
  refine lv_iload_n hx hb dT_moveCopy_28 rfl (lv_at hl 1 rfl) ?_
  obtain ⟨h, hd⟩ := ts_ix_s hd
  refine tt_l3 hc hw h dT_moveCopy_29 ?_
  refine lv_iload_n hx hb dT_moveCopy_30 rfl (lv_at hl 2 rfl) ?_
  obtain ⟨r31, u31, hq, hd⟩ := ts_b_s hd
  refine cT_95 hc hn hw hq hl.1 ⟨Nat.le_of_ble_eq_true rfl, Nat.le_of_ble_eq_true rfl⟩ (Nat.le_of_ble_eq_true rfl) dT_moveCopy_31 (fun H locs hw => ?_)
  refine lv_istore_n (lv' := [(3, .int r31), (0, .ref (ad 0)), (1, .int x1), (2, .int x2)]) hx hb dT_moveCopy_34 rfl hl (by decide) rfl (fun ls hl => ?_)
  refine lv_iload_n hx hb dT_moveCopy_35 rfl (lv_at hl 0 rfl) ?_
  refine lv_iconst (v := (-1)) hx hb dT_moveCopy_36 (by decide) ?_
  refine lv_icmp_eq (tgt := 46) hx hb dT_moveCopy_37 (by decide) (fun cq => ?_) (fun cq => ?_)
  · replace hd := ts_if_p cq hd
    exact ts_vret hx hb hr hlk hw hd dT_moveCopy_46
  · replace hd := ts_if_n cq hd
    refine lv_aload_n hx hb dT_moveCopy_40 rfl (lv_at hl 1 rfl) ?_
    refine lv_iload_n hx hb dT_moveCopy_41 rfl (lv_at hl 2 rfl) ?_
    refine lv_iload_n hx hb dT_moveCopy_42 rfl (lv_at hl 0 rfl) ?_
    obtain ⟨r43, u43, hq, hd⟩ := ts_b_s hd
    refine cT_98 hc hn hw hq hl.1 ⟨Nat.le_of_ble_eq_true rfl, Nat.le_of_ble_eq_true rfl⟩ (Nat.le_of_ble_eq_true rfl) dT_moveCopy_43 (fun H locs hw => ?_)
    exact ts_vret hx hb hr hlk hw hd dT_moveCopy_46
section
variable {p : Program} {l : Launch} {e : Env} {R : Room} {s : State} {m : MethodId} {args : Array Value} {below : List Frame} {meth : Method} {c : Code} {H : Heap} {locs : List Loc} {Q : State → Prop} {cc : ByteArray} {pc nL : Nat} {ls : Array Slot} {rest : List Value} {D : va_G} {ca : Nat → ClassId} {ad : Nat → Nat} {A : Nat → Prop} {u : ts_S} {cells slots : Nat}
theorem cT_128 (hc : CallFix p m c cc nL s args uW RT) (hn : nx s) (hw : ts_W tF D ca ad A s H locs u) {x1 x2 : Int32} {r0 : Int32} {u0 : ts_S} (hq : dt_moveCopy u x1 x2 = some (r0, u0)) (hsz : ls.size = nL) (hR : rT_moveCopy.frames + 1 ≤ R.frames ∧ 8 + (4 + 11) + rT_moveCopy.locals ≤ R.locals) (hrest : (rest.map fun v => v.category).sum ≤ 8) (hdg : decode cc pc = .ok (.invokevirtual 128, 3)) (kk : ∀ (H1 : Heap) (locs1 : List Loc), ts_W tF D ca ad A s H1 locs1 u0 → W p l e R s m args below meth c H1 locs1 0 0 Q (F0 m (pc + 3) ls rest)) : W p l e R s m args below meth c H locs 0 0 Q (F0 m pc ls (.int x2 :: .int x1 :: .ref (ad 0) :: rest)) :=
  ts_callVv (b := ad 0) (As := [.int x1, .int x2]) hc hn hw (ct_moveCopy l hq) rfl (cwV 2 hc.2.2.2.2 (gd_V (by decide +kernel) (by decide +kernel) (by decide +kernel) (by decide +kernel) (code_T_moveCopy)) rfl rfl rfl (by decide +kernel) hR) (va_recv hw.2.2.2.1 hw.1 (ci := 1) (q0 := 0) rfl rfl) rfl hsz hrest hdg kk
end
def rT_empty : Room := { frames := 6, cells := 0, slots := 0, locals := 134 }
set_option maxHeartbeats 4000000 in
set_option maxRecDepth 100000 in
theorem ct_empty (l : Launch) {u : ts_S} {x1 : Int32} {r0 : Int32} {u0 : ts_S} (hd : dt_empty u x1 = some (r0, u0)) : ts_Ci tF l yT_empty (.code yT_empty bT_empty 3 (some .int) :: uW) rT_empty (fun ad => [.ref (ad 0), .int x1]) u r0 u0 := by
  refine ts_in_i tF l (by decide) (fun p e s m args below meth c D ca ad A hc hn hr hlk hw => ?_)
  have hx := hc.1
  have hb := hc.2.1
  have hl := lv_entry ([.ref (ad 0), .int x1]) (n := 3) (Nat.le_of_ble_eq_true rfl)
  rw [lg_entry_eq]
  generalize (lg_sl ([.ref (ad 0), .int x1]) ++ List.replicate (3 - (lg_sl ([.ref (ad 0), .int x1])).length) Slot.unset).toArray = ls at hl ⊢
  replace hl : lv_has ls 3 [(0, .ref (ad 0)), (1, .int x1)] := hl
  have L32 : ∀ (n : Nat) (u : ts_S) (x1 x2 : Int32) (H : Heap) (locs : List Loc) (ls : Array Slot), dt_empty_32 n u x1 x2 = some (r0, u0) → ts_W tF D ca ad A s H locs u → lv_has ls 3 [(0, .ref (ad 0)), (1, .int x1), (2, .int x2)] → W p l e rT_empty s m args below meth c H locs 0 0 (MQ below (va_Qi (fun r v => r = r0 ∧ v = u0) (ts_post tF D ca ad A) A) args s 0 0 A) (F0 m 32 ls []) := by
    intro n
    induction n with
    | zero => intro u x1 x2 H locs ls hd; cases (show (none : Option (Int32 × ts_S)) = some (r0, u0) from hd)
    | succ n32 ih32 =>
      intro u x1 x2 H locs ls hd hw hl
      replace hd : dt_empty_32_b (dt_empty_32 n32) u x1 x2 = some (r0, u0) := hd
      unfold dt_empty_32_b at hd
      refine lv_iload_n hx hb dT_empty_32 rfl (lv_at hl 2 rfl) ?_
      refine lv_aload_n hx hb dT_empty_33 rfl (lv_at hl 0 rfl) ?_
      refine gT_41 hc hn hw dT_empty_34 ?_
      refine lv_icmp_ge (tgt := 57) hx hb dT_empty_37 (by decide) (fun cq => ?_) (fun cq => ?_)
      · replace hd := ts_if_p cq hd
        refine lv_aload_n hx hb dT_empty_57 rfl (lv_at hl 0 rfl) ?_
        refine gT_61 hc hn hw dT_empty_58 ?_
        refine gT_131 hc hn hw dT_empty_61 ?_
        refine lv_iload_n hx hb dT_empty_64 rfl (lv_at hl 1 rfl) ?_
        refine lv_iconst (v := 0) hx hb dT_empty_65 (by decide) ?_
        obtain ⟨h, hd⟩ := ts_ix_s hd
        refine tt_s10 hc hw h dT_empty_66 (fun H locs hw => ?_)
        refine lv_aload_n hx hb dT_empty_67 rfl (lv_at hl 0 rfl) ?_
        refine gT_41 hc hn hw dT_empty_68 ?_
        exact ts_iret hx hb hr hlk (vp_nar_int _) hw hd dT_empty_71
      · replace hd := ts_if_n cq hd
        refine lv_aload_n hx hb dT_empty_40 rfl (lv_at hl 0 rfl) ?_
        refine lv_aload_n hx hb dT_empty_41 rfl (lv_at hl 0 rfl) ?_
        refine gT_38 hc hn hw dT_empty_42 ?_
        refine lv_iload_n hx hb dT_empty_45 rfl (lv_at hl 2 rfl) ?_
        obtain ⟨h, hd⟩ := ts_ix_s hd
        refine tt_l9 hc hw h dT_empty_46 ?_
        refine lv_iload_n hx hb dT_empty_47 rfl (lv_at hl 1 rfl) ?_
        obtain ⟨r48, u48, hq, hd⟩ := ts_b_s hd
        refine cT_128 hc hn hw hq hl.1 ⟨Nat.le_of_ble_eq_true rfl, Nat.le_of_ble_eq_true rfl⟩ (Nat.le_of_ble_eq_true rfl) dT_empty_48 (fun H locs hw => ?_)
        refine lv_iinc (v := (x2 + 1)) (lv' := [(2, .int (x2 + 1)), (0, .ref (ad 0)), (1, .int x1)]) hx hb dT_empty_51 hl (k := 2) rfl rfl (by decide) rfl (fun ls hl => ?_)
        refine lv_goto (tgt := 32) hx hb dT_empty_54 (by decide) ?_
        exact ih32 u48 x1 (x2 + 1) _ _ _ hd hw (lv_sub hl [1, 2, 0] rfl)
  unfold dt_empty at hd
  refine lv_iload_n hx hb dT_empty_0 rfl (lv_at hl 1 rfl) ?_
  obtain ⟨r1, u1, hq, hd⟩ := ts_b_s hd
  refine cT_119 hc hn hw hq hl.1 ⟨Nat.le_of_ble_eq_true rfl, Nat.le_of_ble_eq_true rfl⟩ (Nat.le_of_ble_eq_true rfl) dT_empty_1 (fun H locs hw => ?_)
  refine lv_if_ne (tgt := 9) hx hb dT_empty_4 (by decide) (fun cq => ?_) (fun cq => ?_)
  · replace hd := ts_if_n cq hd
    refine lv_aload_n hx hb dT_empty_9 rfl (lv_at hl 0 rfl) ?_
    refine lv_iconst (v := 0) hx hb dT_empty_10 (by decide) ?_
    refine pT_41 hc hn hw dT_empty_11 (fun H locs hw => ?_)
    refine lv_aload_n hx hb dT_empty_14 rfl (lv_at hl 0 rfl) ?_
    refine lv_iload_n hx hb dT_empty_15 rfl (lv_at hl 1 rfl) ?_
    obtain ⟨r16, u16, hq, hd⟩ := ts_b_s hd
    refine cT_122 hc hn hw hq hl.1 ⟨Nat.le_of_ble_eq_true rfl, Nat.le_of_ble_eq_true rfl⟩ (Nat.le_of_ble_eq_true rfl) dT_empty_16 (fun H locs hw => ?_)
    refine lv_aload_n hx hb dT_empty_19 rfl (lv_at hl 0 rfl) ?_
    refine lv_iload_n hx hb dT_empty_20 rfl (lv_at hl 1 rfl) ?_
    obtain ⟨r21, u21, hq, hd⟩ := ts_b_s hd
    refine cT_125 hc hn hw hq hl.1 ⟨Nat.le_of_ble_eq_true rfl, Nat.le_of_ble_eq_true rfl⟩ (Nat.le_of_ble_eq_true rfl) dT_empty_21 (fun H locs hw => ?_)
    refine lv_if_ne (tgt := 30) hx hb dT_empty_24 (by decide) (fun cq => ?_) (fun cq => ?_)
    · replace hd := ts_if_n cq hd
      refine lv_iconst (v := 0) hx hb dT_empty_30 (by decide) ?_
      refine lv_istore_n (lv' := [(2, .int 0), (0, .ref (ad 0)), (1, .int x1)]) hx hb dT_empty_31 rfl hl (by decide) rfl (fun ls hl => ?_)
      exact L32 40 u21 x1 0 _ _ _ hd hw (lv_sub hl [1, 2, 0] rfl)
    · replace hd := ts_if_p cq hd
      refine lv_bipush (v := (-2)) hx hb dT_empty_27 (by decide) ?_
      exact ts_iret hx hb hr hlk (vp_nar_int _) hw hd dT_empty_29
  · replace hd := ts_if_p cq hd
    refine lv_iconst (v := (-1)) hx hb dT_empty_7 (by decide) ?_
    exact ts_iret hx hb hr hlk (vp_nar_int _) hw hd dT_empty_8
def rP_replace : Room := { frames := 0, cells := 0, slots := 0, locals := 0 }
set_option maxHeartbeats 4000000 in
set_option maxRecDepth 100000 in
theorem cp_replace (l : Launch) {u : ts_S} {x1 : Int32} {r0 : Int32} {u0 : ts_S} (hd : dp_replace u x1 = some (r0, u0)) : ts_Cv tF l yP_replace (.code yP_replace bP_replace 2 none :: uW) rP_replace (fun ad => [.ref (ad 1), .int x1]) u u0 := by
  refine ts_in_v tF l (by decide) (fun p e s m args below meth c D ca ad A hc hn hr hlk hw => ?_)
  have hx := hc.1
  have hb := hc.2.1
  have hl := lv_entry ([.ref (ad 1), .int x1]) (n := 2) (Nat.le_of_ble_eq_true rfl)
  rw [lg_entry_eq]
  generalize (lg_sl ([.ref (ad 1), .int x1]) ++ List.replicate (2 - (lg_sl ([.ref (ad 1), .int x1])).length) Slot.unset).toArray = ls at hl ⊢
  replace hl : lv_has ls 2 [(0, .ref (ad 1)), (1, .int x1)] := hl
  unfold dp_replace at hd
  refine lv_aload_n hx hb dP_replace_0 rfl (lv_at hl 0 rfl) ?_
  refine gP_9 hc hn hw dP_replace_1 ?_
  refine lv_iload_n hx hb dP_replace_4 rfl (lv_at hl 1 rfl) ?_
  refine lv_iconst (v := 0) hx hb dP_replace_5 (by decide) ?_
  obtain ⟨h, hd⟩ := ts_ix_s hd
  refine tt_s10 hc hw h dP_replace_6 (fun H locs hw => ?_)
  refine lv_aload_n hx hb dP_replace_7 rfl (lv_at hl 0 rfl) ?_
  refine gP_18 hc hn hw dP_replace_8 ?_
  refine lv_iload_n hx hb dP_replace_11 rfl (lv_at hl 1 rfl) ?_
  refine lv_icmp_ne (tgt := 25) hx hb dP_replace_12 (by decide) (fun cq => ?_) (fun cq => ?_)
  · replace hd := ts_if_n cq hd
    exact ts_vret hx hb hr hlk hw hd dP_replace_25
  · replace hd := ts_if_p cq hd
    refine lv_aload_n hx hb dP_replace_15 rfl (lv_at hl 0 rfl) ?_
    refine lv_iconst (v := (-1)) hx hb dP_replace_16 (by decide) ?_
    refine pP_18 hc hn hw dP_replace_17 (fun H locs hw => ?_)
    refine lv_aload_n hx hb dP_replace_20 rfl (lv_at hl 0 rfl) ?_
    refine lv_iconst (v := 0) hx hb dP_replace_21 (by decide) ?_
    refine pP_22 hc hn hw dP_replace_22 (fun H locs hw => ?_)
    exact ts_vret hx hb hr hlk hw hd dP_replace_25
section
variable {p : Program} {l : Launch} {e : Env} {R : Room} {s : State} {m : MethodId} {args : Array Value} {below : List Frame} {meth : Method} {c : Code} {H : Heap} {locs : List Loc} {Q : State → Prop} {cc : ByteArray} {pc nL : Nat} {ls : Array Slot} {rest : List Value} {D : va_G} {ca : Nat → ClassId} {ad : Nat → Nat} {A : Nat → Prop} {u : ts_S} {cells slots : Nat}
theorem cT_137 (hc : CallFix p m c cc nL s args uW RT) (hn : nx s) (hw : ts_W tF D ca ad A s H locs u) {x1 : Int32} {r0 : Int32} {u0 : ts_S} (hq : dp_replace u x1 = some (r0, u0)) (hsz : ls.size = nL) (hR : rP_replace.frames + 1 ≤ R.frames ∧ 8 + (2 + 11) + rP_replace.locals ≤ R.locals) (hrest : (rest.map fun v => v.category).sum ≤ 8) (hdg : decode cc pc = .ok (.invokevirtual 137, 3)) (kk : ∀ (H1 : Heap) (locs1 : List Loc), ts_W tF D ca ad A s H1 locs1 u0 → W p l e R s m args below meth c H1 locs1 0 0 Q (F0 m (pc + 3) ls rest)) : W p l e R s m args below meth c H locs 0 0 Q (F0 m pc ls (.int x1 :: .ref (ad 1) :: rest)) :=
  ts_callNv (b := ad 1) (As := [.int x1]) hc hn hw (cp_replace l hq) rfl ⟨va_cnB 1 hc.2.2.2.2 (gd_N (code_P_replace)) rfl rfl rfl (hn (.methodLinkNest RT 137 yP_replace "TierStore") (by decide +kernel)) (hc.2.2.2.2 (.initialized RP) (by decide +kernel)) (by decide +kernel) hR, hc.2.2.2.2 (.instanceMethod yP_replace) (by decide +kernel), hc.2.2.2.2 (.selects RP yP_replace yP_replace) (by decide +kernel)⟩ (va_recv hw.2.2.2.1 hw.1 (ci := 0) (q0 := 1) rfl rfl) rfl hsz hrest hdg kk
end
def rT_lose : Room := { frames := 2, cells := 0, slots := 0, locals := 43 }
set_option maxHeartbeats 4000000 in
set_option maxRecDepth 100000 in
theorem ct_lose (l : Launch) {u : ts_S} {x1 : Int32} {r0 : Int32} {u0 : ts_S} (hd : dt_lose u x1 = some (r0, u0)) : ts_Ci tF l yT_lose (.code yT_lose bT_lose 4 (some .int) :: uW) rT_lose (fun ad => [.ref (ad 0), .int x1]) u r0 u0 := by
  refine ts_in_i tF l (by decide) (fun p e s m args below meth c D ca ad A hc hn hr hlk hw => ?_)
  have hx := hc.1
  have hb := hc.2.1
  have hl := lv_entry ([.ref (ad 0), .int x1]) (n := 4) (Nat.le_of_ble_eq_true rfl)
  rw [lg_entry_eq]
  generalize (lg_sl ([.ref (ad 0), .int x1]) ++ List.replicate (4 - (lg_sl ([.ref (ad 0), .int x1])).length) Slot.unset).toArray = ls at hl ⊢
  replace hl : lv_has ls 4 [(0, .ref (ad 0)), (1, .int x1)] := hl
  have L13 : ∀ (n : Nat) (u : ts_S) (x1 x2 x3 : Int32) (H : Heap) (locs : List Loc) (ls : Array Slot), dt_lose_13 n u x1 x2 x3 = some (r0, u0) → ts_W tF D ca ad A s H locs u → lv_has ls 4 [(0, .ref (ad 0)), (1, .int x1), (2, .int x2), (3, .int x3)] → W p l e rT_lose s m args below meth c H locs 0 0 (MQ below (va_Qi (fun r v => r = r0 ∧ v = u0) (ts_post tF D ca ad A) A) args s 0 0 A) (F0 m 13 ls []) := by
    intro n
    induction n with
    | zero => intro u x1 x2 x3 H locs ls hd; cases (show (none : Option (Int32 × ts_S)) = some (r0, u0) from hd)
    | succ n13 ih13 =>
      intro u x1 x2 x3 H locs ls hd hw hl
      replace hd : dt_lose_13_b (dt_lose_13 n13) u x1 x2 x3 = some (r0, u0) := hd
      unfold dt_lose_13_b at hd
      refine lv_iload_n hx hb dT_lose_13 rfl (lv_at hl 3 rfl) ?_
      refine lv_bipush (v := 16) hx hb dT_lose_14 (by decide) ?_
      refine lv_icmp_ge (tgt := 67) hx hb dT_lose_16 (by decide) (fun cq => ?_) (fun cq => ?_)
      · replace hd := ts_if_p cq hd
        refine lv_aload_n hx hb dT_lose_67 rfl (lv_at hl 0 rfl) ?_
        refine gT_61 hc hn hw dT_lose_68 ?_
        refine lv_iload_n hx hb dT_lose_71 rfl (lv_at hl 1 rfl) ?_
        obtain ⟨r72, u72, hq, hd⟩ := ts_b_s hd
        refine cT_137 hc hn hw hq hl.1 ⟨Nat.le_of_ble_eq_true rfl, Nat.le_of_ble_eq_true rfl⟩ (Nat.le_of_ble_eq_true rfl) dT_lose_72 (fun H locs hw => ?_)
        refine lv_iload_n hx hb dT_lose_75 rfl (lv_at hl 2 rfl) ?_
        exact ts_iret hx hb hr hlk (vp_nar_int _) hw hd dT_lose_76
      · replace hd := ts_if_n cq hd
        refine lv_aload_n hx hb dT_lose_19 rfl (lv_at hl 0 rfl) ?_
        refine lv_iload_n hx hb dT_lose_20 rfl (lv_at hl 3 rfl) ?_
        refine lv_iload_n hx hb dT_lose_21 rfl (lv_at hl 1 rfl) ?_
        obtain ⟨r22, u22, hq, hd⟩ := ts_b_s hd
        refine cT_134 hc hn hw hq hl.1 ⟨Nat.le_of_ble_eq_true rfl, Nat.le_of_ble_eq_true rfl⟩ (Nat.le_of_ble_eq_true rfl) dT_lose_22 (fun H locs hw => ?_)
        refine lv_if_ne (tgt := 31) hx hb dT_lose_25 (by decide) (fun cq => ?_) (fun cq => ?_)
        · replace hd := ts_if_n cq hd
          refine lv_aload_n hx hb dT_lose_31 rfl (lv_at hl 0 rfl) ?_
          refine gT_9 hc hn hw dT_lose_32 ?_
          refine lv_iload_n hx hb dT_lose_35 rfl (lv_at hl 3 rfl) ?_
          obtain ⟨h, hd⟩ := ts_ix_s hd
          refine tt_l2 hc hw h dT_lose_36 ?_
          refine lv_iconst (v := 3) hx hb dT_lose_37 (by decide) ?_
          refine lv_icmp_ne (tgt := 54) hx hb dT_lose_38 (by decide) (fun cq => ?_) (fun cq => ?_)
          · replace hd := ts_if_n cq hd
            refine lv_aload_n hx hb dT_lose_54 rfl (lv_at hl 0 rfl) ?_
            refine gT_9 hc hn hw dT_lose_55 ?_
            refine lv_iload_n hx hb dT_lose_58 rfl (lv_at hl 3 rfl) ?_
            refine lv_iconst (v := 1) hx hb dT_lose_59 (by decide) ?_
            obtain ⟨h, hd⟩ := ts_ix_s hd
            refine tt_s2 hc hw h dT_lose_60 (fun H locs hw => ?_)
            refine lv_iinc (v := (x3 + 1)) (lv' := [(3, .int (x3 + 1)), (0, .ref (ad 0)), (1, .int x1), (2, .int x2)]) hx hb dT_lose_61 hl (k := 3) rfl rfl (by decide) rfl (fun ls hl => ?_)
            refine lv_goto (tgt := 13) hx hb dT_lose_64 (by decide) ?_
            exact ih13 (ts_a 2 x3.toNatClampNeg 1 u22) x1 x2 (x3 + 1) _ _ _ hd hw (lv_sub hl [1, 2, 3, 0] rfl)
          · replace hd := ts_if_p cq hd
            refine lv_aload_n hx hb dT_lose_41 rfl (lv_at hl 0 rfl) ?_
            refine gT_9 hc hn hw dT_lose_42 ?_
            refine lv_iload_n hx hb dT_lose_45 rfl (lv_at hl 3 rfl) ?_
            refine lv_iconst (v := 4) hx hb dT_lose_46 (by decide) ?_
            obtain ⟨h, hd⟩ := ts_ix_s hd
            refine tt_s2 hc hw h dT_lose_47 (fun H locs hw => ?_)
            refine lv_iinc (v := (x2 + 1)) (lv' := [(2, .int (x2 + 1)), (0, .ref (ad 0)), (1, .int x1), (3, .int x3)]) hx hb dT_lose_48 hl (k := 2) rfl rfl (by decide) rfl (fun ls hl => ?_)
            refine lv_goto (tgt := 61) hx hb dT_lose_51 (by decide) ?_
            refine lv_iinc (v := (x3 + 1)) (lv' := [(3, .int (x3 + 1)), (2, .int (x2 + 1)), (0, .ref (ad 0)), (1, .int x1)]) hx hb dT_lose_61 hl (k := 3) rfl rfl (by decide) rfl (fun ls hl => ?_)
            refine lv_goto (tgt := 13) hx hb dT_lose_64 (by decide) ?_
            exact ih13 (ts_a 2 x3.toNatClampNeg 4 u22) x1 (x2 + 1) (x3 + 1) _ _ _ hd hw (lv_sub hl [2, 3, 1, 0] rfl)
        · replace hd := ts_if_p cq hd
          refine lv_goto (tgt := 61) hx hb dT_lose_28 (by decide) ?_
          refine lv_iinc (v := (x3 + 1)) (lv' := [(3, .int (x3 + 1)), (0, .ref (ad 0)), (1, .int x1), (2, .int x2)]) hx hb dT_lose_61 hl (k := 3) rfl rfl (by decide) rfl (fun ls hl => ?_)
          refine lv_goto (tgt := 13) hx hb dT_lose_64 (by decide) ?_
          exact ih13 u22 x1 x2 (x3 + 1) _ _ _ hd hw (lv_sub hl [1, 2, 3, 0] rfl)
  unfold dt_lose at hd
  refine lv_iload_n hx hb dT_lose_0 rfl (lv_at hl 1 rfl) ?_
  obtain ⟨r1, u1, hq, hd⟩ := ts_b_s hd
  refine cT_119 hc hn hw hq hl.1 ⟨Nat.le_of_ble_eq_true rfl, Nat.le_of_ble_eq_true rfl⟩ (Nat.le_of_ble_eq_true rfl) dT_lose_1 (fun H locs hw => ?_)
  refine lv_if_ne (tgt := 9) hx hb dT_lose_4 (by decide) (fun cq => ?_) (fun cq => ?_)
  · replace hd := ts_if_n cq hd
    refine lv_iconst (v := 0) hx hb dT_lose_9 (by decide) ?_
    refine lv_istore_n (lv' := [(2, .int 0), (0, .ref (ad 0)), (1, .int x1)]) hx hb dT_lose_10 rfl hl (by decide) rfl (fun ls hl => ?_)
    refine lv_iconst (v := 0) hx hb dT_lose_11 (by decide) ?_
    refine lv_istore_n (lv' := [(3, .int 0), (2, .int 0), (0, .ref (ad 0)), (1, .int x1)]) hx hb dT_lose_12 rfl hl (by decide) rfl (fun ls hl => ?_)
    exact L13 40 u1 x1 0 0 _ _ _ hd hw (lv_sub hl [2, 3, 1, 0] rfl)
  · replace hd := ts_if_p cq hd
    refine lv_iconst (v := (-1)) hx hb dT_lose_7 (by decide) ?_
    exact ts_iret hx hb hr hlk (vp_nar_int _) hw hd dT_lose_8
def rT_usedSince : Room := { frames := 0, cells := 0, slots := 0, locals := 0 }
set_option maxHeartbeats 4000000 in
set_option maxRecDepth 100000 in
theorem ct_usedSince (l : Launch) {u : ts_S} {x1 : Int32} {r0 : Int32} {u0 : ts_S} (hd : dt_usedSince u x1 = some (r0, u0)) : ts_Ci tF l yT_usedSince (.code yT_usedSince bT_usedSince 4 (some .int) :: uW) rT_usedSince (fun ad => [.ref (ad 0), .int x1]) u r0 u0 := by
  refine ts_in_i tF l (by decide) (fun p e s m args below meth c D ca ad A hc hn hr hlk hw => ?_)
  have hx := hc.1
  have hb := hc.2.1
  have hl := lv_entry ([.ref (ad 0), .int x1]) (n := 4) (Nat.le_of_ble_eq_true rfl)
  rw [lg_entry_eq]
  generalize (lg_sl ([.ref (ad 0), .int x1]) ++ List.replicate (4 - (lg_sl ([.ref (ad 0), .int x1])).length) Slot.unset).toArray = ls at hl ⊢
  replace hl : lv_has ls 4 [(0, .ref (ad 0)), (1, .int x1)] := hl
  have L4 : ∀ (n : Nat) (u : ts_S) (x1 x2 x3 : Int32) (H : Heap) (locs : List Loc) (ls : Array Slot), dt_usedSince_4 n u x1 x2 x3 = some (r0, u0) → ts_W tF D ca ad A s H locs u → lv_has ls 4 [(0, .ref (ad 0)), (1, .int x1), (2, .int x2), (3, .int x3)] → W p l e rT_usedSince s m args below meth c H locs 0 0 (MQ below (va_Qi (fun r v => r = r0 ∧ v = u0) (ts_post tF D ca ad A) A) args s 0 0 A) (F0 m 4 ls []) := by
    intro n
    induction n with
    | zero => intro u x1 x2 x3 H locs ls hd; cases (show (none : Option (Int32 × ts_S)) = some (r0, u0) from hd)
    | succ n4 ih4 =>
      intro u x1 x2 x3 H locs ls hd hw hl
      replace hd : dt_usedSince_4_b (dt_usedSince_4 n4) u x1 x2 x3 = some (r0, u0) := hd
      unfold dt_usedSince_4_b at hd
      refine lv_iload_n hx hb dT_usedSince_4 rfl (lv_at hl 3 rfl) ?_
      refine lv_bipush (v := 16) hx hb dT_usedSince_5 (by decide) ?_
      refine lv_icmp_ge (tgt := 43) hx hb dT_usedSince_7 (by decide) (fun cq => ?_) (fun cq => ?_)
      · replace hd := ts_if_p cq hd
        refine lv_iload_n hx hb dT_usedSince_43 rfl (lv_at hl 2 rfl) ?_
        exact ts_iret hx hb hr hlk (vp_nar_int _) hw hd dT_usedSince_44
      · replace hd := ts_if_n cq hd
        refine lv_aload_n hx hb dT_usedSince_10 rfl (lv_at hl 0 rfl) ?_
        refine gT_9 hc hn hw dT_usedSince_11 ?_
        refine lv_iload_n hx hb dT_usedSince_14 rfl (lv_at hl 3 rfl) ?_
        obtain ⟨h, hd⟩ := ts_ix_s hd
        refine tt_l2 hc hw h dT_usedSince_15 ?_
        refine lv_if_eq (tgt := 37) hx hb dT_usedSince_16 (by decide) (fun cq => ?_) (fun cq => ?_)
        · replace hd := ts_if_p cq hd
          refine lv_iinc (v := (x3 + 1)) (lv' := [(3, .int (x3 + 1)), (0, .ref (ad 0)), (1, .int x1), (2, .int x2)]) hx hb dT_usedSince_37 hl (k := 3) rfl rfl (by decide) rfl (fun ls hl => ?_)
          refine lv_goto (tgt := 4) hx hb dT_usedSince_40 (by decide) ?_
          exact ih4 u x1 x2 (x3 + 1) _ _ _ hd hw (lv_sub hl [1, 2, 3, 0] rfl)
        · replace hd := ts_if_n cq hd
          refine lv_aload_n hx hb dT_usedSince_19 rfl (lv_at hl 0 rfl) ?_
          refine gT_31 hc hn hw dT_usedSince_20 ?_
          refine lv_iload_n hx hb dT_usedSince_23 rfl (lv_at hl 3 rfl) ?_
          obtain ⟨h, hd⟩ := ts_ix_s hd
          refine tt_l8 hc hw h dT_usedSince_24 ?_
          refine lv_aload_n hx hb dT_usedSince_25 rfl (lv_at hl 0 rfl) ?_
          refine gT_31 hc hn hw dT_usedSince_26 ?_
          refine lv_iload_n hx hb dT_usedSince_29 rfl (lv_at hl 1 rfl) ?_
          obtain ⟨h, hd⟩ := ts_ix_s hd
          refine tt_l8 hc hw h dT_usedSince_30 ?_
          refine lv_icmp_le (tgt := 37) hx hb dT_usedSince_31 (by decide) (fun cq => ?_) (fun cq => ?_)
          · replace hd := ts_if_p cq hd
            refine lv_iinc (v := (x3 + 1)) (lv' := [(3, .int (x3 + 1)), (0, .ref (ad 0)), (1, .int x1), (2, .int x2)]) hx hb dT_usedSince_37 hl (k := 3) rfl rfl (by decide) rfl (fun ls hl => ?_)
            refine lv_goto (tgt := 4) hx hb dT_usedSince_40 (by decide) ?_
            exact ih4 u x1 x2 (x3 + 1) _ _ _ hd hw (lv_sub hl [1, 2, 3, 0] rfl)
          · replace hd := ts_if_n cq hd
            refine lv_iinc (v := (x2 + 1)) (lv' := [(2, .int (x2 + 1)), (0, .ref (ad 0)), (1, .int x1), (3, .int x3)]) hx hb dT_usedSince_34 hl (k := 2) rfl rfl (by decide) rfl (fun ls hl => ?_)
            refine lv_iinc (v := (x3 + 1)) (lv' := [(3, .int (x3 + 1)), (2, .int (x2 + 1)), (0, .ref (ad 0)), (1, .int x1)]) hx hb dT_usedSince_37 hl (k := 3) rfl rfl (by decide) rfl (fun ls hl => ?_)
            refine lv_goto (tgt := 4) hx hb dT_usedSince_40 (by decide) ?_
            exact ih4 u x1 (x2 + 1) (x3 + 1) _ _ _ hd hw (lv_sub hl [2, 3, 1, 0] rfl)
  unfold dt_usedSince at hd
  refine lv_iconst (v := 0) hx hb dT_usedSince_0 (by decide) ?_
  refine lv_istore_n (lv' := [(2, .int 0), (0, .ref (ad 0)), (1, .int x1)]) hx hb dT_usedSince_1 rfl hl (by decide) rfl (fun ls hl => ?_)
  refine lv_iconst (v := 0) hx hb dT_usedSince_2 (by decide) ?_
  refine lv_istore_n (lv' := [(3, .int 0), (2, .int 0), (0, .ref (ad 0)), (1, .int x1)]) hx hb dT_usedSince_3 rfl hl (by decide) rfl (fun ls hl => ?_)
  exact L4 40 u x1 0 0 _ _ _ hd hw (lv_sub hl [2, 3, 1, 0] rfl)
section
variable {p : Program} {l : Launch} {e : Env} {R : Room} {s : State} {m : MethodId} {args : Array Value} {below : List Frame} {meth : Method} {c : Code} {H : Heap} {locs : List Loc} {Q : State → Prop} {cc : ByteArray} {pc nL : Nat} {ls : Array Slot} {rest : List Value} {D : va_G} {ca : Nat → ClassId} {ad : Nat → Nat} {A : Nat → Prop} {u : ts_S} {cells slots : Nat}
theorem cT_143 (hc : CallFix p m c cc nL s args uW RT) (hn : nx s) (hw : ts_W tF D ca ad A s H locs u) {x1 : Int32} {r0 : Int32} {u0 : ts_S} (hq : dt_usedSince u x1 = some (r0, u0)) (hsz : ls.size = nL) (hR : rT_usedSince.frames + 1 ≤ R.frames ∧ 8 + (4 + 11) + rT_usedSince.locals ≤ R.locals) (hrest : (rest.map fun v => v.category).sum ≤ 8) (hdg : decode cc pc = .ok (.invokevirtual 143, 3)) (kk : ∀ (H1 : Heap) (locs1 : List Loc), ts_W tF D ca ad A s H1 locs1 u0 → W p l e R s m args below meth c H1 locs1 0 0 Q (F0 m (pc + 3) ls (.int r0 :: rest))) : W p l e R s m args below meth c H locs 0 0 Q (F0 m pc ls (.int x1 :: .ref (ad 0) :: rest)) :=
  ts_callVi (b := ad 0) (As := [.int x1]) hc hn hw (ct_usedSince l hq) rfl (cwV 1 hc.2.2.2.2 (gd_V (by decide +kernel) (by decide +kernel) (by decide +kernel) (by decide +kernel) (code_T_usedSince)) rfl rfl rfl (by decide +kernel) hR) (va_recv hw.2.2.2.1 hw.1 (ci := 1) (q0 := 0) rfl rfl) rfl hsz hrest hdg kk
end
def rT_file : Room := { frames := 1, cells := 0, slots := 0, locals := 23 }
set_option maxHeartbeats 4000000 in
set_option maxRecDepth 100000 in
theorem ct_file (l : Launch) {u : ts_S} {x1 x2 : Int32} {r0 : Int32} {u0 : ts_S} (hd : dt_file u x1 x2 = some (r0, u0)) : ts_Ci tF l yT_file (.code yT_file bT_file 4 (some .int) :: uW) rT_file (fun ad => [.ref (ad 0), .int x1, .int x2]) u r0 u0 := by
  refine ts_in_i tF l (by decide) (fun p e s m args below meth c D ca ad A hc hn hr hlk hw => ?_)
  have hx := hc.1
  have hb := hc.2.1
  have hl := lv_entry ([.ref (ad 0), .int x1, .int x2]) (n := 4) (Nat.le_of_ble_eq_true rfl)
  rw [lg_entry_eq]
  generalize (lg_sl ([.ref (ad 0), .int x1, .int x2]) ++ List.replicate (4 - (lg_sl ([.ref (ad 0), .int x1, .int x2])).length) Slot.unset).toArray = ls at hl ⊢
  replace hl : lv_has ls 4 [(0, .ref (ad 0)), (1, .int x1), (2, .int x2)] := hl
  unfold dt_file at hd
  refine lv_iload_n hx hb dT_file_0 rfl (lv_at hl 1 rfl) ?_
  obtain ⟨r1, u1, hq, hd⟩ := ts_b_s hd
  refine cT_65 hc hn hw hq hl.1 ⟨Nat.le_of_ble_eq_true rfl, Nat.le_of_ble_eq_true rfl⟩ (Nat.le_of_ble_eq_true rfl) dT_file_1 (fun H locs hw => ?_)
  refine lv_if_ne (tgt := 9) hx hb dT_file_4 (by decide) (fun cq => ?_) (fun cq => ?_)
  · replace hd := ts_if_n cq hd
    refine lv_aload_n hx hb dT_file_9 rfl (lv_at hl 0 rfl) ?_
    refine gT_9 hc hn hw dT_file_10 ?_
    refine lv_iload_n hx hb dT_file_13 rfl (lv_at hl 1 rfl) ?_
    obtain ⟨h, hd⟩ := ts_ix_s hd
    refine tt_l2 hc hw h dT_file_14 ?_
    refine lv_if_eq (tgt := 22) hx hb dT_file_15 (by decide) (fun cq => ?_) (fun cq => ?_)
    · replace hd := ts_if_p cq hd
      refine lv_iconst (v := 0) hx hb dT_file_22 (by decide) ?_
      refine lv_istore_n (lv' := [(3, .int 0), (0, .ref (ad 0)), (1, .int x1), (2, .int x2)]) hx hb dT_file_23 rfl hl (by decide) rfl (fun ls hl => ?_)
      refine lv_iload_n hx hb dT_file_24 rfl (lv_at hl 3 rfl) ?_
      by_cases c0 : x2 = 0
      · replace hd := ts_if_p c0 hd
        refine lv_tableIn (tgt := 64) hx hb dT_file_25 (by rw [c0]; decide) (by rw [c0]; decide) (by rw [c0]; rfl) (by decide) ?_
        refine lv_aload_n hx hb dT_file_64 rfl (lv_at hl 1 rfl) ?_
        refine gT_9 hc hn hw dT_file_65 ?_
        refine lv_iload_n hx hb dT_file_68 rfl (lv_at hl 2 rfl) ?_
        obtain ⟨h, hd⟩ := ts_ix_s hd
        refine tt_l2 hc hw h dT_file_69 ?_
        exact ts_iret hx hb hr hlk (vp_nar_int _) hw hd dT_file_70
      replace hd := ts_if_n c0 hd
      by_cases c1 : x2 = 1
      · replace hd := ts_if_p c1 hd
        refine lv_tableIn (tgt := 71) hx hb dT_file_25 (by rw [c1]; decide) (by rw [c1]; decide) (by rw [c1]; rfl) (by decide) ?_
        refine lv_iload_n hx hb dT_file_71 rfl (lv_at hl 0 rfl) ?_
        refine lv_if_eq (tgt := 84) hx hb dT_file_72 (by decide) (fun cq => ?_) (fun cq => ?_)
        · refine lv_iconst (v := 0) hx hb dT_file_84 (by decide) ?_
          exact ts_iret hx hb hr hlk (vp_nar_int _) hw hd dT_file_85
        · exact absurd cq (by decide)
      replace hd := ts_if_n c1 hd
      by_cases c2 : x2 = 2
      · replace hd := ts_if_p c2 hd
        refine lv_tableIn (tgt := 86) hx hb dT_file_25 (by rw [c2]; decide) (by rw [c2]; decide) (by rw [c2]; rfl) (by decide) ?_
        refine lv_aload_n hx hb dT_file_86 rfl (lv_at hl 1 rfl) ?_
        refine lv_iload_n hx hb dT_file_87 rfl (lv_at hl 2 rfl) ?_
        obtain ⟨r88, u88, hq, hd⟩ := ts_b_s hd
        refine cT_140 hc hn hw hq hl.1 ⟨Nat.le_of_ble_eq_true rfl, Nat.le_of_ble_eq_true rfl⟩ (Nat.le_of_ble_eq_true rfl) dT_file_88 (fun H locs hw => ?_)
        refine lv_if_eq (tgt := 103) hx hb dT_file_91 (by decide) (fun cq => ?_) (fun cq => ?_)
        · replace hd := ts_if_p cq hd
          refine lv_iconst (v := (-1)) hx hb dT_file_103 (by decide) ?_
          exact ts_iret hx hb hr hlk (vp_nar_int _) hw hd dT_file_104
        · replace hd := ts_if_n cq hd
          refine lv_aload_n hx hb dT_file_94 rfl (lv_at hl 1 rfl) ?_
          refine gT_21 hc hn hw dT_file_95 ?_
          refine lv_iload_n hx hb dT_file_98 rfl (lv_at hl 2 rfl) ?_
          obtain ⟨h, hd⟩ := ts_ix_s hd
          refine tt_l5 hc hw h dT_file_99 ?_
          refine lv_goto (tgt := 104) hx hb dT_file_100 (by decide) ?_
          exact ts_iret hx hb hr hlk (vp_nar_int _) hw hd dT_file_104
      replace hd := ts_if_n c2 hd
      by_cases c3 : x2 = 3
      · replace hd := ts_if_p c3 hd
        refine lv_tableIn (tgt := 105) hx hb dT_file_25 (by rw [c3]; decide) (by rw [c3]; decide) (by rw [c3]; rfl) (by decide) ?_
        refine lv_aload_n hx hb dT_file_105 rfl (lv_at hl 1 rfl) ?_
        refine lv_iload_n hx hb dT_file_106 rfl (lv_at hl 2 rfl) ?_
        obtain ⟨r107, u107, hq, hd⟩ := ts_b_s hd
        refine cT_140 hc hn hw hq hl.1 ⟨Nat.le_of_ble_eq_true rfl, Nat.le_of_ble_eq_true rfl⟩ (Nat.le_of_ble_eq_true rfl) dT_file_107 (fun H locs hw => ?_)
        refine lv_if_eq (tgt := 122) hx hb dT_file_110 (by decide) (fun cq => ?_) (fun cq => ?_)
        · replace hd := ts_if_p cq hd
          refine lv_iconst (v := (-1)) hx hb dT_file_122 (by decide) ?_
          exact ts_iret hx hb hr hlk (vp_nar_int _) hw hd dT_file_123
        · replace hd := ts_if_n cq hd
          refine lv_aload_n hx hb dT_file_113 rfl (lv_at hl 1 rfl) ?_
          refine gT_24 hc hn hw dT_file_114 ?_
          refine lv_iload_n hx hb dT_file_117 rfl (lv_at hl 2 rfl) ?_
          obtain ⟨h, hd⟩ := ts_ix_s hd
          refine tt_l6 hc hw h dT_file_118 ?_
          refine lv_goto (tgt := 123) hx hb dT_file_119 (by decide) ?_
          exact ts_iret hx hb hr hlk (vp_nar_int _) hw hd dT_file_123
      replace hd := ts_if_n c3 hd
      by_cases c4 : x2 = 4
      · replace hd := ts_if_p c4 hd
        refine lv_tableIn (tgt := 124) hx hb dT_file_25 (by rw [c4]; decide) (by rw [c4]; decide) (by rw [c4]; rfl) (by decide) ?_
        refine lv_aload_n hx hb dT_file_124 rfl (lv_at hl 1 rfl) ?_
        refine gT_27 hc hn hw dT_file_125 ?_
        refine lv_iload_n hx hb dT_file_128 rfl (lv_at hl 2 rfl) ?_
        obtain ⟨h, hd⟩ := ts_ix_s hd
        refine tt_l7 hc hw h dT_file_129 ?_
        refine lv_if_eq (tgt := 137) hx hb dT_file_130 (by decide) (fun cq => ?_) (fun cq => ?_)
        · replace hd := ts_if_p cq hd
          refine lv_iconst (v := 0) hx hb dT_file_137 (by decide) ?_
          exact ts_iret hx hb hr hlk (vp_nar_int _) hw hd dT_file_138
        · replace hd := ts_if_n cq hd
          refine lv_iconst (v := 1) hx hb dT_file_133 (by decide) ?_
          refine lv_goto (tgt := 138) hx hb dT_file_134 (by decide) ?_
          exact ts_iret hx hb hr hlk (vp_nar_int _) hw hd dT_file_138
      replace hd := ts_if_n c4 hd
      by_cases c5 : x2 = 5
      · replace hd := ts_if_p c5 hd
        refine lv_tableIn (tgt := 139) hx hb dT_file_25 (by rw [c5]; decide) (by rw [c5]; decide) (by rw [c5]; rfl) (by decide) ?_
        refine lv_iload_n hx hb dT_file_139 rfl (lv_at hl 0 rfl) ?_
        refine lv_if_eq (tgt := 151) hx hb dT_file_140 (by decide) (fun cq => ?_) (fun cq => ?_)
        · refine lv_iconst (v := (-1)) hx hb dT_file_151 (by decide) ?_
          exact ts_iret hx hb hr hlk (vp_nar_int _) hw hd dT_file_152
        · exact absurd cq (by decide)
      replace hd := ts_if_n c5 hd
      have n0 := lv_neT c0 (a := 0) (by decide)
      have n1 := lv_neT c1 (a := 1) (by decide)
      have n2 := lv_neT c2 (a := 2) (by decide)
      have n3 := lv_neT c3 (a := 3) (by decide)
      have n4 := lv_neT c4 (a := 4) (by decide)
      have n5 := lv_neT c5 (a := 5) (by decide)
      refine lv_tableOut (tgt := 153) hx hb dT_file_25 (by omega) (by decide) ?_
      refine lv_iconst (v := (-1)) hx hb dT_file_153 (by decide) ?_
      exact ts_iret hx hb hr hlk (vp_nar_int _) hw hd dT_file_154
    · replace hd := ts_if_n cq hd
      refine lv_iconst (v := 1) hx hb dT_file_18 (by decide) ?_
      refine lv_goto (tgt := 23) hx hb dT_file_19 (by decide) ?_
      refine lv_istore_n (lv' := [(3, .int 1), (0, .ref (ad 0)), (1, .int x1), (2, .int x2)]) hx hb dT_file_23 rfl hl (by decide) rfl (fun ls hl => ?_)
      refine lv_iload_n hx hb dT_file_24 rfl (lv_at hl 3 rfl) ?_
      by_cases c0 : x2 = 0
      · replace hd := ts_if_p c0 hd
        refine lv_tableIn (tgt := 64) hx hb dT_file_25 (by rw [c0]; decide) (by rw [c0]; decide) (by rw [c0]; rfl) (by decide) ?_
        refine lv_aload_n hx hb dT_file_64 rfl (lv_at hl 1 rfl) ?_
        refine gT_9 hc hn hw dT_file_65 ?_
        refine lv_iload_n hx hb dT_file_68 rfl (lv_at hl 2 rfl) ?_
        obtain ⟨h, hd⟩ := ts_ix_s hd
        refine tt_l2 hc hw h dT_file_69 ?_
        exact ts_iret hx hb hr hlk (vp_nar_int _) hw hd dT_file_70
      replace hd := ts_if_n c0 hd
      by_cases c1 : x2 = 1
      · replace hd := ts_if_p c1 hd
        refine lv_tableIn (tgt := 71) hx hb dT_file_25 (by rw [c1]; decide) (by rw [c1]; decide) (by rw [c1]; rfl) (by decide) ?_
        refine lv_iload_n hx hb dT_file_71 rfl (lv_at hl 0 rfl) ?_
        refine lv_if_eq (tgt := 84) hx hb dT_file_72 (by decide) (fun cq => ?_) (fun cq => ?_)
        · exact absurd cq (by decide)
        · refine lv_aload_n hx hb dT_file_75 rfl (lv_at hl 1 rfl) ?_
          refine gT_13 hc hn hw dT_file_76 ?_
          refine lv_iload_n hx hb dT_file_79 rfl (lv_at hl 2 rfl) ?_
          obtain ⟨h, hd⟩ := ts_ix_s hd
          refine tt_l3 hc hw h dT_file_80 ?_
          refine lv_goto (tgt := 85) hx hb dT_file_81 (by decide) ?_
          exact ts_iret hx hb hr hlk (vp_nar_int _) hw hd dT_file_85
      replace hd := ts_if_n c1 hd
      by_cases c2 : x2 = 2
      · replace hd := ts_if_p c2 hd
        refine lv_tableIn (tgt := 86) hx hb dT_file_25 (by rw [c2]; decide) (by rw [c2]; decide) (by rw [c2]; rfl) (by decide) ?_
        refine lv_aload_n hx hb dT_file_86 rfl (lv_at hl 1 rfl) ?_
        refine lv_iload_n hx hb dT_file_87 rfl (lv_at hl 2 rfl) ?_
        obtain ⟨r88, u88, hq, hd⟩ := ts_b_s hd
        refine cT_140 hc hn hw hq hl.1 ⟨Nat.le_of_ble_eq_true rfl, Nat.le_of_ble_eq_true rfl⟩ (Nat.le_of_ble_eq_true rfl) dT_file_88 (fun H locs hw => ?_)
        refine lv_if_eq (tgt := 103) hx hb dT_file_91 (by decide) (fun cq => ?_) (fun cq => ?_)
        · replace hd := ts_if_p cq hd
          refine lv_iconst (v := (-1)) hx hb dT_file_103 (by decide) ?_
          exact ts_iret hx hb hr hlk (vp_nar_int _) hw hd dT_file_104
        · replace hd := ts_if_n cq hd
          refine lv_aload_n hx hb dT_file_94 rfl (lv_at hl 1 rfl) ?_
          refine gT_21 hc hn hw dT_file_95 ?_
          refine lv_iload_n hx hb dT_file_98 rfl (lv_at hl 2 rfl) ?_
          obtain ⟨h, hd⟩ := ts_ix_s hd
          refine tt_l5 hc hw h dT_file_99 ?_
          refine lv_goto (tgt := 104) hx hb dT_file_100 (by decide) ?_
          exact ts_iret hx hb hr hlk (vp_nar_int _) hw hd dT_file_104
      replace hd := ts_if_n c2 hd
      by_cases c3 : x2 = 3
      · replace hd := ts_if_p c3 hd
        refine lv_tableIn (tgt := 105) hx hb dT_file_25 (by rw [c3]; decide) (by rw [c3]; decide) (by rw [c3]; rfl) (by decide) ?_
        refine lv_aload_n hx hb dT_file_105 rfl (lv_at hl 1 rfl) ?_
        refine lv_iload_n hx hb dT_file_106 rfl (lv_at hl 2 rfl) ?_
        obtain ⟨r107, u107, hq, hd⟩ := ts_b_s hd
        refine cT_140 hc hn hw hq hl.1 ⟨Nat.le_of_ble_eq_true rfl, Nat.le_of_ble_eq_true rfl⟩ (Nat.le_of_ble_eq_true rfl) dT_file_107 (fun H locs hw => ?_)
        refine lv_if_eq (tgt := 122) hx hb dT_file_110 (by decide) (fun cq => ?_) (fun cq => ?_)
        · replace hd := ts_if_p cq hd
          refine lv_iconst (v := (-1)) hx hb dT_file_122 (by decide) ?_
          exact ts_iret hx hb hr hlk (vp_nar_int _) hw hd dT_file_123
        · replace hd := ts_if_n cq hd
          refine lv_aload_n hx hb dT_file_113 rfl (lv_at hl 1 rfl) ?_
          refine gT_24 hc hn hw dT_file_114 ?_
          refine lv_iload_n hx hb dT_file_117 rfl (lv_at hl 2 rfl) ?_
          obtain ⟨h, hd⟩ := ts_ix_s hd
          refine tt_l6 hc hw h dT_file_118 ?_
          refine lv_goto (tgt := 123) hx hb dT_file_119 (by decide) ?_
          exact ts_iret hx hb hr hlk (vp_nar_int _) hw hd dT_file_123
      replace hd := ts_if_n c3 hd
      by_cases c4 : x2 = 4
      · replace hd := ts_if_p c4 hd
        refine lv_tableIn (tgt := 124) hx hb dT_file_25 (by rw [c4]; decide) (by rw [c4]; decide) (by rw [c4]; rfl) (by decide) ?_
        refine lv_aload_n hx hb dT_file_124 rfl (lv_at hl 1 rfl) ?_
        refine gT_27 hc hn hw dT_file_125 ?_
        refine lv_iload_n hx hb dT_file_128 rfl (lv_at hl 2 rfl) ?_
        obtain ⟨h, hd⟩ := ts_ix_s hd
        refine tt_l7 hc hw h dT_file_129 ?_
        refine lv_if_eq (tgt := 137) hx hb dT_file_130 (by decide) (fun cq => ?_) (fun cq => ?_)
        · replace hd := ts_if_p cq hd
          refine lv_iconst (v := 0) hx hb dT_file_137 (by decide) ?_
          exact ts_iret hx hb hr hlk (vp_nar_int _) hw hd dT_file_138
        · replace hd := ts_if_n cq hd
          refine lv_iconst (v := 1) hx hb dT_file_133 (by decide) ?_
          refine lv_goto (tgt := 138) hx hb dT_file_134 (by decide) ?_
          exact ts_iret hx hb hr hlk (vp_nar_int _) hw hd dT_file_138
      replace hd := ts_if_n c4 hd
      by_cases c5 : x2 = 5
      · replace hd := ts_if_p c5 hd
        refine lv_tableIn (tgt := 139) hx hb dT_file_25 (by rw [c5]; decide) (by rw [c5]; decide) (by rw [c5]; rfl) (by decide) ?_
        refine lv_iload_n hx hb dT_file_139 rfl (lv_at hl 0 rfl) ?_
        refine lv_if_eq (tgt := 151) hx hb dT_file_140 (by decide) (fun cq => ?_) (fun cq => ?_)
        · exact absurd cq (by decide)
        · refine lv_aload_n hx hb dT_file_143 rfl (lv_at hl 1 rfl) ?_
          refine lv_iload_n hx hb dT_file_144 rfl (lv_at hl 2 rfl) ?_
          obtain ⟨r145, u145, hq, hd⟩ := ts_b_s hd
          refine cT_143 hc hn hw hq hl.1 ⟨Nat.le_of_ble_eq_true rfl, Nat.le_of_ble_eq_true rfl⟩ (Nat.le_of_ble_eq_true rfl) dT_file_145 (fun H locs hw => ?_)
          refine lv_goto (tgt := 152) hx hb dT_file_148 (by decide) ?_
          exact ts_iret hx hb hr hlk (vp_nar_int _) hw hd dT_file_152
      replace hd := ts_if_n c5 hd
      have n0 := lv_neT c0 (a := 0) (by decide)
      have n1 := lv_neT c1 (a := 1) (by decide)
      have n2 := lv_neT c2 (a := 2) (by decide)
      have n3 := lv_neT c3 (a := 3) (by decide)
      have n4 := lv_neT c4 (a := 4) (by decide)
      have n5 := lv_neT c5 (a := 5) (by decide)
      refine lv_tableOut (tgt := 153) hx hb dT_file_25 (by omega) (by decide) ?_
      refine lv_iconst (v := (-1)) hx hb dT_file_153 (by decide) ?_
      exact ts_iret hx hb hr hlk (vp_nar_int _) hw hd dT_file_154
  · replace hd := ts_if_p cq hd
    refine lv_iconst (v := (-1)) hx hb dT_file_7 (by decide) ?_
    exact ts_iret hx hb hr hlk (vp_nar_int _) hw hd dT_file_8
end
section
def rT_liveUnits : Room := { frames := 2, cells := 0, slots := 0, locals := 43 }
set_option maxHeartbeats 4000000 in
set_option maxRecDepth 100000 in
theorem ct_liveUnits (l : Launch) {u : ts_S} {x1 : Int32} {r0 : Int32} {u0 : ts_S} (hd : dt_liveUnits u x1 = some (r0, u0)) : ts_Ci tF l yT_liveUnits (.code yT_liveUnits bT_liveUnits 4 (some .int) :: uW) rT_liveUnits (fun ad => [.ref (ad 0), .int x1]) u r0 u0 := by
  refine ts_in_i tF l (by decide) (fun p e s m args below meth c D ca ad A hc hn hr hlk hw => ?_)
  have hx := hc.1
  have hb := hc.2.1
  have hl := lv_entry ([.ref (ad 0), .int x1]) (n := 4) (Nat.le_of_ble_eq_true rfl)
  rw [lg_entry_eq]
  generalize (lg_sl ([.ref (ad 0), .int x1]) ++ List.replicate (4 - (lg_sl ([.ref (ad 0), .int x1])).length) Slot.unset).toArray = ls at hl ⊢
  replace hl : lv_has ls 4 [(0, .ref (ad 0)), (1, .int x1)] := hl
  have L4 : ∀ (n : Nat) (u : ts_S) (x1 x2 x3 : Int32) (H : Heap) (locs : List Loc) (ls : Array Slot), dt_liveUnits_4 n u x1 x2 x3 = some (r0, u0) → ts_W tF D ca ad A s H locs u → lv_has ls 4 [(0, .ref (ad 0)), (1, .int x1), (2, .int x2), (3, .int x3)] → W p l e rT_liveUnits s m args below meth c H locs 0 0 (MQ below (va_Qi (fun r v => r = r0 ∧ v = u0) (ts_post tF D ca ad A) A) args s 0 0 A) (F0 m 4 ls []) := by
    intro n
    induction n with
    | zero => intro u x1 x2 x3 H locs ls hd; cases (show (none : Option (Int32 × ts_S)) = some (r0, u0) from hd)
    | succ n4 ih4 =>
      intro u x1 x2 x3 H locs ls hd hw hl
      replace hd : dt_liveUnits_4_b (dt_liveUnits_4 n4) u x1 x2 x3 = some (r0, u0) := hd
      unfold dt_liveUnits_4_b at hd
      refine lv_iload_n hx hb dT_liveUnits_4 rfl (lv_at hl 3 rfl) ?_
      refine lv_bipush (v := 16) hx hb dT_liveUnits_5 (by decide) ?_
      refine lv_icmp_ge (tgt := 34) hx hb dT_liveUnits_7 (by decide) (fun cq => ?_) (fun cq => ?_)
      · replace hd := ts_if_p cq hd
        refine lv_iload_n hx hb dT_liveUnits_34 rfl (lv_at hl 2 rfl) ?_
        exact ts_iret hx hb hr hlk (vp_nar_int _) hw hd dT_liveUnits_35
      · replace hd := ts_if_n cq hd
        refine lv_aload_n hx hb dT_liveUnits_10 rfl (lv_at hl 0 rfl) ?_
        refine lv_iload_n hx hb dT_liveUnits_11 rfl (lv_at hl 3 rfl) ?_
        refine lv_iload_n hx hb dT_liveUnits_12 rfl (lv_at hl 1 rfl) ?_
        obtain ⟨r13, u13, hq, hd⟩ := ts_b_s hd
        refine cT_134 hc hn hw hq hl.1 ⟨Nat.le_of_ble_eq_true rfl, Nat.le_of_ble_eq_true rfl⟩ (Nat.le_of_ble_eq_true rfl) dT_liveUnits_13 (fun H locs hw => ?_)
        refine lv_if_eq (tgt := 28) hx hb dT_liveUnits_16 (by decide) (fun cq => ?_) (fun cq => ?_)
        · replace hd := ts_if_p cq hd
          refine lv_iinc (v := (x3 + 1)) (lv' := [(3, .int (x3 + 1)), (0, .ref (ad 0)), (1, .int x1), (2, .int x2)]) hx hb dT_liveUnits_28 hl (k := 3) rfl rfl (by decide) rfl (fun ls hl => ?_)
          refine lv_goto (tgt := 4) hx hb dT_liveUnits_31 (by decide) ?_
          exact ih4 u13 x1 x2 (x3 + 1) _ _ _ hd hw (lv_sub hl [1, 2, 3, 0] rfl)
        · replace hd := ts_if_n cq hd
          refine lv_iload_n hx hb dT_liveUnits_19 rfl (lv_at hl 2 rfl) ?_
          refine lv_aload_n hx hb dT_liveUnits_20 rfl (lv_at hl 0 rfl) ?_
          refine gT_13 hc hn hw dT_liveUnits_21 ?_
          refine lv_iload_n hx hb dT_liveUnits_24 rfl (lv_at hl 3 rfl) ?_
          obtain ⟨h, hd⟩ := ts_ix_s hd
          refine tt_l3 hc hw h dT_liveUnits_25 ?_
          refine lv_iadd hx hb dT_liveUnits_26 ?_
          refine lv_istore_n (lv' := [(2, .int (x2 + (u13.2 3 x3.toNatClampNeg))), (0, .ref (ad 0)), (1, .int x1), (3, .int x3)]) hx hb dT_liveUnits_27 rfl hl (by decide) rfl (fun ls hl => ?_)
          refine lv_iinc (v := (x3 + 1)) (lv' := [(3, .int (x3 + 1)), (2, .int (x2 + (u13.2 3 x3.toNatClampNeg))), (0, .ref (ad 0)), (1, .int x1)]) hx hb dT_liveUnits_28 hl (k := 3) rfl rfl (by decide) rfl (fun ls hl => ?_)
          refine lv_goto (tgt := 4) hx hb dT_liveUnits_31 (by decide) ?_
          exact ih4 u13 x1 (x2 + (u13.2 3 x3.toNatClampNeg)) (x3 + 1) _ _ _ hd hw (lv_sub hl [2, 3, 1, 0] rfl)
  unfold dt_liveUnits at hd
  refine lv_iconst (v := 0) hx hb dT_liveUnits_0 (by decide) ?_
  refine lv_istore_n (lv' := [(2, .int 0), (0, .ref (ad 0)), (1, .int x1)]) hx hb dT_liveUnits_1 rfl hl (by decide) rfl (fun ls hl => ?_)
  refine lv_iconst (v := 0) hx hb dT_liveUnits_2 (by decide) ?_
  refine lv_istore_n (lv' := [(3, .int 0), (2, .int 0), (0, .ref (ad 0)), (1, .int x1)]) hx hb dT_liveUnits_3 rfl hl (by decide) rfl (fun ls hl => ?_)
  exact L4 40 u x1 0 0 _ _ _ hd hw (lv_sub hl [2, 3, 1, 0] rfl)
section
variable {p : Program} {l : Launch} {e : Env} {R : Room} {s : State} {m : MethodId} {args : Array Value} {below : List Frame} {meth : Method} {c : Code} {H : Heap} {locs : List Loc} {Q : State → Prop} {cc : ByteArray} {pc nL : Nat} {ls : Array Slot} {rest : List Value} {D : va_G} {ca : Nat → ClassId} {ad : Nat → Nat} {A : Nat → Prop} {u : ts_S} {cells slots : Nat}
theorem cT_146 (hc : CallFix p m c cc nL s args uW RT) (hn : nx s) (hw : ts_W tF D ca ad A s H locs u) {x1 : Int32} {r0 : Int32} {u0 : ts_S} (hq : dt_liveUnits u x1 = some (r0, u0)) (hsz : ls.size = nL) (hR : rT_liveUnits.frames + 1 ≤ R.frames ∧ 8 + (4 + 11) + rT_liveUnits.locals ≤ R.locals) (hrest : (rest.map fun v => v.category).sum ≤ 8) (hdg : decode cc pc = .ok (.invokevirtual 146, 3)) (kk : ∀ (H1 : Heap) (locs1 : List Loc), ts_W tF D ca ad A s H1 locs1 u0 → W p l e R s m args below meth c H1 locs1 0 0 Q (F0 m (pc + 3) ls (.int r0 :: rest))) : W p l e R s m args below meth c H locs 0 0 Q (F0 m pc ls (.int x1 :: .ref (ad 0) :: rest)) :=
  ts_callVi (b := ad 0) (As := [.int x1]) hc hn hw (ct_liveUnits l hq) rfl (cwV 1 hc.2.2.2.2 (gd_V (by decide +kernel) (by decide +kernel) (by decide +kernel) (by decide +kernel) (code_T_liveUnits)) rfl rfl rfl (by decide +kernel) hR) (va_recv hw.2.2.2.1 hw.1 (ci := 1) (q0 := 0) rfl rfl) rfl hsz hrest hdg kk
end
def rT_cartridge : Room := { frames := 3, cells := 0, slots := 0, locals := 66 }
set_option maxHeartbeats 4000000 in
set_option maxRecDepth 100000 in
theorem ct_cartridge (l : Launch) {u : ts_S} {x1 x2 : Int32} {r0 : Int32} {u0 : ts_S} (hd : dt_cartridge u x1 x2 = some (r0, u0)) : ts_Ci tF l yT_cartridge (.code yT_cartridge bT_cartridge 3 (some .int) :: uW) rT_cartridge (fun ad => [.ref (ad 0), .int x1, .int x2]) u r0 u0 := by
  refine ts_in_i tF l (by decide) (fun p e s m args below meth c D ca ad A hc hn hr hlk hw => ?_)
  have hx := hc.1
  have hb := hc.2.1
  have hl := lv_entry ([.ref (ad 0), .int x1, .int x2]) (n := 3) (Nat.le_of_ble_eq_true rfl)
  rw [lg_entry_eq]
  generalize (lg_sl ([.ref (ad 0), .int x1, .int x2]) ++ List.replicate (3 - (lg_sl ([.ref (ad 0), .int x1, .int x2])).length) Slot.unset).toArray = ls at hl ⊢
  replace hl : lv_has ls 3 [(0, .ref (ad 0)), (1, .int x1), (2, .int x2)] := hl
  unfold dt_cartridge at hd
  refine lv_iload_n hx hb dT_cartridge_0 rfl (lv_at hl 1 rfl) ?_
  obtain ⟨r1, u1, hq, hd⟩ := ts_b_s hd
  refine cT_119 hc hn hw hq hl.1 ⟨Nat.le_of_ble_eq_true rfl, Nat.le_of_ble_eq_true rfl⟩ (Nat.le_of_ble_eq_true rfl) dT_cartridge_1 (fun H locs hw => ?_)
  refine lv_if_ne (tgt := 9) hx hb dT_cartridge_4 (by decide) (fun cq => ?_) (fun cq => ?_)
  · replace hd := ts_if_n cq hd
    refine lv_iload_n hx hb dT_cartridge_9 rfl (lv_at hl 2 rfl) ?_
    by_cases c0 : x2 = 0
    · replace hd := ts_if_p c0 hd
      refine lv_tableIn (tgt := 36) hx hb dT_cartridge_10 (by rw [c0]; decide) (by rw [c0]; decide) (by rw [c0]; rfl) (by decide) ?_
      refine lv_aload_n hx hb dT_cartridge_36 rfl (lv_at hl 0 rfl) ?_
      refine gT_61 hc hn hw dT_cartridge_37 ?_
      refine gT_131 hc hn hw dT_cartridge_40 ?_
      refine lv_iload_n hx hb dT_cartridge_43 rfl (lv_at hl 1 rfl) ?_
      obtain ⟨h, hd⟩ := ts_ix_s hd
      refine tt_l10 hc hw h dT_cartridge_44 ?_
      exact ts_iret hx hb hr hlk (vp_nar_int _) hw hd dT_cartridge_45
    replace hd := ts_if_n c0 hd
    by_cases c1 : x2 = 1
    · replace hd := ts_if_p c1 hd
      refine lv_tableIn (tgt := 46) hx hb dT_cartridge_10 (by rw [c1]; decide) (by rw [c1]; decide) (by rw [c1]; rfl) (by decide) ?_
      refine lv_aload_n hx hb dT_cartridge_46 rfl (lv_at hl 0 rfl) ?_
      refine lv_iload_n hx hb dT_cartridge_47 rfl (lv_at hl 1 rfl) ?_
      obtain ⟨r48, u48, hq, hd⟩ := ts_b_s hd
      refine cT_146 hc hn hw hq hl.1 ⟨Nat.le_of_ble_eq_true rfl, Nat.le_of_ble_eq_true rfl⟩ (Nat.le_of_ble_eq_true rfl) dT_cartridge_48 (fun H locs hw => ?_)
      exact ts_iret hx hb hr hlk (vp_nar_int _) hw hd dT_cartridge_51
    replace hd := ts_if_n c1 hd
    by_cases c2 : x2 = 2
    · replace hd := ts_if_p c2 hd
      refine lv_tableIn (tgt := 52) hx hb dT_cartridge_10 (by rw [c2]; decide) (by rw [c2]; decide) (by rw [c2]; rfl) (by decide) ?_
      refine lv_aload_n hx hb dT_cartridge_52 rfl (lv_at hl 0 rfl) ?_
      refine gT_61 hc hn hw dT_cartridge_53 ?_
      refine gT_149 hc hn hw dT_cartridge_56 ?_
      refine lv_iload_n hx hb dT_cartridge_59 rfl (lv_at hl 1 rfl) ?_
      refine lv_icmp_ne (tgt := 67) hx hb dT_cartridge_60 (by decide) (fun cq => ?_) (fun cq => ?_)
      · replace hd := ts_if_n cq hd
        refine lv_iconst (v := 0) hx hb dT_cartridge_67 (by decide) ?_
        exact ts_iret hx hb hr hlk (vp_nar_int _) hw hd dT_cartridge_68
      · replace hd := ts_if_p cq hd
        refine lv_iconst (v := 1) hx hb dT_cartridge_63 (by decide) ?_
        refine lv_goto (tgt := 68) hx hb dT_cartridge_64 (by decide) ?_
        exact ts_iret hx hb hr hlk (vp_nar_int _) hw hd dT_cartridge_68
    replace hd := ts_if_n c2 hd
    have n0 := lv_neT c0 (a := 0) (by decide)
    have n1 := lv_neT c1 (a := 1) (by decide)
    have n2 := lv_neT c2 (a := 2) (by decide)
    refine lv_tableOut (tgt := 69) hx hb dT_cartridge_10 (by omega) (by decide) ?_
    refine lv_iconst (v := (-1)) hx hb dT_cartridge_69 (by decide) ?_
    exact ts_iret hx hb hr hlk (vp_nar_int _) hw hd dT_cartridge_70
  · replace hd := ts_if_p cq hd
    refine lv_iconst (v := (-1)) hx hb dT_cartridge_7 (by decide) ?_
    exact ts_iret hx hb hr hlk (vp_nar_int _) hw hd dT_cartridge_8
def rT_count : Room := { frames := 2, cells := 0, slots := 0, locals := 43 }
set_option maxHeartbeats 4000000 in
set_option maxRecDepth 100000 in
theorem ct_count (l : Launch) {u : ts_S} {x1 : Int32} {r0 : Int32} {u0 : ts_S} (hd : dt_count u x1 = some (r0, u0)) : ts_Ci tF l yT_count (.code yT_count bT_count 2 (some .int) :: uW) rT_count (fun ad => [.ref (ad 0), .int x1]) u r0 u0 := by
  refine ts_in_i tF l (by decide) (fun p e s m args below meth c D ca ad A hc hn hr hlk hw => ?_)
  have hx := hc.1
  have hb := hc.2.1
  have hl := lv_entry ([.ref (ad 0), .int x1]) (n := 2) (Nat.le_of_ble_eq_true rfl)
  rw [lg_entry_eq]
  generalize (lg_sl ([.ref (ad 0), .int x1]) ++ List.replicate (2 - (lg_sl ([.ref (ad 0), .int x1])).length) Slot.unset).toArray = ls at hl ⊢
  replace hl : lv_has ls 2 [(0, .ref (ad 0)), (1, .int x1)] := hl
  unfold dt_count at hd
  refine lv_iload_n hx hb dT_count_0 rfl (lv_at hl 1 rfl) ?_
  by_cases c0 : x1 = 0
  · replace hd := ts_if_p c0 hd
    refine lv_tableIn (tgt := 32) hx hb dT_count_1 (by rw [c0]; decide) (by rw [c0]; decide) (by rw [c0]; rfl) (by decide) ?_
    refine lv_aload_n hx hb dT_count_32 rfl (lv_at hl 0 rfl) ?_
    obtain ⟨r33, u33, hq, hd⟩ := ts_b_s hd
    refine cT_105 hc hn hw hq hl.1 ⟨Nat.le_of_ble_eq_true rfl, Nat.le_of_ble_eq_true rfl⟩ (Nat.le_of_ble_eq_true rfl) dT_count_33 (fun H locs hw => ?_)
    exact ts_iret hx hb hr hlk (vp_nar_int _) hw hd dT_count_36
  replace hd := ts_if_n c0 hd
  by_cases c1 : x1 = 1
  · replace hd := ts_if_p c1 hd
    refine lv_tableIn (tgt := 37) hx hb dT_count_1 (by rw [c1]; decide) (by rw [c1]; decide) (by rw [c1]; rfl) (by decide) ?_
    refine lv_aload_n hx hb dT_count_37 rfl (lv_at hl 0 rfl) ?_
    refine gT_61 hc hn hw dT_count_38 ?_
    refine gT_152 hc hn hw dT_count_41 ?_
    exact ts_iret hx hb hr hlk (vp_nar_int _) hw hd dT_count_44
  replace hd := ts_if_n c1 hd
  by_cases c2 : x1 = 2
  · replace hd := ts_if_p c2 hd
    refine lv_tableIn (tgt := 45) hx hb dT_count_1 (by rw [c2]; decide) (by rw [c2]; decide) (by rw [c2]; rfl) (by decide) ?_
    refine lv_aload_n hx hb dT_count_45 rfl (lv_at hl 0 rfl) ?_
    refine gT_61 hc hn hw dT_count_46 ?_
    refine gT_155 hc hn hw dT_count_49 ?_
    exact ts_iret hx hb hr hlk (vp_nar_int _) hw hd dT_count_52
  replace hd := ts_if_n c2 hd
  by_cases c3 : x1 = 3
  · replace hd := ts_if_p c3 hd
    refine lv_tableIn (tgt := 53) hx hb dT_count_1 (by rw [c3]; decide) (by rw [c3]; decide) (by rw [c3]; rfl) (by decide) ?_
    refine lv_aload_n hx hb dT_count_53 rfl (lv_at hl 0 rfl) ?_
    obtain ⟨r54, u54, hq, hd⟩ := ts_b_s hd
    refine cT_113 hc hn hw hq hl.1 ⟨Nat.le_of_ble_eq_true rfl, Nat.le_of_ble_eq_true rfl⟩ (Nat.le_of_ble_eq_true rfl) dT_count_54 (fun H locs hw => ?_)
    exact ts_iret hx hb hr hlk (vp_nar_int _) hw hd dT_count_57
  replace hd := ts_if_n c3 hd
  have n0 := lv_neT c0 (a := 0) (by decide)
  have n1 := lv_neT c1 (a := 1) (by decide)
  have n2 := lv_neT c2 (a := 2) (by decide)
  have n3 := lv_neT c3 (a := 3) (by decide)
  refine lv_tableOut (tgt := 58) hx hb dT_count_1 (by omega) (by decide) ?_
  refine lv_iconst (v := (-1)) hx hb dT_count_58 (by decide) ?_
  exact ts_iret hx hb hr hlk (vp_nar_int _) hw hd dT_count_59
end
section
def rM_in : Room := { frames := 0, cells := 0, slots := 0, locals := 0 }
set_option maxHeartbeats 4000000 in
set_option maxRecDepth 100000 in
theorem cm_in (l : Launch) {u : ts_S} {x0 x1 : Int32} {r0 : Int32} {u0 : ts_S} (hd : dm_in u x0 x1 = some (r0, u0)) : ts_Ci mF l yM_in (.code yM_in bM_in 2 (some .boolean) :: uW) rM_in (fun ad => [.int x0, .int x1]) u r0 u0 := by
  refine ts_in_i mF l (by decide) (fun p e s m args below meth c D ca ad A hc hn hr hlk hw => ?_)
  have hx := hc.1
  have hb := hc.2.1
  have hl := lv_entry ([.int x0, .int x1]) (n := 2) (Nat.le_of_ble_eq_true rfl)
  rw [lg_entry_eq]
  generalize (lg_sl ([.int x0, .int x1]) ++ List.replicate (2 - (lg_sl ([.int x0, .int x1])).length) Slot.unset).toArray = ls at hl ⊢
  replace hl : lv_has ls 2 [(0, .int x0), (1, .int x1)] := hl
  unfold dm_in at hd
  refine lv_iload_n hx hb dM_in_0 rfl (lv_at hl 0 rfl) ?_
  refine lv_if_lt (tgt := 13) hx hb dM_in_1 (by decide) (fun cq => ?_) (fun cq => ?_)
  · replace hd := ts_if_p cq hd
    refine lv_iconst (v := 0) hx hb dM_in_13 (by decide) ?_
    exact ts_iret hx hb hr hlk (by decide +kernel) hw hd dM_in_14
  · replace hd := ts_if_n cq hd
    refine lv_iload_n hx hb dM_in_4 rfl (lv_at hl 0 rfl) ?_
    refine lv_iload_n hx hb dM_in_5 rfl (lv_at hl 1 rfl) ?_
    refine lv_icmp_ge (tgt := 13) hx hb dM_in_6 (by decide) (fun cq => ?_) (fun cq => ?_)
    · replace hd := ts_if_p cq hd
      refine lv_iconst (v := 0) hx hb dM_in_13 (by decide) ?_
      exact ts_iret hx hb hr hlk (by decide +kernel) hw hd dM_in_14
    · replace hd := ts_if_n cq hd
      refine lv_iconst (v := 1) hx hb dM_in_9 (by decide) ?_
      refine lv_goto (tgt := 14) hx hb dM_in_10 (by decide) ?_
      exact ts_iret hx hb hr hlk (by decide +kernel) hw hd dM_in_14
section
variable {p : Program} {l : Launch} {e : Env} {R : Room} {s : State} {m : MethodId} {args : Array Value} {below : List Frame} {meth : Method} {c : Code} {H : Heap} {locs : List Loc} {Q : State → Prop} {cc : ByteArray} {pc nL : Nat} {ls : Array Slot} {rest : List Value} {D : va_G} {ca : Nat → ClassId} {ad : Nat → Nat} {A : Nat → Prop} {u : ts_S} {cells slots : Nat}
theorem cM_51 (hc : CallFix p m c cc nL s args uW RM) (hn : nx s) (hw : ts_W mF D ca ad A s H locs u) {x0 x1 : Int32} {r0 : Int32} {u0 : ts_S} (hq : dm_in u x0 x1 = some (r0, u0)) (hsz : ls.size = nL) (hR : rM_in.frames + 1 ≤ R.frames ∧ 8 + (2 + 11) + rM_in.locals ≤ R.locals) (hrest : (rest.map fun v => v.category).sum ≤ 8) (hdg : decode cc pc = .ok (.invokestatic 51, 3)) (kk : ∀ (H1 : Heap) (locs1 : List Loc), ts_W mF D ca ad A s H1 locs1 u0 → W p l e R s m args below meth c H1 locs1 0 0 Q (F0 m (pc + 3) ls (.int r0 :: rest))) : W p l e R s m args below meth c H locs 0 0 Q (F0 m pc ls (.int x1 :: .int x0 :: rest)) :=
  ts_callSi (As := [.int x0, .int x1]) hc hn hw (cm_in l hq) rfl (cwS 2 hc.2.2.2.2 (gd_S (by decide +kernel) (by decide +kernel) (by decide +kernel) (code_M_in)) rfl rfl rfl (by decide +kernel) hR) rfl hsz hrest hdg kk
end
def rM_oldest : Room := { frames := 0, cells := 0, slots := 0, locals := 0 }
set_option maxHeartbeats 4000000 in
set_option maxRecDepth 100000 in
theorem cm_oldest (l : Launch) {u : ts_S} {x1 : Int32} {r0 : Int32} {u0 : ts_S} (hd : dm_oldest u x1 = some (r0, u0)) : ts_Ci mF l yM_oldest (.code yM_oldest bM_oldest 4 (some .int) :: uW) rM_oldest (fun ad => [.ref (ad 0), .int x1]) u r0 u0 := by
  refine ts_in_i mF l (by decide) (fun p e s m args below meth c D ca ad A hc hn hr hlk hw => ?_)
  have hx := hc.1
  have hb := hc.2.1
  have hl := lv_entry ([.ref (ad 0), .int x1]) (n := 4) (Nat.le_of_ble_eq_true rfl)
  rw [lg_entry_eq]
  generalize (lg_sl ([.ref (ad 0), .int x1]) ++ List.replicate (4 - (lg_sl ([.ref (ad 0), .int x1])).length) Slot.unset).toArray = ls at hl ⊢
  replace hl : lv_has ls 4 [(0, .ref (ad 0)), (1, .int x1)] := hl
  have L4 : ∀ (n : Nat) (u : ts_S) (x1 x2 x3 : Int32) (H : Heap) (locs : List Loc) (ls : Array Slot), dm_oldest_4 n u x1 x2 x3 = some (r0, u0) → ts_W mF D ca ad A s H locs u → lv_has ls 4 [(0, .ref (ad 0)), (1, .int x1), (2, .int x2), (3, .int x3)] → W p l e rM_oldest s m args below meth c H locs 0 0 (MQ below (va_Qi (fun r v => r = r0 ∧ v = u0) (ts_post mF D ca ad A) A) args s 0 0 A) (F0 m 4 ls []) := by
    intro n
    induction n with
    | zero => intro u x1 x2 x3 H locs ls hd; cases (show (none : Option (Int32 × ts_S)) = some (r0, u0) from hd)
    | succ n4 ih4 =>
      intro u x1 x2 x3 H locs ls hd hw hl
      replace hd : dm_oldest_4_b (dm_oldest_4 n4) u x1 x2 x3 = some (r0, u0) := hd
      unfold dm_oldest_4_b at hd
      refine lv_iload_n hx hb dM_oldest_4 rfl (lv_at hl 3 rfl) ?_
      refine lv_bipush (v := 16) hx hb dM_oldest_5 (by decide) ?_
      refine lv_icmp_ge (tgt := 47) hx hb dM_oldest_7 (by decide) (fun cq => ?_) (fun cq => ?_)
      · replace hd := ts_if_p cq hd
        refine lv_iload_n hx hb dM_oldest_47 rfl (lv_at hl 2 rfl) ?_
        exact ts_iret hx hb hr hlk (vp_nar_int _) hw hd dM_oldest_48
      · replace hd := ts_if_n cq hd
        refine lv_aload_n hx hb dM_oldest_10 rfl (lv_at hl 0 rfl) ?_
        refine gM_7 hc hn hw dM_oldest_11 ?_
        refine lv_iload_n hx hb dM_oldest_14 rfl (lv_at hl 3 rfl) ?_
        obtain ⟨h, hd⟩ := ts_ix_s hd
        refine mm_l2 hc hw h dM_oldest_15 ?_
        refine lv_iload_n hx hb dM_oldest_16 rfl (lv_at hl 1 rfl) ?_
        refine lv_icmp_ne (tgt := 41) hx hb dM_oldest_17 (by decide) (fun cq => ?_) (fun cq => ?_)
        · replace hd := ts_if_n cq hd
          refine lv_iinc (v := (x3 + 1)) (lv' := [(3, .int (x3 + 1)), (0, .ref (ad 0)), (1, .int x1), (2, .int x2)]) hx hb dM_oldest_41 hl (k := 3) rfl rfl (by decide) rfl (fun ls hl => ?_)
          refine lv_goto (tgt := 4) hx hb dM_oldest_44 (by decide) ?_
          exact ih4 u x1 x2 (x3 + 1) _ _ _ hd hw (lv_sub hl [1, 2, 3, 0] rfl)
        · replace hd := ts_if_p cq hd
          refine lv_iload_n hx hb dM_oldest_20 rfl (lv_at hl 2 rfl) ?_
          refine lv_if_lt (tgt := 39) hx hb dM_oldest_21 (by decide) (fun cq => ?_) (fun cq => ?_)
          · replace hd := ts_if_p cq hd
            refine lv_iload_n hx hb dM_oldest_39 rfl (lv_at hl 3 rfl) ?_
            refine lv_istore_n (lv' := [(2, .int x3), (0, .ref (ad 0)), (1, .int x1), (3, .int x3)]) hx hb dM_oldest_40 rfl hl (by decide) rfl (fun ls hl => ?_)
            refine lv_iinc (v := (x3 + 1)) (lv' := [(3, .int (x3 + 1)), (2, .int x3), (0, .ref (ad 0)), (1, .int x1)]) hx hb dM_oldest_41 hl (k := 3) rfl rfl (by decide) rfl (fun ls hl => ?_)
            refine lv_goto (tgt := 4) hx hb dM_oldest_44 (by decide) ?_
            exact ih4 u x1 x3 (x3 + 1) _ _ _ hd hw (lv_sub hl [2, 3, 1, 0] rfl)
          · replace hd := ts_if_n cq hd
            refine lv_aload_n hx hb dM_oldest_24 rfl (lv_at hl 0 rfl) ?_
            refine gM_19 hc hn hw dM_oldest_25 ?_
            refine lv_iload_n hx hb dM_oldest_28 rfl (lv_at hl 3 rfl) ?_
            obtain ⟨h, hd⟩ := ts_ix_s hd
            refine mm_l8 hc hw h dM_oldest_29 ?_
            refine lv_aload_n hx hb dM_oldest_30 rfl (lv_at hl 0 rfl) ?_
            refine gM_19 hc hn hw dM_oldest_31 ?_
            refine lv_iload_n hx hb dM_oldest_34 rfl (lv_at hl 2 rfl) ?_
            obtain ⟨h, hd⟩ := ts_ix_s hd
            refine mm_l8 hc hw h dM_oldest_35 ?_
            refine lv_icmp_ge (tgt := 41) hx hb dM_oldest_36 (by decide) (fun cq => ?_) (fun cq => ?_)
            · replace hd := ts_if_p cq hd
              refine lv_iinc (v := (x3 + 1)) (lv' := [(3, .int (x3 + 1)), (0, .ref (ad 0)), (1, .int x1), (2, .int x2)]) hx hb dM_oldest_41 hl (k := 3) rfl rfl (by decide) rfl (fun ls hl => ?_)
              refine lv_goto (tgt := 4) hx hb dM_oldest_44 (by decide) ?_
              exact ih4 u x1 x2 (x3 + 1) _ _ _ hd hw (lv_sub hl [1, 2, 3, 0] rfl)
            · replace hd := ts_if_n cq hd
              refine lv_iload_n hx hb dM_oldest_39 rfl (lv_at hl 3 rfl) ?_
              refine lv_istore_n (lv' := [(2, .int x3), (0, .ref (ad 0)), (1, .int x1), (3, .int x3)]) hx hb dM_oldest_40 rfl hl (by decide) rfl (fun ls hl => ?_)
              refine lv_iinc (v := (x3 + 1)) (lv' := [(3, .int (x3 + 1)), (2, .int x3), (0, .ref (ad 0)), (1, .int x1)]) hx hb dM_oldest_41 hl (k := 3) rfl rfl (by decide) rfl (fun ls hl => ?_)
              refine lv_goto (tgt := 4) hx hb dM_oldest_44 (by decide) ?_
              exact ih4 u x1 x3 (x3 + 1) _ _ _ hd hw (lv_sub hl [2, 3, 1, 0] rfl)
  unfold dm_oldest at hd
  refine lv_iconst (v := (-1)) hx hb dM_oldest_0 (by decide) ?_
  refine lv_istore_n (lv' := [(2, .int (-1)), (0, .ref (ad 0)), (1, .int x1)]) hx hb dM_oldest_1 rfl hl (by decide) rfl (fun ls hl => ?_)
  refine lv_iconst (v := 0) hx hb dM_oldest_2 (by decide) ?_
  refine lv_istore_n (lv' := [(3, .int 0), (2, .int (-1)), (0, .ref (ad 0)), (1, .int x1)]) hx hb dM_oldest_3 rfl hl (by decide) rfl (fun ls hl => ?_)
  exact L4 40 u x1 (-1) 0 _ _ _ hd hw (lv_sub hl [2, 3, 1, 0] rfl)
section
variable {p : Program} {l : Launch} {e : Env} {R : Room} {s : State} {m : MethodId} {args : Array Value} {below : List Frame} {meth : Method} {c : Code} {H : Heap} {locs : List Loc} {Q : State → Prop} {cc : ByteArray} {pc nL : Nat} {ls : Array Slot} {rest : List Value} {D : va_G} {ca : Nat → ClassId} {ad : Nat → Nat} {A : Nat → Prop} {u : ts_S} {cells slots : Nat}
theorem cM_62 (hc : CallFix p m c cc nL s args uW RM) (hn : nx s) (hw : ts_W mF D ca ad A s H locs u) {x1 : Int32} {r0 : Int32} {u0 : ts_S} (hq : dm_oldest u x1 = some (r0, u0)) (hsz : ls.size = nL) (hR : rM_oldest.frames + 1 ≤ R.frames ∧ 8 + (4 + 11) + rM_oldest.locals ≤ R.locals) (hrest : (rest.map fun v => v.category).sum ≤ 8) (hdg : decode cc pc = .ok (.invokevirtual 62, 3)) (kk : ∀ (H1 : Heap) (locs1 : List Loc), ts_W mF D ca ad A s H1 locs1 u0 → W p l e R s m args below meth c H1 locs1 0 0 Q (F0 m (pc + 3) ls (.int r0 :: rest))) : W p l e R s m args below meth c H locs 0 0 Q (F0 m pc ls (.int x1 :: .ref (ad 0) :: rest)) :=
  ts_callVi (b := ad 0) (As := [.int x1]) hc hn hw (cm_oldest l hq) rfl (cwV 1 hc.2.2.2.2 (gd_V (by decide +kernel) (by decide +kernel) (by decide +kernel) (by decide +kernel) (code_M_oldest)) rfl rfl rfl (by decide +kernel) hR) (va_recv hw.2.2.2.1 hw.1 (ci := 2) (q0 := 0) rfl rfl) rfl hsz hrest hdg kk
end
def rM_taken : Room := { frames := 0, cells := 0, slots := 0, locals := 0 }
set_option maxHeartbeats 4000000 in
set_option maxRecDepth 100000 in
theorem cm_taken (l : Launch) {u : ts_S} {r0 : Int32} {u0 : ts_S} (hd : dm_taken u = some (r0, u0)) : ts_Ci mF l yM_taken (.code yM_taken bM_taken 3 (some .int) :: uW) rM_taken (fun ad => [.ref (ad 0)]) u r0 u0 := by
  refine ts_in_i mF l (by decide) (fun p e s m args below meth c D ca ad A hc hn hr hlk hw => ?_)
  have hx := hc.1
  have hb := hc.2.1
  have hl := lv_entry ([.ref (ad 0)]) (n := 3) (Nat.le_of_ble_eq_true rfl)
  rw [lg_entry_eq]
  generalize (lg_sl ([.ref (ad 0)]) ++ List.replicate (3 - (lg_sl ([.ref (ad 0)])).length) Slot.unset).toArray = ls at hl ⊢
  replace hl : lv_has ls 3 [(0, .ref (ad 0))] := hl
  have L4 : ∀ (n : Nat) (u : ts_S) (x1 x2 : Int32) (H : Heap) (locs : List Loc) (ls : Array Slot), dm_taken_4 n u x1 x2 = some (r0, u0) → ts_W mF D ca ad A s H locs u → lv_has ls 3 [(0, .ref (ad 0)), (1, .int x1), (2, .int x2)] → W p l e rM_taken s m args below meth c H locs 0 0 (MQ below (va_Qi (fun r v => r = r0 ∧ v = u0) (ts_post mF D ca ad A) A) args s 0 0 A) (F0 m 4 ls []) := by
    intro n
    induction n with
    | zero => intro u x1 x2 H locs ls hd; cases (show (none : Option (Int32 × ts_S)) = some (r0, u0) from hd)
    | succ n4 ih4 =>
      intro u x1 x2 H locs ls hd hw hl
      replace hd : dm_taken_4_b (dm_taken_4 n4) u x1 x2 = some (r0, u0) := hd
      unfold dm_taken_4_b at hd
      refine lv_iload_n hx hb dM_taken_4 rfl (lv_at hl 2 rfl) ?_
      refine lv_bipush (v := 16) hx hb dM_taken_5 (by decide) ?_
      refine lv_icmp_ge (tgt := 45) hx hb dM_taken_7 (by decide) (fun cq => ?_) (fun cq => ?_)
      · replace hd := ts_if_p cq hd
        refine lv_iload_n hx hb dM_taken_45 rfl (lv_at hl 1 rfl) ?_
        exact ts_iret hx hb hr hlk (vp_nar_int _) hw hd dM_taken_46
      · replace hd := ts_if_n cq hd
        refine lv_aload_n hx hb dM_taken_10 rfl (lv_at hl 0 rfl) ?_
        refine gM_7 hc hn hw dM_taken_11 ?_
        refine lv_iload_n hx hb dM_taken_14 rfl (lv_at hl 2 rfl) ?_
        obtain ⟨h, hd⟩ := ts_ix_s hd
        refine mm_l2 hc hw h dM_taken_15 ?_
        refine lv_iconst (v := 1) hx hb dM_taken_16 (by decide) ?_
        refine lv_icmp_eq (tgt := 30) hx hb dM_taken_17 (by decide) (fun cq => ?_) (fun cq => ?_)
        · replace hd := ts_if_p cq hd
          refine lv_iload_n hx hb dM_taken_30 rfl (lv_at hl 1 rfl) ?_
          refine lv_aload_n hx hb dM_taken_31 rfl (lv_at hl 0 rfl) ?_
          refine gM_13 hc hn hw dM_taken_32 ?_
          refine lv_iload_n hx hb dM_taken_35 rfl (lv_at hl 2 rfl) ?_
          obtain ⟨h, hd⟩ := ts_ix_s hd
          refine mm_l3 hc hw h dM_taken_36 ?_
          refine lv_iadd hx hb dM_taken_37 ?_
          refine lv_istore_n (lv' := [(1, .int (x1 + (u.2 3 x2.toNatClampNeg))), (0, .ref (ad 0)), (2, .int x2)]) hx hb dM_taken_38 rfl hl (by decide) rfl (fun ls hl => ?_)
          refine lv_iinc (v := (x2 + 1)) (lv' := [(2, .int (x2 + 1)), (1, .int (x1 + (u.2 3 x2.toNatClampNeg))), (0, .ref (ad 0))]) hx hb dM_taken_39 hl (k := 2) rfl rfl (by decide) rfl (fun ls hl => ?_)
          refine lv_goto (tgt := 4) hx hb dM_taken_42 (by decide) ?_
          exact ih4 u (x1 + (u.2 3 x2.toNatClampNeg)) (x2 + 1) _ _ _ hd hw (lv_sub hl [2, 1, 0] rfl)
        · replace hd := ts_if_n cq hd
          refine lv_aload_n hx hb dM_taken_20 rfl (lv_at hl 0 rfl) ?_
          refine gM_7 hc hn hw dM_taken_21 ?_
          refine lv_iload_n hx hb dM_taken_24 rfl (lv_at hl 2 rfl) ?_
          obtain ⟨h, hd⟩ := ts_ix_s hd
          refine mm_l2 hc hw h dM_taken_25 ?_
          refine lv_iconst (v := 2) hx hb dM_taken_26 (by decide) ?_
          refine lv_icmp_ne (tgt := 39) hx hb dM_taken_27 (by decide) (fun cq => ?_) (fun cq => ?_)
          · replace hd := ts_if_n cq hd
            refine lv_iinc (v := (x2 + 1)) (lv' := [(2, .int (x2 + 1)), (0, .ref (ad 0)), (1, .int x1)]) hx hb dM_taken_39 hl (k := 2) rfl rfl (by decide) rfl (fun ls hl => ?_)
            refine lv_goto (tgt := 4) hx hb dM_taken_42 (by decide) ?_
            exact ih4 u x1 (x2 + 1) _ _ _ hd hw (lv_sub hl [1, 2, 0] rfl)
          · replace hd := ts_if_p cq hd
            refine lv_iload_n hx hb dM_taken_30 rfl (lv_at hl 1 rfl) ?_
            refine lv_aload_n hx hb dM_taken_31 rfl (lv_at hl 0 rfl) ?_
            refine gM_13 hc hn hw dM_taken_32 ?_
            refine lv_iload_n hx hb dM_taken_35 rfl (lv_at hl 2 rfl) ?_
            obtain ⟨h, hd⟩ := ts_ix_s hd
            refine mm_l3 hc hw h dM_taken_36 ?_
            refine lv_iadd hx hb dM_taken_37 ?_
            refine lv_istore_n (lv' := [(1, .int (x1 + (u.2 3 x2.toNatClampNeg))), (0, .ref (ad 0)), (2, .int x2)]) hx hb dM_taken_38 rfl hl (by decide) rfl (fun ls hl => ?_)
            refine lv_iinc (v := (x2 + 1)) (lv' := [(2, .int (x2 + 1)), (1, .int (x1 + (u.2 3 x2.toNatClampNeg))), (0, .ref (ad 0))]) hx hb dM_taken_39 hl (k := 2) rfl rfl (by decide) rfl (fun ls hl => ?_)
            refine lv_goto (tgt := 4) hx hb dM_taken_42 (by decide) ?_
            exact ih4 u (x1 + (u.2 3 x2.toNatClampNeg)) (x2 + 1) _ _ _ hd hw (lv_sub hl [2, 1, 0] rfl)
  unfold dm_taken at hd
  refine lv_iconst (v := 0) hx hb dM_taken_0 (by decide) ?_
  refine lv_istore_n (lv' := [(1, .int 0), (0, .ref (ad 0))]) hx hb dM_taken_1 rfl hl (by decide) rfl (fun ls hl => ?_)
  refine lv_iconst (v := 0) hx hb dM_taken_2 (by decide) ?_
  refine lv_istore_n (lv' := [(2, .int 0), (1, .int 0), (0, .ref (ad 0))]) hx hb dM_taken_3 rfl hl (by decide) rfl (fun ls hl => ?_)
  exact L4 40 u 0 0 _ _ _ hd hw (lv_sub hl [2, 1, 0] rfl)
section
variable {p : Program} {l : Launch} {e : Env} {R : Room} {s : State} {m : MethodId} {args : Array Value} {below : List Frame} {meth : Method} {c : Code} {H : Heap} {locs : List Loc} {Q : State → Prop} {cc : ByteArray} {pc nL : Nat} {ls : Array Slot} {rest : List Value} {D : va_G} {ca : Nat → ClassId} {ad : Nat → Nat} {A : Nat → Prop} {u : ts_S} {cells slots : Nat}
theorem cM_58 (hc : CallFix p m c cc nL s args uW RM) (hn : nx s) (hw : ts_W mF D ca ad A s H locs u) {r0 : Int32} {u0 : ts_S} (hq : dm_taken u = some (r0, u0)) (hsz : ls.size = nL) (hR : rM_taken.frames + 1 ≤ R.frames ∧ 8 + (3 + 11) + rM_taken.locals ≤ R.locals) (hrest : (rest.map fun v => v.category).sum ≤ 8) (hdg : decode cc pc = .ok (.invokevirtual 58, 3)) (kk : ∀ (H1 : Heap) (locs1 : List Loc), ts_W mF D ca ad A s H1 locs1 u0 → W p l e R s m args below meth c H1 locs1 0 0 Q (F0 m (pc + 3) ls (.int r0 :: rest))) : W p l e R s m args below meth c H locs 0 0 Q (F0 m pc ls (.ref (ad 0) :: rest)) :=
  ts_callVi (b := ad 0) (As := []) hc hn hw (cm_taken l hq) rfl (cwV 0 hc.2.2.2.2 (gd_V (by decide +kernel) (by decide +kernel) (by decide +kernel) (by decide +kernel) (code_M_taken)) rfl rfl rfl (by decide +kernel) hR) (va_recv hw.2.2.2.1 hw.1 (ci := 2) (q0 := 0) rfl rfl) rfl hsz hrest hdg kk
end
def rM_makeRoom : Room := { frames := 1, cells := 0, slots := 0, locals := 23 }
set_option maxHeartbeats 4000000 in
set_option maxRecDepth 100000 in
theorem cm_makeRoom (l : Launch) {u : ts_S} {x1 : Int32} {r0 : Int32} {u0 : ts_S} (hd : dm_makeRoom u x1 = some (r0, u0)) : ts_Ci mF l yM_makeRoom (.code yM_makeRoom bM_makeRoom 4 (some .boolean) :: uW) rM_makeRoom (fun ad => [.ref (ad 0), .int x1]) u r0 u0 := by
  refine ts_in_i mF l (by decide) (fun p e s m args below meth c D ca ad A hc hn hr hlk hw => ?_)
  have hx := hc.1
  have hb := hc.2.1
  have hl := lv_entry ([.ref (ad 0), .int x1]) (n := 4) (Nat.le_of_ble_eq_true rfl)
  rw [lg_entry_eq]
  generalize (lg_sl ([.ref (ad 0), .int x1]) ++ List.replicate (4 - (lg_sl ([.ref (ad 0), .int x1])).length) Slot.unset).toArray = ls at hl ⊢
  replace hl : lv_has ls 4 [(0, .ref (ad 0)), (1, .int x1)] := hl
  have L2 : ∀ (n : Nat) (u : ts_S) (x1 x2 : Int32) (H : Heap) (locs : List Loc) (ls : Array Slot), dm_makeRoom_2 n u x1 x2 = some (r0, u0) → ts_W mF D ca ad A s H locs u → lv_has ls 4 [(0, .ref (ad 0)), (1, .int x1), (2, .int x2)] → W p l e rM_makeRoom s m args below meth c H locs 0 0 (MQ below (va_Qi (fun r v => r = r0 ∧ v = u0) (ts_post mF D ca ad A) A) args s 0 0 A) (F0 m 2 ls []) := by
    intro n
    induction n with
    | zero => intro u x1 x2 H locs ls hd; cases (show (none : Option (Int32 × ts_S)) = some (r0, u0) from hd)
    | succ n2 ih2 =>
      intro u x1 x2 H locs ls hd hw hl
      replace hd : dm_makeRoom_2_b (dm_makeRoom_2 n2) u x1 x2 = some (r0, u0) := hd
      unfold dm_makeRoom_2_b at hd
      refine lv_iload_n hx hb dM_makeRoom_2 rfl (lv_at hl 2 rfl) ?_
      refine lv_bipush (v := 16) hx hb dM_makeRoom_3 (by decide) ?_
      refine lv_icmp_ge (tgt := 44) hx hb dM_makeRoom_5 (by decide) (fun cq => ?_) (fun cq => ?_)
      · replace hd := ts_if_p cq hd
        refine lv_aload_n hx hb dM_makeRoom_44 rfl (lv_at hl 0 rfl) ?_
        refine gM_45 hc hn hw dM_makeRoom_45 ?_
        refine lv_aload_n hx hb dM_makeRoom_48 rfl (lv_at hl 0 rfl) ?_
        obtain ⟨r49, u49, hq, hd⟩ := ts_b_s hd
        refine cM_58 hc hn hw hq hl.1 ⟨Nat.le_of_ble_eq_true rfl, Nat.le_of_ble_eq_true rfl⟩ (Nat.le_of_ble_eq_true rfl) dM_makeRoom_49 (fun H locs hw => ?_)
        refine lv_isub hx hb dM_makeRoom_52 ?_
        refine lv_iload_n hx hb dM_makeRoom_53 rfl (lv_at hl 1 rfl) ?_
        refine lv_icmp_lt (tgt := 61) hx hb dM_makeRoom_54 (by decide) (fun cq => ?_) (fun cq => ?_)
        · replace hd := ts_if_p cq hd
          refine lv_iconst (v := 0) hx hb dM_makeRoom_61 (by decide) ?_
          exact ts_iret hx hb hr hlk (by decide +kernel) hw hd dM_makeRoom_62
        · replace hd := ts_if_n cq hd
          refine lv_iconst (v := 1) hx hb dM_makeRoom_57 (by decide) ?_
          refine lv_goto (tgt := 62) hx hb dM_makeRoom_58 (by decide) ?_
          exact ts_iret hx hb hr hlk (by decide +kernel) hw hd dM_makeRoom_62
      · replace hd := ts_if_n cq hd
        refine lv_aload_n hx hb dM_makeRoom_8 rfl (lv_at hl 0 rfl) ?_
        refine gM_45 hc hn hw dM_makeRoom_9 ?_
        refine lv_aload_n hx hb dM_makeRoom_12 rfl (lv_at hl 0 rfl) ?_
        obtain ⟨r13, u13, hq, hd⟩ := ts_b_s hd
        refine cM_58 hc hn hw hq hl.1 ⟨Nat.le_of_ble_eq_true rfl, Nat.le_of_ble_eq_true rfl⟩ (Nat.le_of_ble_eq_true rfl) dM_makeRoom_13 (fun H locs hw => ?_)
        refine lv_isub hx hb dM_makeRoom_16 ?_
        refine lv_iload_n hx hb dM_makeRoom_17 rfl (lv_at hl 1 rfl) ?_
        refine lv_icmp_ge (tgt := 44) hx hb dM_makeRoom_18 (by decide) (fun cq => ?_) (fun cq => ?_)
        · replace hd := ts_if_p cq hd
          refine lv_aload_n hx hb dM_makeRoom_44 rfl (lv_at hl 0 rfl) ?_
          refine gM_45 hc hn hw dM_makeRoom_45 ?_
          refine lv_aload_n hx hb dM_makeRoom_48 rfl (lv_at hl 0 rfl) ?_
          obtain ⟨r49, u49, hq, hd⟩ := ts_b_s hd
          refine cM_58 hc hn hw hq hl.1 ⟨Nat.le_of_ble_eq_true rfl, Nat.le_of_ble_eq_true rfl⟩ (Nat.le_of_ble_eq_true rfl) dM_makeRoom_49 (fun H locs hw => ?_)
          refine lv_isub hx hb dM_makeRoom_52 ?_
          refine lv_iload_n hx hb dM_makeRoom_53 rfl (lv_at hl 1 rfl) ?_
          refine lv_icmp_lt (tgt := 61) hx hb dM_makeRoom_54 (by decide) (fun cq => ?_) (fun cq => ?_)
          · replace hd := ts_if_p cq hd
            refine lv_iconst (v := 0) hx hb dM_makeRoom_61 (by decide) ?_
            exact ts_iret hx hb hr hlk (by decide +kernel) hw hd dM_makeRoom_62
          · replace hd := ts_if_n cq hd
            refine lv_iconst (v := 1) hx hb dM_makeRoom_57 (by decide) ?_
            refine lv_goto (tgt := 62) hx hb dM_makeRoom_58 (by decide) ?_
            exact ts_iret hx hb hr hlk (by decide +kernel) hw hd dM_makeRoom_62
        · replace hd := ts_if_n cq hd
          refine lv_aload_n hx hb dM_makeRoom_21 rfl (lv_at hl 0 rfl) ?_
          refine lv_iconst (v := 2) hx hb dM_makeRoom_22 (by decide) ?_
          obtain ⟨r23, u23, hq, hd⟩ := ts_b_s hd
          refine cM_62 hc hn hw hq hl.1 ⟨Nat.le_of_ble_eq_true rfl, Nat.le_of_ble_eq_true rfl⟩ (Nat.le_of_ble_eq_true rfl) dM_makeRoom_23 (fun H locs hw => ?_)
          refine lv_istore_n (lv' := [(3, .int r23), (0, .ref (ad 0)), (1, .int x1), (2, .int x2)]) hx hb dM_makeRoom_26 rfl hl (by decide) rfl (fun ls hl => ?_)
          refine lv_iload_n hx hb dM_makeRoom_27 rfl (lv_at hl 0 rfl) ?_
          refine lv_if_lt (tgt := 38) hx hb dM_makeRoom_28 (by decide) (fun cq => ?_) (fun cq => ?_)
          · replace hd := ts_if_p cq hd
            refine lv_iinc (v := (x2 + 1)) (lv' := [(2, .int (x2 + 1)), (3, .int r23), (0, .ref (ad 0)), (1, .int x1)]) hx hb dM_makeRoom_38 hl (k := 3) rfl rfl (by decide) rfl (fun ls hl => ?_)
            refine lv_goto (tgt := 2) hx hb dM_makeRoom_41 (by decide) ?_
            exact ih2 u23 x1 (x2 + 1) _ _ _ hd hw (lv_sub hl [2, 3, 0] rfl)
          · replace hd := ts_if_n cq hd
            refine lv_aload_n hx hb dM_makeRoom_31 rfl (lv_at hl 1 rfl) ?_
            refine gM_7 hc hn hw dM_makeRoom_32 ?_
            refine lv_iload_n hx hb dM_makeRoom_35 rfl (lv_at hl 0 rfl) ?_
            refine lv_iconst (v := 3) hx hb dM_makeRoom_36 (by decide) ?_
            obtain ⟨h, hd⟩ := ts_ix_s hd
            refine mm_s2 hc hw h dM_makeRoom_37 (fun H locs hw => ?_)
            refine lv_iinc (v := (x2 + 1)) (lv' := [(2, .int (x2 + 1)), (3, .int r23), (0, .ref (ad 0)), (1, .int x1)]) hx hb dM_makeRoom_38 hl (k := 3) rfl rfl (by decide) rfl (fun ls hl => ?_)
            refine lv_goto (tgt := 2) hx hb dM_makeRoom_41 (by decide) ?_
            exact ih2 (ts_a 2 r23.toNatClampNeg 3 u23) x1 (x2 + 1) _ _ _ hd hw (lv_sub hl [2, 3, 0] rfl)
  unfold dm_makeRoom at hd
  refine lv_iconst (v := 0) hx hb dM_makeRoom_0 (by decide) ?_
  refine lv_istore_n (lv' := [(2, .int 0), (0, .ref (ad 0)), (1, .int x1)]) hx hb dM_makeRoom_1 rfl hl (by decide) rfl (fun ls hl => ?_)
  exact L2 40 u x1 0 _ _ _ hd hw (lv_sub hl [1, 2, 0] rfl)
section
variable {p : Program} {l : Launch} {e : Env} {R : Room} {s : State} {m : MethodId} {args : Array Value} {below : List Frame} {meth : Method} {c : Code} {H : Heap} {locs : List Loc} {Q : State → Prop} {cc : ByteArray} {pc nL : Nat} {ls : Array Slot} {rest : List Value} {D : va_G} {ca : Nat → ClassId} {ad : Nat → Nat} {A : Nat → Prop} {u : ts_S} {cells slots : Nat}
theorem cM_72 (hc : CallFix p m c cc nL s args uW RM) (hn : nx s) (hw : ts_W mF D ca ad A s H locs u) {x1 : Int32} {r0 : Int32} {u0 : ts_S} (hq : dm_makeRoom u x1 = some (r0, u0)) (hsz : ls.size = nL) (hR : rM_makeRoom.frames + 1 ≤ R.frames ∧ 8 + (4 + 11) + rM_makeRoom.locals ≤ R.locals) (hrest : (rest.map fun v => v.category).sum ≤ 8) (hdg : decode cc pc = .ok (.invokevirtual 72, 3)) (kk : ∀ (H1 : Heap) (locs1 : List Loc), ts_W mF D ca ad A s H1 locs1 u0 → W p l e R s m args below meth c H1 locs1 0 0 Q (F0 m (pc + 3) ls (.int r0 :: rest))) : W p l e R s m args below meth c H locs 0 0 Q (F0 m pc ls (.int x1 :: .ref (ad 0) :: rest)) :=
  ts_callVi (b := ad 0) (As := [.int x1]) hc hn hw (cm_makeRoom l hq) rfl (cwV 1 hc.2.2.2.2 (gd_V (by decide +kernel) (by decide +kernel) (by decide +kernel) (by decide +kernel) (code_M_makeRoom)) rfl rfl rfl (by decide +kernel) hR) (va_recv hw.2.2.2.1 hw.1 (ci := 2) (q0 := 0) rfl rfl) rfl hsz hrest hdg kk
end
def rM_use : Room := { frames := 0, cells := 0, slots := 0, locals := 0 }
set_option maxHeartbeats 4000000 in
set_option maxRecDepth 100000 in
theorem cm_use (l : Launch) {u : ts_S} {x1 : Int32} {r0 : Int32} {u0 : ts_S} (hd : dm_use u x1 = some (r0, u0)) : ts_Cv mF l yM_use (.code yM_use bM_use 2 none :: uW) rM_use (fun ad => [.ref (ad 0), .int x1]) u u0 := by
  refine ts_in_v mF l (by decide) (fun p e s m args below meth c D ca ad A hc hn hr hlk hw => ?_)
  have hx := hc.1
  have hb := hc.2.1
  have hl := lv_entry ([.ref (ad 0), .int x1]) (n := 2) (Nat.le_of_ble_eq_true rfl)
  rw [lg_entry_eq]
  generalize (lg_sl ([.ref (ad 0), .int x1]) ++ List.replicate (2 - (lg_sl ([.ref (ad 0), .int x1])).length) Slot.unset).toArray = ls at hl ⊢
  replace hl : lv_has ls 2 [(0, .ref (ad 0)), (1, .int x1)] := hl
  unfold dm_use at hd
  refine lv_aload_n hx hb dM_use_0 rfl (lv_at hl 0 rfl) ?_
  refine lv_dup hx hb dM_use_1 rfl ?_
  refine gM_55 hc hn hw dM_use_2 ?_
  refine lv_iconst (v := 1) hx hb dM_use_5 (by decide) ?_
  refine lv_iadd hx hb dM_use_6 ?_
  refine pM_55 hc hn hw dM_use_7 (fun H locs hw => ?_)
  refine lv_aload_n hx hb dM_use_10 rfl (lv_at hl 0 rfl) ?_
  refine gM_19 hc hn hw dM_use_11 ?_
  refine lv_iload_n hx hb dM_use_14 rfl (lv_at hl 1 rfl) ?_
  refine lv_aload_n hx hb dM_use_15 rfl (lv_at hl 0 rfl) ?_
  refine gM_55 hc hn hw dM_use_16 ?_
  obtain ⟨h, hd⟩ := ts_ix_s hd
  refine mm_s8 hc hw h dM_use_19 (fun H locs hw => ?_)
  exact ts_vret hx hb hr hlk hw hd dM_use_20
section
variable {p : Program} {l : Launch} {e : Env} {R : Room} {s : State} {m : MethodId} {args : Array Value} {below : List Frame} {meth : Method} {c : Code} {H : Heap} {locs : List Loc} {Q : State → Prop} {cc : ByteArray} {pc nL : Nat} {ls : Array Slot} {rest : List Value} {D : va_G} {ca : Nat → ClassId} {ad : Nat → Nat} {A : Nat → Prop} {u : ts_S} {cells slots : Nat}
theorem cM_80 (hc : CallFix p m c cc nL s args uW RM) (hn : nx s) (hw : ts_W mF D ca ad A s H locs u) {x1 : Int32} {r0 : Int32} {u0 : ts_S} (hq : dm_use u x1 = some (r0, u0)) (hsz : ls.size = nL) (hR : rM_use.frames + 1 ≤ R.frames ∧ 8 + (2 + 11) + rM_use.locals ≤ R.locals) (hrest : (rest.map fun v => v.category).sum ≤ 8) (hdg : decode cc pc = .ok (.invokevirtual 80, 3)) (kk : ∀ (H1 : Heap) (locs1 : List Loc), ts_W mF D ca ad A s H1 locs1 u0 → W p l e R s m args below meth c H1 locs1 0 0 Q (F0 m (pc + 3) ls rest)) : W p l e R s m args below meth c H locs 0 0 Q (F0 m pc ls (.int x1 :: .ref (ad 0) :: rest)) :=
  ts_callVv (b := ad 0) (As := [.int x1]) hc hn hw (cm_use l hq) rfl (cwV 1 hc.2.2.2.2 (gd_V (by decide +kernel) (by decide +kernel) (by decide +kernel) (by decide +kernel) (code_M_use)) rfl rfl rfl (by decide +kernel) hR) (va_recv hw.2.2.2.1 hw.1 (ci := 2) (q0 := 0) rfl rfl) rfl hsz hrest hdg kk
end
def rM_create : Room := { frames := 2, cells := 0, slots := 0, locals := 46 }
set_option maxHeartbeats 4000000 in
set_option maxRecDepth 100000 in
theorem cm_create (l : Launch) {u : ts_S} {x1 x2 : Int32} {r0 : Int32} {u0 : ts_S} (hd : dm_create u x1 x2 = some (r0, u0)) : ts_Ci mF l yM_create (.code yM_create bM_create 4 (some .int) :: uW) rM_create (fun ad => [.ref (ad 0), .int x1, .int x2]) u r0 u0 := by
  refine ts_in_i mF l (by decide) (fun p e s m args below meth c D ca ad A hc hn hr hlk hw => ?_)
  have hx := hc.1
  have hb := hc.2.1
  have hl := lv_entry ([.ref (ad 0), .int x1, .int x2]) (n := 4) (Nat.le_of_ble_eq_true rfl)
  rw [lg_entry_eq]
  generalize (lg_sl ([.ref (ad 0), .int x1, .int x2]) ++ List.replicate (4 - (lg_sl ([.ref (ad 0), .int x1, .int x2])).length) Slot.unset).toArray = ls at hl ⊢
  replace hl : lv_has ls 4 [(0, .ref (ad 0)), (1, .int x1), (2, .int x2)] := hl
  have L57 : ∀ (n : Nat) (u : ts_S) (x1 x2 x3 : Int32) (H : Heap) (locs : List Loc) (ls : Array Slot), dm_create_57 n u x1 x2 x3 = some (r0, u0) → ts_W mF D ca ad A s H locs u → lv_has ls 4 [(0, .ref (ad 0)), (1, .int x1), (2, .int x2), (3, .int x3)] → W p l e rM_create s m args below meth c H locs 0 0 (MQ below (va_Qi (fun r v => r = r0 ∧ v = u0) (ts_post mF D ca ad A) A) args s 0 0 A) (F0 m 57 ls []) := by
    intro n
    induction n with
    | zero => intro u x1 x2 x3 H locs ls hd; cases (show (none : Option (Int32 × ts_S)) = some (r0, u0) from hd)
    | succ n57 ih57 =>
      intro u x1 x2 x3 H locs ls hd hw hl
      replace hd : dm_create_57_b (dm_create_57 n57) u x1 x2 x3 = some (r0, u0) := hd
      unfold dm_create_57_b at hd
      refine lv_iload_n hx hb dM_create_57 rfl (lv_at hl 3 rfl) ?_
      refine lv_iconst (v := 4) hx hb dM_create_58 (by decide) ?_
      refine lv_icmp_ge (tgt := 79) hx hb dM_create_59 (by decide) (fun cq => ?_) (fun cq => ?_)
      · replace hd := ts_if_p cq hd
        refine lv_aload_n hx hb dM_create_79 rfl (lv_at hl 0 rfl) ?_
        refine lv_iload_n hx hb dM_create_80 rfl (lv_at hl 1 rfl) ?_
        obtain ⟨r81, u81, hq, hd⟩ := ts_b_s hd
        refine cM_80 hc hn hw hq hl.1 ⟨Nat.le_of_ble_eq_true rfl, Nat.le_of_ble_eq_true rfl⟩ (Nat.le_of_ble_eq_true rfl) dM_create_81 (fun H locs hw => ?_)
        refine lv_iconst (v := 0) hx hb dM_create_84 (by decide) ?_
        exact ts_iret hx hb hr hlk (vp_nar_int _) hw hd dM_create_85
      · replace hd := ts_if_n cq hd
        refine lv_aload_n hx hb dM_create_62 rfl (lv_at hl 0 rfl) ?_
        refine gM_16 hc hn hw dM_create_63 ?_
        refine lv_iload_n hx hb dM_create_66 rfl (lv_at hl 1 rfl) ?_
        refine lv_iconst (v := 4) hx hb dM_create_67 (by decide) ?_
        refine lv_imul hx hb dM_create_68 ?_
        refine lv_iload_n hx hb dM_create_69 rfl (lv_at hl 3 rfl) ?_
        refine lv_iadd hx hb dM_create_70 ?_
        refine lv_iconst (v := 0) hx hb dM_create_71 (by decide) ?_
        obtain ⟨h, hd⟩ := ts_ix_s hd
        refine mm_s4 hc hw h dM_create_72 (fun H locs hw => ?_)
        refine lv_iinc (v := (x3 + 1)) (lv' := [(3, .int (x3 + 1)), (0, .ref (ad 0)), (1, .int x1), (2, .int x2)]) hx hb dM_create_73 hl (k := 3) rfl rfl (by decide) rfl (fun ls hl => ?_)
        refine lv_goto (tgt := 57) hx hb dM_create_76 (by decide) ?_
        exact ih57 (ts_a 4 ((x1 * 4) + x3).toNatClampNeg 0 u) x1 x2 (x3 + 1) _ _ _ hd hw (lv_sub hl [1, 2, 3, 0] rfl)
  unfold dm_create at hd
  refine lv_iload_n hx hb dM_create_0 rfl (lv_at hl 1 rfl) ?_
  refine lv_bipush (v := 16) hx hb dM_create_1 (by decide) ?_
  obtain ⟨r3, u3, hq, hd⟩ := ts_b_s hd
  refine cM_51 hc hn hw hq hl.1 ⟨Nat.le_of_ble_eq_true rfl, Nat.le_of_ble_eq_true rfl⟩ (Nat.le_of_ble_eq_true rfl) dM_create_3 (fun H locs hw => ?_)
  refine lv_if_eq (tgt := 28) hx hb dM_create_6 (by decide) (fun cq => ?_) (fun cq => ?_)
  · replace hd := ts_if_p cq hd
    refine lv_iconst (v := (-1)) hx hb dM_create_28 (by decide) ?_
    exact ts_iret hx hb hr hlk (vp_nar_int _) hw hd dM_create_29
  · replace hd := ts_if_n cq hd
    refine lv_iload_n hx hb dM_create_9 rfl (lv_at hl 2 rfl) ?_
    refine lv_iconst (v := 1) hx hb dM_create_10 (by decide) ?_
    refine lv_icmp_lt (tgt := 28) hx hb dM_create_11 (by decide) (fun cq => ?_) (fun cq => ?_)
    · replace hd := ts_if_p cq hd
      refine lv_iconst (v := (-1)) hx hb dM_create_28 (by decide) ?_
      exact ts_iret hx hb hr hlk (vp_nar_int _) hw hd dM_create_29
    · replace hd := ts_if_n cq hd
      refine lv_iload_n hx hb dM_create_14 rfl (lv_at hl 2 rfl) ?_
      refine lv_iconst (v := 4) hx hb dM_create_15 (by decide) ?_
      refine lv_icmp_gt (tgt := 28) hx hb dM_create_16 (by decide) (fun cq => ?_) (fun cq => ?_)
      · replace hd := ts_if_p cq hd
        refine lv_iconst (v := (-1)) hx hb dM_create_28 (by decide) ?_
        exact ts_iret hx hb hr hlk (vp_nar_int _) hw hd dM_create_29
      · replace hd := ts_if_n cq hd
        refine lv_aload_n hx hb dM_create_19 rfl (lv_at hl 0 rfl) ?_
        refine gM_7 hc hn hw dM_create_20 ?_
        refine lv_iload_n hx hb dM_create_23 rfl (lv_at hl 1 rfl) ?_
        obtain ⟨h, hd⟩ := ts_ix_s hd
        refine mm_l2 hc hw h dM_create_24 ?_
        refine lv_if_eq (tgt := 30) hx hb dM_create_25 (by decide) (fun cq => ?_) (fun cq => ?_)
        · replace hd := ts_if_p cq hd
          refine lv_aload_n hx hb dM_create_30 rfl (lv_at hl 0 rfl) ?_
          refine lv_iload_n hx hb dM_create_31 rfl (lv_at hl 2 rfl) ?_
          obtain ⟨r32, u32, hq, hd⟩ := ts_b_s hd
          refine cM_72 hc hn hw hq hl.1 ⟨Nat.le_of_ble_eq_true rfl, Nat.le_of_ble_eq_true rfl⟩ (Nat.le_of_ble_eq_true rfl) dM_create_32 (fun H locs hw => ?_)
          refine lv_if_ne (tgt := 41) hx hb dM_create_35 (by decide) (fun cq => ?_) (fun cq => ?_)
          · replace hd := ts_if_n cq hd
            refine lv_aload_n hx hb dM_create_41 rfl (lv_at hl 0 rfl) ?_
            refine gM_7 hc hn hw dM_create_42 ?_
            refine lv_iload_n hx hb dM_create_45 rfl (lv_at hl 1 rfl) ?_
            refine lv_iconst (v := 1) hx hb dM_create_46 (by decide) ?_
            obtain ⟨h, hd⟩ := ts_ix_s hd
            refine mm_s2 hc hw h dM_create_47 (fun H locs hw => ?_)
            refine lv_aload_n hx hb dM_create_48 rfl (lv_at hl 0 rfl) ?_
            refine gM_13 hc hn hw dM_create_49 ?_
            refine lv_iload_n hx hb dM_create_52 rfl (lv_at hl 1 rfl) ?_
            refine lv_iload_n hx hb dM_create_53 rfl (lv_at hl 2 rfl) ?_
            obtain ⟨h, hd⟩ := ts_ix_s hd
            refine mm_s3 hc hw h dM_create_54 (fun H locs hw => ?_)
            refine lv_iconst (v := 0) hx hb dM_create_55 (by decide) ?_
            refine lv_istore_n (lv' := [(3, .int 0), (0, .ref (ad 0)), (1, .int x1), (2, .int x2)]) hx hb dM_create_56 rfl hl (by decide) rfl (fun ls hl => ?_)
            exact L57 40 (ts_a 3 x1.toNatClampNeg x2 (ts_a 2 x1.toNatClampNeg 1 u32)) x1 x2 0 _ _ _ hd hw (lv_sub hl [1, 2, 3, 0] rfl)
          · replace hd := ts_if_p cq hd
            refine lv_bipush (v := (-2)) hx hb dM_create_38 (by decide) ?_
            exact ts_iret hx hb hr hlk (vp_nar_int _) hw hd dM_create_40
        · replace hd := ts_if_n cq hd
          refine lv_iconst (v := (-1)) hx hb dM_create_28 (by decide) ?_
          exact ts_iret hx hb hr hlk (vp_nar_int _) hw hd dM_create_29
def rM_move : Room := { frames := 0, cells := 0, slots := 0, locals := 0 }
set_option maxHeartbeats 4000000 in
set_option maxRecDepth 100000 in
theorem cm_move (l : Launch) {u : ts_S} {x1 x2 x3 : Int32} {r0 : Int32} {u0 : ts_S} (hd : dm_move u x1 x2 x3 = some (r0, u0)) : ts_Cv mF l yM_move (.code yM_move bM_move 4 none :: uW) rM_move (fun ad => [.ref (ad 0), .int x1, .int x2, .int x3]) u u0 := by
  refine ts_in_v mF l (by decide) (fun p e s m args below meth c D ca ad A hc hn hr hlk hw => ?_)
  have hx := hc.1
  have hb := hc.2.1
  have hl := lv_entry ([.ref (ad 0), .int x1, .int x2, .int x3]) (n := 4) (Nat.le_of_ble_eq_true rfl)
  rw [lg_entry_eq]
  generalize (lg_sl ([.ref (ad 0), .int x1, .int x2, .int x3]) ++ List.replicate (4 - (lg_sl ([.ref (ad 0), .int x1, .int x2, .int x3])).length) Slot.unset).toArray = ls at hl ⊢
  replace hl : lv_has ls 4 [(0, .ref (ad 0)), (1, .int x1), (2, .int x2), (3, .int x3)] := hl
  unfold dm_move at hd
  refine lv_aload_n hx hb dM_move_0 rfl (lv_at hl 0 rfl) ?_
  refine gM_41 hc hn hw dM_move_1 ?_
  refine lv_iload_n hx hb dM_move_4 rfl (lv_at hl 1 rfl) ?_
  refine lv_icmp_eq (tgt := 29) hx hb dM_move_5 (by decide) (fun cq => ?_) (fun cq => ?_)
  · replace hd := ts_if_p cq hd
    refine lv_aload_n hx hb dM_move_29 rfl (lv_at hl 0 rfl) ?_
    refine lv_dup hx hb dM_move_30 rfl ?_
    refine gM_66 hc hn hw dM_move_31 ?_
    refine lv_aload_n hx hb dM_move_34 rfl (lv_at hl 0 rfl) ?_
    refine gM_69 hc hn hw dM_move_35 ?_
    refine lv_iload_n hx hb dM_move_38 rfl (lv_at hl 2 rfl) ?_
    refine lv_icmp_ge (tgt := 51) hx hb dM_move_39 (by decide) (fun cq => ?_) (fun cq => ?_)
    · replace hd := ts_if_p cq hd
      refine lv_aload_n hx hb dM_move_51 rfl (lv_at hl 0 rfl) ?_
      refine gM_69 hc hn hw dM_move_52 ?_
      refine lv_iload_n hx hb dM_move_55 rfl (lv_at hl 2 rfl) ?_
      refine lv_isub hx hb dM_move_56 ?_
      refine lv_iadd hx hb dM_move_57 ?_
      refine pM_66 hc hn hw dM_move_58 (fun H locs hw => ?_)
      refine lv_aload_n hx hb dM_move_61 rfl (lv_at hl 0 rfl) ?_
      refine lv_dup hx hb dM_move_62 rfl ?_
      refine gM_66 hc hn hw dM_move_63 ?_
      refine lv_iload_n hx hb dM_move_66 rfl (lv_at hl 3 rfl) ?_
      refine lv_iadd hx hb dM_move_67 ?_
      refine pM_66 hc hn hw dM_move_68 (fun H locs hw => ?_)
      refine lv_aload_n hx hb dM_move_71 rfl (lv_at hl 0 rfl) ?_
      refine lv_iload_n hx hb dM_move_72 rfl (lv_at hl 2 rfl) ?_
      refine lv_iload_n hx hb dM_move_73 rfl (lv_at hl 3 rfl) ?_
      refine lv_iadd hx hb dM_move_74 ?_
      refine pM_69 hc hn hw dM_move_75 (fun H locs hw => ?_)
      exact ts_vret hx hb hr hlk hw hd dM_move_78
    · replace hd := ts_if_n cq hd
      refine lv_iload_n hx hb dM_move_42 rfl (lv_at hl 2 rfl) ?_
      refine lv_aload_n hx hb dM_move_43 rfl (lv_at hl 0 rfl) ?_
      refine gM_69 hc hn hw dM_move_44 ?_
      refine lv_isub hx hb dM_move_47 ?_
      refine lv_goto (tgt := 57) hx hb dM_move_48 (by decide) ?_
      refine lv_iadd hx hb dM_move_57 ?_
      refine pM_66 hc hn hw dM_move_58 (fun H locs hw => ?_)
      refine lv_aload_n hx hb dM_move_61 rfl (lv_at hl 0 rfl) ?_
      refine lv_dup hx hb dM_move_62 rfl ?_
      refine gM_66 hc hn hw dM_move_63 ?_
      refine lv_iload_n hx hb dM_move_66 rfl (lv_at hl 3 rfl) ?_
      refine lv_iadd hx hb dM_move_67 ?_
      refine pM_66 hc hn hw dM_move_68 (fun H locs hw => ?_)
      refine lv_aload_n hx hb dM_move_71 rfl (lv_at hl 0 rfl) ?_
      refine lv_iload_n hx hb dM_move_72 rfl (lv_at hl 2 rfl) ?_
      refine lv_iload_n hx hb dM_move_73 rfl (lv_at hl 3 rfl) ?_
      refine lv_iadd hx hb dM_move_74 ?_
      refine pM_69 hc hn hw dM_move_75 (fun H locs hw => ?_)
      exact ts_vret hx hb hr hlk hw hd dM_move_78
  · replace hd := ts_if_n cq hd
    refine lv_aload_n hx hb dM_move_8 rfl (lv_at hl 0 rfl) ?_
    refine lv_dup hx hb dM_move_9 rfl ?_
    refine gM_66 hc hn hw dM_move_10 ?_
    refine lv_bipush (v := 20) hx hb dM_move_13 (by decide) ?_
    refine lv_iadd hx hb dM_move_15 ?_
    refine pM_66 hc hn hw dM_move_16 (fun H locs hw => ?_)
    refine lv_aload_n hx hb dM_move_19 rfl (lv_at hl 0 rfl) ?_
    refine lv_iload_n hx hb dM_move_20 rfl (lv_at hl 1 rfl) ?_
    refine pM_41 hc hn hw dM_move_21 (fun H locs hw => ?_)
    refine lv_aload_n hx hb dM_move_24 rfl (lv_at hl 0 rfl) ?_
    refine lv_iconst (v := 0) hx hb dM_move_25 (by decide) ?_
    refine pM_69 hc hn hw dM_move_26 (fun H locs hw => ?_)
    refine lv_aload_n hx hb dM_move_29 rfl (lv_at hl 0 rfl) ?_
    refine lv_dup hx hb dM_move_30 rfl ?_
    refine gM_66 hc hn hw dM_move_31 ?_
    refine lv_aload_n hx hb dM_move_34 rfl (lv_at hl 0 rfl) ?_
    refine gM_69 hc hn hw dM_move_35 ?_
    refine lv_iload_n hx hb dM_move_38 rfl (lv_at hl 2 rfl) ?_
    refine lv_icmp_ge (tgt := 51) hx hb dM_move_39 (by decide) (fun cq => ?_) (fun cq => ?_)
    · replace hd := ts_if_p cq hd
      refine lv_aload_n hx hb dM_move_51 rfl (lv_at hl 0 rfl) ?_
      refine gM_69 hc hn hw dM_move_52 ?_
      refine lv_iload_n hx hb dM_move_55 rfl (lv_at hl 2 rfl) ?_
      refine lv_isub hx hb dM_move_56 ?_
      refine lv_iadd hx hb dM_move_57 ?_
      refine pM_66 hc hn hw dM_move_58 (fun H locs hw => ?_)
      refine lv_aload_n hx hb dM_move_61 rfl (lv_at hl 0 rfl) ?_
      refine lv_dup hx hb dM_move_62 rfl ?_
      refine gM_66 hc hn hw dM_move_63 ?_
      refine lv_iload_n hx hb dM_move_66 rfl (lv_at hl 3 rfl) ?_
      refine lv_iadd hx hb dM_move_67 ?_
      refine pM_66 hc hn hw dM_move_68 (fun H locs hw => ?_)
      refine lv_aload_n hx hb dM_move_71 rfl (lv_at hl 0 rfl) ?_
      refine lv_iload_n hx hb dM_move_72 rfl (lv_at hl 2 rfl) ?_
      refine lv_iload_n hx hb dM_move_73 rfl (lv_at hl 3 rfl) ?_
      refine lv_iadd hx hb dM_move_74 ?_
      refine pM_69 hc hn hw dM_move_75 (fun H locs hw => ?_)
      exact ts_vret hx hb hr hlk hw hd dM_move_78
    · replace hd := ts_if_n cq hd
      refine lv_iload_n hx hb dM_move_42 rfl (lv_at hl 2 rfl) ?_
      refine lv_aload_n hx hb dM_move_43 rfl (lv_at hl 0 rfl) ?_
      refine gM_69 hc hn hw dM_move_44 ?_
      refine lv_isub hx hb dM_move_47 ?_
      refine lv_goto (tgt := 57) hx hb dM_move_48 (by decide) ?_
      refine lv_iadd hx hb dM_move_57 ?_
      refine pM_66 hc hn hw dM_move_58 (fun H locs hw => ?_)
      refine lv_aload_n hx hb dM_move_61 rfl (lv_at hl 0 rfl) ?_
      refine lv_dup hx hb dM_move_62 rfl ?_
      refine gM_66 hc hn hw dM_move_63 ?_
      refine lv_iload_n hx hb dM_move_66 rfl (lv_at hl 3 rfl) ?_
      refine lv_iadd hx hb dM_move_67 ?_
      refine pM_66 hc hn hw dM_move_68 (fun H locs hw => ?_)
      refine lv_aload_n hx hb dM_move_71 rfl (lv_at hl 0 rfl) ?_
      refine lv_iload_n hx hb dM_move_72 rfl (lv_at hl 2 rfl) ?_
      refine lv_iload_n hx hb dM_move_73 rfl (lv_at hl 3 rfl) ?_
      refine lv_iadd hx hb dM_move_74 ?_
      refine pM_69 hc hn hw dM_move_75 (fun H locs hw => ?_)
      exact ts_vret hx hb hr hlk hw hd dM_move_78
section
variable {p : Program} {l : Launch} {e : Env} {R : Room} {s : State} {m : MethodId} {args : Array Value} {below : List Frame} {meth : Method} {c : Code} {H : Heap} {locs : List Loc} {Q : State → Prop} {cc : ByteArray} {pc nL : Nat} {ls : Array Slot} {rest : List Value} {D : va_G} {ca : Nat → ClassId} {ad : Nat → Nat} {A : Nat → Prop} {u : ts_S} {cells slots : Nat}
theorem cM_76 (hc : CallFix p m c cc nL s args uW RM) (hn : nx s) (hw : ts_W mF D ca ad A s H locs u) {x1 x2 x3 : Int32} {r0 : Int32} {u0 : ts_S} (hq : dm_move u x1 x2 x3 = some (r0, u0)) (hsz : ls.size = nL) (hR : rM_move.frames + 1 ≤ R.frames ∧ 8 + (4 + 11) + rM_move.locals ≤ R.locals) (hrest : (rest.map fun v => v.category).sum ≤ 8) (hdg : decode cc pc = .ok (.invokevirtual 76, 3)) (kk : ∀ (H1 : Heap) (locs1 : List Loc), ts_W mF D ca ad A s H1 locs1 u0 → W p l e R s m args below meth c H1 locs1 0 0 Q (F0 m (pc + 3) ls rest)) : W p l e R s m args below meth c H locs 0 0 Q (F0 m pc ls (.int x3 :: .int x2 :: .int x1 :: .ref (ad 0) :: rest)) :=
  ts_callVv (b := ad 0) (As := [.int x1, .int x2, .int x3]) hc hn hw (cm_move l hq) rfl (cwV 3 hc.2.2.2.2 (gd_V (by decide +kernel) (by decide +kernel) (by decide +kernel) (by decide +kernel) (code_M_move)) rfl rfl rfl (by decide +kernel) hR) (va_recv hw.2.2.2.1 hw.1 (ci := 2) (q0 := 0) rfl rfl) rfl hsz hrest hdg kk
end
def rM_bringBack : Room := { frames := 2, cells := 0, slots := 0, locals := 46 }
set_option maxHeartbeats 4000000 in
set_option maxRecDepth 100000 in
theorem cm_bringBack (l : Launch) {u : ts_S} {x1 : Int32} {r0 : Int32} {u0 : ts_S} (hd : dm_bringBack u x1 = some (r0, u0)) : ts_Ci mF l yM_bringBack (.code yM_bringBack bM_bringBack 2 (some .boolean) :: uW) rM_bringBack (fun ad => [.ref (ad 0), .int x1]) u r0 u0 := by
  refine ts_in_i mF l (by decide) (fun p e s m args below meth c D ca ad A hc hn hr hlk hw => ?_)
  have hx := hc.1
  have hb := hc.2.1
  have hl := lv_entry ([.ref (ad 0), .int x1]) (n := 2) (Nat.le_of_ble_eq_true rfl)
  rw [lg_entry_eq]
  generalize (lg_sl ([.ref (ad 0), .int x1]) ++ List.replicate (2 - (lg_sl ([.ref (ad 0), .int x1])).length) Slot.unset).toArray = ls at hl ⊢
  replace hl : lv_has ls 2 [(0, .ref (ad 0)), (1, .int x1)] := hl
  unfold dm_bringBack at hd
  refine lv_aload_n hx hb dM_bringBack_0 rfl (lv_at hl 0 rfl) ?_
  refine lv_aload_n hx hb dM_bringBack_1 rfl (lv_at hl 0 rfl) ?_
  refine gM_13 hc hn hw dM_bringBack_2 ?_
  refine lv_iload_n hx hb dM_bringBack_5 rfl (lv_at hl 1 rfl) ?_
  obtain ⟨h, hd⟩ := ts_ix_s hd
  refine mm_l3 hc hw h dM_bringBack_6 ?_
  obtain ⟨r7, u7, hq, hd⟩ := ts_b_s hd
  refine cM_72 hc hn hw hq hl.1 ⟨Nat.le_of_ble_eq_true rfl, Nat.le_of_ble_eq_true rfl⟩ (Nat.le_of_ble_eq_true rfl) dM_bringBack_7 (fun H locs hw => ?_)
  refine lv_if_ne (tgt := 15) hx hb dM_bringBack_10 (by decide) (fun cq => ?_) (fun cq => ?_)
  · replace hd := ts_if_n cq hd
    refine lv_aload_n hx hb dM_bringBack_15 rfl (lv_at hl 0 rfl) ?_
    refine lv_aload_n hx hb dM_bringBack_16 rfl (lv_at hl 0 rfl) ?_
    refine gM_22 hc hn hw dM_bringBack_17 ?_
    refine lv_iload_n hx hb dM_bringBack_20 rfl (lv_at hl 1 rfl) ?_
    obtain ⟨h, hd⟩ := ts_ix_s hd
    refine mm_l5 hc hw h dM_bringBack_21 ?_
    refine lv_aload_n hx hb dM_bringBack_22 rfl (lv_at hl 0 rfl) ?_
    refine gM_25 hc hn hw dM_bringBack_23 ?_
    refine lv_iload_n hx hb dM_bringBack_26 rfl (lv_at hl 1 rfl) ?_
    obtain ⟨h, hd⟩ := ts_ix_s hd
    refine mm_l6 hc hw h dM_bringBack_27 ?_
    refine lv_aload_n hx hb dM_bringBack_28 rfl (lv_at hl 0 rfl) ?_
    refine gM_13 hc hn hw dM_bringBack_29 ?_
    refine lv_iload_n hx hb dM_bringBack_32 rfl (lv_at hl 1 rfl) ?_
    obtain ⟨h, hd⟩ := ts_ix_s hd
    refine mm_l3 hc hw h dM_bringBack_33 ?_
    obtain ⟨r34, u34, hq, hd⟩ := ts_b_s hd
    refine cM_76 hc hn hw hq hl.1 ⟨Nat.le_of_ble_eq_true rfl, Nat.le_of_ble_eq_true rfl⟩ (Nat.le_of_ble_eq_true rfl) dM_bringBack_34 (fun H locs hw => ?_)
    refine lv_aload_n hx hb dM_bringBack_37 rfl (lv_at hl 0 rfl) ?_
    refine gM_7 hc hn hw dM_bringBack_38 ?_
    refine lv_iload_n hx hb dM_bringBack_41 rfl (lv_at hl 1 rfl) ?_
    refine lv_iconst (v := 2) hx hb dM_bringBack_42 (by decide) ?_
    obtain ⟨h, hd⟩ := ts_ix_s hd
    refine mm_s2 hc hw h dM_bringBack_43 (fun H locs hw => ?_)
    refine lv_aload_n hx hb dM_bringBack_44 rfl (lv_at hl 0 rfl) ?_
    refine lv_iload_n hx hb dM_bringBack_45 rfl (lv_at hl 1 rfl) ?_
    obtain ⟨r46, u46, hq, hd⟩ := ts_b_s hd
    refine cM_80 hc hn hw hq hl.1 ⟨Nat.le_of_ble_eq_true rfl, Nat.le_of_ble_eq_true rfl⟩ (Nat.le_of_ble_eq_true rfl) dM_bringBack_46 (fun H locs hw => ?_)
    refine lv_iconst (v := 1) hx hb dM_bringBack_49 (by decide) ?_
    exact ts_iret hx hb hr hlk (by decide +kernel) hw hd dM_bringBack_50
  · replace hd := ts_if_p cq hd
    refine lv_iconst (v := 0) hx hb dM_bringBack_13 (by decide) ?_
    exact ts_iret hx hb hr hlk (by decide +kernel) hw hd dM_bringBack_14
section
variable {p : Program} {l : Launch} {e : Env} {R : Room} {s : State} {m : MethodId} {args : Array Value} {below : List Frame} {meth : Method} {c : Code} {H : Heap} {locs : List Loc} {Q : State → Prop} {cc : ByteArray} {pc nL : Nat} {ls : Array Slot} {rest : List Value} {D : va_G} {ca : Nat → ClassId} {ad : Nat → Nat} {A : Nat → Prop} {u : ts_S} {cells slots : Nat}
theorem cM_87 (hc : CallFix p m c cc nL s args uW RM) (hn : nx s) (hw : ts_W mF D ca ad A s H locs u) {x1 : Int32} {r0 : Int32} {u0 : ts_S} (hq : dm_bringBack u x1 = some (r0, u0)) (hsz : ls.size = nL) (hR : rM_bringBack.frames + 1 ≤ R.frames ∧ 8 + (2 + 11) + rM_bringBack.locals ≤ R.locals) (hrest : (rest.map fun v => v.category).sum ≤ 8) (hdg : decode cc pc = .ok (.invokevirtual 87, 3)) (kk : ∀ (H1 : Heap) (locs1 : List Loc), ts_W mF D ca ad A s H1 locs1 u0 → W p l e R s m args below meth c H1 locs1 0 0 Q (F0 m (pc + 3) ls (.int r0 :: rest))) : W p l e R s m args below meth c H locs 0 0 Q (F0 m pc ls (.int x1 :: .ref (ad 0) :: rest)) :=
  ts_callVi (b := ad 0) (As := [.int x1]) hc hn hw (cm_bringBack l hq) rfl (cwV 1 hc.2.2.2.2 (gd_V (by decide +kernel) (by decide +kernel) (by decide +kernel) (by decide +kernel) (code_M_bringBack)) rfl rfl rfl (by decide +kernel) hR) (va_recv hw.2.2.2.1 hw.1 (ci := 2) (q0 := 0) rfl rfl) rfl hsz hrest hdg kk
end
def rM_there : Room := { frames := 1, cells := 0, slots := 0, locals := 21 }
set_option maxHeartbeats 4000000 in
set_option maxRecDepth 100000 in
theorem cm_there (l : Launch) {u : ts_S} {x1 : Int32} {r0 : Int32} {u0 : ts_S} (hd : dm_there u x1 = some (r0, u0)) : ts_Ci mF l yM_there (.code yM_there bM_there 2 (some .boolean) :: uW) rM_there (fun ad => [.ref (ad 0), .int x1]) u r0 u0 := by
  refine ts_in_i mF l (by decide) (fun p e s m args below meth c D ca ad A hc hn hr hlk hw => ?_)
  have hx := hc.1
  have hb := hc.2.1
  have hl := lv_entry ([.ref (ad 0), .int x1]) (n := 2) (Nat.le_of_ble_eq_true rfl)
  rw [lg_entry_eq]
  generalize (lg_sl ([.ref (ad 0), .int x1]) ++ List.replicate (2 - (lg_sl ([.ref (ad 0), .int x1])).length) Slot.unset).toArray = ls at hl ⊢
  replace hl : lv_has ls 2 [(0, .ref (ad 0)), (1, .int x1)] := hl
  unfold dm_there at hd
  refine lv_iload_n hx hb dM_there_0 rfl (lv_at hl 1 rfl) ?_
  refine lv_bipush (v := 16) hx hb dM_there_1 (by decide) ?_
  obtain ⟨r3, u3, hq, hd⟩ := ts_b_s hd
  refine cM_51 hc hn hw hq hl.1 ⟨Nat.le_of_ble_eq_true rfl, Nat.le_of_ble_eq_true rfl⟩ (Nat.le_of_ble_eq_true rfl) dM_there_3 (fun H locs hw => ?_)
  refine lv_if_eq (tgt := 22) hx hb dM_there_6 (by decide) (fun cq => ?_) (fun cq => ?_)
  · replace hd := ts_if_p cq hd
    refine lv_iconst (v := 0) hx hb dM_there_22 (by decide) ?_
    exact ts_iret hx hb hr hlk (by decide +kernel) hw hd dM_there_23
  · replace hd := ts_if_n cq hd
    refine lv_aload_n hx hb dM_there_9 rfl (lv_at hl 0 rfl) ?_
    refine gM_7 hc hn hw dM_there_10 ?_
    refine lv_iload_n hx hb dM_there_13 rfl (lv_at hl 1 rfl) ?_
    obtain ⟨h, hd⟩ := ts_ix_s hd
    refine mm_l2 hc hw h dM_there_14 ?_
    refine lv_if_eq (tgt := 22) hx hb dM_there_15 (by decide) (fun cq => ?_) (fun cq => ?_)
    · replace hd := ts_if_p cq hd
      refine lv_iconst (v := 0) hx hb dM_there_22 (by decide) ?_
      exact ts_iret hx hb hr hlk (by decide +kernel) hw hd dM_there_23
    · replace hd := ts_if_n cq hd
      refine lv_iconst (v := 1) hx hb dM_there_18 (by decide) ?_
      refine lv_goto (tgt := 23) hx hb dM_there_19 (by decide) ?_
      exact ts_iret hx hb hr hlk (by decide +kernel) hw hd dM_there_23
section
variable {p : Program} {l : Launch} {e : Env} {R : Room} {s : State} {m : MethodId} {args : Array Value} {below : List Frame} {meth : Method} {c : Code} {H : Heap} {locs : List Loc} {Q : State → Prop} {cc : ByteArray} {pc nL : Nat} {ls : Array Slot} {rest : List Value} {D : va_G} {ca : Nat → ClassId} {ad : Nat → Nat} {A : Nat → Prop} {u : ts_S} {cells slots : Nat}
theorem cM_84 (hc : CallFix p m c cc nL s args uW RM) (hn : nx s) (hw : ts_W mF D ca ad A s H locs u) {x1 : Int32} {r0 : Int32} {u0 : ts_S} (hq : dm_there u x1 = some (r0, u0)) (hsz : ls.size = nL) (hR : rM_there.frames + 1 ≤ R.frames ∧ 8 + (2 + 11) + rM_there.locals ≤ R.locals) (hrest : (rest.map fun v => v.category).sum ≤ 8) (hdg : decode cc pc = .ok (.invokevirtual 84, 3)) (kk : ∀ (H1 : Heap) (locs1 : List Loc), ts_W mF D ca ad A s H1 locs1 u0 → W p l e R s m args below meth c H1 locs1 0 0 Q (F0 m (pc + 3) ls (.int r0 :: rest))) : W p l e R s m args below meth c H locs 0 0 Q (F0 m pc ls (.int x1 :: .ref (ad 0) :: rest)) :=
  ts_callVi (b := ad 0) (As := [.int x1]) hc hn hw (cm_there l hq) rfl (cwV 1 hc.2.2.2.2 (gd_V (by decide +kernel) (by decide +kernel) (by decide +kernel) (by decide +kernel) (code_M_there)) rfl rfl rfl (by decide +kernel) hR) (va_recv hw.2.2.2.1 hw.1 (ci := 2) (q0 := 0) rfl rfl) rfl hsz hrest hdg kk
end
def rM_write : Room := { frames := 3, cells := 0, slots := 0, locals := 67 }
set_option maxHeartbeats 4000000 in
set_option maxRecDepth 100000 in
theorem cm_write (l : Launch) {u : ts_S} {x1 x2 x3 : Int32} {r0 : Int32} {u0 : ts_S} (hd : dm_write u x1 x2 x3 = some (r0, u0)) : ts_Ci mF l yM_write (.code yM_write bM_write 4 (some .int) :: uW) rM_write (fun ad => [.ref (ad 0), .int x1, .int x2, .int x3]) u r0 u0 := by
  refine ts_in_i mF l (by decide) (fun p e s m args below meth c D ca ad A hc hn hr hlk hw => ?_)
  have hx := hc.1
  have hb := hc.2.1
  have hl := lv_entry ([.ref (ad 0), .int x1, .int x2, .int x3]) (n := 4) (Nat.le_of_ble_eq_true rfl)
  rw [lg_entry_eq]
  generalize (lg_sl ([.ref (ad 0), .int x1, .int x2, .int x3]) ++ List.replicate (4 - (lg_sl ([.ref (ad 0), .int x1, .int x2, .int x3])).length) Slot.unset).toArray = ls at hl ⊢
  replace hl : lv_has ls 4 [(0, .ref (ad 0)), (1, .int x1), (2, .int x2), (3, .int x3)] := hl
  unfold dm_write at hd
  refine lv_aload_n hx hb dM_write_0 rfl (lv_at hl 0 rfl) ?_
  refine lv_iload_n hx hb dM_write_1 rfl (lv_at hl 1 rfl) ?_
  obtain ⟨r2, u2, hq, hd⟩ := ts_b_s hd
  refine cM_84 hc hn hw hq hl.1 ⟨Nat.le_of_ble_eq_true rfl, Nat.le_of_ble_eq_true rfl⟩ (Nat.le_of_ble_eq_true rfl) dM_write_2 (fun H locs hw => ?_)
  refine lv_if_eq (tgt := 21) hx hb dM_write_5 (by decide) (fun cq => ?_) (fun cq => ?_)
  · replace hd := ts_if_p cq hd
    refine lv_iconst (v := (-1)) hx hb dM_write_21 (by decide) ?_
    exact ts_iret hx hb hr hlk (vp_nar_int _) hw hd dM_write_22
  · replace hd := ts_if_n cq hd
    refine lv_iload_n hx hb dM_write_8 rfl (lv_at hl 2 rfl) ?_
    refine lv_aload_n hx hb dM_write_9 rfl (lv_at hl 0 rfl) ?_
    refine gM_13 hc hn hw dM_write_10 ?_
    refine lv_iload_n hx hb dM_write_13 rfl (lv_at hl 1 rfl) ?_
    obtain ⟨h, hd⟩ := ts_ix_s hd
    refine mm_l3 hc hw h dM_write_14 ?_
    obtain ⟨r15, u15, hq, hd⟩ := ts_b_s hd
    refine cM_51 hc hn hw hq hl.1 ⟨Nat.le_of_ble_eq_true rfl, Nat.le_of_ble_eq_true rfl⟩ (Nat.le_of_ble_eq_true rfl) dM_write_15 (fun H locs hw => ?_)
    refine lv_if_ne (tgt := 23) hx hb dM_write_18 (by decide) (fun cq => ?_) (fun cq => ?_)
    · replace hd := ts_if_n cq hd
      refine lv_aload_n hx hb dM_write_23 rfl (lv_at hl 0 rfl) ?_
      refine gM_7 hc hn hw dM_write_24 ?_
      refine lv_iload_n hx hb dM_write_27 rfl (lv_at hl 1 rfl) ?_
      obtain ⟨h, hd⟩ := ts_ix_s hd
      refine mm_l2 hc hw h dM_write_28 ?_
      refine lv_iconst (v := 4) hx hb dM_write_29 (by decide) ?_
      refine lv_icmp_ne (tgt := 36) hx hb dM_write_30 (by decide) (fun cq => ?_) (fun cq => ?_)
      · replace hd := ts_if_n cq hd
        refine lv_aload_n hx hb dM_write_36 rfl (lv_at hl 0 rfl) ?_
        refine gM_7 hc hn hw dM_write_37 ?_
        refine lv_iload_n hx hb dM_write_40 rfl (lv_at hl 1 rfl) ?_
        obtain ⟨h, hd⟩ := ts_ix_s hd
        refine mm_l2 hc hw h dM_write_41 ?_
        refine lv_iconst (v := 3) hx hb dM_write_42 (by decide) ?_
        refine lv_icmp_ne (tgt := 57) hx hb dM_write_43 (by decide) (fun cq => ?_) (fun cq => ?_)
        · replace hd := ts_if_n cq hd
          refine lv_aload_n hx hb dM_write_57 rfl (lv_at hl 0 rfl) ?_
          refine gM_16 hc hn hw dM_write_58 ?_
          refine lv_iload_n hx hb dM_write_61 rfl (lv_at hl 1 rfl) ?_
          refine lv_iconst (v := 4) hx hb dM_write_62 (by decide) ?_
          refine lv_imul hx hb dM_write_63 ?_
          refine lv_iload_n hx hb dM_write_64 rfl (lv_at hl 2 rfl) ?_
          refine lv_iadd hx hb dM_write_65 ?_
          refine lv_iload_n hx hb dM_write_66 rfl (lv_at hl 3 rfl) ?_
          obtain ⟨h, hd⟩ := ts_ix_s hd
          refine mm_s4 hc hw h dM_write_67 (fun H locs hw => ?_)
          refine lv_aload_n hx hb dM_write_68 rfl (lv_at hl 0 rfl) ?_
          refine gM_7 hc hn hw dM_write_69 ?_
          refine lv_iload_n hx hb dM_write_72 rfl (lv_at hl 1 rfl) ?_
          refine lv_iconst (v := 1) hx hb dM_write_73 (by decide) ?_
          obtain ⟨h, hd⟩ := ts_ix_s hd
          refine mm_s2 hc hw h dM_write_74 (fun H locs hw => ?_)
          refine lv_aload_n hx hb dM_write_75 rfl (lv_at hl 0 rfl) ?_
          refine lv_iload_n hx hb dM_write_76 rfl (lv_at hl 1 rfl) ?_
          obtain ⟨r77, u77, hq, hd⟩ := ts_b_s hd
          refine cM_80 hc hn hw hq hl.1 ⟨Nat.le_of_ble_eq_true rfl, Nat.le_of_ble_eq_true rfl⟩ (Nat.le_of_ble_eq_true rfl) dM_write_77 (fun H locs hw => ?_)
          refine lv_iconst (v := 0) hx hb dM_write_80 (by decide) ?_
          exact ts_iret hx hb hr hlk (vp_nar_int _) hw hd dM_write_81
        · replace hd := ts_if_p cq hd
          refine lv_aload_n hx hb dM_write_46 rfl (lv_at hl 0 rfl) ?_
          refine lv_iload_n hx hb dM_write_47 rfl (lv_at hl 1 rfl) ?_
          obtain ⟨r48, u48, hq, hd⟩ := ts_b_s hd
          refine cM_87 hc hn hw hq hl.1 ⟨Nat.le_of_ble_eq_true rfl, Nat.le_of_ble_eq_true rfl⟩ (Nat.le_of_ble_eq_true rfl) dM_write_48 (fun H locs hw => ?_)
          refine lv_if_ne (tgt := 57) hx hb dM_write_51 (by decide) (fun cq => ?_) (fun cq => ?_)
          · replace hd := ts_if_n cq hd
            refine lv_aload_n hx hb dM_write_57 rfl (lv_at hl 0 rfl) ?_
            refine gM_16 hc hn hw dM_write_58 ?_
            refine lv_iload_n hx hb dM_write_61 rfl (lv_at hl 1 rfl) ?_
            refine lv_iconst (v := 4) hx hb dM_write_62 (by decide) ?_
            refine lv_imul hx hb dM_write_63 ?_
            refine lv_iload_n hx hb dM_write_64 rfl (lv_at hl 2 rfl) ?_
            refine lv_iadd hx hb dM_write_65 ?_
            refine lv_iload_n hx hb dM_write_66 rfl (lv_at hl 3 rfl) ?_
            obtain ⟨h, hd⟩ := ts_ix_s hd
            refine mm_s4 hc hw h dM_write_67 (fun H locs hw => ?_)
            refine lv_aload_n hx hb dM_write_68 rfl (lv_at hl 0 rfl) ?_
            refine gM_7 hc hn hw dM_write_69 ?_
            refine lv_iload_n hx hb dM_write_72 rfl (lv_at hl 1 rfl) ?_
            refine lv_iconst (v := 1) hx hb dM_write_73 (by decide) ?_
            obtain ⟨h, hd⟩ := ts_ix_s hd
            refine mm_s2 hc hw h dM_write_74 (fun H locs hw => ?_)
            refine lv_aload_n hx hb dM_write_75 rfl (lv_at hl 0 rfl) ?_
            refine lv_iload_n hx hb dM_write_76 rfl (lv_at hl 1 rfl) ?_
            obtain ⟨r77, u77, hq, hd⟩ := ts_b_s hd
            refine cM_80 hc hn hw hq hl.1 ⟨Nat.le_of_ble_eq_true rfl, Nat.le_of_ble_eq_true rfl⟩ (Nat.le_of_ble_eq_true rfl) dM_write_77 (fun H locs hw => ?_)
            refine lv_iconst (v := 0) hx hb dM_write_80 (by decide) ?_
            exact ts_iret hx hb hr hlk (vp_nar_int _) hw hd dM_write_81
          · replace hd := ts_if_p cq hd
            refine lv_bipush (v := (-2)) hx hb dM_write_54 (by decide) ?_
            exact ts_iret hx hb hr hlk (vp_nar_int _) hw hd dM_write_56
      · replace hd := ts_if_p cq hd
        refine lv_bipush (v := (-3)) hx hb dM_write_33 (by decide) ?_
        exact ts_iret hx hb hr hlk (vp_nar_int _) hw hd dM_write_35
    · replace hd := ts_if_p cq hd
      refine lv_iconst (v := (-1)) hx hb dM_write_21 (by decide) ?_
      exact ts_iret hx hb hr hlk (vp_nar_int _) hw hd dM_write_22
def rM_read : Room := { frames := 3, cells := 0, slots := 0, locals := 67 }
set_option maxHeartbeats 4000000 in
set_option maxRecDepth 100000 in
theorem cm_read (l : Launch) {u : ts_S} {x1 x2 : Int32} {r0 : Int64} {u0 : ts_S} (hd : dm_read u x1 x2 = some (r0, u0)) : ts_Cl mF l yM_read (.code yM_read bM_read 3 (some .long) :: uW) rM_read (fun ad => [.ref (ad 0), .int x1, .int x2]) u r0 u0 := by
  refine ts_in_l mF l (by decide) (fun p e s m args below meth c D ca ad A hc hn hr hlk hw => ?_)
  have hx := hc.1
  have hb := hc.2.1
  have hl := lv_entry ([.ref (ad 0), .int x1, .int x2]) (n := 3) (Nat.le_of_ble_eq_true rfl)
  rw [lg_entry_eq]
  generalize (lg_sl ([.ref (ad 0), .int x1, .int x2]) ++ List.replicate (3 - (lg_sl ([.ref (ad 0), .int x1, .int x2])).length) Slot.unset).toArray = ls at hl ⊢
  replace hl : lv_has ls 3 [(0, .ref (ad 0)), (1, .int x1), (2, .int x2)] := hl
  unfold dm_read at hd
  refine lv_aload_n hx hb dM_read_0 rfl (lv_at hl 0 rfl) ?_
  refine lv_iload_n hx hb dM_read_1 rfl (lv_at hl 1 rfl) ?_
  obtain ⟨r2, u2, hq, hd⟩ := ts_b_s hd
  refine cM_84 hc hn hw hq hl.1 ⟨Nat.le_of_ble_eq_true rfl, Nat.le_of_ble_eq_true rfl⟩ (Nat.le_of_ble_eq_true rfl) dM_read_2 (fun H locs hw => ?_)
  refine lv_if_eq (tgt := 21) hx hb dM_read_5 (by decide) (fun cq => ?_) (fun cq => ?_)
  · replace hd := ts_if_p cq hd
    refine lv_ldc2 (v := (-1000000000000)) hx hb hc.2.2.2.1 (hc.2.2.2.2 _ (kM_90)) dM_read_21 ?_
    exact ts_lret hx hb hr hlk hw hd dM_read_24
  · replace hd := ts_if_n cq hd
    refine lv_iload_n hx hb dM_read_8 rfl (lv_at hl 2 rfl) ?_
    refine lv_aload_n hx hb dM_read_9 rfl (lv_at hl 0 rfl) ?_
    refine gM_13 hc hn hw dM_read_10 ?_
    refine lv_iload_n hx hb dM_read_13 rfl (lv_at hl 1 rfl) ?_
    obtain ⟨h, hd⟩ := ts_ix_s hd
    refine mm_l3 hc hw h dM_read_14 ?_
    obtain ⟨r15, u15, hq, hd⟩ := ts_b_s hd
    refine cM_51 hc hn hw hq hl.1 ⟨Nat.le_of_ble_eq_true rfl, Nat.le_of_ble_eq_true rfl⟩ (Nat.le_of_ble_eq_true rfl) dM_read_15 (fun H locs hw => ?_)
    refine lv_if_ne (tgt := 25) hx hb dM_read_18 (by decide) (fun cq => ?_) (fun cq => ?_)
    · replace hd := ts_if_n cq hd
      refine lv_aload_n hx hb dM_read_25 rfl (lv_at hl 0 rfl) ?_
      refine gM_7 hc hn hw dM_read_26 ?_
      refine lv_iload_n hx hb dM_read_29 rfl (lv_at hl 1 rfl) ?_
      obtain ⟨h, hd⟩ := ts_ix_s hd
      refine mm_l2 hc hw h dM_read_30 ?_
      refine lv_iconst (v := 4) hx hb dM_read_31 (by decide) ?_
      refine lv_icmp_ne (tgt := 39) hx hb dM_read_32 (by decide) (fun cq => ?_) (fun cq => ?_)
      · replace hd := ts_if_n cq hd
        refine lv_aload_n hx hb dM_read_39 rfl (lv_at hl 0 rfl) ?_
        refine gM_7 hc hn hw dM_read_40 ?_
        refine lv_iload_n hx hb dM_read_43 rfl (lv_at hl 1 rfl) ?_
        obtain ⟨h, hd⟩ := ts_ix_s hd
        refine mm_l2 hc hw h dM_read_44 ?_
        refine lv_iconst (v := 3) hx hb dM_read_45 (by decide) ?_
        refine lv_icmp_ne (tgt := 61) hx hb dM_read_46 (by decide) (fun cq => ?_) (fun cq => ?_)
        · replace hd := ts_if_n cq hd
          refine lv_aload_n hx hb dM_read_61 rfl (lv_at hl 0 rfl) ?_
          refine lv_iload_n hx hb dM_read_62 rfl (lv_at hl 1 rfl) ?_
          obtain ⟨r63, u63, hq, hd⟩ := ts_b_s hd
          refine cM_80 hc hn hw hq hl.1 ⟨Nat.le_of_ble_eq_true rfl, Nat.le_of_ble_eq_true rfl⟩ (Nat.le_of_ble_eq_true rfl) dM_read_63 (fun H locs hw => ?_)
          refine lv_aload_n hx hb dM_read_66 rfl (lv_at hl 0 rfl) ?_
          refine gM_16 hc hn hw dM_read_67 ?_
          refine lv_iload_n hx hb dM_read_70 rfl (lv_at hl 1 rfl) ?_
          refine lv_iconst (v := 4) hx hb dM_read_71 (by decide) ?_
          refine lv_imul hx hb dM_read_72 ?_
          refine lv_iload_n hx hb dM_read_73 rfl (lv_at hl 2 rfl) ?_
          refine lv_iadd hx hb dM_read_74 ?_
          obtain ⟨h, hd⟩ := ts_ix_s hd
          refine mm_l4 hc hw h dM_read_75 ?_
          refine lv_i2l hx hb dM_read_76 rfl ?_
          exact ts_lret hx hb hr hlk hw hd dM_read_77
        · replace hd := ts_if_p cq hd
          refine lv_aload_n hx hb dM_read_49 rfl (lv_at hl 0 rfl) ?_
          refine lv_iload_n hx hb dM_read_50 rfl (lv_at hl 1 rfl) ?_
          obtain ⟨r51, u51, hq, hd⟩ := ts_b_s hd
          refine cM_87 hc hn hw hq hl.1 ⟨Nat.le_of_ble_eq_true rfl, Nat.le_of_ble_eq_true rfl⟩ (Nat.le_of_ble_eq_true rfl) dM_read_51 (fun H locs hw => ?_)
          refine lv_if_ne (tgt := 61) hx hb dM_read_54 (by decide) (fun cq => ?_) (fun cq => ?_)
          · replace hd := ts_if_n cq hd
            refine lv_aload_n hx hb dM_read_61 rfl (lv_at hl 0 rfl) ?_
            refine lv_iload_n hx hb dM_read_62 rfl (lv_at hl 1 rfl) ?_
            obtain ⟨r63, u63, hq, hd⟩ := ts_b_s hd
            refine cM_80 hc hn hw hq hl.1 ⟨Nat.le_of_ble_eq_true rfl, Nat.le_of_ble_eq_true rfl⟩ (Nat.le_of_ble_eq_true rfl) dM_read_63 (fun H locs hw => ?_)
            refine lv_aload_n hx hb dM_read_66 rfl (lv_at hl 0 rfl) ?_
            refine gM_16 hc hn hw dM_read_67 ?_
            refine lv_iload_n hx hb dM_read_70 rfl (lv_at hl 1 rfl) ?_
            refine lv_iconst (v := 4) hx hb dM_read_71 (by decide) ?_
            refine lv_imul hx hb dM_read_72 ?_
            refine lv_iload_n hx hb dM_read_73 rfl (lv_at hl 2 rfl) ?_
            refine lv_iadd hx hb dM_read_74 ?_
            obtain ⟨h, hd⟩ := ts_ix_s hd
            refine mm_l4 hc hw h dM_read_75 ?_
            refine lv_i2l hx hb dM_read_76 rfl ?_
            exact ts_lret hx hb hr hlk hw hd dM_read_77
          · replace hd := ts_if_p cq hd
            refine lv_ldc2 (v := (-2000000000000)) hx hb hc.2.2.2.1 (hc.2.2.2.2 _ (kM_94)) dM_read_57 ?_
            exact ts_lret hx hb hr hlk hw hd dM_read_60
      · replace hd := ts_if_p cq hd
        refine lv_ldc2 (v := (-3000000000000)) hx hb hc.2.2.2.1 (hc.2.2.2.2 _ (kM_92)) dM_read_35 ?_
        exact ts_lret hx hb hr hlk hw hd dM_read_38
    · replace hd := ts_if_p cq hd
      refine lv_ldc2 (v := (-1000000000000)) hx hb hc.2.2.2.1 (hc.2.2.2.2 _ (kM_90)) dM_read_21 ?_
      exact ts_lret hx hb hr hlk hw hd dM_read_24
end
section
def rM_remove : Room := { frames := 2, cells := 0, slots := 0, locals := 42 }
set_option maxHeartbeats 4000000 in
set_option maxRecDepth 100000 in
theorem cm_remove (l : Launch) {u : ts_S} {x1 : Int32} {r0 : Int32} {u0 : ts_S} (hd : dm_remove u x1 = some (r0, u0)) : ts_Ci mF l yM_remove (.code yM_remove bM_remove 2 (some .int) :: uW) rM_remove (fun ad => [.ref (ad 0), .int x1]) u r0 u0 := by
  refine ts_in_i mF l (by decide) (fun p e s m args below meth c D ca ad A hc hn hr hlk hw => ?_)
  have hx := hc.1
  have hb := hc.2.1
  have hl := lv_entry ([.ref (ad 0), .int x1]) (n := 2) (Nat.le_of_ble_eq_true rfl)
  rw [lg_entry_eq]
  generalize (lg_sl ([.ref (ad 0), .int x1]) ++ List.replicate (2 - (lg_sl ([.ref (ad 0), .int x1])).length) Slot.unset).toArray = ls at hl ⊢
  replace hl : lv_has ls 2 [(0, .ref (ad 0)), (1, .int x1)] := hl
  unfold dm_remove at hd
  refine lv_aload_n hx hb dM_remove_0 rfl (lv_at hl 0 rfl) ?_
  refine lv_iload_n hx hb dM_remove_1 rfl (lv_at hl 1 rfl) ?_
  obtain ⟨r2, u2, hq, hd⟩ := ts_b_s hd
  refine cM_84 hc hn hw hq hl.1 ⟨Nat.le_of_ble_eq_true rfl, Nat.le_of_ble_eq_true rfl⟩ (Nat.le_of_ble_eq_true rfl) dM_remove_2 (fun H locs hw => ?_)
  refine lv_if_ne (tgt := 10) hx hb dM_remove_5 (by decide) (fun cq => ?_) (fun cq => ?_)
  · replace hd := ts_if_n cq hd
    refine lv_aload_n hx hb dM_remove_10 rfl (lv_at hl 0 rfl) ?_
    refine gM_7 hc hn hw dM_remove_11 ?_
    refine lv_iload_n hx hb dM_remove_14 rfl (lv_at hl 1 rfl) ?_
    refine lv_iconst (v := 0) hx hb dM_remove_15 (by decide) ?_
    obtain ⟨h, hd⟩ := ts_ix_s hd
    refine mm_s2 hc hw h dM_remove_16 (fun H locs hw => ?_)
    refine lv_aload_n hx hb dM_remove_17 rfl (lv_at hl 0 rfl) ?_
    refine gM_28 hc hn hw dM_remove_18 ?_
    refine lv_iload_n hx hb dM_remove_21 rfl (lv_at hl 1 rfl) ?_
    refine lv_iconst (v := 0) hx hb dM_remove_22 (by decide) ?_
    obtain ⟨h, hd⟩ := ts_ix_s hd
    refine mm_s7 hc hw h (by decide +kernel) dM_remove_23 (fun H locs hw => ?_)
    refine lv_iconst (v := 0) hx hb dM_remove_24 (by decide) ?_
    exact ts_iret hx hb hr hlk (vp_nar_int _) hw hd dM_remove_25
  · replace hd := ts_if_p cq hd
    refine lv_iconst (v := (-1)) hx hb dM_remove_8 (by decide) ?_
    exact ts_iret hx hb hr hlk (vp_nar_int _) hw hd dM_remove_9
def rM_copy : Room := { frames := 1, cells := 0, slots := 0, locals := 23 }
set_option maxHeartbeats 4000000 in
set_option maxRecDepth 100000 in
theorem cm_copy (l : Launch) {u : ts_S} {x1 x2 : Int32} {r0 : Int32} {u0 : ts_S} (hd : dm_copy u x1 x2 = some (r0, u0)) : ts_Ci mF l yM_copy (.code yM_copy bM_copy 5 (some .boolean) :: uW) rM_copy (fun ad => [.ref (ad 0), .int x1, .int x2]) u r0 u0 := by
  refine ts_in_i mF l (by decide) (fun p e s m args below meth c D ca ad A hc hn hr hlk hw => ?_)
  have hx := hc.1
  have hb := hc.2.1
  have hl := lv_entry ([.ref (ad 0), .int x1, .int x2]) (n := 5) (Nat.le_of_ble_eq_true rfl)
  rw [lg_entry_eq]
  generalize (lg_sl ([.ref (ad 0), .int x1, .int x2]) ++ List.replicate (5 - (lg_sl ([.ref (ad 0), .int x1, .int x2])).length) Slot.unset).toArray = ls at hl ⊢
  replace hl : lv_has ls 5 [(0, .ref (ad 0)), (1, .int x1), (2, .int x2)] := hl
  have L5 : ∀ (n : Nat) (u : ts_S) (x1 x2 x3 x4 : Int32) (H : Heap) (locs : List Loc) (ls : Array Slot), dm_copy_5 n u x1 x2 x3 x4 = some (r0, u0) → ts_W mF D ca ad A s H locs u → lv_has ls 5 [(0, .ref (ad 0)), (1, .int x1), (2, .int x2), (3, .int x3), (4, .int x4)] → W p l e rM_copy s m args below meth c H locs 0 0 (MQ below (va_Qi (fun r v => r = r0 ∧ v = u0) (ts_post mF D ca ad A) A) args s 0 0 A) (F0 m 5 ls []) := by
    intro n
    induction n with
    | zero => intro u x1 x2 x3 x4 H locs ls hd; cases (show (none : Option (Int32 × ts_S)) = some (r0, u0) from hd)
    | succ n5 ih5 =>
      intro u x1 x2 x3 x4 H locs ls hd hw hl
      replace hd : dm_copy_5_b (dm_copy_5 n5) u x1 x2 x3 x4 = some (r0, u0) := hd
      unfold dm_copy_5_b at hd
      refine lv_iload hx hb dM_copy_5 (lv_at hl 4 rfl) ?_
      refine lv_if_lt (tgt := 55) hx hb dM_copy_7 (by decide) (fun cq => ?_) (fun cq => ?_)
      · replace hd := ts_if_p cq hd
        refine lv_aload_n hx hb dM_copy_55 rfl (lv_at hl 0 rfl) ?_
        refine gM_41 hc hn hw dM_copy_56 ?_
        refine lv_if_lt (tgt := 98) hx hb dM_copy_59 (by decide) (fun cq => ?_) (fun cq => ?_)
        · replace hd := ts_if_p cq hd
          refine lv_iload_n hx hb dM_copy_98 rfl (lv_at hl 3 rfl) ?_
          refine lv_if_ge (tgt := 104) hx hb dM_copy_99 (by decide) (fun cq => ?_) (fun cq => ?_)
          · replace hd := ts_if_p cq hd
            refine lv_aload_n hx hb dM_copy_104 rfl (lv_at hl 0 rfl) ?_
            refine gM_22 hc hn hw dM_copy_105 ?_
            refine lv_iload_n hx hb dM_copy_108 rfl (lv_at hl 1 rfl) ?_
            refine lv_iload_n hx hb dM_copy_109 rfl (lv_at hl 3 rfl) ?_
            obtain ⟨h, hd⟩ := ts_ix_s hd
            refine mm_s5 hc hw h dM_copy_110 (fun H locs hw => ?_)
            refine lv_aload_n hx hb dM_copy_111 rfl (lv_at hl 0 rfl) ?_
            refine gM_25 hc hn hw dM_copy_112 ?_
            refine lv_iload_n hx hb dM_copy_115 rfl (lv_at hl 1 rfl) ?_
            refine lv_aload_n hx hb dM_copy_116 rfl (lv_at hl 0 rfl) ?_
            refine gM_32 hc hn hw dM_copy_117 ?_
            refine lv_iload_n hx hb dM_copy_120 rfl (lv_at hl 3 rfl) ?_
            obtain ⟨h, hd⟩ := ts_ix_s hd
            refine mm_l10 hc hw h dM_copy_121 ?_
            obtain ⟨h, hd⟩ := ts_ix_s hd
            refine mm_s6 hc hw h dM_copy_122 (fun H locs hw => ?_)
            refine lv_aload_n hx hb dM_copy_123 rfl (lv_at hl 0 rfl) ?_
            refine gM_32 hc hn hw dM_copy_124 ?_
            refine lv_iload_n hx hb dM_copy_127 rfl (lv_at hl 3 rfl) ?_
            refine lv_dup2_11 hx hb dM_copy_128 rfl rfl ?_
            obtain ⟨h, hd⟩ := ts_ix_s hd
            refine mm_l10 hc hw h dM_copy_129 ?_
            refine lv_aload_n hx hb dM_copy_130 rfl (lv_at hl 0 rfl) ?_
            refine gM_13 hc hn hw dM_copy_131 ?_
            refine lv_iload_n hx hb dM_copy_134 rfl (lv_at hl 1 rfl) ?_
            obtain ⟨h, hd⟩ := ts_ix_s hd
            refine mm_l3 hc hw h dM_copy_135 ?_
            refine lv_iadd hx hb dM_copy_136 ?_
            obtain ⟨h, hd⟩ := ts_ix_s hd
            refine mm_s10 hc hw h dM_copy_137 (fun H locs hw => ?_)
            refine lv_aload_n hx hb dM_copy_138 rfl (lv_at hl 0 rfl) ?_
            refine lv_iload_n hx hb dM_copy_139 rfl (lv_at hl 3 rfl) ?_
            refine lv_aload_n hx hb dM_copy_140 rfl (lv_at hl 0 rfl) ?_
            refine gM_25 hc hn hw dM_copy_141 ?_
            refine lv_iload_n hx hb dM_copy_144 rfl (lv_at hl 1 rfl) ?_
            obtain ⟨h, hd⟩ := ts_ix_s hd
            refine mm_l6 hc hw h dM_copy_145 ?_
            refine lv_aload_n hx hb dM_copy_146 rfl (lv_at hl 0 rfl) ?_
            refine gM_13 hc hn hw dM_copy_147 ?_
            refine lv_iload_n hx hb dM_copy_150 rfl (lv_at hl 1 rfl) ?_
            obtain ⟨h, hd⟩ := ts_ix_s hd
            refine mm_l3 hc hw h dM_copy_151 ?_
            obtain ⟨r152, u152, hq, hd⟩ := ts_b_s hd
            refine cM_76 hc hn hw hq hl.1 ⟨Nat.le_of_ble_eq_true rfl, Nat.le_of_ble_eq_true rfl⟩ (Nat.le_of_ble_eq_true rfl) dM_copy_152 (fun H locs hw => ?_)
            refine lv_iconst (v := 1) hx hb dM_copy_155 (by decide) ?_
            exact ts_iret hx hb hr hlk (by decide +kernel) hw hd dM_copy_156
          · replace hd := ts_if_n cq hd
            refine lv_iconst (v := 0) hx hb dM_copy_102 (by decide) ?_
            exact ts_iret hx hb hr hlk (by decide +kernel) hw hd dM_copy_103
        · replace hd := ts_if_n cq hd
          refine lv_aload_n hx hb dM_copy_62 rfl (lv_at hl 0 rfl) ?_
          refine gM_41 hc hn hw dM_copy_63 ?_
          refine lv_iload_n hx hb dM_copy_66 rfl (lv_at hl 2 rfl) ?_
          refine lv_icmp_eq (tgt := 98) hx hb dM_copy_67 (by decide) (fun cq => ?_) (fun cq => ?_)
          · replace hd := ts_if_p cq hd
            refine lv_iload_n hx hb dM_copy_98 rfl (lv_at hl 3 rfl) ?_
            refine lv_if_ge (tgt := 104) hx hb dM_copy_99 (by decide) (fun cq => ?_) (fun cq => ?_)
            · replace hd := ts_if_p cq hd
              refine lv_aload_n hx hb dM_copy_104 rfl (lv_at hl 0 rfl) ?_
              refine gM_22 hc hn hw dM_copy_105 ?_
              refine lv_iload_n hx hb dM_copy_108 rfl (lv_at hl 1 rfl) ?_
              refine lv_iload_n hx hb dM_copy_109 rfl (lv_at hl 3 rfl) ?_
              obtain ⟨h, hd⟩ := ts_ix_s hd
              refine mm_s5 hc hw h dM_copy_110 (fun H locs hw => ?_)
              refine lv_aload_n hx hb dM_copy_111 rfl (lv_at hl 0 rfl) ?_
              refine gM_25 hc hn hw dM_copy_112 ?_
              refine lv_iload_n hx hb dM_copy_115 rfl (lv_at hl 1 rfl) ?_
              refine lv_aload_n hx hb dM_copy_116 rfl (lv_at hl 0 rfl) ?_
              refine gM_32 hc hn hw dM_copy_117 ?_
              refine lv_iload_n hx hb dM_copy_120 rfl (lv_at hl 3 rfl) ?_
              obtain ⟨h, hd⟩ := ts_ix_s hd
              refine mm_l10 hc hw h dM_copy_121 ?_
              obtain ⟨h, hd⟩ := ts_ix_s hd
              refine mm_s6 hc hw h dM_copy_122 (fun H locs hw => ?_)
              refine lv_aload_n hx hb dM_copy_123 rfl (lv_at hl 0 rfl) ?_
              refine gM_32 hc hn hw dM_copy_124 ?_
              refine lv_iload_n hx hb dM_copy_127 rfl (lv_at hl 3 rfl) ?_
              refine lv_dup2_11 hx hb dM_copy_128 rfl rfl ?_
              obtain ⟨h, hd⟩ := ts_ix_s hd
              refine mm_l10 hc hw h dM_copy_129 ?_
              refine lv_aload_n hx hb dM_copy_130 rfl (lv_at hl 0 rfl) ?_
              refine gM_13 hc hn hw dM_copy_131 ?_
              refine lv_iload_n hx hb dM_copy_134 rfl (lv_at hl 1 rfl) ?_
              obtain ⟨h, hd⟩ := ts_ix_s hd
              refine mm_l3 hc hw h dM_copy_135 ?_
              refine lv_iadd hx hb dM_copy_136 ?_
              obtain ⟨h, hd⟩ := ts_ix_s hd
              refine mm_s10 hc hw h dM_copy_137 (fun H locs hw => ?_)
              refine lv_aload_n hx hb dM_copy_138 rfl (lv_at hl 0 rfl) ?_
              refine lv_iload_n hx hb dM_copy_139 rfl (lv_at hl 3 rfl) ?_
              refine lv_aload_n hx hb dM_copy_140 rfl (lv_at hl 0 rfl) ?_
              refine gM_25 hc hn hw dM_copy_141 ?_
              refine lv_iload_n hx hb dM_copy_144 rfl (lv_at hl 1 rfl) ?_
              obtain ⟨h, hd⟩ := ts_ix_s hd
              refine mm_l6 hc hw h dM_copy_145 ?_
              refine lv_aload_n hx hb dM_copy_146 rfl (lv_at hl 0 rfl) ?_
              refine gM_13 hc hn hw dM_copy_147 ?_
              refine lv_iload_n hx hb dM_copy_150 rfl (lv_at hl 1 rfl) ?_
              obtain ⟨h, hd⟩ := ts_ix_s hd
              refine mm_l3 hc hw h dM_copy_151 ?_
              obtain ⟨r152, u152, hq, hd⟩ := ts_b_s hd
              refine cM_76 hc hn hw hq hl.1 ⟨Nat.le_of_ble_eq_true rfl, Nat.le_of_ble_eq_true rfl⟩ (Nat.le_of_ble_eq_true rfl) dM_copy_152 (fun H locs hw => ?_)
              refine lv_iconst (v := 1) hx hb dM_copy_155 (by decide) ?_
              exact ts_iret hx hb hr hlk (by decide +kernel) hw hd dM_copy_156
            · replace hd := ts_if_n cq hd
              refine lv_iconst (v := 0) hx hb dM_copy_102 (by decide) ?_
              exact ts_iret hx hb hr hlk (by decide +kernel) hw hd dM_copy_103
          · replace hd := ts_if_n cq hd
            refine lv_aload_n hx hb dM_copy_70 rfl (lv_at hl 0 rfl) ?_
            refine gM_32 hc hn hw dM_copy_71 ?_
            refine lv_aload_n hx hb dM_copy_74 rfl (lv_at hl 0 rfl) ?_
            refine gM_41 hc hn hw dM_copy_75 ?_
            obtain ⟨h, hd⟩ := ts_ix_s hd
            refine mm_l10 hc hw h dM_copy_78 ?_
            refine lv_aload_n hx hb dM_copy_79 rfl (lv_at hl 0 rfl) ?_
            refine gM_13 hc hn hw dM_copy_80 ?_
            refine lv_iload_n hx hb dM_copy_83 rfl (lv_at hl 1 rfl) ?_
            obtain ⟨h, hd⟩ := ts_ix_s hd
            refine mm_l3 hc hw h dM_copy_84 ?_
            refine lv_iadd hx hb dM_copy_85 ?_
            refine lv_aload_n hx hb dM_copy_86 rfl (lv_at hl 0 rfl) ?_
            refine gM_48 hc hn hw dM_copy_87 ?_
            refine lv_icmp_gt (tgt := 98) hx hb dM_copy_90 (by decide) (fun cq => ?_) (fun cq => ?_)
            · replace hd := ts_if_p cq hd
              refine lv_iload_n hx hb dM_copy_98 rfl (lv_at hl 3 rfl) ?_
              refine lv_if_ge (tgt := 104) hx hb dM_copy_99 (by decide) (fun cq => ?_) (fun cq => ?_)
              · replace hd := ts_if_p cq hd
                refine lv_aload_n hx hb dM_copy_104 rfl (lv_at hl 0 rfl) ?_
                refine gM_22 hc hn hw dM_copy_105 ?_
                refine lv_iload_n hx hb dM_copy_108 rfl (lv_at hl 1 rfl) ?_
                refine lv_iload_n hx hb dM_copy_109 rfl (lv_at hl 3 rfl) ?_
                obtain ⟨h, hd⟩ := ts_ix_s hd
                refine mm_s5 hc hw h dM_copy_110 (fun H locs hw => ?_)
                refine lv_aload_n hx hb dM_copy_111 rfl (lv_at hl 0 rfl) ?_
                refine gM_25 hc hn hw dM_copy_112 ?_
                refine lv_iload_n hx hb dM_copy_115 rfl (lv_at hl 1 rfl) ?_
                refine lv_aload_n hx hb dM_copy_116 rfl (lv_at hl 0 rfl) ?_
                refine gM_32 hc hn hw dM_copy_117 ?_
                refine lv_iload_n hx hb dM_copy_120 rfl (lv_at hl 3 rfl) ?_
                obtain ⟨h, hd⟩ := ts_ix_s hd
                refine mm_l10 hc hw h dM_copy_121 ?_
                obtain ⟨h, hd⟩ := ts_ix_s hd
                refine mm_s6 hc hw h dM_copy_122 (fun H locs hw => ?_)
                refine lv_aload_n hx hb dM_copy_123 rfl (lv_at hl 0 rfl) ?_
                refine gM_32 hc hn hw dM_copy_124 ?_
                refine lv_iload_n hx hb dM_copy_127 rfl (lv_at hl 3 rfl) ?_
                refine lv_dup2_11 hx hb dM_copy_128 rfl rfl ?_
                obtain ⟨h, hd⟩ := ts_ix_s hd
                refine mm_l10 hc hw h dM_copy_129 ?_
                refine lv_aload_n hx hb dM_copy_130 rfl (lv_at hl 0 rfl) ?_
                refine gM_13 hc hn hw dM_copy_131 ?_
                refine lv_iload_n hx hb dM_copy_134 rfl (lv_at hl 1 rfl) ?_
                obtain ⟨h, hd⟩ := ts_ix_s hd
                refine mm_l3 hc hw h dM_copy_135 ?_
                refine lv_iadd hx hb dM_copy_136 ?_
                obtain ⟨h, hd⟩ := ts_ix_s hd
                refine mm_s10 hc hw h dM_copy_137 (fun H locs hw => ?_)
                refine lv_aload_n hx hb dM_copy_138 rfl (lv_at hl 0 rfl) ?_
                refine lv_iload_n hx hb dM_copy_139 rfl (lv_at hl 3 rfl) ?_
                refine lv_aload_n hx hb dM_copy_140 rfl (lv_at hl 0 rfl) ?_
                refine gM_25 hc hn hw dM_copy_141 ?_
                refine lv_iload_n hx hb dM_copy_144 rfl (lv_at hl 1 rfl) ?_
                obtain ⟨h, hd⟩ := ts_ix_s hd
                refine mm_l6 hc hw h dM_copy_145 ?_
                refine lv_aload_n hx hb dM_copy_146 rfl (lv_at hl 0 rfl) ?_
                refine gM_13 hc hn hw dM_copy_147 ?_
                refine lv_iload_n hx hb dM_copy_150 rfl (lv_at hl 1 rfl) ?_
                obtain ⟨h, hd⟩ := ts_ix_s hd
                refine mm_l3 hc hw h dM_copy_151 ?_
                obtain ⟨r152, u152, hq, hd⟩ := ts_b_s hd
                refine cM_76 hc hn hw hq hl.1 ⟨Nat.le_of_ble_eq_true rfl, Nat.le_of_ble_eq_true rfl⟩ (Nat.le_of_ble_eq_true rfl) dM_copy_152 (fun H locs hw => ?_)
                refine lv_iconst (v := 1) hx hb dM_copy_155 (by decide) ?_
                exact ts_iret hx hb hr hlk (by decide +kernel) hw hd dM_copy_156
              · replace hd := ts_if_n cq hd
                refine lv_iconst (v := 0) hx hb dM_copy_102 (by decide) ?_
                exact ts_iret hx hb hr hlk (by decide +kernel) hw hd dM_copy_103
            · replace hd := ts_if_n cq hd
              refine lv_aload_n hx hb dM_copy_93 rfl (lv_at hl 0 rfl) ?_
              refine gM_41 hc hn hw dM_copy_94 ?_
              refine lv_istore_n (lv' := [(3, .int (u.1 4)), (0, .ref (ad 0)), (1, .int x1), (2, .int x2), (4, .int x4)]) hx hb dM_copy_97 rfl hl (by decide) rfl (fun ls hl => ?_)
              refine lv_iload_n hx hb dM_copy_98 rfl (lv_at hl 0 rfl) ?_
              refine lv_if_ge (tgt := 104) hx hb dM_copy_99 (by decide) (fun cq => ?_) (fun cq => ?_)
              · replace hd := ts_if_p cq hd
                refine lv_aload_n hx hb dM_copy_104 rfl (lv_at hl 1 rfl) ?_
                refine gM_22 hc hn hw dM_copy_105 ?_
                refine lv_iload_n hx hb dM_copy_108 rfl (lv_at hl 2 rfl) ?_
                refine lv_iload_n hx hb dM_copy_109 rfl (lv_at hl 0 rfl) ?_
                obtain ⟨h, hd⟩ := ts_ix_s hd
                refine mm_s5 hc hw h dM_copy_110 (fun H locs hw => ?_)
                refine lv_aload_n hx hb dM_copy_111 rfl (lv_at hl 1 rfl) ?_
                refine gM_25 hc hn hw dM_copy_112 ?_
                refine lv_iload_n hx hb dM_copy_115 rfl (lv_at hl 2 rfl) ?_
                refine lv_aload_n hx hb dM_copy_116 rfl (lv_at hl 1 rfl) ?_
                refine gM_32 hc hn hw dM_copy_117 ?_
                refine lv_iload_n hx hb dM_copy_120 rfl (lv_at hl 0 rfl) ?_
                obtain ⟨h, hd⟩ := ts_ix_s hd
                refine mm_l10 hc hw h dM_copy_121 ?_
                obtain ⟨h, hd⟩ := ts_ix_s hd
                refine mm_s6 hc hw h dM_copy_122 (fun H locs hw => ?_)
                refine lv_aload_n hx hb dM_copy_123 rfl (lv_at hl 1 rfl) ?_
                refine gM_32 hc hn hw dM_copy_124 ?_
                refine lv_iload_n hx hb dM_copy_127 rfl (lv_at hl 0 rfl) ?_
                refine lv_dup2_11 hx hb dM_copy_128 rfl rfl ?_
                obtain ⟨h, hd⟩ := ts_ix_s hd
                refine mm_l10 hc hw h dM_copy_129 ?_
                refine lv_aload_n hx hb dM_copy_130 rfl (lv_at hl 1 rfl) ?_
                refine gM_13 hc hn hw dM_copy_131 ?_
                refine lv_iload_n hx hb dM_copy_134 rfl (lv_at hl 2 rfl) ?_
                obtain ⟨h, hd⟩ := ts_ix_s hd
                refine mm_l3 hc hw h dM_copy_135 ?_
                refine lv_iadd hx hb dM_copy_136 ?_
                obtain ⟨h, hd⟩ := ts_ix_s hd
                refine mm_s10 hc hw h dM_copy_137 (fun H locs hw => ?_)
                refine lv_aload_n hx hb dM_copy_138 rfl (lv_at hl 1 rfl) ?_
                refine lv_iload_n hx hb dM_copy_139 rfl (lv_at hl 0 rfl) ?_
                refine lv_aload_n hx hb dM_copy_140 rfl (lv_at hl 1 rfl) ?_
                refine gM_25 hc hn hw dM_copy_141 ?_
                refine lv_iload_n hx hb dM_copy_144 rfl (lv_at hl 2 rfl) ?_
                obtain ⟨h, hd⟩ := ts_ix_s hd
                refine mm_l6 hc hw h dM_copy_145 ?_
                refine lv_aload_n hx hb dM_copy_146 rfl (lv_at hl 1 rfl) ?_
                refine gM_13 hc hn hw dM_copy_147 ?_
                refine lv_iload_n hx hb dM_copy_150 rfl (lv_at hl 2 rfl) ?_
                obtain ⟨h, hd⟩ := ts_ix_s hd
                refine mm_l3 hc hw h dM_copy_151 ?_
                obtain ⟨r152, u152, hq, hd⟩ := ts_b_s hd
                refine cM_76 hc hn hw hq hl.1 ⟨Nat.le_of_ble_eq_true rfl, Nat.le_of_ble_eq_true rfl⟩ (Nat.le_of_ble_eq_true rfl) dM_copy_152 (fun H locs hw => ?_)
                refine lv_iconst (v := 1) hx hb dM_copy_155 (by decide) ?_
                exact ts_iret hx hb hr hlk (by decide +kernel) hw hd dM_copy_156
              · replace hd := ts_if_n cq hd
                refine lv_iconst (v := 0) hx hb dM_copy_102 (by decide) ?_
                exact ts_iret hx hb hr hlk (by decide +kernel) hw hd dM_copy_103
      · replace hd := ts_if_n cq hd
        refine lv_iload hx hb dM_copy_10 (lv_at hl 4 rfl) ?_
        refine lv_iload_n hx hb dM_copy_12 rfl (lv_at hl 2 rfl) ?_
        refine lv_icmp_eq (tgt := 49) hx hb dM_copy_13 (by decide) (fun cq => ?_) (fun cq => ?_)
        · replace hd := ts_if_p cq hd
          refine lv_iinc (v := (x4 + (-1))) (lv' := [(4, .int (x4 + (-1))), (0, .ref (ad 0)), (1, .int x1), (2, .int x2), (3, .int x3)]) hx hb dM_copy_49 hl (k := 4) rfl rfl (by decide) rfl (fun ls hl => ?_)
          refine lv_goto (tgt := 5) hx hb dM_copy_52 (by decide) ?_
          exact ih5 u x1 x2 x3 (x4 + (-1)) _ _ _ hd hw (lv_sub hl [1, 2, 3, 4, 0] rfl)
        · replace hd := ts_if_n cq hd
          refine lv_iload hx hb dM_copy_16 (lv_at hl 4 rfl) ?_
          refine lv_aload_n hx hb dM_copy_18 rfl (lv_at hl 0 rfl) ?_
          refine gM_41 hc hn hw dM_copy_19 ?_
          refine lv_icmp_eq (tgt := 49) hx hb dM_copy_22 (by decide) (fun cq => ?_) (fun cq => ?_)
          · replace hd := ts_if_p cq hd
            refine lv_iinc (v := (x4 + (-1))) (lv' := [(4, .int (x4 + (-1))), (0, .ref (ad 0)), (1, .int x1), (2, .int x2), (3, .int x3)]) hx hb dM_copy_49 hl (k := 4) rfl rfl (by decide) rfl (fun ls hl => ?_)
            refine lv_goto (tgt := 5) hx hb dM_copy_52 (by decide) ?_
            exact ih5 u x1 x2 x3 (x4 + (-1)) _ _ _ hd hw (lv_sub hl [1, 2, 3, 4, 0] rfl)
          · replace hd := ts_if_n cq hd
            refine lv_aload_n hx hb dM_copy_25 rfl (lv_at hl 0 rfl) ?_
            refine gM_32 hc hn hw dM_copy_26 ?_
            refine lv_iload hx hb dM_copy_29 (lv_at hl 4 rfl) ?_
            obtain ⟨h, hd⟩ := ts_ix_s hd
            refine mm_l10 hc hw h dM_copy_31 ?_
            refine lv_aload_n hx hb dM_copy_32 rfl (lv_at hl 0 rfl) ?_
            refine gM_13 hc hn hw dM_copy_33 ?_
            refine lv_iload_n hx hb dM_copy_36 rfl (lv_at hl 1 rfl) ?_
            obtain ⟨h, hd⟩ := ts_ix_s hd
            refine mm_l3 hc hw h dM_copy_37 ?_
            refine lv_iadd hx hb dM_copy_38 ?_
            refine lv_aload_n hx hb dM_copy_39 rfl (lv_at hl 0 rfl) ?_
            refine gM_48 hc hn hw dM_copy_40 ?_
            refine lv_icmp_gt (tgt := 49) hx hb dM_copy_43 (by decide) (fun cq => ?_) (fun cq => ?_)
            · replace hd := ts_if_p cq hd
              refine lv_iinc (v := (x4 + (-1))) (lv' := [(4, .int (x4 + (-1))), (0, .ref (ad 0)), (1, .int x1), (2, .int x2), (3, .int x3)]) hx hb dM_copy_49 hl (k := 4) rfl rfl (by decide) rfl (fun ls hl => ?_)
              refine lv_goto (tgt := 5) hx hb dM_copy_52 (by decide) ?_
              exact ih5 u x1 x2 x3 (x4 + (-1)) _ _ _ hd hw (lv_sub hl [1, 2, 3, 4, 0] rfl)
            · replace hd := ts_if_n cq hd
              refine lv_iload hx hb dM_copy_46 (lv_at hl 4 rfl) ?_
              refine lv_istore_n (lv' := [(3, .int x4), (0, .ref (ad 0)), (1, .int x1), (2, .int x2), (4, .int x4)]) hx hb dM_copy_48 rfl hl (by decide) rfl (fun ls hl => ?_)
              refine lv_iinc (v := (x4 + (-1))) (lv' := [(4, .int (x4 + (-1))), (3, .int x4), (0, .ref (ad 0)), (1, .int x1), (2, .int x2)]) hx hb dM_copy_49 hl (k := 4) rfl rfl (by decide) rfl (fun ls hl => ?_)
              refine lv_goto (tgt := 5) hx hb dM_copy_52 (by decide) ?_
              exact ih5 u x1 x2 x4 (x4 + (-1)) _ _ _ hd hw (lv_sub hl [2, 3, 4, 1, 0] rfl)
  unfold dm_copy at hd
  refine lv_iconst (v := (-1)) hx hb dM_copy_0 (by decide) ?_
  refine lv_istore_n (lv' := [(3, .int (-1)), (0, .ref (ad 0)), (1, .int x1), (2, .int x2)]) hx hb dM_copy_1 rfl hl (by decide) rfl (fun ls hl => ?_)
  refine lv_iconst (v := 3) hx hb dM_copy_2 (by decide) ?_
  refine lv_istore (lv' := [(4, .int 3), (3, .int (-1)), (0, .ref (ad 0)), (1, .int x1), (2, .int x2)]) hx hb dM_copy_3 hl (by decide) rfl (fun ls hl => ?_)
  exact L5 40 u x1 x2 (-1) 3 _ _ _ hd hw (lv_sub hl [2, 3, 4, 1, 0] rfl)
section
variable {p : Program} {l : Launch} {e : Env} {R : Room} {s : State} {m : MethodId} {args : Array Value} {below : List Frame} {meth : Method} {c : Code} {H : Heap} {locs : List Loc} {Q : State → Prop} {cc : ByteArray} {pc nL : Nat} {ls : Array Slot} {rest : List Value} {D : va_G} {ca : Nat → ClassId} {ad : Nat → Nat} {A : Nat → Prop} {u : ts_S} {cells slots : Nat}
theorem cM_96 (hc : CallFix p m c cc nL s args uW RM) (hn : nx s) (hw : ts_W mF D ca ad A s H locs u) {x1 x2 : Int32} {r0 : Int32} {u0 : ts_S} (hq : dm_copy u x1 x2 = some (r0, u0)) (hsz : ls.size = nL) (hR : rM_copy.frames + 1 ≤ R.frames ∧ 8 + (5 + 11) + rM_copy.locals ≤ R.locals) (hrest : (rest.map fun v => v.category).sum ≤ 8) (hdg : decode cc pc = .ok (.invokevirtual 96, 3)) (kk : ∀ (H1 : Heap) (locs1 : List Loc), ts_W mF D ca ad A s H1 locs1 u0 → W p l e R s m args below meth c H1 locs1 0 0 Q (F0 m (pc + 3) ls (.int r0 :: rest))) : W p l e R s m args below meth c H locs 0 0 Q (F0 m pc ls (.int x2 :: .int x1 :: .ref (ad 0) :: rest)) :=
  ts_callVi (b := ad 0) (As := [.int x1, .int x2]) hc hn hw (cm_copy l hq) rfl (cwV 2 hc.2.2.2.2 (gd_V (by decide +kernel) (by decide +kernel) (by decide +kernel) (by decide +kernel) (code_M_copy)) rfl rfl rfl (by decide +kernel) hR) (va_recv hw.2.2.2.1 hw.1 (ci := 2) (q0 := 0) rfl rfl) rfl hsz hrest hdg kk
end
def rM_backUp : Room := { frames := 2, cells := 0, slots := 0, locals := 47 }
set_option maxHeartbeats 4000000 in
set_option maxRecDepth 100000 in
theorem cm_backUp (l : Launch) {u : ts_S} {r0 : Int32} {u0 : ts_S} (hd : dm_backUp u = some (r0, u0)) : ts_Ci mF l yM_backUp (.code yM_backUp bM_backUp 2 (some .int) :: uW) rM_backUp (fun ad => [.ref (ad 0)]) u r0 u0 := by
  refine ts_in_i mF l (by decide) (fun p e s m args below meth c D ca ad A hc hn hr hlk hw => ?_)
  have hx := hc.1
  have hb := hc.2.1
  have hl := lv_entry ([.ref (ad 0)]) (n := 2) (Nat.le_of_ble_eq_true rfl)
  rw [lg_entry_eq]
  generalize (lg_sl ([.ref (ad 0)]) ++ List.replicate (2 - (lg_sl ([.ref (ad 0)])).length) Slot.unset).toArray = ls at hl ⊢
  replace hl : lv_has ls 2 [(0, .ref (ad 0))] := hl
  unfold dm_backUp at hd
  refine lv_aload_n hx hb dM_backUp_0 rfl (lv_at hl 0 rfl) ?_
  refine lv_iconst (v := 1) hx hb dM_backUp_1 (by decide) ?_
  obtain ⟨r2, u2, hq, hd⟩ := ts_b_s hd
  refine cM_62 hc hn hw hq hl.1 ⟨Nat.le_of_ble_eq_true rfl, Nat.le_of_ble_eq_true rfl⟩ (Nat.le_of_ble_eq_true rfl) dM_backUp_2 (fun H locs hw => ?_)
  refine lv_istore_n (lv' := [(1, .int r2), (0, .ref (ad 0))]) hx hb dM_backUp_5 rfl hl (by decide) rfl (fun ls hl => ?_)
  refine lv_iload_n hx hb dM_backUp_6 rfl (lv_at hl 0 rfl) ?_
  refine lv_if_ge (tgt := 12) hx hb dM_backUp_7 (by decide) (fun cq => ?_) (fun cq => ?_)
  · replace hd := ts_if_p cq hd
    refine lv_aload_n hx hb dM_backUp_12 rfl (lv_at hl 1 rfl) ?_
    refine lv_iload_n hx hb dM_backUp_13 rfl (lv_at hl 0 rfl) ?_
    refine lv_iconst (v := (-1)) hx hb dM_backUp_14 (by decide) ?_
    obtain ⟨r15, u15, hq, hd⟩ := ts_b_s hd
    refine cM_96 hc hn hw hq hl.1 ⟨Nat.le_of_ble_eq_true rfl, Nat.le_of_ble_eq_true rfl⟩ (Nat.le_of_ble_eq_true rfl) dM_backUp_15 (fun H locs hw => ?_)
    refine lv_if_ne (tgt := 24) hx hb dM_backUp_18 (by decide) (fun cq => ?_) (fun cq => ?_)
    · replace hd := ts_if_n cq hd
      refine lv_aload_n hx hb dM_backUp_24 rfl (lv_at hl 1 rfl) ?_
      refine gM_7 hc hn hw dM_backUp_25 ?_
      refine lv_iload_n hx hb dM_backUp_28 rfl (lv_at hl 0 rfl) ?_
      refine lv_iconst (v := 2) hx hb dM_backUp_29 (by decide) ?_
      obtain ⟨h, hd⟩ := ts_ix_s hd
      refine mm_s2 hc hw h dM_backUp_30 (fun H locs hw => ?_)
      refine lv_iload_n hx hb dM_backUp_31 rfl (lv_at hl 0 rfl) ?_
      exact ts_iret hx hb hr hlk (vp_nar_int _) hw hd dM_backUp_32
    · replace hd := ts_if_p cq hd
      refine lv_bipush (v := (-2)) hx hb dM_backUp_21 (by decide) ?_
      exact ts_iret hx hb hr hlk (vp_nar_int _) hw hd dM_backUp_23
  · replace hd := ts_if_n cq hd
    refine lv_iconst (v := (-1)) hx hb dM_backUp_10 (by decide) ?_
    exact ts_iret hx hb hr hlk (vp_nar_int _) hw hd dM_backUp_11
def rM_tidy : Room := { frames := 1, cells := 0, slots := 0, locals := 23 }
set_option maxHeartbeats 4000000 in
set_option maxRecDepth 100000 in
theorem cm_tidy (l : Launch) {u : ts_S} {x1 x2 : Int32} {r0 : Int32} {u0 : ts_S} (hd : dm_tidy u x1 x2 = some (r0, u0)) : ts_Ci mF l yM_tidy (.code yM_tidy bM_tidy 7 (some .int) :: uW) rM_tidy (fun ad => [.ref (ad 0), .int x1, .int x2]) u r0 u0 := by
  refine ts_in_i mF l (by decide) (fun p e s m args below meth c D ca ad A hc hn hr hlk hw => ?_)
  have hx := hc.1
  have hb := hc.2.1
  have hl := lv_entry ([.ref (ad 0), .int x1, .int x2]) (n := 7) (Nat.le_of_ble_eq_true rfl)
  rw [lg_entry_eq]
  generalize (lg_sl ([.ref (ad 0), .int x1, .int x2]) ++ List.replicate (7 - (lg_sl ([.ref (ad 0), .int x1, .int x2])).length) Slot.unset).toArray = ls at hl ⊢
  replace hl : lv_has ls 7 [(0, .ref (ad 0)), (1, .int x1), (2, .int x2)] := hl
  have L45 : ∀ (n : Nat) (u : ts_S) (x1 x2 x3 x4 x5 : Int32) (H : Heap) (locs : List Loc) (ls : Array Slot), dm_tidy_45 n u x1 x2 x3 x4 x5 = some (r0, u0) → ts_W mF D ca ad A s H locs u → lv_has ls 7 [(0, .ref (ad 0)), (1, .int x1), (2, .int x2), (3, .int x3), (4, .int x4), (5, .int x5)] → W p l e rM_tidy s m args below meth c H locs 0 0 (MQ below (va_Qi (fun r v => r = r0 ∧ v = u0) (ts_post mF D ca ad A) A) args s 0 0 A) (F0 m 45 ls []) := by
    intro n
    induction n with
    | zero => intro u x1 x2 x3 x4 x5 H locs ls hd; cases (show (none : Option (Int32 × ts_S)) = some (r0, u0) from hd)
    | succ n45 ih45 =>
      intro u x1 x2 x3 x4 x5 H locs ls hd hw hl
      replace hd : dm_tidy_45_b (dm_tidy_45 n45) u x1 x2 x3 x4 x5 = some (r0, u0) := hd
      unfold dm_tidy_45_b at hd
      refine lv_iload hx hb dM_tidy_45 (lv_at hl 5 rfl) ?_
      refine lv_bipush (v := 16) hx hb dM_tidy_47 (by decide) ?_
      refine lv_icmp_ge (tgt := 94) hx hb dM_tidy_49 (by decide) (fun cq => ?_) (fun cq => ?_)
      · replace hd := ts_if_p cq hd
        refine lv_iload_n hx hb dM_tidy_94 rfl (lv_at hl 3 rfl) ?_
        exact ts_iret hx hb hr hlk (vp_nar_int _) hw hd dM_tidy_95
      · replace hd := ts_if_n cq hd
        refine lv_aload_n hx hb dM_tidy_52 rfl (lv_at hl 0 rfl) ?_
        refine lv_iconst (v := 2) hx hb dM_tidy_53 (by decide) ?_
        obtain ⟨r54, u54, hq, hd⟩ := ts_b_s hd
        refine cM_62 hc hn hw hq hl.1 ⟨Nat.le_of_ble_eq_true rfl, Nat.le_of_ble_eq_true rfl⟩ (Nat.le_of_ble_eq_true rfl) dM_tidy_54 (fun H locs hw => ?_)
        refine lv_istore (lv' := [(6, .int r54), (0, .ref (ad 0)), (1, .int x1), (2, .int x2), (3, .int x3), (4, .int x4), (5, .int x5)]) hx hb dM_tidy_57 hl (by decide) rfl (fun ls hl => ?_)
        refine lv_iload hx hb dM_tidy_59 (lv_at hl 5 rfl) ?_
        refine lv_if_eq (tgt := 88) hx hb dM_tidy_61 (by decide) (fun cq => ?_) (fun cq => ?_)
        · replace hd := ts_if_p cq hd
          refine lv_iinc (v := (x5 + 1)) (lv' := [(5, .int (x5 + 1)), (6, .int r54), (0, .ref (ad 0)), (1, .int x1), (2, .int x2), (3, .int x3), (4, .int x4)]) hx hb dM_tidy_88 hl (k := 6) rfl rfl (by decide) rfl (fun ls hl => ?_)
          refine lv_goto (tgt := 45) hx hb dM_tidy_91 (by decide) ?_
          exact ih45 u54 x1 x2 x3 x4 (x5 + 1) _ _ _ hd hw (lv_sub hl [2, 3, 4, 5, 6, 0] rfl)
        · replace hd := ts_if_n cq hd
          refine lv_aload_n hx hb dM_tidy_64 rfl (lv_at hl 1 rfl) ?_
          obtain ⟨r65, u65, hq, hd⟩ := ts_b_s hd
          refine cM_58 hc hn hw hq hl.1 ⟨Nat.le_of_ble_eq_true rfl, Nat.le_of_ble_eq_true rfl⟩ (Nat.le_of_ble_eq_true rfl) dM_tidy_65 (fun H locs hw => ?_)
          refine lv_iload_n hx hb dM_tidy_68 rfl (lv_at hl 3 rfl) ?_
          refine lv_icmp_le (tgt := 88) hx hb dM_tidy_69 (by decide) (fun cq => ?_) (fun cq => ?_)
          · replace hd := ts_if_p cq hd
            refine lv_iinc (v := (x5 + 1)) (lv' := [(5, .int (x5 + 1)), (6, .int r54), (0, .ref (ad 0)), (1, .int x1), (2, .int x2), (3, .int x3), (4, .int x4)]) hx hb dM_tidy_88 hl (k := 6) rfl rfl (by decide) rfl (fun ls hl => ?_)
            refine lv_goto (tgt := 45) hx hb dM_tidy_91 (by decide) ?_
            exact ih45 u65 x1 x2 x3 x4 (x5 + 1) _ _ _ hd hw (lv_sub hl [2, 3, 4, 5, 6, 0] rfl)
          · replace hd := ts_if_n cq hd
            refine lv_iload hx hb dM_tidy_72 (lv_at hl 0 rfl) ?_
            refine lv_if_lt (tgt := 88) hx hb dM_tidy_74 (by decide) (fun cq => ?_) (fun cq => ?_)
            · replace hd := ts_if_p cq hd
              refine lv_iinc (v := (x5 + 1)) (lv' := [(5, .int (x5 + 1)), (6, .int r54), (0, .ref (ad 0)), (1, .int x1), (2, .int x2), (3, .int x3), (4, .int x4)]) hx hb dM_tidy_88 hl (k := 6) rfl rfl (by decide) rfl (fun ls hl => ?_)
              refine lv_goto (tgt := 45) hx hb dM_tidy_91 (by decide) ?_
              exact ih45 u65 x1 x2 x3 x4 (x5 + 1) _ _ _ hd hw (lv_sub hl [2, 3, 4, 5, 6, 0] rfl)
            · replace hd := ts_if_n cq hd
              refine lv_aload_n hx hb dM_tidy_77 rfl (lv_at hl 1 rfl) ?_
              refine gM_7 hc hn hw dM_tidy_78 ?_
              refine lv_iload hx hb dM_tidy_81 (lv_at hl 0 rfl) ?_
              refine lv_iconst (v := 3) hx hb dM_tidy_83 (by decide) ?_
              obtain ⟨h, hd⟩ := ts_ix_s hd
              refine mm_s2 hc hw h dM_tidy_84 (fun H locs hw => ?_)
              refine lv_iinc (v := (x3 + 1)) (lv' := [(3, .int (x3 + 1)), (6, .int r54), (0, .ref (ad 0)), (1, .int x1), (2, .int x2), (4, .int x4), (5, .int x5)]) hx hb dM_tidy_85 hl (k := 4) rfl rfl (by decide) rfl (fun ls hl => ?_)
              refine lv_iinc (v := (x5 + 1)) (lv' := [(5, .int (x5 + 1)), (3, .int (x3 + 1)), (6, .int r54), (0, .ref (ad 0)), (1, .int x1), (2, .int x2), (4, .int x4)]) hx hb dM_tidy_88 hl (k := 6) rfl rfl (by decide) rfl (fun ls hl => ?_)
              refine lv_goto (tgt := 45) hx hb dM_tidy_91 (by decide) ?_
              exact ih45 (ts_a 2 r54.toNatClampNeg 3 u65) x1 x2 (x3 + 1) x4 (x5 + 1) _ _ _ hd hw (lv_sub hl [3, 4, 5, 1, 6, 0] rfl)
  unfold dm_tidy at hd
  refine lv_iload_n hx hb dM_tidy_0 rfl (lv_at hl 1 rfl) ?_
  refine lv_bipush (v := 25) hx hb dM_tidy_1 (by decide) ?_
  obtain ⟨r3, u3, hq, hd⟩ := ts_b_s hd
  refine cM_51 hc hn hw hq hl.1 ⟨Nat.le_of_ble_eq_true rfl, Nat.le_of_ble_eq_true rfl⟩ (Nat.le_of_ble_eq_true rfl) dM_tidy_3 (fun H locs hw => ?_)
  refine lv_if_eq (tgt := 23) hx hb dM_tidy_6 (by decide) (fun cq => ?_) (fun cq => ?_)
  · replace hd := ts_if_p cq hd
    refine lv_iconst (v := (-1)) hx hb dM_tidy_23 (by decide) ?_
    exact ts_iret hx hb hr hlk (vp_nar_int _) hw hd dM_tidy_24
  · replace hd := ts_if_n cq hd
    refine lv_iload_n hx hb dM_tidy_9 rfl (lv_at hl 2 rfl) ?_
    refine lv_bipush (v := 25) hx hb dM_tidy_10 (by decide) ?_
    obtain ⟨r12, u12, hq, hd⟩ := ts_b_s hd
    refine cM_51 hc hn hw hq hl.1 ⟨Nat.le_of_ble_eq_true rfl, Nat.le_of_ble_eq_true rfl⟩ (Nat.le_of_ble_eq_true rfl) dM_tidy_12 (fun H locs hw => ?_)
    refine lv_if_eq (tgt := 23) hx hb dM_tidy_15 (by decide) (fun cq => ?_) (fun cq => ?_)
    · replace hd := ts_if_p cq hd
      refine lv_iconst (v := (-1)) hx hb dM_tidy_23 (by decide) ?_
      exact ts_iret hx hb hr hlk (vp_nar_int _) hw hd dM_tidy_24
    · replace hd := ts_if_n cq hd
      refine lv_iload_n hx hb dM_tidy_18 rfl (lv_at hl 2 rfl) ?_
      refine lv_iload_n hx hb dM_tidy_19 rfl (lv_at hl 1 rfl) ?_
      refine lv_icmp_le (tgt := 25) hx hb dM_tidy_20 (by decide) (fun cq => ?_) (fun cq => ?_)
      · replace hd := ts_if_p cq hd
        refine lv_iconst (v := 0) hx hb dM_tidy_25 (by decide) ?_
        refine lv_istore_n (lv' := [(3, .int 0), (0, .ref (ad 0)), (1, .int x1), (2, .int x2)]) hx hb dM_tidy_26 rfl hl (by decide) rfl (fun ls hl => ?_)
        refine lv_aload_n hx hb dM_tidy_27 rfl (lv_at hl 1 rfl) ?_
        obtain ⟨r28, u28, hq, hd⟩ := ts_b_s hd
        refine cM_58 hc hn hw hq hl.1 ⟨Nat.le_of_ble_eq_true rfl, Nat.le_of_ble_eq_true rfl⟩ (Nat.le_of_ble_eq_true rfl) dM_tidy_28 (fun H locs hw => ?_)
        refine lv_iload_n hx hb dM_tidy_31 rfl (lv_at hl 2 rfl) ?_
        refine lv_icmp_le (tgt := 39) hx hb dM_tidy_32 (by decide) (fun cq => ?_) (fun cq => ?_)
        · replace hd := ts_if_p cq hd
          refine lv_iconst (v := 0) hx hb dM_tidy_39 (by decide) ?_
          refine lv_istore (lv' := [(4, .int 0), (3, .int 0), (0, .ref (ad 0)), (1, .int x1), (2, .int x2)]) hx hb dM_tidy_40 hl (by decide) rfl (fun ls hl => ?_)
          refine lv_iconst (v := 0) hx hb dM_tidy_42 (by decide) ?_
          refine lv_istore (lv' := [(5, .int 0), (4, .int 0), (3, .int 0), (0, .ref (ad 0)), (1, .int x1), (2, .int x2)]) hx hb dM_tidy_43 hl (by decide) rfl (fun ls hl => ?_)
          exact L45 40 u28 x1 x2 0 0 0 _ _ _ hd hw (lv_sub hl [3, 4, 5, 2, 1, 0] rfl)
        · replace hd := ts_if_n cq hd
          refine lv_iconst (v := 1) hx hb dM_tidy_35 (by decide) ?_
          refine lv_goto (tgt := 40) hx hb dM_tidy_36 (by decide) ?_
          refine lv_istore (lv' := [(4, .int 1), (3, .int 0), (0, .ref (ad 0)), (1, .int x1), (2, .int x2)]) hx hb dM_tidy_40 hl (by decide) rfl (fun ls hl => ?_)
          refine lv_iconst (v := 0) hx hb dM_tidy_42 (by decide) ?_
          refine lv_istore (lv' := [(5, .int 0), (4, .int 1), (3, .int 0), (0, .ref (ad 0)), (1, .int x1), (2, .int x2)]) hx hb dM_tidy_43 hl (by decide) rfl (fun ls hl => ?_)
          exact L45 40 u28 x1 x2 0 1 0 _ _ _ hd hw (lv_sub hl [3, 4, 5, 2, 1, 0] rfl)
      · replace hd := ts_if_n cq hd
        refine lv_iconst (v := (-1)) hx hb dM_tidy_23 (by decide) ?_
        exact ts_iret hx hb hr hlk (vp_nar_int _) hw hd dM_tidy_24
def rM_waiting : Room := { frames := 0, cells := 0, slots := 0, locals := 0 }
set_option maxHeartbeats 4000000 in
set_option maxRecDepth 100000 in
theorem cm_waiting (l : Launch) {u : ts_S} {r0 : Int32} {u0 : ts_S} (hd : dm_waiting u = some (r0, u0)) : ts_Ci mF l yM_waiting (.code yM_waiting bM_waiting 3 (some .int) :: uW) rM_waiting (fun ad => [.ref (ad 0)]) u r0 u0 := by
  refine ts_in_i mF l (by decide) (fun p e s m args below meth c D ca ad A hc hn hr hlk hw => ?_)
  have hx := hc.1
  have hb := hc.2.1
  have hl := lv_entry ([.ref (ad 0)]) (n := 3) (Nat.le_of_ble_eq_true rfl)
  rw [lg_entry_eq]
  generalize (lg_sl ([.ref (ad 0)]) ++ List.replicate (3 - (lg_sl ([.ref (ad 0)])).length) Slot.unset).toArray = ls at hl ⊢
  replace hl : lv_has ls 3 [(0, .ref (ad 0))] := hl
  have L4 : ∀ (n : Nat) (u : ts_S) (x1 x2 : Int32) (H : Heap) (locs : List Loc) (ls : Array Slot), dm_waiting_4 n u x1 x2 = some (r0, u0) → ts_W mF D ca ad A s H locs u → lv_has ls 3 [(0, .ref (ad 0)), (1, .int x1), (2, .int x2)] → W p l e rM_waiting s m args below meth c H locs 0 0 (MQ below (va_Qi (fun r v => r = r0 ∧ v = u0) (ts_post mF D ca ad A) A) args s 0 0 A) (F0 m 4 ls []) := by
    intro n
    induction n with
    | zero => intro u x1 x2 H locs ls hd; cases (show (none : Option (Int32 × ts_S)) = some (r0, u0) from hd)
    | succ n4 ih4 =>
      intro u x1 x2 H locs ls hd hw hl
      replace hd : dm_waiting_4_b (dm_waiting_4 n4) u x1 x2 = some (r0, u0) := hd
      unfold dm_waiting_4_b at hd
      refine lv_iload_n hx hb dM_waiting_4 rfl (lv_at hl 2 rfl) ?_
      refine lv_bipush (v := 16) hx hb dM_waiting_5 (by decide) ?_
      refine lv_icmp_ge (tgt := 28) hx hb dM_waiting_7 (by decide) (fun cq => ?_) (fun cq => ?_)
      · replace hd := ts_if_p cq hd
        refine lv_iload_n hx hb dM_waiting_28 rfl (lv_at hl 1 rfl) ?_
        exact ts_iret hx hb hr hlk (vp_nar_int _) hw hd dM_waiting_29
      · replace hd := ts_if_n cq hd
        refine lv_aload_n hx hb dM_waiting_10 rfl (lv_at hl 0 rfl) ?_
        refine gM_28 hc hn hw dM_waiting_11 ?_
        refine lv_iload_n hx hb dM_waiting_14 rfl (lv_at hl 2 rfl) ?_
        obtain ⟨h, hd⟩ := ts_ix_s hd
        refine mm_l7 hc hw h dM_waiting_15 ?_
        refine lv_if_eq (tgt := 22) hx hb dM_waiting_16 (by decide) (fun cq => ?_) (fun cq => ?_)
        · replace hd := ts_if_p cq hd
          refine lv_iinc (v := (x2 + 1)) (lv' := [(2, .int (x2 + 1)), (0, .ref (ad 0)), (1, .int x1)]) hx hb dM_waiting_22 hl (k := 2) rfl rfl (by decide) rfl (fun ls hl => ?_)
          refine lv_goto (tgt := 4) hx hb dM_waiting_25 (by decide) ?_
          exact ih4 u x1 (x2 + 1) _ _ _ hd hw (lv_sub hl [1, 2, 0] rfl)
        · replace hd := ts_if_n cq hd
          refine lv_iinc (v := (x1 + 1)) (lv' := [(1, .int (x1 + 1)), (0, .ref (ad 0)), (2, .int x2)]) hx hb dM_waiting_19 hl (k := 1) rfl rfl (by decide) rfl (fun ls hl => ?_)
          refine lv_iinc (v := (x2 + 1)) (lv' := [(2, .int (x2 + 1)), (1, .int (x1 + 1)), (0, .ref (ad 0))]) hx hb dM_waiting_22 hl (k := 2) rfl rfl (by decide) rfl (fun ls hl => ?_)
          refine lv_goto (tgt := 4) hx hb dM_waiting_25 (by decide) ?_
          exact ih4 u (x1 + 1) (x2 + 1) _ _ _ hd hw (lv_sub hl [2, 1, 0] rfl)
  unfold dm_waiting at hd
  refine lv_iconst (v := 0) hx hb dM_waiting_0 (by decide) ?_
  refine lv_istore_n (lv' := [(1, .int 0), (0, .ref (ad 0))]) hx hb dM_waiting_1 rfl hl (by decide) rfl (fun ls hl => ?_)
  refine lv_iconst (v := 0) hx hb dM_waiting_2 (by decide) ?_
  refine lv_istore_n (lv' := [(2, .int 0), (1, .int 0), (0, .ref (ad 0))]) hx hb dM_waiting_3 rfl hl (by decide) rfl (fun ls hl => ?_)
  exact L4 40 u 0 0 _ _ _ hd hw (lv_sub hl [2, 1, 0] rfl)
section
variable {p : Program} {l : Launch} {e : Env} {R : Room} {s : State} {m : MethodId} {args : Array Value} {below : List Frame} {meth : Method} {c : Code} {H : Heap} {locs : List Loc} {Q : State → Prop} {cc : ByteArray} {pc nL : Nat} {ls : Array Slot} {rest : List Value} {D : va_G} {ca : Nat → ClassId} {ad : Nat → Nat} {A : Nat → Prop} {u : ts_S} {cells slots : Nat}
theorem cM_99 (hc : CallFix p m c cc nL s args uW RM) (hn : nx s) (hw : ts_W mF D ca ad A s H locs u) {r0 : Int32} {u0 : ts_S} (hq : dm_waiting u = some (r0, u0)) (hsz : ls.size = nL) (hR : rM_waiting.frames + 1 ≤ R.frames ∧ 8 + (3 + 11) + rM_waiting.locals ≤ R.locals) (hrest : (rest.map fun v => v.category).sum ≤ 8) (hdg : decode cc pc = .ok (.invokevirtual 99, 3)) (kk : ∀ (H1 : Heap) (locs1 : List Loc), ts_W mF D ca ad A s H1 locs1 u0 → W p l e R s m args below meth c H1 locs1 0 0 Q (F0 m (pc + 3) ls (.int r0 :: rest))) : W p l e R s m args below meth c H locs 0 0 Q (F0 m pc ls (.ref (ad 0) :: rest)) :=
  ts_callVi (b := ad 0) (As := []) hc hn hw (cm_waiting l hq) rfl (cwV 0 hc.2.2.2.2 (gd_V (by decide +kernel) (by decide +kernel) (by decide +kernel) (by decide +kernel) (code_M_waiting)) rfl rfl rfl (by decide +kernel) hR) (va_recv hw.2.2.2.1 hw.1 (ci := 2) (q0 := 0) rfl rfl) rfl hsz hrest hdg kk
end
def rM_ask : Room := { frames := 2, cells := 0, slots := 0, locals := 42 }
set_option maxHeartbeats 4000000 in
set_option maxRecDepth 100000 in
theorem cm_ask (l : Launch) {u : ts_S} {x1 : Int32} {r0 : Int32} {u0 : ts_S} (hd : dm_ask u x1 = some (r0, u0)) : ts_Ci mF l yM_ask (.code yM_ask bM_ask 2 (some .int) :: uW) rM_ask (fun ad => [.ref (ad 0), .int x1]) u r0 u0 := by
  refine ts_in_i mF l (by decide) (fun p e s m args below meth c D ca ad A hc hn hr hlk hw => ?_)
  have hx := hc.1
  have hb := hc.2.1
  have hl := lv_entry ([.ref (ad 0), .int x1]) (n := 2) (Nat.le_of_ble_eq_true rfl)
  rw [lg_entry_eq]
  generalize (lg_sl ([.ref (ad 0), .int x1]) ++ List.replicate (2 - (lg_sl ([.ref (ad 0), .int x1])).length) Slot.unset).toArray = ls at hl ⊢
  replace hl : lv_has ls 2 [(0, .ref (ad 0)), (1, .int x1)] := hl
  unfold dm_ask at hd
  refine lv_aload_n hx hb dM_ask_0 rfl (lv_at hl 0 rfl) ?_
  refine lv_iload_n hx hb dM_ask_1 rfl (lv_at hl 1 rfl) ?_
  obtain ⟨r2, u2, hq, hd⟩ := ts_b_s hd
  refine cM_84 hc hn hw hq hl.1 ⟨Nat.le_of_ble_eq_true rfl, Nat.le_of_ble_eq_true rfl⟩ (Nat.le_of_ble_eq_true rfl) dM_ask_2 (fun H locs hw => ?_)
  refine lv_if_eq (tgt := 27) hx hb dM_ask_5 (by decide) (fun cq => ?_) (fun cq => ?_)
  · replace hd := ts_if_p cq hd
    refine lv_iconst (v := (-1)) hx hb dM_ask_27 (by decide) ?_
    exact ts_iret hx hb hr hlk (vp_nar_int _) hw hd dM_ask_28
  · replace hd := ts_if_n cq hd
    refine lv_aload_n hx hb dM_ask_8 rfl (lv_at hl 0 rfl) ?_
    refine gM_7 hc hn hw dM_ask_9 ?_
    refine lv_iload_n hx hb dM_ask_12 rfl (lv_at hl 1 rfl) ?_
    obtain ⟨h, hd⟩ := ts_ix_s hd
    refine mm_l2 hc hw h dM_ask_13 ?_
    refine lv_iconst (v := 3) hx hb dM_ask_14 (by decide) ?_
    refine lv_icmp_ne (tgt := 27) hx hb dM_ask_15 (by decide) (fun cq => ?_) (fun cq => ?_)
    · replace hd := ts_if_n cq hd
      refine lv_iconst (v := (-1)) hx hb dM_ask_27 (by decide) ?_
      exact ts_iret hx hb hr hlk (vp_nar_int _) hw hd dM_ask_28
    · replace hd := ts_if_p cq hd
      refine lv_aload_n hx hb dM_ask_18 rfl (lv_at hl 0 rfl) ?_
      refine gM_28 hc hn hw dM_ask_19 ?_
      refine lv_iload_n hx hb dM_ask_22 rfl (lv_at hl 1 rfl) ?_
      obtain ⟨h, hd⟩ := ts_ix_s hd
      refine mm_l7 hc hw h dM_ask_23 ?_
      refine lv_if_eq (tgt := 29) hx hb dM_ask_24 (by decide) (fun cq => ?_) (fun cq => ?_)
      · replace hd := ts_if_p cq hd
        refine lv_aload_n hx hb dM_ask_29 rfl (lv_at hl 0 rfl) ?_
        obtain ⟨r30, u30, hq, hd⟩ := ts_b_s hd
        refine cM_99 hc hn hw hq hl.1 ⟨Nat.le_of_ble_eq_true rfl, Nat.le_of_ble_eq_true rfl⟩ (Nat.le_of_ble_eq_true rfl) dM_ask_30 (fun H locs hw => ?_)
        refine lv_bipush (v := 6) hx hb dM_ask_33 (by decide) ?_
        refine lv_icmp_ne (tgt := 41) hx hb dM_ask_35 (by decide) (fun cq => ?_) (fun cq => ?_)
        · replace hd := ts_if_n cq hd
          refine lv_aload_n hx hb dM_ask_41 rfl (lv_at hl 0 rfl) ?_
          refine gM_28 hc hn hw dM_ask_42 ?_
          refine lv_iload_n hx hb dM_ask_45 rfl (lv_at hl 1 rfl) ?_
          refine lv_iconst (v := 1) hx hb dM_ask_46 (by decide) ?_
          obtain ⟨h, hd⟩ := ts_ix_s hd
          refine mm_s7 hc hw h (by decide +kernel) dM_ask_47 (fun H locs hw => ?_)
          refine lv_iconst (v := 0) hx hb dM_ask_48 (by decide) ?_
          exact ts_iret hx hb hr hlk (vp_nar_int _) hw hd dM_ask_49
        · replace hd := ts_if_p cq hd
          refine lv_bipush (v := (-2)) hx hb dM_ask_38 (by decide) ?_
          exact ts_iret hx hb hr hlk (vp_nar_int _) hw hd dM_ask_40
      · replace hd := ts_if_n cq hd
        refine lv_iconst (v := (-1)) hx hb dM_ask_27 (by decide) ?_
        exact ts_iret hx hb hr hlk (vp_nar_int _) hw hd dM_ask_28
def rM_rank : Room := { frames := 0, cells := 0, slots := 0, locals := 0 }
set_option maxHeartbeats 4000000 in
set_option maxRecDepth 100000 in
theorem cm_rank (l : Launch) {u : ts_S} {x1 : Int32} {r0 : Int32} {u0 : ts_S} (hd : dm_rank u x1 = some (r0, u0)) : ts_Ci mF l yM_rank (.code yM_rank bM_rank 2 (some .int) :: uW) rM_rank (fun ad => [.ref (ad 0), .int x1]) u r0 u0 := by
  refine ts_in_i mF l (by decide) (fun p e s m args below meth c D ca ad A hc hn hr hlk hw => ?_)
  have hx := hc.1
  have hb := hc.2.1
  have hl := lv_entry ([.ref (ad 0), .int x1]) (n := 2) (Nat.le_of_ble_eq_true rfl)
  rw [lg_entry_eq]
  generalize (lg_sl ([.ref (ad 0), .int x1]) ++ List.replicate (2 - (lg_sl ([.ref (ad 0), .int x1])).length) Slot.unset).toArray = ls at hl ⊢
  replace hl : lv_has ls 2 [(0, .ref (ad 0)), (1, .int x1)] := hl
  unfold dm_rank at hd
  refine lv_aload_n hx hb dM_rank_0 rfl (lv_at hl 0 rfl) ?_
  refine gM_22 hc hn hw dM_rank_1 ?_
  refine lv_iload_n hx hb dM_rank_4 rfl (lv_at hl 1 rfl) ?_
  obtain ⟨h, hd⟩ := ts_ix_s hd
  refine mm_l5 hc hw h dM_rank_5 ?_
  refine lv_aload_n hx hb dM_rank_6 rfl (lv_at hl 0 rfl) ?_
  refine gM_41 hc hn hw dM_rank_7 ?_
  refine lv_icmp_ne (tgt := 17) hx hb dM_rank_10 (by decide) (fun cq => ?_) (fun cq => ?_)
  · replace hd := ts_if_n cq hd
    refine lv_bipush (v := 100) hx hb dM_rank_17 (by decide) ?_
    refine lv_bipush (v := 100) hx hb dM_rank_19 (by decide) ?_
    refine lv_aload_n hx hb dM_rank_21 rfl (lv_at hl 0 rfl) ?_
    refine gM_22 hc hn hw dM_rank_22 ?_
    refine lv_iload_n hx hb dM_rank_25 rfl (lv_at hl 1 rfl) ?_
    obtain ⟨h, hd⟩ := ts_ix_s hd
    refine mm_l5 hc hw h dM_rank_26 ?_
    refine lv_imul hx hb dM_rank_27 ?_
    refine lv_iadd hx hb dM_rank_28 ?_
    refine lv_aload_n hx hb dM_rank_29 rfl (lv_at hl 0 rfl) ?_
    refine gM_25 hc hn hw dM_rank_30 ?_
    refine lv_iload_n hx hb dM_rank_33 rfl (lv_at hl 1 rfl) ?_
    obtain ⟨h, hd⟩ := ts_ix_s hd
    refine mm_l6 hc hw h dM_rank_34 ?_
    refine lv_iadd hx hb dM_rank_35 ?_
    exact ts_iret hx hb hr hlk (vp_nar_int _) hw hd dM_rank_36
  · replace hd := ts_if_p cq hd
    refine lv_iconst (v := 0) hx hb dM_rank_13 (by decide) ?_
    refine lv_goto (tgt := 29) hx hb dM_rank_14 (by decide) ?_
    refine lv_aload_n hx hb dM_rank_29 rfl (lv_at hl 0 rfl) ?_
    refine gM_25 hc hn hw dM_rank_30 ?_
    refine lv_iload_n hx hb dM_rank_33 rfl (lv_at hl 1 rfl) ?_
    obtain ⟨h, hd⟩ := ts_ix_s hd
    refine mm_l6 hc hw h dM_rank_34 ?_
    refine lv_iadd hx hb dM_rank_35 ?_
    exact ts_iret hx hb hr hlk (vp_nar_int _) hw hd dM_rank_36
section
variable {p : Program} {l : Launch} {e : Env} {R : Room} {s : State} {m : MethodId} {args : Array Value} {below : List Frame} {meth : Method} {c : Code} {H : Heap} {locs : List Loc} {Q : State → Prop} {cc : ByteArray} {pc nL : Nat} {ls : Array Slot} {rest : List Value} {D : va_G} {ca : Nat → ClassId} {ad : Nat → Nat} {A : Nat → Prop} {u : ts_S} {cells slots : Nat}
theorem cM_102 (hc : CallFix p m c cc nL s args uW RM) (hn : nx s) (hw : ts_W mF D ca ad A s H locs u) {x1 : Int32} {r0 : Int32} {u0 : ts_S} (hq : dm_rank u x1 = some (r0, u0)) (hsz : ls.size = nL) (hR : rM_rank.frames + 1 ≤ R.frames ∧ 8 + (2 + 11) + rM_rank.locals ≤ R.locals) (hrest : (rest.map fun v => v.category).sum ≤ 8) (hdg : decode cc pc = .ok (.invokevirtual 102, 3)) (kk : ∀ (H1 : Heap) (locs1 : List Loc), ts_W mF D ca ad A s H1 locs1 u0 → W p l e R s m args below meth c H1 locs1 0 0 Q (F0 m (pc + 3) ls (.int r0 :: rest))) : W p l e R s m args below meth c H locs 0 0 Q (F0 m pc ls (.int x1 :: .ref (ad 0) :: rest)) :=
  ts_callVi (b := ad 0) (As := [.int x1]) hc hn hw (cm_rank l hq) rfl (cwV 1 hc.2.2.2.2 (gd_V (by decide +kernel) (by decide +kernel) (by decide +kernel) (by decide +kernel) (code_M_rank)) rfl rfl rfl (by decide +kernel) hR) (va_recv hw.2.2.2.1 hw.1 (ci := 2) (q0 := 0) rfl rfl) rfl hsz hrest hdg kk
end
def rM_serve : Room := { frames := 3, cells := 0, slots := 0, locals := 67 }
set_option maxHeartbeats 4000000 in
set_option maxRecDepth 100000 in
theorem cm_serve (l : Launch) {u : ts_S} {r0 : Int32} {u0 : ts_S} (hd : dm_serve u = some (r0, u0)) : ts_Ci mF l yM_serve (.code yM_serve bM_serve 5 (some .int) :: uW) rM_serve (fun ad => [.ref (ad 0)]) u r0 u0 := by
  refine ts_in_i mF l (by decide) (fun p e s m args below meth c D ca ad A hc hn hr hlk hw => ?_)
  have hx := hc.1
  have hb := hc.2.1
  have hl := lv_entry ([.ref (ad 0)]) (n := 5) (Nat.le_of_ble_eq_true rfl)
  rw [lg_entry_eq]
  generalize (lg_sl ([.ref (ad 0)]) ++ List.replicate (5 - (lg_sl ([.ref (ad 0)])).length) Slot.unset).toArray = ls at hl ⊢
  replace hl : lv_has ls 5 [(0, .ref (ad 0))] := hl
  have L141 : ∀ (n : Nat) (u : ts_S) (x1 x2 x3 : Int32) (H : Heap) (locs : List Loc) (ls : Array Slot), dm_serve_141 n u x1 x2 x3 = some (r0, u0) → ts_W mF D ca ad A s H locs u → lv_has ls 5 [(0, .ref (ad 0)), (1, .int x1), (2, .int x2), (3, .int x3)] → W p l e rM_serve s m args below meth c H locs 0 0 (MQ below (va_Qi (fun r v => r = r0 ∧ v = u0) (ts_post mF D ca ad A) A) args s 0 0 A) (F0 m 141 ls []) := by
    intro n
    induction n with
    | zero => intro u x1 x2 x3 H locs ls hd; cases (show (none : Option (Int32 × ts_S)) = some (r0, u0) from hd)
    | succ n141 ih141 =>
      intro u x1 x2 x3 H locs ls hd hw hl
      replace hd : dm_serve_141_b (dm_serve_141 n141) u x1 x2 x3 = some (r0, u0) := hd
      unfold dm_serve_141_b at hd
      refine lv_iload_n hx hb dM_serve_141 rfl (lv_at hl 3 rfl) ?_
      refine lv_iload_n hx hb dM_serve_142 rfl (lv_at hl 1 rfl) ?_
      refine lv_icmp_ge (tgt := 168) hx hb dM_serve_143 (by decide) (fun cq => ?_) (fun cq => ?_)
      · replace hd := ts_if_p cq hd
        refine lv_iload_n hx hb dM_serve_168 rfl (lv_at hl 2 rfl) ?_
        exact ts_iret hx hb hr hlk (vp_nar_int _) hw hd dM_serve_169
      · replace hd := ts_if_n cq hd
        refine lv_aload_n hx hb dM_serve_146 rfl (lv_at hl 0 rfl) ?_
        refine lv_aload_n hx hb dM_serve_147 rfl (lv_at hl 0 rfl) ?_
        refine gM_38 hc hn hw dM_serve_148 ?_
        refine lv_iload_n hx hb dM_serve_151 rfl (lv_at hl 3 rfl) ?_
        obtain ⟨h, hd⟩ := ts_ix_s hd
        refine mm_l9 hc hw h dM_serve_152 ?_
        obtain ⟨r153, u153, hq, hd⟩ := ts_b_s hd
        refine cM_87 hc hn hw hq hl.1 ⟨Nat.le_of_ble_eq_true rfl, Nat.le_of_ble_eq_true rfl⟩ (Nat.le_of_ble_eq_true rfl) dM_serve_153 (fun H locs hw => ?_)
        refine lv_if_eq (tgt := 162) hx hb dM_serve_156 (by decide) (fun cq => ?_) (fun cq => ?_)
        · replace hd := ts_if_p cq hd
          refine lv_iinc (v := (x3 + 1)) (lv' := [(3, .int (x3 + 1)), (0, .ref (ad 0)), (1, .int x1), (2, .int x2)]) hx hb dM_serve_162 hl (k := 3) rfl rfl (by decide) rfl (fun ls hl => ?_)
          refine lv_goto (tgt := 141) hx hb dM_serve_165 (by decide) ?_
          exact ih141 u153 x1 x2 (x3 + 1) _ _ _ hd hw (lv_sub hl [1, 2, 3, 0] rfl)
        · replace hd := ts_if_n cq hd
          refine lv_iinc (v := (x2 + 1)) (lv' := [(2, .int (x2 + 1)), (0, .ref (ad 0)), (1, .int x1), (3, .int x3)]) hx hb dM_serve_159 hl (k := 2) rfl rfl (by decide) rfl (fun ls hl => ?_)
          refine lv_iinc (v := (x3 + 1)) (lv' := [(3, .int (x3 + 1)), (2, .int (x2 + 1)), (0, .ref (ad 0)), (1, .int x1)]) hx hb dM_serve_162 hl (k := 3) rfl rfl (by decide) rfl (fun ls hl => ?_)
          refine lv_goto (tgt := 141) hx hb dM_serve_165 (by decide) ?_
          exact ih141 u153 x1 (x2 + 1) (x3 + 1) _ _ _ hd hw (lv_sub hl [2, 3, 1, 0] rfl)
  have L54 : ∀ (n : Nat) (u : ts_S) (x1 x2 : Int32) (H : Heap) (locs : List Loc) (ls : Array Slot), dm_serve_54 n u x1 x2 = some (r0, u0) → ts_W mF D ca ad A s H locs u → lv_has ls 5 [(0, .ref (ad 0)), (1, .int x1), (2, .int x2)] → W p l e rM_serve s m args below meth c H locs 0 0 (MQ below (va_Qi (fun r v => r = r0 ∧ v = u0) (ts_post mF D ca ad A) A) args s 0 0 A) (F0 m 54 ls []) := by
    intro n
    induction n with
    | zero => intro u x1 x2 H locs ls hd; cases (show (none : Option (Int32 × ts_S)) = some (r0, u0) from hd)
    | succ n54 ih54 =>
      intro u x1 x2 H locs ls hd hw hl
      replace hd : dm_serve_54_b (dm_serve_54 n54) u x1 x2 = some (r0, u0) := hd
      unfold dm_serve_54_b at hd
      have L63 : ∀ (n : Nat) (u : ts_S) (x1 x2 x3 : Int32) (H : Heap) (locs : List Loc) (ls : Array Slot), dm_serve_63 (dm_serve_54 n54) n u x1 x2 x3 = some (r0, u0) → ts_W mF D ca ad A s H locs u → lv_has ls 5 [(0, .ref (ad 0)), (1, .int x1), (2, .int x2), (3, .int x3)] → W p l e rM_serve s m args below meth c H locs 0 0 (MQ below (va_Qi (fun r v => r = r0 ∧ v = u0) (ts_post mF D ca ad A) A) args s 0 0 A) (F0 m 63 ls []) := by
        intro n
        induction n with
        | zero => intro u x1 x2 x3 H locs ls hd; cases (show (none : Option (Int32 × ts_S)) = some (r0, u0) from hd)
        | succ n63 ih63 =>
          intro u x1 x2 x3 H locs ls hd hw hl
          replace hd : dm_serve_63_b (dm_serve_54 n54) (dm_serve_63 (dm_serve_54 n54) n63) u x1 x2 x3 = some (r0, u0) := hd
          unfold dm_serve_63_b at hd
          refine lv_iload_n hx hb dM_serve_63 rfl (lv_at hl 3 rfl) ?_
          refine lv_iload_n hx hb dM_serve_64 rfl (lv_at hl 2 rfl) ?_
          refine lv_icmp_le (tgt := 131) hx hb dM_serve_65 (by decide) (fun cq => ?_) (fun cq => ?_)
          · replace hd := ts_if_p cq hd
            refine lv_iinc (v := (x2 + 1)) (lv' := [(2, .int (x2 + 1)), (0, .ref (ad 0)), (1, .int x1), (3, .int x3)]) hx hb dM_serve_131 hl (k := 2) rfl rfl (by decide) rfl (fun ls hl => ?_)
            refine lv_goto (tgt := 54) hx hb dM_serve_134 (by decide) ?_
            exact ih54 u x1 (x2 + 1) _ _ _ hd hw (lv_sub hl [1, 2, 0] rfl)
          · replace hd := ts_if_n cq hd
            refine lv_aload_n hx hb dM_serve_68 rfl (lv_at hl 0 rfl) ?_
            refine lv_aload_n hx hb dM_serve_69 rfl (lv_at hl 0 rfl) ?_
            refine gM_38 hc hn hw dM_serve_70 ?_
            refine lv_iload_n hx hb dM_serve_73 rfl (lv_at hl 3 rfl) ?_
            obtain ⟨h, hd⟩ := ts_ix_s hd
            refine mm_l9 hc hw h dM_serve_74 ?_
            obtain ⟨r75, u75, hq, hd⟩ := ts_b_s hd
            refine cM_102 hc hn hw hq hl.1 ⟨Nat.le_of_ble_eq_true rfl, Nat.le_of_ble_eq_true rfl⟩ (Nat.le_of_ble_eq_true rfl) dM_serve_75 (fun H locs hw => ?_)
            refine lv_aload_n hx hb dM_serve_78 rfl (lv_at hl 0 rfl) ?_
            refine lv_aload_n hx hb dM_serve_79 rfl (lv_at hl 0 rfl) ?_
            refine gM_38 hc hn hw dM_serve_80 ?_
            refine lv_iload_n hx hb dM_serve_83 rfl (lv_at hl 3 rfl) ?_
            refine lv_iconst (v := 1) hx hb dM_serve_84 (by decide) ?_
            refine lv_isub hx hb dM_serve_85 ?_
            obtain ⟨h, hd⟩ := ts_ix_s hd
            refine mm_l9 hc hw h dM_serve_86 ?_
            obtain ⟨r87, u87, hq, hd⟩ := ts_b_s hd
            refine cM_102 hc hn hw hq hl.1 ⟨Nat.le_of_ble_eq_true rfl, Nat.le_of_ble_eq_true rfl⟩ (Nat.le_of_ble_eq_true rfl) dM_serve_87 (fun H locs hw => ?_)
            refine lv_icmp_ge (tgt := 125) hx hb dM_serve_90 (by decide) (fun cq => ?_) (fun cq => ?_)
            · replace hd := ts_if_p cq hd
              refine lv_iinc (v := (x3 + (-1))) (lv' := [(3, .int (x3 + (-1))), (0, .ref (ad 0)), (1, .int x1), (2, .int x2)]) hx hb dM_serve_125 hl (k := 3) rfl rfl (by decide) rfl (fun ls hl => ?_)
              refine lv_goto (tgt := 63) hx hb dM_serve_128 (by decide) ?_
              exact ih63 u87 x1 x2 (x3 + (-1)) _ _ _ hd hw (lv_sub hl [1, 2, 3, 0] rfl)
            · replace hd := ts_if_n cq hd
              refine lv_aload_n hx hb dM_serve_93 rfl (lv_at hl 0 rfl) ?_
              refine gM_38 hc hn hw dM_serve_94 ?_
              refine lv_iload_n hx hb dM_serve_97 rfl (lv_at hl 3 rfl) ?_
              obtain ⟨h, hd⟩ := ts_ix_s hd
              refine mm_l9 hc hw h dM_serve_98 ?_
              refine lv_istore (lv' := [(4, .int (u87.2 9 x3.toNatClampNeg)), (0, .ref (ad 0)), (1, .int x1), (2, .int x2), (3, .int x3)]) hx hb dM_serve_99 hl (by decide) rfl (fun ls hl => ?_)
              refine lv_aload_n hx hb dM_serve_101 rfl (lv_at hl 1 rfl) ?_
              refine gM_38 hc hn hw dM_serve_102 ?_
              refine lv_iload_n hx hb dM_serve_105 rfl (lv_at hl 4 rfl) ?_
              refine lv_aload_n hx hb dM_serve_106 rfl (lv_at hl 1 rfl) ?_
              refine gM_38 hc hn hw dM_serve_107 ?_
              refine lv_iload_n hx hb dM_serve_110 rfl (lv_at hl 4 rfl) ?_
              refine lv_iconst (v := 1) hx hb dM_serve_111 (by decide) ?_
              refine lv_isub hx hb dM_serve_112 ?_
              obtain ⟨h, hd⟩ := ts_ix_s hd
              refine mm_l9 hc hw h dM_serve_113 ?_
              obtain ⟨h, hd⟩ := ts_ix_s hd
              refine mm_s9 hc hw h dM_serve_114 (fun H locs hw => ?_)
              refine lv_aload_n hx hb dM_serve_115 rfl (lv_at hl 1 rfl) ?_
              refine gM_38 hc hn hw dM_serve_116 ?_
              refine lv_iload_n hx hb dM_serve_119 rfl (lv_at hl 4 rfl) ?_
              refine lv_iconst (v := 1) hx hb dM_serve_120 (by decide) ?_
              refine lv_isub hx hb dM_serve_121 ?_
              refine lv_iload hx hb dM_serve_122 (lv_at hl 0 rfl) ?_
              obtain ⟨h, hd⟩ := ts_ix_s hd
              refine mm_s9 hc hw h dM_serve_124 (fun H locs hw => ?_)
              refine lv_iinc (v := (x3 + (-1))) (lv' := [(3, .int (x3 + (-1))), (4, .int (u87.2 9 x3.toNatClampNeg)), (0, .ref (ad 0)), (1, .int x1), (2, .int x2)]) hx hb dM_serve_125 hl (k := 4) rfl rfl (by decide) rfl (fun ls hl => ?_)
              refine lv_goto (tgt := 63) hx hb dM_serve_128 (by decide) ?_
              exact ih63 (ts_a 9 (x3 - 1).toNatClampNeg (u87.2 9 x3.toNatClampNeg) (ts_a 9 x3.toNatClampNeg (u87.2 9 (x3 - 1).toNatClampNeg) u87)) x1 x2 (x3 + (-1)) _ _ _ hd hw (lv_sub hl [2, 3, 4, 0] rfl)
      refine lv_iload_n hx hb dM_serve_54 rfl (lv_at hl 2 rfl) ?_
      refine lv_iload_n hx hb dM_serve_55 rfl (lv_at hl 1 rfl) ?_
      refine lv_icmp_ge (tgt := 137) hx hb dM_serve_56 (by decide) (fun cq => ?_) (fun cq => ?_)
      · replace hd := ts_if_p cq hd
        refine lv_iconst (v := 0) hx hb dM_serve_137 (by decide) ?_
        refine lv_istore_n (lv' := [(2, .int 0), (0, .ref (ad 0)), (1, .int x1)]) hx hb dM_serve_138 rfl hl (by decide) rfl (fun ls hl => ?_)
        refine lv_iconst (v := 0) hx hb dM_serve_139 (by decide) ?_
        refine lv_istore_n (lv' := [(3, .int 0), (2, .int 0), (0, .ref (ad 0)), (1, .int x1)]) hx hb dM_serve_140 rfl hl (by decide) rfl (fun ls hl => ?_)
        exact L141 40 u x1 0 0 _ _ _ hd hw (lv_sub hl [2, 3, 1, 0] rfl)
      · replace hd := ts_if_n cq hd
        refine lv_iload_n hx hb dM_serve_59 rfl (lv_at hl 1 rfl) ?_
        refine lv_iconst (v := 1) hx hb dM_serve_60 (by decide) ?_
        refine lv_isub hx hb dM_serve_61 ?_
        refine lv_istore_n (lv' := [(3, .int (x1 - 1)), (0, .ref (ad 0)), (1, .int x1), (2, .int x2)]) hx hb dM_serve_62 rfl hl (by decide) rfl (fun ls hl => ?_)
        exact L63 40 u x1 x2 (x1 - 1) _ _ _ hd hw (lv_sub hl [1, 2, 3, 0] rfl)
  have L4 : ∀ (n : Nat) (u : ts_S) (x1 x2 : Int32) (H : Heap) (locs : List Loc) (ls : Array Slot), dm_serve_4 n u x1 x2 = some (r0, u0) → ts_W mF D ca ad A s H locs u → lv_has ls 5 [(0, .ref (ad 0)), (1, .int x1), (2, .int x2)] → W p l e rM_serve s m args below meth c H locs 0 0 (MQ below (va_Qi (fun r v => r = r0 ∧ v = u0) (ts_post mF D ca ad A) A) args s 0 0 A) (F0 m 4 ls []) := by
    intro n
    induction n with
    | zero => intro u x1 x2 H locs ls hd; cases (show (none : Option (Int32 × ts_S)) = some (r0, u0) from hd)
    | succ n4 ih4 =>
      intro u x1 x2 H locs ls hd hw hl
      replace hd : dm_serve_4_b (dm_serve_4 n4) u x1 x2 = some (r0, u0) := hd
      unfold dm_serve_4_b at hd
      refine lv_iload_n hx hb dM_serve_4 rfl (lv_at hl 2 rfl) ?_
      refine lv_bipush (v := 16) hx hb dM_serve_5 (by decide) ?_
      refine lv_icmp_ge (tgt := 52) hx hb dM_serve_7 (by decide) (fun cq => ?_) (fun cq => ?_)
      · replace hd := ts_if_p cq hd
        refine lv_iconst (v := 0) hx hb dM_serve_52 (by decide) ?_
        refine lv_istore_n (lv' := [(2, .int 0), (0, .ref (ad 0)), (1, .int x1)]) hx hb dM_serve_53 rfl hl (by decide) rfl (fun ls hl => ?_)
        exact L54 40 u x1 0 _ _ _ hd hw (lv_sub hl [1, 2, 0] rfl)
      · replace hd := ts_if_n cq hd
        refine lv_aload_n hx hb dM_serve_10 rfl (lv_at hl 0 rfl) ?_
        refine gM_28 hc hn hw dM_serve_11 ?_
        refine lv_iload_n hx hb dM_serve_14 rfl (lv_at hl 2 rfl) ?_
        obtain ⟨h, hd⟩ := ts_ix_s hd
        refine mm_l7 hc hw h dM_serve_15 ?_
        refine lv_if_eq (tgt := 39) hx hb dM_serve_16 (by decide) (fun cq => ?_) (fun cq => ?_)
        · replace hd := ts_if_p cq hd
          refine lv_aload_n hx hb dM_serve_39 rfl (lv_at hl 0 rfl) ?_
          refine gM_28 hc hn hw dM_serve_40 ?_
          refine lv_iload_n hx hb dM_serve_43 rfl (lv_at hl 2 rfl) ?_
          refine lv_iconst (v := 0) hx hb dM_serve_44 (by decide) ?_
          obtain ⟨h, hd⟩ := ts_ix_s hd
          refine mm_s7 hc hw h (by decide +kernel) dM_serve_45 (fun H locs hw => ?_)
          refine lv_iinc (v := (x2 + 1)) (lv' := [(2, .int (x2 + 1)), (0, .ref (ad 0)), (1, .int x1)]) hx hb dM_serve_46 hl (k := 2) rfl rfl (by decide) rfl (fun ls hl => ?_)
          refine lv_goto (tgt := 4) hx hb dM_serve_49 (by decide) ?_
          exact ih4 (ts_a 7 x2.toNatClampNeg 0 u) x1 (x2 + 1) _ _ _ hd hw (lv_sub hl [1, 2, 0] rfl)
        · replace hd := ts_if_n cq hd
          refine lv_aload_n hx hb dM_serve_19 rfl (lv_at hl 0 rfl) ?_
          refine gM_7 hc hn hw dM_serve_20 ?_
          refine lv_iload_n hx hb dM_serve_23 rfl (lv_at hl 2 rfl) ?_
          obtain ⟨h, hd⟩ := ts_ix_s hd
          refine mm_l2 hc hw h dM_serve_24 ?_
          refine lv_iconst (v := 3) hx hb dM_serve_25 (by decide) ?_
          refine lv_icmp_ne (tgt := 39) hx hb dM_serve_26 (by decide) (fun cq => ?_) (fun cq => ?_)
          · replace hd := ts_if_n cq hd
            refine lv_aload_n hx hb dM_serve_39 rfl (lv_at hl 0 rfl) ?_
            refine gM_28 hc hn hw dM_serve_40 ?_
            refine lv_iload_n hx hb dM_serve_43 rfl (lv_at hl 2 rfl) ?_
            refine lv_iconst (v := 0) hx hb dM_serve_44 (by decide) ?_
            obtain ⟨h, hd⟩ := ts_ix_s hd
            refine mm_s7 hc hw h (by decide +kernel) dM_serve_45 (fun H locs hw => ?_)
            refine lv_iinc (v := (x2 + 1)) (lv' := [(2, .int (x2 + 1)), (0, .ref (ad 0)), (1, .int x1)]) hx hb dM_serve_46 hl (k := 2) rfl rfl (by decide) rfl (fun ls hl => ?_)
            refine lv_goto (tgt := 4) hx hb dM_serve_49 (by decide) ?_
            exact ih4 (ts_a 7 x2.toNatClampNeg 0 u) x1 (x2 + 1) _ _ _ hd hw (lv_sub hl [1, 2, 0] rfl)
          · replace hd := ts_if_p cq hd
            refine lv_aload_n hx hb dM_serve_29 rfl (lv_at hl 0 rfl) ?_
            refine gM_38 hc hn hw dM_serve_30 ?_
            refine lv_iload_n hx hb dM_serve_33 rfl (lv_at hl 1 rfl) ?_
            refine lv_iload_n hx hb dM_serve_34 rfl (lv_at hl 2 rfl) ?_
            obtain ⟨h, hd⟩ := ts_ix_s hd
            refine mm_s9 hc hw h dM_serve_35 (fun H locs hw => ?_)
            refine lv_iinc (v := (x1 + 1)) (lv' := [(1, .int (x1 + 1)), (0, .ref (ad 0)), (2, .int x2)]) hx hb dM_serve_36 hl (k := 1) rfl rfl (by decide) rfl (fun ls hl => ?_)
            refine lv_aload_n hx hb dM_serve_39 rfl (lv_at hl 1 rfl) ?_
            refine gM_28 hc hn hw dM_serve_40 ?_
            refine lv_iload_n hx hb dM_serve_43 rfl (lv_at hl 2 rfl) ?_
            refine lv_iconst (v := 0) hx hb dM_serve_44 (by decide) ?_
            obtain ⟨h, hd⟩ := ts_ix_s hd
            refine mm_s7 hc hw h (by decide +kernel) dM_serve_45 (fun H locs hw => ?_)
            refine lv_iinc (v := (x2 + 1)) (lv' := [(2, .int (x2 + 1)), (1, .int (x1 + 1)), (0, .ref (ad 0))]) hx hb dM_serve_46 hl (k := 2) rfl rfl (by decide) rfl (fun ls hl => ?_)
            refine lv_goto (tgt := 4) hx hb dM_serve_49 (by decide) ?_
            exact ih4 (ts_a 7 x2.toNatClampNeg 0 (ts_a 9 x1.toNatClampNeg x2 u)) (x1 + 1) (x2 + 1) _ _ _ hd hw (lv_sub hl [2, 1, 0] rfl)
  unfold dm_serve at hd
  refine lv_iconst (v := 0) hx hb dM_serve_0 (by decide) ?_
  refine lv_istore_n (lv' := [(1, .int 0), (0, .ref (ad 0))]) hx hb dM_serve_1 rfl hl (by decide) rfl (fun ls hl => ?_)
  refine lv_iconst (v := 0) hx hb dM_serve_2 (by decide) ?_
  refine lv_istore_n (lv' := [(2, .int 0), (1, .int 0), (0, .ref (ad 0))]) hx hb dM_serve_3 rfl hl (by decide) rfl (fun ls hl => ?_)
  exact L4 40 u 0 0 _ _ _ hd hw (lv_sub hl [2, 1, 0] rfl)
end
section
def rM_copied : Room := { frames := 0, cells := 0, slots := 0, locals := 0 }
set_option maxHeartbeats 4000000 in
set_option maxRecDepth 100000 in
theorem cm_copied (l : Launch) {u : ts_S} {x1 : Int32} {r0 : Int32} {u0 : ts_S} (hd : dm_copied u x1 = some (r0, u0)) : ts_Ci mF l yM_copied (.code yM_copied bM_copied 2 (some .boolean) :: uW) rM_copied (fun ad => [.ref (ad 0), .int x1]) u r0 u0 := by
  refine ts_in_i mF l (by decide) (fun p e s m args below meth c D ca ad A hc hn hr hlk hw => ?_)
  have hx := hc.1
  have hb := hc.2.1
  have hl := lv_entry ([.ref (ad 0), .int x1]) (n := 2) (Nat.le_of_ble_eq_true rfl)
  rw [lg_entry_eq]
  generalize (lg_sl ([.ref (ad 0), .int x1]) ++ List.replicate (2 - (lg_sl ([.ref (ad 0), .int x1])).length) Slot.unset).toArray = ls at hl ⊢
  replace hl : lv_has ls 2 [(0, .ref (ad 0)), (1, .int x1)] := hl
  unfold dm_copied at hd
  refine lv_aload_n hx hb dM_copied_0 rfl (lv_at hl 0 rfl) ?_
  refine gM_7 hc hn hw dM_copied_1 ?_
  refine lv_iload_n hx hb dM_copied_4 rfl (lv_at hl 1 rfl) ?_
  obtain ⟨h, hd⟩ := ts_ix_s hd
  refine mm_l2 hc hw h dM_copied_5 ?_
  refine lv_iconst (v := 2) hx hb dM_copied_6 (by decide) ?_
  refine lv_icmp_eq (tgt := 20) hx hb dM_copied_7 (by decide) (fun cq => ?_) (fun cq => ?_)
  · replace hd := ts_if_p cq hd
    refine lv_iconst (v := 1) hx hb dM_copied_20 (by decide) ?_
    refine lv_goto (tgt := 25) hx hb dM_copied_21 (by decide) ?_
    exact ts_iret hx hb hr hlk (by decide +kernel) hw hd dM_copied_25
  · replace hd := ts_if_n cq hd
    refine lv_aload_n hx hb dM_copied_10 rfl (lv_at hl 0 rfl) ?_
    refine gM_7 hc hn hw dM_copied_11 ?_
    refine lv_iload_n hx hb dM_copied_14 rfl (lv_at hl 1 rfl) ?_
    obtain ⟨h, hd⟩ := ts_ix_s hd
    refine mm_l2 hc hw h dM_copied_15 ?_
    refine lv_iconst (v := 3) hx hb dM_copied_16 (by decide) ?_
    refine lv_icmp_ne (tgt := 24) hx hb dM_copied_17 (by decide) (fun cq => ?_) (fun cq => ?_)
    · replace hd := ts_if_n cq hd
      refine lv_iconst (v := 0) hx hb dM_copied_24 (by decide) ?_
      exact ts_iret hx hb hr hlk (by decide +kernel) hw hd dM_copied_25
    · replace hd := ts_if_p cq hd
      refine lv_iconst (v := 1) hx hb dM_copied_20 (by decide) ?_
      refine lv_goto (tgt := 25) hx hb dM_copied_21 (by decide) ?_
      exact ts_iret hx hb hr hlk (by decide +kernel) hw hd dM_copied_25
section
variable {p : Program} {l : Launch} {e : Env} {R : Room} {s : State} {m : MethodId} {args : Array Value} {below : List Frame} {meth : Method} {c : Code} {H : Heap} {locs : List Loc} {Q : State → Prop} {cc : ByteArray} {pc nL : Nat} {ls : Array Slot} {rest : List Value} {D : va_G} {ca : Nat → ClassId} {ad : Nat → Nat} {A : Nat → Prop} {u : ts_S} {cells slots : Nat}
theorem cM_105 (hc : CallFix p m c cc nL s args uW RM) (hn : nx s) (hw : ts_W mF D ca ad A s H locs u) {x1 : Int32} {r0 : Int32} {u0 : ts_S} (hq : dm_copied u x1 = some (r0, u0)) (hsz : ls.size = nL) (hR : rM_copied.frames + 1 ≤ R.frames ∧ 8 + (2 + 11) + rM_copied.locals ≤ R.locals) (hrest : (rest.map fun v => v.category).sum ≤ 8) (hdg : decode cc pc = .ok (.invokevirtual 105, 3)) (kk : ∀ (H1 : Heap) (locs1 : List Loc), ts_W mF D ca ad A s H1 locs1 u0 → W p l e R s m args below meth c H1 locs1 0 0 Q (F0 m (pc + 3) ls (.int r0 :: rest))) : W p l e R s m args below meth c H locs 0 0 Q (F0 m pc ls (.int x1 :: .ref (ad 0) :: rest)) :=
  ts_callVi (b := ad 0) (As := [.int x1]) hc hn hw (cm_copied l hq) rfl (cwV 1 hc.2.2.2.2 (gd_V (by decide +kernel) (by decide +kernel) (by decide +kernel) (by decide +kernel) (code_M_copied)) rfl rfl rfl (by decide +kernel) hR) (va_recv hw.2.2.2.1 hw.1 (ci := 2) (q0 := 0) rfl rfl) rfl hsz hrest hdg kk
end
def rM_next : Room := { frames := 1, cells := 0, slots := 0, locals := 21 }
set_option maxHeartbeats 4000000 in
set_option maxRecDepth 100000 in
theorem cm_next (l : Launch) {u : ts_S} {x1 x2 : Int32} {r0 : Int32} {u0 : ts_S} (hd : dm_next u x1 x2 = some (r0, u0)) : ts_Ci mF l yM_next (.code yM_next bM_next 6 (some .int) :: uW) rM_next (fun ad => [.ref (ad 0), .int x1, .int x2]) u r0 u0 := by
  refine ts_in_i mF l (by decide) (fun p e s m args below meth c D ca ad A hc hn hr hlk hw => ?_)
  have hx := hc.1
  have hb := hc.2.1
  have hl := lv_entry ([.ref (ad 0), .int x1, .int x2]) (n := 6) (Nat.le_of_ble_eq_true rfl)
  rw [lg_entry_eq]
  generalize (lg_sl ([.ref (ad 0), .int x1, .int x2]) ++ List.replicate (6 - (lg_sl ([.ref (ad 0), .int x1, .int x2])).length) Slot.unset).toArray = ls at hl ⊢
  replace hl : lv_has ls 6 [(0, .ref (ad 0)), (1, .int x1), (2, .int x2)] := hl
  have L5 : ∀ (n : Nat) (u : ts_S) (x1 x2 x3 x4 : Int32) (H : Heap) (locs : List Loc) (ls : Array Slot), dm_next_5 n u x1 x2 x3 x4 = some (r0, u0) → ts_W mF D ca ad A s H locs u → lv_has ls 6 [(0, .ref (ad 0)), (1, .int x1), (2, .int x2), (3, .int x3), (4, .int x4)] → W p l e rM_next s m args below meth c H locs 0 0 (MQ below (va_Qi (fun r v => r = r0 ∧ v = u0) (ts_post mF D ca ad A) A) args s 0 0 A) (F0 m 5 ls []) := by
    intro n
    induction n with
    | zero => intro u x1 x2 x3 x4 H locs ls hd; cases (show (none : Option (Int32 × ts_S)) = some (r0, u0) from hd)
    | succ n5 ih5 =>
      intro u x1 x2 x3 x4 H locs ls hd hw hl
      replace hd : dm_next_5_b (dm_next_5 n5) u x1 x2 x3 x4 = some (r0, u0) := hd
      unfold dm_next_5_b at hd
      refine lv_iload hx hb dM_next_5 (lv_at hl 4 rfl) ?_
      refine lv_bipush (v := 16) hx hb dM_next_7 (by decide) ?_
      refine lv_icmp_ge (tgt := 84) hx hb dM_next_9 (by decide) (fun cq => ?_) (fun cq => ?_)
      · replace hd := ts_if_p cq hd
        refine lv_iload_n hx hb dM_next_84 rfl (lv_at hl 3 rfl) ?_
        exact ts_iret hx hb hr hlk (vp_nar_int _) hw hd dM_next_85
      · replace hd := ts_if_n cq hd
        refine lv_aload_n hx hb dM_next_12 rfl (lv_at hl 0 rfl) ?_
        refine lv_iload hx hb dM_next_13 (lv_at hl 4 rfl) ?_
        obtain ⟨r15, u15, hq, hd⟩ := ts_b_s hd
        refine cM_105 hc hn hw hq hl.1 ⟨Nat.le_of_ble_eq_true rfl, Nat.le_of_ble_eq_true rfl⟩ (Nat.le_of_ble_eq_true rfl) dM_next_15 (fun H locs hw => ?_)
        refine lv_if_eq (tgt := 47) hx hb dM_next_18 (by decide) (fun cq => ?_) (fun cq => ?_)
        · replace hd := ts_if_p cq hd
          refine lv_iconst (v := 0) hx hb dM_next_47 (by decide) ?_
          refine lv_istore (lv' := [(5, .int 0), (0, .ref (ad 0)), (1, .int x1), (2, .int x2), (3, .int x3), (4, .int x4)]) hx hb dM_next_48 hl (by decide) rfl (fun ls hl => ?_)
          refine lv_iload hx hb dM_next_50 (lv_at hl 0 rfl) ?_
          refine lv_if_eq (tgt := 78) hx hb dM_next_52 (by decide) (fun cq => ?_) (fun cq => ?_)
          · refine lv_iinc (v := (x4 + 1)) (lv' := [(4, .int (x4 + 1)), (5, .int 0), (0, .ref (ad 0)), (1, .int x1), (2, .int x2), (3, .int x3)]) hx hb dM_next_78 hl (k := 5) rfl rfl (by decide) rfl (fun ls hl => ?_)
            refine lv_goto (tgt := 5) hx hb dM_next_81 (by decide) ?_
            exact ih5 u15 x1 x2 x3 (x4 + 1) _ _ _ hd hw (lv_sub hl [2, 3, 4, 5, 0] rfl)
          · exact absurd cq (by decide)
        · replace hd := ts_if_n cq hd
          refine lv_aload_n hx hb dM_next_21 rfl (lv_at hl 0 rfl) ?_
          refine gM_22 hc hn hw dM_next_22 ?_
          refine lv_iload hx hb dM_next_25 (lv_at hl 4 rfl) ?_
          obtain ⟨h, hd⟩ := ts_ix_s hd
          refine mm_l5 hc hw h dM_next_27 ?_
          refine lv_iload_n hx hb dM_next_28 rfl (lv_at hl 1 rfl) ?_
          refine lv_icmp_ne (tgt := 47) hx hb dM_next_29 (by decide) (fun cq => ?_) (fun cq => ?_)
          · replace hd := ts_if_n cq hd
            refine lv_iconst (v := 0) hx hb dM_next_47 (by decide) ?_
            refine lv_istore (lv' := [(5, .int 0), (0, .ref (ad 0)), (1, .int x1), (2, .int x2), (3, .int x3), (4, .int x4)]) hx hb dM_next_48 hl (by decide) rfl (fun ls hl => ?_)
            refine lv_iload hx hb dM_next_50 (lv_at hl 0 rfl) ?_
            refine lv_if_eq (tgt := 78) hx hb dM_next_52 (by decide) (fun cq => ?_) (fun cq => ?_)
            · refine lv_iinc (v := (x4 + 1)) (lv' := [(4, .int (x4 + 1)), (5, .int 0), (0, .ref (ad 0)), (1, .int x1), (2, .int x2), (3, .int x3)]) hx hb dM_next_78 hl (k := 5) rfl rfl (by decide) rfl (fun ls hl => ?_)
              refine lv_goto (tgt := 5) hx hb dM_next_81 (by decide) ?_
              exact ih5 u15 x1 x2 x3 (x4 + 1) _ _ _ hd hw (lv_sub hl [2, 3, 4, 5, 0] rfl)
            · exact absurd cq (by decide)
          · replace hd := ts_if_p cq hd
            refine lv_aload_n hx hb dM_next_32 rfl (lv_at hl 0 rfl) ?_
            refine gM_25 hc hn hw dM_next_33 ?_
            refine lv_iload hx hb dM_next_36 (lv_at hl 4 rfl) ?_
            obtain ⟨h, hd⟩ := ts_ix_s hd
            refine mm_l6 hc hw h dM_next_38 ?_
            refine lv_iload_n hx hb dM_next_39 rfl (lv_at hl 2 rfl) ?_
            refine lv_icmp_lt (tgt := 47) hx hb dM_next_40 (by decide) (fun cq => ?_) (fun cq => ?_)
            · replace hd := ts_if_p cq hd
              refine lv_iconst (v := 0) hx hb dM_next_47 (by decide) ?_
              refine lv_istore (lv' := [(5, .int 0), (0, .ref (ad 0)), (1, .int x1), (2, .int x2), (3, .int x3), (4, .int x4)]) hx hb dM_next_48 hl (by decide) rfl (fun ls hl => ?_)
              refine lv_iload hx hb dM_next_50 (lv_at hl 0 rfl) ?_
              refine lv_if_eq (tgt := 78) hx hb dM_next_52 (by decide) (fun cq => ?_) (fun cq => ?_)
              · refine lv_iinc (v := (x4 + 1)) (lv' := [(4, .int (x4 + 1)), (5, .int 0), (0, .ref (ad 0)), (1, .int x1), (2, .int x2), (3, .int x3)]) hx hb dM_next_78 hl (k := 5) rfl rfl (by decide) rfl (fun ls hl => ?_)
                refine lv_goto (tgt := 5) hx hb dM_next_81 (by decide) ?_
                exact ih5 u15 x1 x2 x3 (x4 + 1) _ _ _ hd hw (lv_sub hl [2, 3, 4, 5, 0] rfl)
              · exact absurd cq (by decide)
            · replace hd := ts_if_n cq hd
              refine lv_iconst (v := 1) hx hb dM_next_43 (by decide) ?_
              refine lv_goto (tgt := 48) hx hb dM_next_44 (by decide) ?_
              refine lv_istore (lv' := [(5, .int 1), (0, .ref (ad 0)), (1, .int x1), (2, .int x2), (3, .int x3), (4, .int x4)]) hx hb dM_next_48 hl (by decide) rfl (fun ls hl => ?_)
              refine lv_iload hx hb dM_next_50 (lv_at hl 0 rfl) ?_
              refine lv_if_eq (tgt := 78) hx hb dM_next_52 (by decide) (fun cq => ?_) (fun cq => ?_)
              · exact absurd cq (by decide)
              · refine lv_iload_n hx hb dM_next_55 rfl (lv_at hl 4 rfl) ?_
                refine lv_if_lt (tgt := 75) hx hb dM_next_56 (by decide) (fun cq => ?_) (fun cq => ?_)
                · replace hd := ts_if_p cq hd
                  refine lv_iload hx hb dM_next_75 (lv_at hl 5 rfl) ?_
                  refine lv_istore_n (lv' := [(3, .int x4), (5, .int 1), (0, .ref (ad 0)), (1, .int x1), (2, .int x2), (4, .int x4)]) hx hb dM_next_77 rfl hl (by decide) rfl (fun ls hl => ?_)
                  refine lv_iinc (v := (x4 + 1)) (lv' := [(4, .int (x4 + 1)), (3, .int x4), (5, .int 1), (0, .ref (ad 0)), (1, .int x1), (2, .int x2)]) hx hb dM_next_78 hl (k := 5) rfl rfl (by decide) rfl (fun ls hl => ?_)
                  refine lv_goto (tgt := 5) hx hb dM_next_81 (by decide) ?_
                  exact ih5 u15 x1 x2 x4 (x4 + 1) _ _ _ hd hw (lv_sub hl [3, 4, 5, 1, 0] rfl)
                · replace hd := ts_if_n cq hd
                  refine lv_aload_n hx hb dM_next_59 rfl (lv_at hl 1 rfl) ?_
                  refine gM_25 hc hn hw dM_next_60 ?_
                  refine lv_iload hx hb dM_next_63 (lv_at hl 5 rfl) ?_
                  obtain ⟨h, hd⟩ := ts_ix_s hd
                  refine mm_l6 hc hw h dM_next_65 ?_
                  refine lv_aload_n hx hb dM_next_66 rfl (lv_at hl 1 rfl) ?_
                  refine gM_25 hc hn hw dM_next_67 ?_
                  refine lv_iload_n hx hb dM_next_70 rfl (lv_at hl 4 rfl) ?_
                  obtain ⟨h, hd⟩ := ts_ix_s hd
                  refine mm_l6 hc hw h dM_next_71 ?_
                  refine lv_icmp_ge (tgt := 78) hx hb dM_next_72 (by decide) (fun cq => ?_) (fun cq => ?_)
                  · replace hd := ts_if_p cq hd
                    refine lv_iinc (v := (x4 + 1)) (lv' := [(4, .int (x4 + 1)), (5, .int 1), (0, .ref (ad 0)), (1, .int x1), (2, .int x2), (3, .int x3)]) hx hb dM_next_78 hl (k := 5) rfl rfl (by decide) rfl (fun ls hl => ?_)
                    refine lv_goto (tgt := 5) hx hb dM_next_81 (by decide) ?_
                    exact ih5 u15 x1 x2 x3 (x4 + 1) _ _ _ hd hw (lv_sub hl [2, 3, 4, 5, 0] rfl)
                  · replace hd := ts_if_n cq hd
                    refine lv_iload hx hb dM_next_75 (lv_at hl 5 rfl) ?_
                    refine lv_istore_n (lv' := [(3, .int x4), (5, .int 1), (0, .ref (ad 0)), (1, .int x1), (2, .int x2), (4, .int x4)]) hx hb dM_next_77 rfl hl (by decide) rfl (fun ls hl => ?_)
                    refine lv_iinc (v := (x4 + 1)) (lv' := [(4, .int (x4 + 1)), (3, .int x4), (5, .int 1), (0, .ref (ad 0)), (1, .int x1), (2, .int x2)]) hx hb dM_next_78 hl (k := 5) rfl rfl (by decide) rfl (fun ls hl => ?_)
                    refine lv_goto (tgt := 5) hx hb dM_next_81 (by decide) ?_
                    exact ih5 u15 x1 x2 x4 (x4 + 1) _ _ _ hd hw (lv_sub hl [3, 4, 5, 1, 0] rfl)
  unfold dm_next at hd
  refine lv_iconst (v := (-1)) hx hb dM_next_0 (by decide) ?_
  refine lv_istore_n (lv' := [(3, .int (-1)), (0, .ref (ad 0)), (1, .int x1), (2, .int x2)]) hx hb dM_next_1 rfl hl (by decide) rfl (fun ls hl => ?_)
  refine lv_iconst (v := 0) hx hb dM_next_2 (by decide) ?_
  refine lv_istore (lv' := [(4, .int 0), (3, .int (-1)), (0, .ref (ad 0)), (1, .int x1), (2, .int x2)]) hx hb dM_next_3 hl (by decide) rfl (fun ls hl => ?_)
  exact L5 40 u x1 x2 (-1) 0 _ _ _ hd hw (lv_sub hl [2, 3, 4, 1, 0] rfl)
section
variable {p : Program} {l : Launch} {e : Env} {R : Room} {s : State} {m : MethodId} {args : Array Value} {below : List Frame} {meth : Method} {c : Code} {H : Heap} {locs : List Loc} {Q : State → Prop} {cc : ByteArray} {pc nL : Nat} {ls : Array Slot} {rest : List Value} {D : va_G} {ca : Nat → ClassId} {ad : Nat → Nat} {A : Nat → Prop} {u : ts_S} {cells slots : Nat}
theorem cM_108 (hc : CallFix p m c cc nL s args uW RM) (hn : nx s) (hw : ts_W mF D ca ad A s H locs u) {x1 x2 : Int32} {r0 : Int32} {u0 : ts_S} (hq : dm_next u x1 x2 = some (r0, u0)) (hsz : ls.size = nL) (hR : rM_next.frames + 1 ≤ R.frames ∧ 8 + (6 + 11) + rM_next.locals ≤ R.locals) (hrest : (rest.map fun v => v.category).sum ≤ 8) (hdg : decode cc pc = .ok (.invokevirtual 108, 3)) (kk : ∀ (H1 : Heap) (locs1 : List Loc), ts_W mF D ca ad A s H1 locs1 u0 → W p l e R s m args below meth c H1 locs1 0 0 Q (F0 m (pc + 3) ls (.int r0 :: rest))) : W p l e R s m args below meth c H locs 0 0 Q (F0 m pc ls (.int x2 :: .int x1 :: .ref (ad 0) :: rest)) :=
  ts_callVi (b := ad 0) (As := [.int x1, .int x2]) hc hn hw (cm_next l hq) rfl (cwV 2 hc.2.2.2.2 (gd_V (by decide +kernel) (by decide +kernel) (by decide +kernel) (by decide +kernel) (code_M_next)) rfl rfl rfl (by decide +kernel) hR) (va_recv hw.2.2.2.1 hw.1 (ci := 2) (q0 := 0) rfl rfl) rfl hsz hrest hdg kk
end
def rM_canEmpty : Room := { frames := 2, cells := 0, slots := 0, locals := 46 }
set_option maxHeartbeats 4000000 in
set_option maxRecDepth 100000 in
theorem cm_canEmpty (l : Launch) {u : ts_S} {x1 : Int32} {r0 : Int32} {u0 : ts_S} (hd : dm_canEmpty u x1 = some (r0, u0)) : ts_Ci mF l yM_canEmpty (.code yM_canEmpty bM_canEmpty 6 (some .boolean) :: uW) rM_canEmpty (fun ad => [.ref (ad 0), .int x1]) u r0 u0 := by
  refine ts_in_i mF l (by decide) (fun p e s m args below meth c D ca ad A hc hn hr hlk hw => ?_)
  have hx := hc.1
  have hb := hc.2.1
  have hl := lv_entry ([.ref (ad 0), .int x1]) (n := 6) (Nat.le_of_ble_eq_true rfl)
  rw [lg_entry_eq]
  generalize (lg_sl ([.ref (ad 0), .int x1]) ++ List.replicate (6 - (lg_sl ([.ref (ad 0), .int x1])).length) Slot.unset).toArray = ls at hl ⊢
  replace hl : lv_has ls 6 [(0, .ref (ad 0)), (1, .int x1)] := hl
  have L34 : ∀ (n : Nat) (u : ts_S) (x1 x2 x3 : Int32) (H : Heap) (locs : List Loc) (ls : Array Slot), dm_canEmpty_34 n u x1 x2 x3 = some (r0, u0) → ts_W mF D ca ad A s H locs u → lv_has ls 6 [(0, .ref (ad 0)), (1, .int x1), (2, .int x2), (3, .int x3)] → W p l e rM_canEmpty s m args below meth c H locs 0 0 (MQ below (va_Qi (fun r v => r = r0 ∧ v = u0) (ts_post mF D ca ad A) A) args s 0 0 A) (F0 m 34 ls []) := by
    intro n
    induction n with
    | zero => intro u x1 x2 x3 H locs ls hd; cases (show (none : Option (Int32 × ts_S)) = some (r0, u0) from hd)
    | succ n34 ih34 =>
      intro u x1 x2 x3 H locs ls hd hw hl
      replace hd : dm_canEmpty_34_b (dm_canEmpty_34 n34) u x1 x2 x3 = some (r0, u0) := hd
      unfold dm_canEmpty_34_b at hd
      have L50 : ∀ (n : Nat) (u : ts_S) (x1 x2 x3 x4 x5 : Int32) (H : Heap) (locs : List Loc) (ls : Array Slot), dm_canEmpty_50 (dm_canEmpty_34 n34) n u x1 x2 x3 x4 x5 = some (r0, u0) → ts_W mF D ca ad A s H locs u → lv_has ls 6 [(0, .ref (ad 0)), (1, .int x1), (2, .int x2), (3, .int x3), (4, .int x4), (5, .int x5)] → W p l e rM_canEmpty s m args below meth c H locs 0 0 (MQ below (va_Qi (fun r v => r = r0 ∧ v = u0) (ts_post mF D ca ad A) A) args s 0 0 A) (F0 m 50 ls []) := by
        intro n
        induction n with
        | zero => intro u x1 x2 x3 x4 x5 H locs ls hd; cases (show (none : Option (Int32 × ts_S)) = some (r0, u0) from hd)
        | succ n50 ih50 =>
          intro u x1 x2 x3 x4 x5 H locs ls hd hw hl
          replace hd : dm_canEmpty_50_b (dm_canEmpty_34 n34) (dm_canEmpty_50 (dm_canEmpty_34 n34) n50) u x1 x2 x3 x4 x5 = some (r0, u0) := hd
          unfold dm_canEmpty_50_b at hd
          refine lv_iload hx hb dM_canEmpty_50 (lv_at hl 5 rfl) ?_
          refine lv_if_lt (tgt := 92) hx hb dM_canEmpty_52 (by decide) (fun cq => ?_) (fun cq => ?_)
          · replace hd := ts_if_p cq hd
            refine lv_iload hx hb dM_canEmpty_92 (lv_at hl 4 rfl) ?_
            refine lv_if_ge (tgt := 99) hx hb dM_canEmpty_94 (by decide) (fun cq => ?_) (fun cq => ?_)
            · replace hd := ts_if_p cq hd
              refine lv_aload_n hx hb dM_canEmpty_99 rfl (lv_at hl 0 rfl) ?_
              refine gM_35 hc hn hw dM_canEmpty_100 ?_
              refine lv_iload hx hb dM_canEmpty_103 (lv_at hl 4 rfl) ?_
              refine lv_dup2_11 hx hb dM_canEmpty_105 rfl rfl ?_
              obtain ⟨h, hd⟩ := ts_ix_s hd
              refine mm_l11 hc hw h dM_canEmpty_106 ?_
              refine lv_aload_n hx hb dM_canEmpty_107 rfl (lv_at hl 0 rfl) ?_
              refine gM_13 hc hn hw dM_canEmpty_108 ?_
              refine lv_iload_n hx hb dM_canEmpty_111 rfl (lv_at hl 2 rfl) ?_
              obtain ⟨h, hd⟩ := ts_ix_s hd
              refine mm_l3 hc hw h dM_canEmpty_112 ?_
              refine lv_iadd hx hb dM_canEmpty_113 ?_
              obtain ⟨h, hd⟩ := ts_ix_s hd
              refine mm_s11 hc hw h dM_canEmpty_114 (fun H locs hw => ?_)
              refine lv_aload_n hx hb dM_canEmpty_115 rfl (lv_at hl 0 rfl) ?_
              refine lv_iload_n hx hb dM_canEmpty_116 rfl (lv_at hl 1 rfl) ?_
              refine lv_aload_n hx hb dM_canEmpty_117 rfl (lv_at hl 0 rfl) ?_
              refine gM_25 hc hn hw dM_canEmpty_118 ?_
              refine lv_iload_n hx hb dM_canEmpty_121 rfl (lv_at hl 2 rfl) ?_
              obtain ⟨h, hd⟩ := ts_ix_s hd
              refine mm_l6 hc hw h dM_canEmpty_122 ?_
              refine lv_iconst (v := 1) hx hb dM_canEmpty_123 (by decide) ?_
              refine lv_iadd hx hb dM_canEmpty_124 ?_
              obtain ⟨r125, u125, hq, hd⟩ := ts_b_s hd
              refine cM_108 hc hn hw hq hl.1 ⟨Nat.le_of_ble_eq_true rfl, Nat.le_of_ble_eq_true rfl⟩ (Nat.le_of_ble_eq_true rfl) dM_canEmpty_125 (fun H locs hw => ?_)
              refine lv_istore_n (lv' := [(2, .int r125), (0, .ref (ad 0)), (1, .int x1), (3, .int x3), (4, .int x4), (5, .int x5)]) hx hb dM_canEmpty_128 rfl hl (by decide) rfl (fun ls hl => ?_)
              refine lv_iinc (v := (x3 + 1)) (lv' := [(3, .int (x3 + 1)), (2, .int r125), (0, .ref (ad 0)), (1, .int x1), (4, .int x4), (5, .int x5)]) hx hb dM_canEmpty_129 hl (k := 3) rfl rfl (by decide) rfl (fun ls hl => ?_)
              refine lv_goto (tgt := 34) hx hb dM_canEmpty_132 (by decide) ?_
              exact ih34 u125 x1 r125 (x3 + 1) _ _ _ hd hw (lv_sub hl [2, 3, 1, 0] rfl)
            · replace hd := ts_if_n cq hd
              refine lv_iconst (v := 0) hx hb dM_canEmpty_97 (by decide) ?_
              exact ts_iret hx hb hr hlk (by decide +kernel) hw hd dM_canEmpty_98
          · replace hd := ts_if_n cq hd
            refine lv_iload hx hb dM_canEmpty_55 (lv_at hl 5 rfl) ?_
            refine lv_iload_n hx hb dM_canEmpty_57 rfl (lv_at hl 1 rfl) ?_
            refine lv_icmp_eq (tgt := 86) hx hb dM_canEmpty_58 (by decide) (fun cq => ?_) (fun cq => ?_)
            · replace hd := ts_if_p cq hd
              refine lv_iinc (v := (x5 + (-1))) (lv' := [(5, .int (x5 + (-1))), (0, .ref (ad 0)), (1, .int x1), (2, .int x2), (3, .int x3), (4, .int x4)]) hx hb dM_canEmpty_86 hl (k := 5) rfl rfl (by decide) rfl (fun ls hl => ?_)
              refine lv_goto (tgt := 50) hx hb dM_canEmpty_89 (by decide) ?_
              exact ih50 u x1 x2 x3 x4 (x5 + (-1)) _ _ _ hd hw (lv_sub hl [1, 2, 3, 4, 5, 0] rfl)
            · replace hd := ts_if_n cq hd
              refine lv_aload_n hx hb dM_canEmpty_61 rfl (lv_at hl 0 rfl) ?_
              refine gM_35 hc hn hw dM_canEmpty_62 ?_
              refine lv_iload hx hb dM_canEmpty_65 (lv_at hl 5 rfl) ?_
              obtain ⟨h, hd⟩ := ts_ix_s hd
              refine mm_l11 hc hw h dM_canEmpty_67 ?_
              refine lv_aload_n hx hb dM_canEmpty_68 rfl (lv_at hl 0 rfl) ?_
              refine gM_13 hc hn hw dM_canEmpty_69 ?_
              refine lv_iload_n hx hb dM_canEmpty_72 rfl (lv_at hl 2 rfl) ?_
              obtain ⟨h, hd⟩ := ts_ix_s hd
              refine mm_l3 hc hw h dM_canEmpty_73 ?_
              refine lv_iadd hx hb dM_canEmpty_74 ?_
              refine lv_aload_n hx hb dM_canEmpty_75 rfl (lv_at hl 0 rfl) ?_
              refine gM_48 hc hn hw dM_canEmpty_76 ?_
              refine lv_icmp_gt (tgt := 86) hx hb dM_canEmpty_79 (by decide) (fun cq => ?_) (fun cq => ?_)
              · replace hd := ts_if_p cq hd
                refine lv_iinc (v := (x5 + (-1))) (lv' := [(5, .int (x5 + (-1))), (0, .ref (ad 0)), (1, .int x1), (2, .int x2), (3, .int x3), (4, .int x4)]) hx hb dM_canEmpty_86 hl (k := 5) rfl rfl (by decide) rfl (fun ls hl => ?_)
                refine lv_goto (tgt := 50) hx hb dM_canEmpty_89 (by decide) ?_
                exact ih50 u x1 x2 x3 x4 (x5 + (-1)) _ _ _ hd hw (lv_sub hl [1, 2, 3, 4, 5, 0] rfl)
              · replace hd := ts_if_n cq hd
                refine lv_iload hx hb dM_canEmpty_82 (lv_at hl 5 rfl) ?_
                refine lv_istore (lv' := [(4, .int x5), (0, .ref (ad 0)), (1, .int x1), (2, .int x2), (3, .int x3), (5, .int x5)]) hx hb dM_canEmpty_84 hl (by decide) rfl (fun ls hl => ?_)
                refine lv_iinc (v := (x5 + (-1))) (lv' := [(5, .int (x5 + (-1))), (4, .int x5), (0, .ref (ad 0)), (1, .int x1), (2, .int x2), (3, .int x3)]) hx hb dM_canEmpty_86 hl (k := 5) rfl rfl (by decide) rfl (fun ls hl => ?_)
                refine lv_goto (tgt := 50) hx hb dM_canEmpty_89 (by decide) ?_
                exact ih50 u x1 x2 x3 x5 (x5 + (-1)) _ _ _ hd hw (lv_sub hl [2, 3, 4, 5, 1, 0] rfl)
      refine lv_iload_n hx hb dM_canEmpty_34 rfl (lv_at hl 3 rfl) ?_
      refine lv_bipush (v := 16) hx hb dM_canEmpty_35 (by decide) ?_
      refine lv_icmp_ge (tgt := 135) hx hb dM_canEmpty_37 (by decide) (fun cq => ?_) (fun cq => ?_)
      · replace hd := ts_if_p cq hd
        refine lv_iconst (v := 1) hx hb dM_canEmpty_135 (by decide) ?_
        exact ts_iret hx hb hr hlk (by decide +kernel) hw hd dM_canEmpty_136
      · replace hd := ts_if_n cq hd
        refine lv_iload_n hx hb dM_canEmpty_40 rfl (lv_at hl 2 rfl) ?_
        refine lv_if_lt (tgt := 135) hx hb dM_canEmpty_41 (by decide) (fun cq => ?_) (fun cq => ?_)
        · replace hd := ts_if_p cq hd
          refine lv_iconst (v := 1) hx hb dM_canEmpty_135 (by decide) ?_
          exact ts_iret hx hb hr hlk (by decide +kernel) hw hd dM_canEmpty_136
        · replace hd := ts_if_n cq hd
          refine lv_iconst (v := (-1)) hx hb dM_canEmpty_44 (by decide) ?_
          refine lv_istore (lv' := [(4, .int (-1)), (0, .ref (ad 0)), (1, .int x1), (2, .int x2), (3, .int x3)]) hx hb dM_canEmpty_45 hl (by decide) rfl (fun ls hl => ?_)
          refine lv_iconst (v := 3) hx hb dM_canEmpty_47 (by decide) ?_
          refine lv_istore (lv' := [(5, .int 3), (4, .int (-1)), (0, .ref (ad 0)), (1, .int x1), (2, .int x2), (3, .int x3)]) hx hb dM_canEmpty_48 hl (by decide) rfl (fun ls hl => ?_)
          exact L50 40 u x1 x2 x3 (-1) 3 _ _ _ hd hw (lv_sub hl [2, 3, 4, 5, 1, 0] rfl)
  have L2 : ∀ (n : Nat) (u : ts_S) (x1 x2 : Int32) (H : Heap) (locs : List Loc) (ls : Array Slot), dm_canEmpty_2 n u x1 x2 = some (r0, u0) → ts_W mF D ca ad A s H locs u → lv_has ls 6 [(0, .ref (ad 0)), (1, .int x1), (2, .int x2)] → W p l e rM_canEmpty s m args below meth c H locs 0 0 (MQ below (va_Qi (fun r v => r = r0 ∧ v = u0) (ts_post mF D ca ad A) A) args s 0 0 A) (F0 m 2 ls []) := by
    intro n
    induction n with
    | zero => intro u x1 x2 H locs ls hd; cases (show (none : Option (Int32 × ts_S)) = some (r0, u0) from hd)
    | succ n2 ih2 =>
      intro u x1 x2 H locs ls hd hw hl
      replace hd : dm_canEmpty_2_b (dm_canEmpty_2 n2) u x1 x2 = some (r0, u0) := hd
      unfold dm_canEmpty_2_b at hd
      refine lv_iload_n hx hb dM_canEmpty_2 rfl (lv_at hl 2 rfl) ?_
      refine lv_iconst (v := 4) hx hb dM_canEmpty_3 (by decide) ?_
      refine lv_icmp_ge (tgt := 25) hx hb dM_canEmpty_4 (by decide) (fun cq => ?_) (fun cq => ?_)
      · replace hd := ts_if_p cq hd
        refine lv_aload_n hx hb dM_canEmpty_25 rfl (lv_at hl 0 rfl) ?_
        refine lv_iload_n hx hb dM_canEmpty_26 rfl (lv_at hl 1 rfl) ?_
        refine lv_iconst (v := 0) hx hb dM_canEmpty_27 (by decide) ?_
        obtain ⟨r28, u28, hq, hd⟩ := ts_b_s hd
        refine cM_108 hc hn hw hq hl.1 ⟨Nat.le_of_ble_eq_true rfl, Nat.le_of_ble_eq_true rfl⟩ (Nat.le_of_ble_eq_true rfl) dM_canEmpty_28 (fun H locs hw => ?_)
        refine lv_istore_n (lv' := [(2, .int r28), (0, .ref (ad 0)), (1, .int x1)]) hx hb dM_canEmpty_31 rfl hl (by decide) rfl (fun ls hl => ?_)
        refine lv_iconst (v := 0) hx hb dM_canEmpty_32 (by decide) ?_
        refine lv_istore_n (lv' := [(3, .int 0), (2, .int r28), (0, .ref (ad 0)), (1, .int x1)]) hx hb dM_canEmpty_33 rfl hl (by decide) rfl (fun ls hl => ?_)
        exact L34 40 u28 x1 r28 0 _ _ _ hd hw (lv_sub hl [2, 3, 1, 0] rfl)
      · replace hd := ts_if_n cq hd
        refine lv_aload_n hx hb dM_canEmpty_7 rfl (lv_at hl 0 rfl) ?_
        refine gM_35 hc hn hw dM_canEmpty_8 ?_
        refine lv_iload_n hx hb dM_canEmpty_11 rfl (lv_at hl 2 rfl) ?_
        refine lv_aload_n hx hb dM_canEmpty_12 rfl (lv_at hl 0 rfl) ?_
        refine gM_32 hc hn hw dM_canEmpty_13 ?_
        refine lv_iload_n hx hb dM_canEmpty_16 rfl (lv_at hl 2 rfl) ?_
        obtain ⟨h, hd⟩ := ts_ix_s hd
        refine mm_l10 hc hw h dM_canEmpty_17 ?_
        obtain ⟨h, hd⟩ := ts_ix_s hd
        refine mm_s11 hc hw h dM_canEmpty_18 (fun H locs hw => ?_)
        refine lv_iinc (v := (x2 + 1)) (lv' := [(2, .int (x2 + 1)), (0, .ref (ad 0)), (1, .int x1)]) hx hb dM_canEmpty_19 hl (k := 2) rfl rfl (by decide) rfl (fun ls hl => ?_)
        refine lv_goto (tgt := 2) hx hb dM_canEmpty_22 (by decide) ?_
        exact ih2 (ts_a 11 x2.toNatClampNeg (u.2 10 x2.toNatClampNeg) u) x1 (x2 + 1) _ _ _ hd hw (lv_sub hl [1, 2, 0] rfl)
  unfold dm_canEmpty at hd
  refine lv_iconst (v := 0) hx hb dM_canEmpty_0 (by decide) ?_
  refine lv_istore_n (lv' := [(2, .int 0), (0, .ref (ad 0)), (1, .int x1)]) hx hb dM_canEmpty_1 rfl hl (by decide) rfl (fun ls hl => ?_)
  exact L2 40 u x1 0 _ _ _ hd hw (lv_sub hl [1, 2, 0] rfl)
section
variable {p : Program} {l : Launch} {e : Env} {R : Room} {s : State} {m : MethodId} {args : Array Value} {below : List Frame} {meth : Method} {c : Code} {H : Heap} {locs : List Loc} {Q : State → Prop} {cc : ByteArray} {pc nL : Nat} {ls : Array Slot} {rest : List Value} {D : va_G} {ca : Nat → ClassId} {ad : Nat → Nat} {A : Nat → Prop} {u : ts_S} {cells slots : Nat}
theorem cM_112 (hc : CallFix p m c cc nL s args uW RM) (hn : nx s) (hw : ts_W mF D ca ad A s H locs u) {x1 : Int32} {r0 : Int32} {u0 : ts_S} (hq : dm_canEmpty u x1 = some (r0, u0)) (hsz : ls.size = nL) (hR : rM_canEmpty.frames + 1 ≤ R.frames ∧ 8 + (6 + 11) + rM_canEmpty.locals ≤ R.locals) (hrest : (rest.map fun v => v.category).sum ≤ 8) (hdg : decode cc pc = .ok (.invokevirtual 112, 3)) (kk : ∀ (H1 : Heap) (locs1 : List Loc), ts_W mF D ca ad A s H1 locs1 u0 → W p l e R s m args below meth c H1 locs1 0 0 Q (F0 m (pc + 3) ls (.int r0 :: rest))) : W p l e R s m args below meth c H locs 0 0 Q (F0 m pc ls (.int x1 :: .ref (ad 0) :: rest)) :=
  ts_callVi (b := ad 0) (As := [.int x1]) hc hn hw (cm_canEmpty l hq) rfl (cwV 1 hc.2.2.2.2 (gd_V (by decide +kernel) (by decide +kernel) (by decide +kernel) (by decide +kernel) (code_M_canEmpty)) rfl rfl rfl (by decide +kernel) hR) (va_recv hw.2.2.2.1 hw.1 (ci := 2) (q0 := 0) rfl rfl) rfl hsz hrest hdg kk
end
def rM_empty : Room := { frames := 3, cells := 0, slots := 0, locals := 71 }
set_option maxHeartbeats 4000000 in
set_option maxRecDepth 100000 in
theorem cm_empty (l : Launch) {u : ts_S} {x1 : Int32} {r0 : Int32} {u0 : ts_S} (hd : dm_empty u x1 = some (r0, u0)) : ts_Ci mF l yM_empty (.code yM_empty bM_empty 5 (some .int) :: uW) rM_empty (fun ad => [.ref (ad 0), .int x1]) u r0 u0 := by
  refine ts_in_i mF l (by decide) (fun p e s m args below meth c D ca ad A hc hn hr hlk hw => ?_)
  have hx := hc.1
  have hb := hc.2.1
  have hl := lv_entry ([.ref (ad 0), .int x1]) (n := 5) (Nat.le_of_ble_eq_true rfl)
  rw [lg_entry_eq]
  generalize (lg_sl ([.ref (ad 0), .int x1]) ++ List.replicate (5 - (lg_sl ([.ref (ad 0), .int x1])).length) Slot.unset).toArray = ls at hl ⊢
  replace hl : lv_has ls 5 [(0, .ref (ad 0)), (1, .int x1)] := hl
  have L30 : ∀ (n : Nat) (u : ts_S) (x1 x2 x3 : Int32) (H : Heap) (locs : List Loc) (ls : Array Slot), dm_empty_30 n u x1 x2 x3 = some (r0, u0) → ts_W mF D ca ad A s H locs u → lv_has ls 5 [(0, .ref (ad 0)), (1, .int x1), (2, .int x2), (3, .int x3)] → W p l e rM_empty s m args below meth c H locs 0 0 (MQ below (va_Qi (fun r v => r = r0 ∧ v = u0) (ts_post mF D ca ad A) A) args s 0 0 A) (F0 m 30 ls []) := by
    intro n
    induction n with
    | zero => intro u x1 x2 x3 H locs ls hd; cases (show (none : Option (Int32 × ts_S)) = some (r0, u0) from hd)
    | succ n30 ih30 =>
      intro u x1 x2 x3 H locs ls hd hw hl
      replace hd : dm_empty_30_b (dm_empty_30 n30) u x1 x2 x3 = some (r0, u0) := hd
      unfold dm_empty_30_b at hd
      refine lv_iload_n hx hb dM_empty_30 rfl (lv_at hl 2 rfl) ?_
      refine lv_bipush (v := 16) hx hb dM_empty_31 (by decide) ?_
      refine lv_icmp_ge (tgt := 86) hx hb dM_empty_33 (by decide) (fun cq => ?_) (fun cq => ?_)
      · replace hd := ts_if_p cq hd
        refine lv_aload_n hx hb dM_empty_86 rfl (lv_at hl 0 rfl) ?_
        refine gM_32 hc hn hw dM_empty_87 ?_
        refine lv_iload_n hx hb dM_empty_90 rfl (lv_at hl 1 rfl) ?_
        refine lv_iconst (v := 0) hx hb dM_empty_91 (by decide) ?_
        obtain ⟨h, hd⟩ := ts_ix_s hd
        refine mm_s10 hc hw h dM_empty_92 (fun H locs hw => ?_)
        refine lv_iload_n hx hb dM_empty_93 rfl (lv_at hl 2 rfl) ?_
        exact ts_iret hx hb hr hlk (vp_nar_int _) hw hd dM_empty_94
      · replace hd := ts_if_n cq hd
        refine lv_iload_n hx hb dM_empty_36 rfl (lv_at hl 3 rfl) ?_
        refine lv_if_lt (tgt := 86) hx hb dM_empty_37 (by decide) (fun cq => ?_) (fun cq => ?_)
        · replace hd := ts_if_p cq hd
          refine lv_aload_n hx hb dM_empty_86 rfl (lv_at hl 0 rfl) ?_
          refine gM_32 hc hn hw dM_empty_87 ?_
          refine lv_iload_n hx hb dM_empty_90 rfl (lv_at hl 1 rfl) ?_
          refine lv_iconst (v := 0) hx hb dM_empty_91 (by decide) ?_
          obtain ⟨h, hd⟩ := ts_ix_s hd
          refine mm_s10 hc hw h dM_empty_92 (fun H locs hw => ?_)
          refine lv_iload_n hx hb dM_empty_93 rfl (lv_at hl 2 rfl) ?_
          exact ts_iret hx hb hr hlk (vp_nar_int _) hw hd dM_empty_94
        · replace hd := ts_if_n cq hd
          refine lv_aload_n hx hb dM_empty_40 rfl (lv_at hl 0 rfl) ?_
          refine gM_25 hc hn hw dM_empty_41 ?_
          refine lv_iload_n hx hb dM_empty_44 rfl (lv_at hl 3 rfl) ?_
          obtain ⟨h, hd⟩ := ts_ix_s hd
          refine mm_l6 hc hw h dM_empty_45 ?_
          refine lv_istore (lv' := [(4, .int (u.2 6 x3.toNatClampNeg)), (0, .ref (ad 0)), (1, .int x1), (2, .int x2), (3, .int x3)]) hx hb dM_empty_46 hl (by decide) rfl (fun ls hl => ?_)
          refine lv_aload_n hx hb dM_empty_48 rfl (lv_at hl 1 rfl) ?_
          refine lv_iload_n hx hb dM_empty_49 rfl (lv_at hl 2 rfl) ?_
          refine lv_iload hx hb dM_empty_50 (lv_at hl 0 rfl) ?_
          refine lv_aload_n hx hb dM_empty_52 rfl (lv_at hl 1 rfl) ?_
          refine gM_13 hc hn hw dM_empty_53 ?_
          refine lv_iload_n hx hb dM_empty_56 rfl (lv_at hl 4 rfl) ?_
          obtain ⟨h, hd⟩ := ts_ix_s hd
          refine mm_l3 hc hw h dM_empty_57 ?_
          obtain ⟨r58, u58, hq, hd⟩ := ts_b_s hd
          refine cM_76 hc hn hw hq hl.1 ⟨Nat.le_of_ble_eq_true rfl, Nat.le_of_ble_eq_true rfl⟩ (Nat.le_of_ble_eq_true rfl) dM_empty_58 (fun H locs hw => ?_)
          refine lv_aload_n hx hb dM_empty_61 rfl (lv_at hl 1 rfl) ?_
          refine lv_iload_n hx hb dM_empty_62 rfl (lv_at hl 4 rfl) ?_
          refine lv_iload_n hx hb dM_empty_63 rfl (lv_at hl 2 rfl) ?_
          obtain ⟨r64, u64, hq, hd⟩ := ts_b_s hd
          refine cM_96 hc hn hw hq hl.1 ⟨Nat.le_of_ble_eq_true rfl, Nat.le_of_ble_eq_true rfl⟩ (Nat.le_of_ble_eq_true rfl) dM_empty_64 (fun H locs hw => ?_)
          refine lv_if_eq (tgt := 73) hx hb dM_empty_67 (by decide) (fun cq => ?_) (fun cq => ?_)
          · replace hd := ts_if_p cq hd
            refine lv_aload_n hx hb dM_empty_73 rfl (lv_at hl 1 rfl) ?_
            refine lv_iload_n hx hb dM_empty_74 rfl (lv_at hl 2 rfl) ?_
            refine lv_iload hx hb dM_empty_75 (lv_at hl 0 rfl) ?_
            refine lv_iconst (v := 1) hx hb dM_empty_77 (by decide) ?_
            refine lv_iadd hx hb dM_empty_78 ?_
            obtain ⟨r79, u79, hq, hd⟩ := ts_b_s hd
            refine cM_108 hc hn hw hq hl.1 ⟨Nat.le_of_ble_eq_true rfl, Nat.le_of_ble_eq_true rfl⟩ (Nat.le_of_ble_eq_true rfl) dM_empty_79 (fun H locs hw => ?_)
            refine lv_istore_n (lv' := [(3, .int r79), (4, .int (u.2 6 x3.toNatClampNeg)), (0, .ref (ad 0)), (1, .int x1), (2, .int x2)]) hx hb dM_empty_82 rfl hl (by decide) rfl (fun ls hl => ?_)
            refine lv_goto (tgt := 30) hx hb dM_empty_83 (by decide) ?_
            exact ih30 u79 x1 x2 r79 _ _ _ hd hw (lv_sub hl [2, 3, 4, 0] rfl)
          · replace hd := ts_if_n cq hd
            refine lv_iinc (v := (x2 + 1)) (lv' := [(2, .int (x2 + 1)), (4, .int (u.2 6 x3.toNatClampNeg)), (0, .ref (ad 0)), (1, .int x1), (3, .int x3)]) hx hb dM_empty_70 hl (k := 3) rfl rfl (by decide) rfl (fun ls hl => ?_)
            refine lv_aload_n hx hb dM_empty_73 rfl (lv_at hl 2 rfl) ?_
            refine lv_iload_n hx hb dM_empty_74 rfl (lv_at hl 3 rfl) ?_
            refine lv_iload hx hb dM_empty_75 (lv_at hl 1 rfl) ?_
            refine lv_iconst (v := 1) hx hb dM_empty_77 (by decide) ?_
            refine lv_iadd hx hb dM_empty_78 ?_
            obtain ⟨r79, u79, hq, hd⟩ := ts_b_s hd
            refine cM_108 hc hn hw hq hl.1 ⟨Nat.le_of_ble_eq_true rfl, Nat.le_of_ble_eq_true rfl⟩ (Nat.le_of_ble_eq_true rfl) dM_empty_79 (fun H locs hw => ?_)
            refine lv_istore_n (lv' := [(3, .int r79), (2, .int (x2 + 1)), (4, .int (u.2 6 x3.toNatClampNeg)), (0, .ref (ad 0)), (1, .int x1)]) hx hb dM_empty_82 rfl hl (by decide) rfl (fun ls hl => ?_)
            refine lv_goto (tgt := 30) hx hb dM_empty_83 (by decide) ?_
            exact ih30 u79 x1 (x2 + 1) r79 _ _ _ hd hw (lv_sub hl [3, 4, 1, 0] rfl)
  unfold dm_empty at hd
  refine lv_iload_n hx hb dM_empty_0 rfl (lv_at hl 1 rfl) ?_
  refine lv_iconst (v := 4) hx hb dM_empty_1 (by decide) ?_
  obtain ⟨r2, u2, hq, hd⟩ := ts_b_s hd
  refine cM_51 hc hn hw hq hl.1 ⟨Nat.le_of_ble_eq_true rfl, Nat.le_of_ble_eq_true rfl⟩ (Nat.le_of_ble_eq_true rfl) dM_empty_2 (fun H locs hw => ?_)
  refine lv_if_ne (tgt := 10) hx hb dM_empty_5 (by decide) (fun cq => ?_) (fun cq => ?_)
  · replace hd := ts_if_n cq hd
    refine lv_aload_n hx hb dM_empty_10 rfl (lv_at hl 0 rfl) ?_
    refine lv_iload_n hx hb dM_empty_11 rfl (lv_at hl 1 rfl) ?_
    obtain ⟨r12, u12, hq, hd⟩ := ts_b_s hd
    refine cM_112 hc hn hw hq hl.1 ⟨Nat.le_of_ble_eq_true rfl, Nat.le_of_ble_eq_true rfl⟩ (Nat.le_of_ble_eq_true rfl) dM_empty_12 (fun H locs hw => ?_)
    refine lv_if_ne (tgt := 21) hx hb dM_empty_15 (by decide) (fun cq => ?_) (fun cq => ?_)
    · replace hd := ts_if_n cq hd
      refine lv_iconst (v := 0) hx hb dM_empty_21 (by decide) ?_
      refine lv_istore_n (lv' := [(2, .int 0), (0, .ref (ad 0)), (1, .int x1)]) hx hb dM_empty_22 rfl hl (by decide) rfl (fun ls hl => ?_)
      refine lv_aload_n hx hb dM_empty_23 rfl (lv_at hl 1 rfl) ?_
      refine lv_iload_n hx hb dM_empty_24 rfl (lv_at hl 2 rfl) ?_
      refine lv_iconst (v := 0) hx hb dM_empty_25 (by decide) ?_
      obtain ⟨r26, u26, hq, hd⟩ := ts_b_s hd
      refine cM_108 hc hn hw hq hl.1 ⟨Nat.le_of_ble_eq_true rfl, Nat.le_of_ble_eq_true rfl⟩ (Nat.le_of_ble_eq_true rfl) dM_empty_26 (fun H locs hw => ?_)
      refine lv_istore_n (lv' := [(3, .int r26), (2, .int 0), (0, .ref (ad 0)), (1, .int x1)]) hx hb dM_empty_29 rfl hl (by decide) rfl (fun ls hl => ?_)
      exact L30 40 u26 x1 0 r26 _ _ _ hd hw (lv_sub hl [2, 3, 1, 0] rfl)
    · replace hd := ts_if_p cq hd
      refine lv_bipush (v := (-2)) hx hb dM_empty_18 (by decide) ?_
      exact ts_iret hx hb hr hlk (vp_nar_int _) hw hd dM_empty_20
  · replace hd := ts_if_p cq hd
    refine lv_iconst (v := (-1)) hx hb dM_empty_8 (by decide) ?_
    exact ts_iret hx hb hr hlk (vp_nar_int _) hw hd dM_empty_9
def rM_lose : Room := { frames := 1, cells := 0, slots := 0, locals := 21 }
set_option maxHeartbeats 4000000 in
set_option maxRecDepth 100000 in
theorem cm_lose (l : Launch) {u : ts_S} {x1 : Int32} {r0 : Int32} {u0 : ts_S} (hd : dm_lose u x1 = some (r0, u0)) : ts_Ci mF l yM_lose (.code yM_lose bM_lose 4 (some .int) :: uW) rM_lose (fun ad => [.ref (ad 0), .int x1]) u r0 u0 := by
  refine ts_in_i mF l (by decide) (fun p e s m args below meth c D ca ad A hc hn hr hlk hw => ?_)
  have hx := hc.1
  have hb := hc.2.1
  have hl := lv_entry ([.ref (ad 0), .int x1]) (n := 4) (Nat.le_of_ble_eq_true rfl)
  rw [lg_entry_eq]
  generalize (lg_sl ([.ref (ad 0), .int x1]) ++ List.replicate (4 - (lg_sl ([.ref (ad 0), .int x1])).length) Slot.unset).toArray = ls at hl ⊢
  replace hl : lv_has ls 4 [(0, .ref (ad 0)), (1, .int x1)] := hl
  have L14 : ∀ (n : Nat) (u : ts_S) (x1 x2 x3 : Int32) (H : Heap) (locs : List Loc) (ls : Array Slot), dm_lose_14 n u x1 x2 x3 = some (r0, u0) → ts_W mF D ca ad A s H locs u → lv_has ls 4 [(0, .ref (ad 0)), (1, .int x1), (2, .int x2), (3, .int x3)] → W p l e rM_lose s m args below meth c H locs 0 0 (MQ below (va_Qi (fun r v => r = r0 ∧ v = u0) (ts_post mF D ca ad A) A) args s 0 0 A) (F0 m 14 ls []) := by
    intro n
    induction n with
    | zero => intro u x1 x2 x3 H locs ls hd; cases (show (none : Option (Int32 × ts_S)) = some (r0, u0) from hd)
    | succ n14 ih14 =>
      intro u x1 x2 x3 H locs ls hd hw hl
      replace hd : dm_lose_14_b (dm_lose_14 n14) u x1 x2 x3 = some (r0, u0) := hd
      unfold dm_lose_14_b at hd
      refine lv_iload_n hx hb dM_lose_14 rfl (lv_at hl 3 rfl) ?_
      refine lv_bipush (v := 16) hx hb dM_lose_15 (by decide) ?_
      refine lv_icmp_ge (tgt := 78) hx hb dM_lose_17 (by decide) (fun cq => ?_) (fun cq => ?_)
      · replace hd := ts_if_p cq hd
        refine lv_aload_n hx hb dM_lose_78 rfl (lv_at hl 0 rfl) ?_
        refine gM_32 hc hn hw dM_lose_79 ?_
        refine lv_iload_n hx hb dM_lose_82 rfl (lv_at hl 1 rfl) ?_
        refine lv_iconst (v := 0) hx hb dM_lose_83 (by decide) ?_
        obtain ⟨h, hd⟩ := ts_ix_s hd
        refine mm_s10 hc hw h dM_lose_84 (fun H locs hw => ?_)
        refine lv_aload_n hx hb dM_lose_85 rfl (lv_at hl 0 rfl) ?_
        refine gM_41 hc hn hw dM_lose_86 ?_
        refine lv_iload_n hx hb dM_lose_89 rfl (lv_at hl 1 rfl) ?_
        refine lv_icmp_ne (tgt := 98) hx hb dM_lose_90 (by decide) (fun cq => ?_) (fun cq => ?_)
        · replace hd := ts_if_n cq hd
          refine lv_iload_n hx hb dM_lose_98 rfl (lv_at hl 2 rfl) ?_
          exact ts_iret hx hb hr hlk (vp_nar_int _) hw hd dM_lose_99
        · replace hd := ts_if_p cq hd
          refine lv_aload_n hx hb dM_lose_93 rfl (lv_at hl 0 rfl) ?_
          refine lv_iconst (v := (-1)) hx hb dM_lose_94 (by decide) ?_
          refine pM_41 hc hn hw dM_lose_95 (fun H locs hw => ?_)
          refine lv_iload_n hx hb dM_lose_98 rfl (lv_at hl 2 rfl) ?_
          exact ts_iret hx hb hr hlk (vp_nar_int _) hw hd dM_lose_99
      · replace hd := ts_if_n cq hd
        refine lv_aload_n hx hb dM_lose_20 rfl (lv_at hl 0 rfl) ?_
        refine lv_iload_n hx hb dM_lose_21 rfl (lv_at hl 3 rfl) ?_
        obtain ⟨r22, u22, hq, hd⟩ := ts_b_s hd
        refine cM_105 hc hn hw hq hl.1 ⟨Nat.le_of_ble_eq_true rfl, Nat.le_of_ble_eq_true rfl⟩ (Nat.le_of_ble_eq_true rfl) dM_lose_22 (fun H locs hw => ?_)
        refine lv_if_eq (tgt := 72) hx hb dM_lose_25 (by decide) (fun cq => ?_) (fun cq => ?_)
        · replace hd := ts_if_p cq hd
          refine lv_iinc (v := (x3 + 1)) (lv' := [(3, .int (x3 + 1)), (0, .ref (ad 0)), (1, .int x1), (2, .int x2)]) hx hb dM_lose_72 hl (k := 3) rfl rfl (by decide) rfl (fun ls hl => ?_)
          refine lv_goto (tgt := 14) hx hb dM_lose_75 (by decide) ?_
          exact ih14 u22 x1 x2 (x3 + 1) _ _ _ hd hw (lv_sub hl [1, 2, 3, 0] rfl)
        · replace hd := ts_if_n cq hd
          refine lv_aload_n hx hb dM_lose_28 rfl (lv_at hl 0 rfl) ?_
          refine gM_22 hc hn hw dM_lose_29 ?_
          refine lv_iload_n hx hb dM_lose_32 rfl (lv_at hl 3 rfl) ?_
          obtain ⟨h, hd⟩ := ts_ix_s hd
          refine mm_l5 hc hw h dM_lose_33 ?_
          refine lv_iload_n hx hb dM_lose_34 rfl (lv_at hl 1 rfl) ?_
          refine lv_icmp_ne (tgt := 72) hx hb dM_lose_35 (by decide) (fun cq => ?_) (fun cq => ?_)
          · replace hd := ts_if_n cq hd
            refine lv_iinc (v := (x3 + 1)) (lv' := [(3, .int (x3 + 1)), (0, .ref (ad 0)), (1, .int x1), (2, .int x2)]) hx hb dM_lose_72 hl (k := 3) rfl rfl (by decide) rfl (fun ls hl => ?_)
            refine lv_goto (tgt := 14) hx hb dM_lose_75 (by decide) ?_
            exact ih14 u22 x1 x2 (x3 + 1) _ _ _ hd hw (lv_sub hl [1, 2, 3, 0] rfl)
          · replace hd := ts_if_p cq hd
            refine lv_aload_n hx hb dM_lose_38 rfl (lv_at hl 0 rfl) ?_
            refine gM_7 hc hn hw dM_lose_39 ?_
            refine lv_iload_n hx hb dM_lose_42 rfl (lv_at hl 3 rfl) ?_
            obtain ⟨h, hd⟩ := ts_ix_s hd
            refine mm_l2 hc hw h dM_lose_43 ?_
            refine lv_iconst (v := 3) hx hb dM_lose_44 (by decide) ?_
            refine lv_icmp_ne (tgt := 51) hx hb dM_lose_45 (by decide) (fun cq => ?_) (fun cq => ?_)
            · replace hd := ts_if_n cq hd
              refine lv_aload_n hx hb dM_lose_51 rfl (lv_at hl 0 rfl) ?_
              refine gM_7 hc hn hw dM_lose_52 ?_
              refine lv_iload_n hx hb dM_lose_55 rfl (lv_at hl 3 rfl) ?_
              refine lv_aload_n hx hb dM_lose_56 rfl (lv_at hl 0 rfl) ?_
              refine gM_7 hc hn hw dM_lose_57 ?_
              refine lv_iload_n hx hb dM_lose_60 rfl (lv_at hl 3 rfl) ?_
              obtain ⟨h, hd⟩ := ts_ix_s hd
              refine mm_l2 hc hw h dM_lose_61 ?_
              refine lv_iconst (v := 3) hx hb dM_lose_62 (by decide) ?_
              refine lv_icmp_ne (tgt := 70) hx hb dM_lose_63 (by decide) (fun cq => ?_) (fun cq => ?_)
              · replace hd := ts_if_n cq hd
                refine lv_iconst (v := 1) hx hb dM_lose_70 (by decide) ?_
                obtain ⟨h, hd⟩ := ts_ix_s hd
                refine mm_s2 hc hw h dM_lose_71 (fun H locs hw => ?_)
                refine lv_iinc (v := (x3 + 1)) (lv' := [(3, .int (x3 + 1)), (0, .ref (ad 0)), (1, .int x1), (2, .int x2)]) hx hb dM_lose_72 hl (k := 3) rfl rfl (by decide) rfl (fun ls hl => ?_)
                refine lv_goto (tgt := 14) hx hb dM_lose_75 (by decide) ?_
                exact ih14 (ts_a 2 x3.toNatClampNeg 1 u22) x1 x2 (x3 + 1) _ _ _ hd hw (lv_sub hl [1, 2, 3, 0] rfl)
              · replace hd := ts_if_p cq hd
                refine lv_iconst (v := 4) hx hb dM_lose_66 (by decide) ?_
                refine lv_goto (tgt := 71) hx hb dM_lose_67 (by decide) ?_
                obtain ⟨h, hd⟩ := ts_ix_s hd
                refine mm_s2 hc hw h dM_lose_71 (fun H locs hw => ?_)
                refine lv_iinc (v := (x3 + 1)) (lv' := [(3, .int (x3 + 1)), (0, .ref (ad 0)), (1, .int x1), (2, .int x2)]) hx hb dM_lose_72 hl (k := 3) rfl rfl (by decide) rfl (fun ls hl => ?_)
                refine lv_goto (tgt := 14) hx hb dM_lose_75 (by decide) ?_
                exact ih14 (ts_a 2 x3.toNatClampNeg 4 u22) x1 x2 (x3 + 1) _ _ _ hd hw (lv_sub hl [1, 2, 3, 0] rfl)
            · replace hd := ts_if_p cq hd
              refine lv_iinc (v := (x2 + 1)) (lv' := [(2, .int (x2 + 1)), (0, .ref (ad 0)), (1, .int x1), (3, .int x3)]) hx hb dM_lose_48 hl (k := 2) rfl rfl (by decide) rfl (fun ls hl => ?_)
              refine lv_aload_n hx hb dM_lose_51 rfl (lv_at hl 1 rfl) ?_
              refine gM_7 hc hn hw dM_lose_52 ?_
              refine lv_iload_n hx hb dM_lose_55 rfl (lv_at hl 3 rfl) ?_
              refine lv_aload_n hx hb dM_lose_56 rfl (lv_at hl 1 rfl) ?_
              refine gM_7 hc hn hw dM_lose_57 ?_
              refine lv_iload_n hx hb dM_lose_60 rfl (lv_at hl 3 rfl) ?_
              obtain ⟨h, hd⟩ := ts_ix_s hd
              refine mm_l2 hc hw h dM_lose_61 ?_
              refine lv_iconst (v := 3) hx hb dM_lose_62 (by decide) ?_
              refine lv_icmp_ne (tgt := 70) hx hb dM_lose_63 (by decide) (fun cq => ?_) (fun cq => ?_)
              · replace hd := ts_if_n cq hd
                refine lv_iconst (v := 1) hx hb dM_lose_70 (by decide) ?_
                obtain ⟨h, hd⟩ := ts_ix_s hd
                refine mm_s2 hc hw h dM_lose_71 (fun H locs hw => ?_)
                refine lv_iinc (v := (x3 + 1)) (lv' := [(3, .int (x3 + 1)), (2, .int (x2 + 1)), (0, .ref (ad 0)), (1, .int x1)]) hx hb dM_lose_72 hl (k := 3) rfl rfl (by decide) rfl (fun ls hl => ?_)
                refine lv_goto (tgt := 14) hx hb dM_lose_75 (by decide) ?_
                exact ih14 (ts_a 2 x3.toNatClampNeg 1 u22) x1 (x2 + 1) (x3 + 1) _ _ _ hd hw (lv_sub hl [2, 3, 1, 0] rfl)
              · replace hd := ts_if_p cq hd
                refine lv_iconst (v := 4) hx hb dM_lose_66 (by decide) ?_
                refine lv_goto (tgt := 71) hx hb dM_lose_67 (by decide) ?_
                obtain ⟨h, hd⟩ := ts_ix_s hd
                refine mm_s2 hc hw h dM_lose_71 (fun H locs hw => ?_)
                refine lv_iinc (v := (x3 + 1)) (lv' := [(3, .int (x3 + 1)), (2, .int (x2 + 1)), (0, .ref (ad 0)), (1, .int x1)]) hx hb dM_lose_72 hl (k := 3) rfl rfl (by decide) rfl (fun ls hl => ?_)
                refine lv_goto (tgt := 14) hx hb dM_lose_75 (by decide) ?_
                exact ih14 (ts_a 2 x3.toNatClampNeg 4 u22) x1 (x2 + 1) (x3 + 1) _ _ _ hd hw (lv_sub hl [2, 3, 1, 0] rfl)
  unfold dm_lose at hd
  refine lv_iload_n hx hb dM_lose_0 rfl (lv_at hl 1 rfl) ?_
  refine lv_iconst (v := 4) hx hb dM_lose_1 (by decide) ?_
  obtain ⟨r2, u2, hq, hd⟩ := ts_b_s hd
  refine cM_51 hc hn hw hq hl.1 ⟨Nat.le_of_ble_eq_true rfl, Nat.le_of_ble_eq_true rfl⟩ (Nat.le_of_ble_eq_true rfl) dM_lose_2 (fun H locs hw => ?_)
  refine lv_if_ne (tgt := 10) hx hb dM_lose_5 (by decide) (fun cq => ?_) (fun cq => ?_)
  · replace hd := ts_if_n cq hd
    refine lv_iconst (v := 0) hx hb dM_lose_10 (by decide) ?_
    refine lv_istore_n (lv' := [(2, .int 0), (0, .ref (ad 0)), (1, .int x1)]) hx hb dM_lose_11 rfl hl (by decide) rfl (fun ls hl => ?_)
    refine lv_iconst (v := 0) hx hb dM_lose_12 (by decide) ?_
    refine lv_istore_n (lv' := [(3, .int 0), (2, .int 0), (0, .ref (ad 0)), (1, .int x1)]) hx hb dM_lose_13 rfl hl (by decide) rfl (fun ls hl => ?_)
    exact L14 40 u2 x1 0 0 _ _ _ hd hw (lv_sub hl [2, 3, 1, 0] rfl)
  · replace hd := ts_if_p cq hd
    refine lv_iconst (v := (-1)) hx hb dM_lose_8 (by decide) ?_
    exact ts_iret hx hb hr hlk (vp_nar_int _) hw hd dM_lose_9
def rM_file : Room := { frames := 1, cells := 0, slots := 0, locals := 21 }
set_option maxHeartbeats 4000000 in
set_option maxRecDepth 100000 in
theorem cm_file (l : Launch) {u : ts_S} {x1 x2 : Int32} {r0 : Int32} {u0 : ts_S} (hd : dm_file u x1 x2 = some (r0, u0)) : ts_Ci mF l yM_file (.code yM_file bM_file 5 (some .int) :: uW) rM_file (fun ad => [.ref (ad 0), .int x1, .int x2]) u r0 u0 := by
  refine ts_in_i mF l (by decide) (fun p e s m args below meth c D ca ad A hc hn hr hlk hw => ?_)
  have hx := hc.1
  have hb := hc.2.1
  have hl := lv_entry ([.ref (ad 0), .int x1, .int x2]) (n := 5) (Nat.le_of_ble_eq_true rfl)
  rw [lg_entry_eq]
  generalize (lg_sl ([.ref (ad 0), .int x1, .int x2]) ++ List.replicate (5 - (lg_sl ([.ref (ad 0), .int x1, .int x2])).length) Slot.unset).toArray = ls at hl ⊢
  replace hl : lv_has ls 5 [(0, .ref (ad 0)), (1, .int x1), (2, .int x2)] := hl
  have L135 : ∀ (n : Nat) (u : ts_S) (x1 x2 x3 x4 : Int32) (H : Heap) (locs : List Loc) (ls : Array Slot), dm_file_135 n u x1 x2 x3 x4 = some (r0, u0) → ts_W mF D ca ad A s H locs u → lv_has ls 5 [(0, .ref (ad 0)), (1, .int x1), (2, .int x2), (3, .int x3), (4, .int x4)] → W p l e rM_file s m args below meth c H locs 0 0 (MQ below (va_Qi (fun r v => r = r0 ∧ v = u0) (ts_post mF D ca ad A) A) args s 0 0 A) (F0 m 135 ls []) := by
    intro n
    induction n with
    | zero => intro u x1 x2 x3 x4 H locs ls hd; cases (show (none : Option (Int32 × ts_S)) = some (r0, u0) from hd)
    | succ n135 ih135 =>
      intro u x1 x2 x3 x4 H locs ls hd hw hl
      replace hd : dm_file_135_b (dm_file_135 n135) u x1 x2 x3 x4 = some (r0, u0) := hd
      unfold dm_file_135_b at hd
      refine lv_iload hx hb dM_file_135 (lv_at hl 4 rfl) ?_
      refine lv_bipush (v := 16) hx hb dM_file_137 (by decide) ?_
      refine lv_icmp_ge (tgt := 177) hx hb dM_file_139 (by decide) (fun cq => ?_) (fun cq => ?_)
      · replace hd := ts_if_p cq hd
        refine lv_iload_n hx hb dM_file_177 rfl (lv_at hl 3 rfl) ?_
        exact ts_iret hx hb hr hlk (vp_nar_int _) hw hd dM_file_178
      · replace hd := ts_if_n cq hd
        refine lv_aload_n hx hb dM_file_142 rfl (lv_at hl 0 rfl) ?_
        refine gM_7 hc hn hw dM_file_143 ?_
        refine lv_iload hx hb dM_file_146 (lv_at hl 4 rfl) ?_
        obtain ⟨h, hd⟩ := ts_ix_s hd
        refine mm_l2 hc hw h dM_file_148 ?_
        refine lv_if_eq (tgt := 171) hx hb dM_file_149 (by decide) (fun cq => ?_) (fun cq => ?_)
        · replace hd := ts_if_p cq hd
          refine lv_iinc (v := (x4 + 1)) (lv' := [(4, .int (x4 + 1)), (0, .ref (ad 0)), (1, .int x1), (2, .int x2), (3, .int x3)]) hx hb dM_file_171 hl (k := 4) rfl rfl (by decide) rfl (fun ls hl => ?_)
          refine lv_goto (tgt := 135) hx hb dM_file_174 (by decide) ?_
          exact ih135 u x1 x2 x3 (x4 + 1) _ _ _ hd hw (lv_sub hl [1, 2, 3, 4, 0] rfl)
        · replace hd := ts_if_n cq hd
          refine lv_aload_n hx hb dM_file_152 rfl (lv_at hl 0 rfl) ?_
          refine gM_19 hc hn hw dM_file_153 ?_
          refine lv_iload hx hb dM_file_156 (lv_at hl 4 rfl) ?_
          obtain ⟨h, hd⟩ := ts_ix_s hd
          refine mm_l8 hc hw h dM_file_158 ?_
          refine lv_aload_n hx hb dM_file_159 rfl (lv_at hl 0 rfl) ?_
          refine gM_19 hc hn hw dM_file_160 ?_
          refine lv_iload_n hx hb dM_file_163 rfl (lv_at hl 1 rfl) ?_
          obtain ⟨h, hd⟩ := ts_ix_s hd
          refine mm_l8 hc hw h dM_file_164 ?_
          refine lv_icmp_le (tgt := 171) hx hb dM_file_165 (by decide) (fun cq => ?_) (fun cq => ?_)
          · replace hd := ts_if_p cq hd
            refine lv_iinc (v := (x4 + 1)) (lv' := [(4, .int (x4 + 1)), (0, .ref (ad 0)), (1, .int x1), (2, .int x2), (3, .int x3)]) hx hb dM_file_171 hl (k := 4) rfl rfl (by decide) rfl (fun ls hl => ?_)
            refine lv_goto (tgt := 135) hx hb dM_file_174 (by decide) ?_
            exact ih135 u x1 x2 x3 (x4 + 1) _ _ _ hd hw (lv_sub hl [1, 2, 3, 4, 0] rfl)
          · replace hd := ts_if_n cq hd
            refine lv_iinc (v := (x3 + 1)) (lv' := [(3, .int (x3 + 1)), (0, .ref (ad 0)), (1, .int x1), (2, .int x2), (4, .int x4)]) hx hb dM_file_168 hl (k := 3) rfl rfl (by decide) rfl (fun ls hl => ?_)
            refine lv_iinc (v := (x4 + 1)) (lv' := [(4, .int (x4 + 1)), (3, .int (x3 + 1)), (0, .ref (ad 0)), (1, .int x1), (2, .int x2)]) hx hb dM_file_171 hl (k := 4) rfl rfl (by decide) rfl (fun ls hl => ?_)
            refine lv_goto (tgt := 135) hx hb dM_file_174 (by decide) ?_
            exact ih135 u x1 x2 (x3 + 1) (x4 + 1) _ _ _ hd hw (lv_sub hl [2, 3, 4, 1, 0] rfl)
  unfold dm_file at hd
  refine lv_iload_n hx hb dM_file_0 rfl (lv_at hl 1 rfl) ?_
  refine lv_bipush (v := 16) hx hb dM_file_1 (by decide) ?_
  obtain ⟨r3, u3, hq, hd⟩ := ts_b_s hd
  refine cM_51 hc hn hw hq hl.1 ⟨Nat.le_of_ble_eq_true rfl, Nat.le_of_ble_eq_true rfl⟩ (Nat.le_of_ble_eq_true rfl) dM_file_3 (fun H locs hw => ?_)
  refine lv_if_eq (tgt := 18) hx hb dM_file_6 (by decide) (fun cq => ?_) (fun cq => ?_)
  · replace hd := ts_if_p cq hd
    refine lv_iconst (v := (-1)) hx hb dM_file_18 (by decide) ?_
    exact ts_iret hx hb hr hlk (vp_nar_int _) hw hd dM_file_19
  · replace hd := ts_if_n cq hd
    refine lv_iload_n hx hb dM_file_9 rfl (lv_at hl 2 rfl) ?_
    refine lv_bipush (v := 6) hx hb dM_file_10 (by decide) ?_
    obtain ⟨r12, u12, hq, hd⟩ := ts_b_s hd
    refine cM_51 hc hn hw hq hl.1 ⟨Nat.le_of_ble_eq_true rfl, Nat.le_of_ble_eq_true rfl⟩ (Nat.le_of_ble_eq_true rfl) dM_file_12 (fun H locs hw => ?_)
    refine lv_if_ne (tgt := 20) hx hb dM_file_15 (by decide) (fun cq => ?_) (fun cq => ?_)
    · replace hd := ts_if_n cq hd
      refine lv_iload_n hx hb dM_file_20 rfl (lv_at hl 2 rfl) ?_
      refine lv_if_ne (tgt := 31) hx hb dM_file_21 (by decide) (fun cq => ?_) (fun cq => ?_)
      · replace hd := ts_if_n cq hd
        refine lv_iload_n hx hb dM_file_31 rfl (lv_at hl 2 rfl) ?_
        refine lv_iconst (v := 1) hx hb dM_file_32 (by decide) ?_
        refine lv_icmp_ne (tgt := 56) hx hb dM_file_33 (by decide) (fun cq => ?_) (fun cq => ?_)
        · replace hd := ts_if_n cq hd
          refine lv_iload_n hx hb dM_file_56 rfl (lv_at hl 2 rfl) ?_
          refine lv_iconst (v := 2) hx hb dM_file_57 (by decide) ?_
          refine lv_icmp_eq (tgt := 66) hx hb dM_file_58 (by decide) (fun cq => ?_) (fun cq => ?_)
          · replace hd := ts_if_p cq hd
            refine lv_aload_n hx hb dM_file_66 rfl (lv_at hl 0 rfl) ?_
            refine lv_iload_n hx hb dM_file_67 rfl (lv_at hl 1 rfl) ?_
            obtain ⟨r68, u68, hq, hd⟩ := ts_b_s hd
            refine cM_105 hc hn hw hq hl.1 ⟨Nat.le_of_ble_eq_true rfl, Nat.le_of_ble_eq_true rfl⟩ (Nat.le_of_ble_eq_true rfl) dM_file_68 (fun H locs hw => ?_)
            refine lv_if_ne (tgt := 78) hx hb dM_file_71 (by decide) (fun cq => ?_) (fun cq => ?_)
            · replace hd := ts_if_n cq hd
              refine lv_iload_n hx hb dM_file_78 rfl (lv_at hl 2 rfl) ?_
              refine lv_iconst (v := 2) hx hb dM_file_79 (by decide) ?_
              refine lv_icmp_ne (tgt := 92) hx hb dM_file_80 (by decide) (fun cq => ?_) (fun cq => ?_)
              · replace hd := ts_if_n cq hd
                refine lv_aload_n hx hb dM_file_92 rfl (lv_at hl 0 rfl) ?_
                refine gM_25 hc hn hw dM_file_93 ?_
                refine lv_iload_n hx hb dM_file_96 rfl (lv_at hl 1 rfl) ?_
                obtain ⟨h, hd⟩ := ts_ix_s hd
                refine mm_l6 hc hw h dM_file_97 ?_
                exact ts_iret hx hb hr hlk (vp_nar_int _) hw hd dM_file_98
              · replace hd := ts_if_p cq hd
                refine lv_aload_n hx hb dM_file_83 rfl (lv_at hl 0 rfl) ?_
                refine gM_22 hc hn hw dM_file_84 ?_
                refine lv_iload_n hx hb dM_file_87 rfl (lv_at hl 1 rfl) ?_
                obtain ⟨h, hd⟩ := ts_ix_s hd
                refine mm_l5 hc hw h dM_file_88 ?_
                refine lv_goto (tgt := 98) hx hb dM_file_89 (by decide) ?_
                exact ts_iret hx hb hr hlk (vp_nar_int _) hw hd dM_file_98
            · replace hd := ts_if_p cq hd
              refine lv_iconst (v := (-1)) hx hb dM_file_74 (by decide) ?_
              refine lv_goto (tgt := 98) hx hb dM_file_75 (by decide) ?_
              exact ts_iret hx hb hr hlk (vp_nar_int _) hw hd dM_file_98
          · replace hd := ts_if_n cq hd
            refine lv_iload_n hx hb dM_file_61 rfl (lv_at hl 2 rfl) ?_
            refine lv_iconst (v := 3) hx hb dM_file_62 (by decide) ?_
            refine lv_icmp_ne (tgt := 99) hx hb dM_file_63 (by decide) (fun cq => ?_) (fun cq => ?_)
            · replace hd := ts_if_n cq hd
              refine lv_iload_n hx hb dM_file_99 rfl (lv_at hl 2 rfl) ?_
              refine lv_iconst (v := 4) hx hb dM_file_100 (by decide) ?_
              refine lv_icmp_ne (tgt := 119) hx hb dM_file_101 (by decide) (fun cq => ?_) (fun cq => ?_)
              · replace hd := ts_if_n cq hd
                refine lv_aload_n hx hb dM_file_119 rfl (lv_at hl 0 rfl) ?_
                refine gM_7 hc hn hw dM_file_120 ?_
                refine lv_iload_n hx hb dM_file_123 rfl (lv_at hl 1 rfl) ?_
                obtain ⟨h, hd⟩ := ts_ix_s hd
                refine mm_l2 hc hw h dM_file_124 ?_
                refine lv_if_ne (tgt := 130) hx hb dM_file_125 (by decide) (fun cq => ?_) (fun cq => ?_)
                · replace hd := ts_if_n cq hd
                  refine lv_iconst (v := 0) hx hb dM_file_130 (by decide) ?_
                  refine lv_istore_n (lv' := [(3, .int 0), (0, .ref (ad 0)), (1, .int x1), (2, .int x2)]) hx hb dM_file_131 rfl hl (by decide) rfl (fun ls hl => ?_)
                  refine lv_iconst (v := 0) hx hb dM_file_132 (by decide) ?_
                  refine lv_istore (lv' := [(4, .int 0), (3, .int 0), (0, .ref (ad 0)), (1, .int x1), (2, .int x2)]) hx hb dM_file_133 hl (by decide) rfl (fun ls hl => ?_)
                  exact L135 40 u12 x1 x2 0 0 _ _ _ hd hw (lv_sub hl [2, 3, 4, 1, 0] rfl)
                · replace hd := ts_if_p cq hd
                  refine lv_iconst (v := (-1)) hx hb dM_file_128 (by decide) ?_
                  exact ts_iret hx hb hr hlk (vp_nar_int _) hw hd dM_file_129
              · replace hd := ts_if_p cq hd
                refine lv_aload_n hx hb dM_file_104 rfl (lv_at hl 0 rfl) ?_
                refine gM_28 hc hn hw dM_file_105 ?_
                refine lv_iload_n hx hb dM_file_108 rfl (lv_at hl 1 rfl) ?_
                obtain ⟨h, hd⟩ := ts_ix_s hd
                refine mm_l7 hc hw h dM_file_109 ?_
                refine lv_if_eq (tgt := 117) hx hb dM_file_110 (by decide) (fun cq => ?_) (fun cq => ?_)
                · replace hd := ts_if_p cq hd
                  refine lv_iconst (v := 0) hx hb dM_file_117 (by decide) ?_
                  exact ts_iret hx hb hr hlk (vp_nar_int _) hw hd dM_file_118
                · replace hd := ts_if_n cq hd
                  refine lv_iconst (v := 1) hx hb dM_file_113 (by decide) ?_
                  refine lv_goto (tgt := 118) hx hb dM_file_114 (by decide) ?_
                  exact ts_iret hx hb hr hlk (vp_nar_int _) hw hd dM_file_118
            · replace hd := ts_if_p cq hd
              refine lv_aload_n hx hb dM_file_66 rfl (lv_at hl 0 rfl) ?_
              refine lv_iload_n hx hb dM_file_67 rfl (lv_at hl 1 rfl) ?_
              obtain ⟨r68, u68, hq, hd⟩ := ts_b_s hd
              refine cM_105 hc hn hw hq hl.1 ⟨Nat.le_of_ble_eq_true rfl, Nat.le_of_ble_eq_true rfl⟩ (Nat.le_of_ble_eq_true rfl) dM_file_68 (fun H locs hw => ?_)
              refine lv_if_ne (tgt := 78) hx hb dM_file_71 (by decide) (fun cq => ?_) (fun cq => ?_)
              · replace hd := ts_if_n cq hd
                refine lv_iload_n hx hb dM_file_78 rfl (lv_at hl 2 rfl) ?_
                refine lv_iconst (v := 2) hx hb dM_file_79 (by decide) ?_
                refine lv_icmp_ne (tgt := 92) hx hb dM_file_80 (by decide) (fun cq => ?_) (fun cq => ?_)
                · replace hd := ts_if_n cq hd
                  refine lv_aload_n hx hb dM_file_92 rfl (lv_at hl 0 rfl) ?_
                  refine gM_25 hc hn hw dM_file_93 ?_
                  refine lv_iload_n hx hb dM_file_96 rfl (lv_at hl 1 rfl) ?_
                  obtain ⟨h, hd⟩ := ts_ix_s hd
                  refine mm_l6 hc hw h dM_file_97 ?_
                  exact ts_iret hx hb hr hlk (vp_nar_int _) hw hd dM_file_98
                · replace hd := ts_if_p cq hd
                  refine lv_aload_n hx hb dM_file_83 rfl (lv_at hl 0 rfl) ?_
                  refine gM_22 hc hn hw dM_file_84 ?_
                  refine lv_iload_n hx hb dM_file_87 rfl (lv_at hl 1 rfl) ?_
                  obtain ⟨h, hd⟩ := ts_ix_s hd
                  refine mm_l5 hc hw h dM_file_88 ?_
                  refine lv_goto (tgt := 98) hx hb dM_file_89 (by decide) ?_
                  exact ts_iret hx hb hr hlk (vp_nar_int _) hw hd dM_file_98
              · replace hd := ts_if_p cq hd
                refine lv_iconst (v := (-1)) hx hb dM_file_74 (by decide) ?_
                refine lv_goto (tgt := 98) hx hb dM_file_75 (by decide) ?_
                exact ts_iret hx hb hr hlk (vp_nar_int _) hw hd dM_file_98
        · replace hd := ts_if_p cq hd
          refine lv_aload_n hx hb dM_file_36 rfl (lv_at hl 0 rfl) ?_
          refine gM_7 hc hn hw dM_file_37 ?_
          refine lv_iload_n hx hb dM_file_40 rfl (lv_at hl 1 rfl) ?_
          obtain ⟨h, hd⟩ := ts_ix_s hd
          refine mm_l2 hc hw h dM_file_41 ?_
          refine lv_if_ne (tgt := 49) hx hb dM_file_42 (by decide) (fun cq => ?_) (fun cq => ?_)
          · replace hd := ts_if_n cq hd
            refine lv_aload_n hx hb dM_file_49 rfl (lv_at hl 0 rfl) ?_
            refine gM_13 hc hn hw dM_file_50 ?_
            refine lv_iload_n hx hb dM_file_53 rfl (lv_at hl 1 rfl) ?_
            obtain ⟨h, hd⟩ := ts_ix_s hd
            refine mm_l3 hc hw h dM_file_54 ?_
            exact ts_iret hx hb hr hlk (vp_nar_int _) hw hd dM_file_55
          · replace hd := ts_if_p cq hd
            refine lv_iconst (v := 0) hx hb dM_file_45 (by decide) ?_
            refine lv_goto (tgt := 55) hx hb dM_file_46 (by decide) ?_
            exact ts_iret hx hb hr hlk (vp_nar_int _) hw hd dM_file_55
      · replace hd := ts_if_p cq hd
        refine lv_aload_n hx hb dM_file_24 rfl (lv_at hl 0 rfl) ?_
        refine gM_7 hc hn hw dM_file_25 ?_
        refine lv_iload_n hx hb dM_file_28 rfl (lv_at hl 1 rfl) ?_
        obtain ⟨h, hd⟩ := ts_ix_s hd
        refine mm_l2 hc hw h dM_file_29 ?_
        exact ts_iret hx hb hr hlk (vp_nar_int _) hw hd dM_file_30
    · replace hd := ts_if_p cq hd
      refine lv_iconst (v := (-1)) hx hb dM_file_18 (by decide) ?_
      exact ts_iret hx hb hr hlk (vp_nar_int _) hw hd dM_file_19
def rM_cartridge : Room := { frames := 1, cells := 0, slots := 0, locals := 21 }
set_option maxHeartbeats 4000000 in
set_option maxRecDepth 100000 in
theorem cm_cartridge (l : Launch) {u : ts_S} {x1 x2 : Int32} {r0 : Int32} {u0 : ts_S} (hd : dm_cartridge u x1 x2 = some (r0, u0)) : ts_Ci mF l yM_cartridge (.code yM_cartridge bM_cartridge 5 (some .int) :: uW) rM_cartridge (fun ad => [.ref (ad 0), .int x1, .int x2]) u r0 u0 := by
  refine ts_in_i mF l (by decide) (fun p e s m args below meth c D ca ad A hc hn hr hlk hw => ?_)
  have hx := hc.1
  have hb := hc.2.1
  have hl := lv_entry ([.ref (ad 0), .int x1, .int x2]) (n := 5) (Nat.le_of_ble_eq_true rfl)
  rw [lg_entry_eq]
  generalize (lg_sl ([.ref (ad 0), .int x1, .int x2]) ++ List.replicate (5 - (lg_sl ([.ref (ad 0), .int x1, .int x2])).length) Slot.unset).toArray = ls at hl ⊢
  replace hl : lv_has ls 5 [(0, .ref (ad 0)), (1, .int x1), (2, .int x2)] := hl
  have L53 : ∀ (n : Nat) (u : ts_S) (x1 x2 x3 x4 : Int32) (H : Heap) (locs : List Loc) (ls : Array Slot), dm_cartridge_53 n u x1 x2 x3 x4 = some (r0, u0) → ts_W mF D ca ad A s H locs u → lv_has ls 5 [(0, .ref (ad 0)), (1, .int x1), (2, .int x2), (3, .int x3), (4, .int x4)] → W p l e rM_cartridge s m args below meth c H locs 0 0 (MQ below (va_Qi (fun r v => r = r0 ∧ v = u0) (ts_post mF D ca ad A) A) args s 0 0 A) (F0 m 53 ls []) := by
    intro n
    induction n with
    | zero => intro u x1 x2 x3 x4 H locs ls hd; cases (show (none : Option (Int32 × ts_S)) = some (r0, u0) from hd)
    | succ n53 ih53 =>
      intro u x1 x2 x3 x4 H locs ls hd hw hl
      replace hd : dm_cartridge_53_b (dm_cartridge_53 n53) u x1 x2 x3 x4 = some (r0, u0) := hd
      unfold dm_cartridge_53_b at hd
      refine lv_iload hx hb dM_cartridge_53 (lv_at hl 4 rfl) ?_
      refine lv_bipush (v := 16) hx hb dM_cartridge_55 (by decide) ?_
      refine lv_icmp_ge (tgt := 96) hx hb dM_cartridge_57 (by decide) (fun cq => ?_) (fun cq => ?_)
      · replace hd := ts_if_p cq hd
        refine lv_iload_n hx hb dM_cartridge_96 rfl (lv_at hl 3 rfl) ?_
        exact ts_iret hx hb hr hlk (vp_nar_int _) hw hd dM_cartridge_97
      · replace hd := ts_if_n cq hd
        refine lv_aload_n hx hb dM_cartridge_60 rfl (lv_at hl 0 rfl) ?_
        refine lv_iload hx hb dM_cartridge_61 (lv_at hl 4 rfl) ?_
        obtain ⟨r63, u63, hq, hd⟩ := ts_b_s hd
        refine cM_105 hc hn hw hq hl.1 ⟨Nat.le_of_ble_eq_true rfl, Nat.le_of_ble_eq_true rfl⟩ (Nat.le_of_ble_eq_true rfl) dM_cartridge_63 (fun H locs hw => ?_)
        refine lv_if_eq (tgt := 90) hx hb dM_cartridge_66 (by decide) (fun cq => ?_) (fun cq => ?_)
        · replace hd := ts_if_p cq hd
          refine lv_iinc (v := (x4 + 1)) (lv' := [(4, .int (x4 + 1)), (0, .ref (ad 0)), (1, .int x1), (2, .int x2), (3, .int x3)]) hx hb dM_cartridge_90 hl (k := 4) rfl rfl (by decide) rfl (fun ls hl => ?_)
          refine lv_goto (tgt := 53) hx hb dM_cartridge_93 (by decide) ?_
          exact ih53 u63 x1 x2 x3 (x4 + 1) _ _ _ hd hw (lv_sub hl [1, 2, 3, 4, 0] rfl)
        · replace hd := ts_if_n cq hd
          refine lv_aload_n hx hb dM_cartridge_69 rfl (lv_at hl 0 rfl) ?_
          refine gM_22 hc hn hw dM_cartridge_70 ?_
          refine lv_iload hx hb dM_cartridge_73 (lv_at hl 4 rfl) ?_
          obtain ⟨h, hd⟩ := ts_ix_s hd
          refine mm_l5 hc hw h dM_cartridge_75 ?_
          refine lv_iload_n hx hb dM_cartridge_76 rfl (lv_at hl 1 rfl) ?_
          refine lv_icmp_ne (tgt := 90) hx hb dM_cartridge_77 (by decide) (fun cq => ?_) (fun cq => ?_)
          · replace hd := ts_if_n cq hd
            refine lv_iinc (v := (x4 + 1)) (lv' := [(4, .int (x4 + 1)), (0, .ref (ad 0)), (1, .int x1), (2, .int x2), (3, .int x3)]) hx hb dM_cartridge_90 hl (k := 4) rfl rfl (by decide) rfl (fun ls hl => ?_)
            refine lv_goto (tgt := 53) hx hb dM_cartridge_93 (by decide) ?_
            exact ih53 u63 x1 x2 x3 (x4 + 1) _ _ _ hd hw (lv_sub hl [1, 2, 3, 4, 0] rfl)
          · replace hd := ts_if_p cq hd
            refine lv_iload_n hx hb dM_cartridge_80 rfl (lv_at hl 3 rfl) ?_
            refine lv_aload_n hx hb dM_cartridge_81 rfl (lv_at hl 0 rfl) ?_
            refine gM_13 hc hn hw dM_cartridge_82 ?_
            refine lv_iload hx hb dM_cartridge_85 (lv_at hl 4 rfl) ?_
            obtain ⟨h, hd⟩ := ts_ix_s hd
            refine mm_l3 hc hw h dM_cartridge_87 ?_
            refine lv_iadd hx hb dM_cartridge_88 ?_
            refine lv_istore_n (lv' := [(3, .int (x3 + (u63.2 3 x4.toNatClampNeg))), (0, .ref (ad 0)), (1, .int x1), (2, .int x2), (4, .int x4)]) hx hb dM_cartridge_89 rfl hl (by decide) rfl (fun ls hl => ?_)
            refine lv_iinc (v := (x4 + 1)) (lv' := [(4, .int (x4 + 1)), (3, .int (x3 + (u63.2 3 x4.toNatClampNeg))), (0, .ref (ad 0)), (1, .int x1), (2, .int x2)]) hx hb dM_cartridge_90 hl (k := 4) rfl rfl (by decide) rfl (fun ls hl => ?_)
            refine lv_goto (tgt := 53) hx hb dM_cartridge_93 (by decide) ?_
            exact ih53 u63 x1 x2 (x3 + (u63.2 3 x4.toNatClampNeg)) (x4 + 1) _ _ _ hd hw (lv_sub hl [2, 3, 4, 1, 0] rfl)
  unfold dm_cartridge at hd
  refine lv_iload_n hx hb dM_cartridge_0 rfl (lv_at hl 1 rfl) ?_
  refine lv_iconst (v := 4) hx hb dM_cartridge_1 (by decide) ?_
  obtain ⟨r2, u2, hq, hd⟩ := ts_b_s hd
  refine cM_51 hc hn hw hq hl.1 ⟨Nat.le_of_ble_eq_true rfl, Nat.le_of_ble_eq_true rfl⟩ (Nat.le_of_ble_eq_true rfl) dM_cartridge_2 (fun H locs hw => ?_)
  refine lv_if_eq (tgt := 16) hx hb dM_cartridge_5 (by decide) (fun cq => ?_) (fun cq => ?_)
  · replace hd := ts_if_p cq hd
    refine lv_iconst (v := (-1)) hx hb dM_cartridge_16 (by decide) ?_
    exact ts_iret hx hb hr hlk (vp_nar_int _) hw hd dM_cartridge_17
  · replace hd := ts_if_n cq hd
    refine lv_iload_n hx hb dM_cartridge_8 rfl (lv_at hl 2 rfl) ?_
    refine lv_iconst (v := 3) hx hb dM_cartridge_9 (by decide) ?_
    obtain ⟨r10, u10, hq, hd⟩ := ts_b_s hd
    refine cM_51 hc hn hw hq hl.1 ⟨Nat.le_of_ble_eq_true rfl, Nat.le_of_ble_eq_true rfl⟩ (Nat.le_of_ble_eq_true rfl) dM_cartridge_10 (fun H locs hw => ?_)
    refine lv_if_ne (tgt := 18) hx hb dM_cartridge_13 (by decide) (fun cq => ?_) (fun cq => ?_)
    · replace hd := ts_if_n cq hd
      refine lv_iload_n hx hb dM_cartridge_18 rfl (lv_at hl 2 rfl) ?_
      refine lv_if_ne (tgt := 29) hx hb dM_cartridge_19 (by decide) (fun cq => ?_) (fun cq => ?_)
      · replace hd := ts_if_n cq hd
        refine lv_iload_n hx hb dM_cartridge_29 rfl (lv_at hl 2 rfl) ?_
        refine lv_iconst (v := 2) hx hb dM_cartridge_30 (by decide) ?_
        refine lv_icmp_ne (tgt := 48) hx hb dM_cartridge_31 (by decide) (fun cq => ?_) (fun cq => ?_)
        · replace hd := ts_if_n cq hd
          refine lv_iconst (v := 0) hx hb dM_cartridge_48 (by decide) ?_
          refine lv_istore_n (lv' := [(3, .int 0), (0, .ref (ad 0)), (1, .int x1), (2, .int x2)]) hx hb dM_cartridge_49 rfl hl (by decide) rfl (fun ls hl => ?_)
          refine lv_iconst (v := 0) hx hb dM_cartridge_50 (by decide) ?_
          refine lv_istore (lv' := [(4, .int 0), (3, .int 0), (0, .ref (ad 0)), (1, .int x1), (2, .int x2)]) hx hb dM_cartridge_51 hl (by decide) rfl (fun ls hl => ?_)
          exact L53 40 u10 x1 x2 0 0 _ _ _ hd hw (lv_sub hl [2, 3, 4, 1, 0] rfl)
        · replace hd := ts_if_p cq hd
          refine lv_aload_n hx hb dM_cartridge_34 rfl (lv_at hl 0 rfl) ?_
          refine gM_41 hc hn hw dM_cartridge_35 ?_
          refine lv_iload_n hx hb dM_cartridge_38 rfl (lv_at hl 1 rfl) ?_
          refine lv_icmp_ne (tgt := 46) hx hb dM_cartridge_39 (by decide) (fun cq => ?_) (fun cq => ?_)
          · replace hd := ts_if_n cq hd
            refine lv_iconst (v := 0) hx hb dM_cartridge_46 (by decide) ?_
            exact ts_iret hx hb hr hlk (vp_nar_int _) hw hd dM_cartridge_47
          · replace hd := ts_if_p cq hd
            refine lv_iconst (v := 1) hx hb dM_cartridge_42 (by decide) ?_
            refine lv_goto (tgt := 47) hx hb dM_cartridge_43 (by decide) ?_
            exact ts_iret hx hb hr hlk (vp_nar_int _) hw hd dM_cartridge_47
      · replace hd := ts_if_p cq hd
        refine lv_aload_n hx hb dM_cartridge_22 rfl (lv_at hl 0 rfl) ?_
        refine gM_32 hc hn hw dM_cartridge_23 ?_
        refine lv_iload_n hx hb dM_cartridge_26 rfl (lv_at hl 1 rfl) ?_
        obtain ⟨h, hd⟩ := ts_ix_s hd
        refine mm_l10 hc hw h dM_cartridge_27 ?_
        exact ts_iret hx hb hr hlk (vp_nar_int _) hw hd dM_cartridge_28
    · replace hd := ts_if_p cq hd
      refine lv_iconst (v := (-1)) hx hb dM_cartridge_16 (by decide) ?_
      exact ts_iret hx hb hr hlk (vp_nar_int _) hw hd dM_cartridge_17
end
section
def rM_count : Room := { frames := 1, cells := 0, slots := 0, locals := 22 }
set_option maxHeartbeats 4000000 in
set_option maxRecDepth 100000 in
theorem cm_count (l : Launch) {u : ts_S} {x1 : Int32} {r0 : Int32} {u0 : ts_S} (hd : dm_count u x1 = some (r0, u0)) : ts_Ci mF l yM_count (.code yM_count bM_count 2 (some .int) :: uW) rM_count (fun ad => [.ref (ad 0), .int x1]) u r0 u0 := by
  refine ts_in_i mF l (by decide) (fun p e s m args below meth c D ca ad A hc hn hr hlk hw => ?_)
  have hx := hc.1
  have hb := hc.2.1
  have hl := lv_entry ([.ref (ad 0), .int x1]) (n := 2) (Nat.le_of_ble_eq_true rfl)
  rw [lg_entry_eq]
  generalize (lg_sl ([.ref (ad 0), .int x1]) ++ List.replicate (2 - (lg_sl ([.ref (ad 0), .int x1])).length) Slot.unset).toArray = ls at hl ⊢
  replace hl : lv_has ls 2 [(0, .ref (ad 0)), (1, .int x1)] := hl
  unfold dm_count at hd
  refine lv_iload_n hx hb dM_count_0 rfl (lv_at hl 1 rfl) ?_
  refine lv_if_ne (tgt := 9) hx hb dM_count_1 (by decide) (fun cq => ?_) (fun cq => ?_)
  · replace hd := ts_if_n cq hd
    refine lv_iload_n hx hb dM_count_9 rfl (lv_at hl 1 rfl) ?_
    refine lv_iconst (v := 1) hx hb dM_count_10 (by decide) ?_
    refine lv_icmp_ne (tgt := 19) hx hb dM_count_11 (by decide) (fun cq => ?_) (fun cq => ?_)
    · replace hd := ts_if_n cq hd
      refine lv_iload_n hx hb dM_count_19 rfl (lv_at hl 1 rfl) ?_
      refine lv_iconst (v := 2) hx hb dM_count_20 (by decide) ?_
      refine lv_icmp_ne (tgt := 40) hx hb dM_count_21 (by decide) (fun cq => ?_) (fun cq => ?_)
      · replace hd := ts_if_n cq hd
        refine lv_iload_n hx hb dM_count_40 rfl (lv_at hl 1 rfl) ?_
        refine lv_iconst (v := 3) hx hb dM_count_41 (by decide) ?_
        refine lv_icmp_ne (tgt := 52) hx hb dM_count_42 (by decide) (fun cq => ?_) (fun cq => ?_)
        · replace hd := ts_if_n cq hd
          refine lv_iconst (v := (-1)) hx hb dM_count_52 (by decide) ?_
          exact ts_iret hx hb hr hlk (vp_nar_int _) hw hd dM_count_53
        · replace hd := ts_if_p cq hd
          refine lv_aload_n hx hb dM_count_45 rfl (lv_at hl 0 rfl) ?_
          obtain ⟨r46, u46, hq, hd⟩ := ts_b_s hd
          refine cM_99 hc hn hw hq hl.1 ⟨Nat.le_of_ble_eq_true rfl, Nat.le_of_ble_eq_true rfl⟩ (Nat.le_of_ble_eq_true rfl) dM_count_46 (fun H locs hw => ?_)
          refine lv_goto (tgt := 53) hx hb dM_count_49 (by decide) ?_
          exact ts_iret hx hb hr hlk (vp_nar_int _) hw hd dM_count_53
      · replace hd := ts_if_p cq hd
        refine lv_aload_n hx hb dM_count_24 rfl (lv_at hl 0 rfl) ?_
        refine gM_41 hc hn hw dM_count_25 ?_
        refine lv_if_ge (tgt := 35) hx hb dM_count_28 (by decide) (fun cq => ?_) (fun cq => ?_)
        · replace hd := ts_if_p cq hd
          refine lv_aload_n hx hb dM_count_35 rfl (lv_at hl 0 rfl) ?_
          refine gM_69 hc hn hw dM_count_36 ?_
          exact ts_iret hx hb hr hlk (vp_nar_int _) hw hd dM_count_39
        · replace hd := ts_if_n cq hd
          refine lv_iconst (v := 0) hx hb dM_count_31 (by decide) ?_
          refine lv_goto (tgt := 39) hx hb dM_count_32 (by decide) ?_
          exact ts_iret hx hb hr hlk (vp_nar_int _) hw hd dM_count_39
    · replace hd := ts_if_p cq hd
      refine lv_aload_n hx hb dM_count_14 rfl (lv_at hl 0 rfl) ?_
      refine gM_66 hc hn hw dM_count_15 ?_
      exact ts_iret hx hb hr hlk (vp_nar_int _) hw hd dM_count_18
  · replace hd := ts_if_p cq hd
    refine lv_aload_n hx hb dM_count_4 rfl (lv_at hl 0 rfl) ?_
    obtain ⟨r5, u5, hq, hd⟩ := ts_b_s hd
    refine cM_58 hc hn hw hq hl.1 ⟨Nat.le_of_ble_eq_true rfl, Nat.le_of_ble_eq_true rfl⟩ (Nat.le_of_ble_eq_true rfl) dM_count_5 (fun H locs hw => ?_)
    exact ts_iret hx hb hr hlk (vp_nar_int _) hw hd dM_count_8
end
section
/-! pure: closed forms of the loops over the files -/
theorem pu_ix {α : Type} {j n : Nat} (h : j < n) (hn : n < 2 ^ 31) (t : Option α) : ts_ix (nI j) n t = t := by
  unfold ts_ix
  rw [if_neg (nI_in h hn)]
theorem pu_16 {j : Nat} (h : j < 16) : ¬ (16 : Int32) ≤ nI j := nI_ge (a := j) (b := 16) h (by decide)
theorem pu_4 {j : Nat} (h : j < 4) : ¬ (4 : Int32) ≤ nI j := nI_ge (a := j) (b := 4) h (by decide)
theorem pu_cl {j : Nat} (h : j < 16) : (nI j).toNatClampNeg = j := nI_clamp (by omega)
theorem pu_m1 {j : Nat} (h : j < 2 ^ 31) : ¬ nI j = -1 := fun e => nI_pos h (by rw [e]; decide)
theorem pu_nn {n d : Nat} (h : d < n) : ∃ k, n = k + 1 := ⟨n - 1, by omega⟩
def tk (st le : Nat → Int32) : Nat → Int32
  | 0 => 0
  | n + 1 => if st n = 1 ∨ st n = 2 then tk st le n + le n else tk st le n
theorem tk_s (st le : Nat → Int32) (n : Nat) : tk st le (n + 1) = if st n = 1 ∨ st n = 2 then tk st le n + le n else tk st le n := rfl
theorem pt_onDisk (u : ts_S) {j : Nat} (h : j < 16) : dt_isOnDisk u (nI j) = some (if u.2 2 j = 1 ∨ u.2 2 j = 2 then 1 else 0, u) := by
  unfold dt_isOnDisk
  simp only [pu_ix h (by decide), pu_cl h]
  by_cases h1 : u.2 2 j = 1
  · rw [if_pos h1, if_pos (Or.inl h1)]
  · rw [if_neg h1]
    by_cases h2 : u.2 2 j = 2
    · rw [if_pos h2, if_pos (Or.inr h2)]
    · rw [if_neg h2, if_neg (by rintro (h | h) <;> contradiction)]
theorem pt_taken_l (u : ts_S) : ∀ (d j n : Nat), j + d = 16 → d < n → dt_unitsTaken_4 n u (tk (u.2 2) (u.2 3) j) (nI j) = some (tk (u.2 2) (u.2 3) 16, u) := by
  intro d
  induction d with
  | zero =>
    intro j n hj hn
    obtain ⟨n, rfl⟩ := pu_nn hn
    obtain rfl : j = 16 := by omega
    show dt_unitsTaken_4_b (dt_unitsTaken_4 n) u _ (nI 16) = _
    unfold dt_unitsTaken_4_b
    rw [if_pos (by decide)]
  | succ d ih =>
    intro j n hj hn
    obtain ⟨n, rfl⟩ := pu_nn hn
    have h : j < 16 := by omega
    have ih := ih (j + 1) n (by omega) (by omega)
    show dt_unitsTaken_4_b (dt_unitsTaken_4 n) u _ (nI j) = _
    unfold dt_unitsTaken_4_b
    rw [if_neg (pu_16 h), pt_onDisk u h]
    simp only [ts_b, nI_1, pu_ix h (by decide), pu_cl h]
    rw [tk_s] at ih
    by_cases hq : u.2 2 j = 1 ∨ u.2 2 j = 2
    · rw [if_pos hq] at ih
      rw [if_pos hq, if_neg (by decide)]
      exact ih
    · rw [if_neg hq] at ih
      rw [if_neg hq, if_pos rfl]
      exact ih
theorem pt_taken (u : ts_S) : dt_unitsTaken u = some (tk (u.2 2) (u.2 3) 16, u) := pt_taken_l u 16 0 40 rfl (by decide)
theorem pm_taken_l (u : ts_S) : ∀ (d j n : Nat), j + d = 16 → d < n → dm_taken_4 n u (tk (u.2 2) (u.2 3) j) (nI j) = some (tk (u.2 2) (u.2 3) 16, u) := by
  intro d
  induction d with
  | zero =>
    intro j n hj hn
    obtain ⟨n, rfl⟩ := pu_nn hn
    obtain rfl : j = 16 := by omega
    show dm_taken_4_b (dm_taken_4 n) u _ (nI 16) = _
    unfold dm_taken_4_b
    rw [if_pos (by decide)]
  | succ d ih =>
    intro j n hj hn
    obtain ⟨n, rfl⟩ := pu_nn hn
    have h : j < 16 := by omega
    have ih := ih (j + 1) n (by omega) (by omega)
    show dm_taken_4_b (dm_taken_4 n) u _ (nI j) = _
    unfold dm_taken_4_b
    rw [if_neg (pu_16 h)]
    simp only [nI_1, pu_ix h (by decide), pu_cl h]
    rw [tk_s] at ih
    by_cases h1 : u.2 2 j = 1
    · rw [if_pos (Or.inl h1)] at ih
      rw [if_pos h1]
      exact ih
    · rw [if_neg h1]
      by_cases h2 : u.2 2 j = 2
      · rw [if_pos (Or.inr h2)] at ih
        rw [if_pos h2]
        exact ih
      · rw [if_neg (by rintro (h | h) <;> contradiction)] at ih
        rw [if_neg h2]
        exact ih
theorem pm_taken (u : ts_S) : dm_taken u = some (tk (u.2 2) (u.2 3) 16, u) := pm_taken_l u 16 0 40 rfl (by decide)
/-- the file of the state k that was used longest ago among the first n, or -1 -/
def od (st us : Nat → Int32) (k : Int32) : Nat → Int32
  | 0 => -1
  | n + 1 => if st n = k then (if od st us k n = -1 then nI n else if us (od st us k n).toNatClampNeg ≤ us n then od st us k n else nI n) else od st us k n
theorem od_s (st us : Nat → Int32) (k : Int32) (n : Nat) : od st us k (n + 1) = if st n = k then (if od st us k n = -1 then nI n else if us (od st us k n).toNatClampNeg ≤ us n then od st us k n else nI n) else od st us k n := rfl
theorem od_in (st us : Nat → Int32) (k : Int32) : ∀ n : Nat, od st us k n = -1 ∨ ∃ f, f < n ∧ od st us k n = nI f ∧ st f = k := by
  intro n
  induction n with
  | zero => exact Or.inl rfl
  | succ n ih =>
    rw [od_s]
    by_cases h1 : st n = k
    · rw [if_pos h1]
      by_cases h2 : od st us k n = -1
      · rw [if_pos h2]
        exact Or.inr ⟨n, by omega, rfl, h1⟩
      · rw [if_neg h2]
        by_cases h3 : us (od st us k n).toNatClampNeg ≤ us n
        · rw [if_pos h3]
          rcases ih with ih | ⟨f, hf, e, hs⟩
          · exact absurd ih h2
          · exact Or.inr ⟨f, by omega, e, hs⟩
        · rw [if_neg h3]
          exact Or.inr ⟨n, by omega, rfl, h1⟩
    · rw [if_neg h1]
      rcases ih with ih | ⟨f, hf, e, hs⟩
      · exact Or.inl ih
      · exact Or.inr ⟨f, by omega, e, hs⟩
theorem pt_old_l (u : ts_S) (k : Int32) : ∀ (d j n : Nat), j + d = 16 → d < n → dt_longestUnused_4 n u k (od (u.2 2) (u.2 8) k j) (nI j) = some (od (u.2 2) (u.2 8) k 16, u) := by
  intro d
  induction d with
  | zero =>
    intro j n hj hn
    obtain ⟨n, rfl⟩ := pu_nn hn
    obtain rfl : j = 16 := by omega
    show dt_longestUnused_4_b (dt_longestUnused_4 n) u k _ (nI 16) = _
    unfold dt_longestUnused_4_b
    rw [if_pos (by decide)]
  | succ d ih =>
    intro j n hj hn
    obtain ⟨n, rfl⟩ := pu_nn hn
    have h : j < 16 := by omega
    have ih := ih (j + 1) n (by omega) (by omega)
    show dt_longestUnused_4_b (dt_longestUnused_4 n) u k _ (nI j) = _
    unfold dt_longestUnused_4_b
    rw [if_neg (pu_16 h)]
    simp only [nI_1, pu_ix h (by decide), pu_cl h]
    rw [od_s] at ih
    by_cases h1 : u.2 2 j = k
    · rw [if_pos h1] at ih ⊢
      rcases od_in (u.2 2) (u.2 8) k j with h2 | ⟨f, hf, h2, -⟩
      · rw [if_pos h2] at ih ⊢
        exact ih
      · have h3 : ¬ od (u.2 2) (u.2 8) k j = -1 := by rw [h2]; exact pu_m1 (by omega)
        rw [if_neg h3] at ih ⊢
        rw [h2] at ih ⊢
        simp only [pu_ix (show f < 16 by omega) (by decide), pu_cl (show f < 16 by omega)] at ih ⊢
        by_cases h4 : u.2 8 f ≤ u.2 8 j
        · rw [if_pos h4] at ih ⊢
          exact ih
        · rw [if_neg h4] at ih ⊢
          exact ih
    · rw [if_neg h1] at ih ⊢
      exact ih
theorem pt_old (u : ts_S) (k : Int32) : dt_longestUnused u k = some (od (u.2 2) (u.2 8) k 16, u) := pt_old_l u k 16 0 40 rfl (by decide)
theorem pm_old_l (u : ts_S) (k : Int32) : ∀ (d j n : Nat), j + d = 16 → d < n → dm_oldest_4 n u k (od (u.2 2) (u.2 8) k j) (nI j) = some (od (u.2 2) (u.2 8) k 16, u) := by
  intro d
  induction d with
  | zero =>
    intro j n hj hn
    obtain ⟨n, rfl⟩ := pu_nn hn
    obtain rfl : j = 16 := by omega
    show dm_oldest_4_b (dm_oldest_4 n) u k _ (nI 16) = _
    unfold dm_oldest_4_b
    rw [if_pos (by decide)]
  | succ d ih =>
    intro j n hj hn
    obtain ⟨n, rfl⟩ := pu_nn hn
    have h : j < 16 := by omega
    have ih := ih (j + 1) n (by omega) (by omega)
    show dm_oldest_4_b (dm_oldest_4 n) u k _ (nI j) = _
    unfold dm_oldest_4_b
    rw [if_neg (pu_16 h)]
    simp only [nI_1, pu_ix h (by decide), pu_cl h]
    rw [od_s] at ih
    by_cases h1 : u.2 2 j = k
    · rw [if_pos h1] at ih ⊢
      rcases od_in (u.2 2) (u.2 8) k j with h2 | ⟨f, hf, h2, -⟩
      · rw [if_pos h2] at ih
        rw [if_pos (by rw [h2]; decide)]
        exact ih
      · have h3 : ¬ od (u.2 2) (u.2 8) k j = -1 := by rw [h2]; exact pu_m1 (by omega)
        rw [if_neg h3] at ih
        rw [if_neg (by rw [h2]; exact nI_pos (by omega))]
        rw [h2] at ih ⊢
        simp only [pu_ix (show f < 16 by omega) (by decide), pu_cl (show f < 16 by omega)] at ih ⊢
        by_cases h4 : u.2 8 f ≤ u.2 8 j
        · rw [if_pos h4] at ih ⊢
          exact ih
        · rw [if_neg h4] at ih ⊢
          exact ih
    · rw [if_neg h1] at ih ⊢
      exact ih
theorem pm_old (u : ts_S) (k : Int32) : dm_oldest u k = some (od (u.2 2) (u.2 8) k 16, u) := pm_old_l u k 16 0 40 rfl (by decide)
/-- how many wait among the first n -/
def wt (w : Nat → Int32) : Nat → Nat
  | 0 => 0
  | n + 1 => if w n = 0 then wt w n else wt w n + 1
theorem wt_s (w : Nat → Int32) (n : Nat) : wt w (n + 1) = if w n = 0 then wt w n else wt w n + 1 := rfl
theorem pt_wait_l (u : ts_S) : ∀ (d j n : Nat), j + d = 16 → d < n → dt_filesWaiting_4 n u (nI (wt (u.2 7) j)) (nI j) = some (nI (wt (u.2 7) 16), u) := by
  intro d
  induction d with
  | zero =>
    intro j n hj hn
    obtain ⟨n, rfl⟩ := pu_nn hn
    obtain rfl : j = 16 := by omega
    show dt_filesWaiting_4_b (dt_filesWaiting_4 n) u _ (nI 16) = _
    unfold dt_filesWaiting_4_b
    rw [if_pos (by decide)]
  | succ d ih =>
    intro j n hj hn
    obtain ⟨n, rfl⟩ := pu_nn hn
    have h : j < 16 := by omega
    have ih := ih (j + 1) n (by omega) (by omega)
    show dt_filesWaiting_4_b (dt_filesWaiting_4 n) u _ (nI j) = _
    unfold dt_filesWaiting_4_b
    rw [if_neg (pu_16 h)]
    simp only [nI_1, pu_ix h (by decide), pu_cl h]
    rw [wt_s] at ih
    by_cases hq : u.2 7 j = 0
    · rw [if_pos hq] at ih ⊢
      exact ih
    · rw [if_neg hq] at ih ⊢
      exact ih
theorem pt_wait (u : ts_S) : dt_filesWaiting u = some (nI (wt (u.2 7) 16), u) := pt_wait_l u 16 0 40 rfl (by decide)
theorem pm_wait_l (u : ts_S) : ∀ (d j n : Nat), j + d = 16 → d < n → dm_waiting_4 n u (nI (wt (u.2 7) j)) (nI j) = some (nI (wt (u.2 7) 16), u) := by
  intro d
  induction d with
  | zero =>
    intro j n hj hn
    obtain ⟨n, rfl⟩ := pu_nn hn
    obtain rfl : j = 16 := by omega
    show dm_waiting_4_b (dm_waiting_4 n) u _ (nI 16) = _
    unfold dm_waiting_4_b
    rw [if_pos (by decide)]
  | succ d ih =>
    intro j n hj hn
    obtain ⟨n, rfl⟩ := pu_nn hn
    have h : j < 16 := by omega
    have ih := ih (j + 1) n (by omega) (by omega)
    show dm_waiting_4_b (dm_waiting_4 n) u _ (nI j) = _
    unfold dm_waiting_4_b
    rw [if_neg (pu_16 h)]
    simp only [nI_1, pu_ix h (by decide), pu_cl h]
    rw [wt_s] at ih
    by_cases hq : u.2 7 j = 0
    · rw [if_pos hq] at ih ⊢
      exact ih
    · rw [if_neg hq] at ih ⊢
      exact ih
theorem pm_wait (u : ts_S) : dm_waiting u = some (nI (wt (u.2 7) 16), u) := pm_wait_l u 16 0 40 rfl (by decide)
/-- how many of the first n that are not absent were used later than x -/
def ul (st us : Nat → Int32) (x : Int32) : Nat → Int32
  | 0 => 0
  | n + 1 => if st n = 0 then ul st us x n else if us n ≤ x then ul st us x n else ul st us x n + 1
theorem ul_s (st us : Nat → Int32) (x : Int32) (n : Nat) : ul st us x (n + 1) = if st n = 0 then ul st us x n else if us n ≤ x then ul st us x n else ul st us x n + 1 := rfl
theorem pt_ul_l (u : ts_S) {f : Nat} (hf : f < 16) : ∀ (d j n : Nat), j + d = 16 → d < n → dt_usedSince_4 n u (nI f) (ul (u.2 2) (u.2 8) (u.2 8 f) j) (nI j) = some (ul (u.2 2) (u.2 8) (u.2 8 f) 16, u) := by
  intro d
  induction d with
  | zero =>
    intro j n hj hn
    obtain ⟨n, rfl⟩ := pu_nn hn
    obtain rfl : j = 16 := by omega
    show dt_usedSince_4_b (dt_usedSince_4 n) u _ _ (nI 16) = _
    unfold dt_usedSince_4_b
    rw [if_pos (by decide)]
  | succ d ih =>
    intro j n hj hn
    obtain ⟨n, rfl⟩ := pu_nn hn
    have h : j < 16 := by omega
    have ih := ih (j + 1) n (by omega) (by omega)
    show dt_usedSince_4_b (dt_usedSince_4 n) u _ _ (nI j) = _
    unfold dt_usedSince_4_b
    rw [if_neg (pu_16 h)]
    simp only [nI_1, pu_ix h (by decide), pu_cl h, pu_ix hf (by decide), pu_cl hf]
    rw [ul_s] at ih
    by_cases hq : u.2 2 j = 0
    · rw [if_pos hq] at ih ⊢
      exact ih
    · rw [if_neg hq] at ih ⊢
      by_cases hq : u.2 8 j ≤ u.2 8 f
      · rw [if_pos hq] at ih ⊢
        exact ih
      · rw [if_neg hq] at ih ⊢
        exact ih
theorem pt_ul (u : ts_S) {f : Nat} (hf : f < 16) : dt_usedSince u (nI f) = some (ul (u.2 2) (u.2 8) (u.2 8 f) 16, u) := pt_ul_l u hf 16 0 40 rfl (by decide)
theorem pm_ul_l (u : ts_S) {f : Nat} (hf : f < 16) (w : Int32) : ∀ (d j n : Nat), j + d = 16 → d < n → dm_file_135 n u (nI f) w (ul (u.2 2) (u.2 8) (u.2 8 f) j) (nI j) = some (ul (u.2 2) (u.2 8) (u.2 8 f) 16, u) := by
  intro d
  induction d with
  | zero =>
    intro j n hj hn
    obtain ⟨n, rfl⟩ := pu_nn hn
    obtain rfl : j = 16 := by omega
    show dm_file_135_b (dm_file_135 n) u _ _ _ (nI 16) = _
    unfold dm_file_135_b
    rw [if_pos (by decide)]
  | succ d ih =>
    intro j n hj hn
    obtain ⟨n, rfl⟩ := pu_nn hn
    have h : j < 16 := by omega
    have ih := ih (j + 1) n (by omega) (by omega)
    show dm_file_135_b (dm_file_135 n) u _ _ _ (nI j) = _
    unfold dm_file_135_b
    rw [if_neg (pu_16 h)]
    simp only [nI_1, pu_ix h (by decide), pu_cl h, pu_ix hf (by decide), pu_cl hf]
    rw [ul_s] at ih
    by_cases hq : u.2 2 j = 0
    · rw [if_pos hq] at ih ⊢
      exact ih
    · rw [if_neg hq] at ih ⊢
      by_cases hq : u.2 8 j ≤ u.2 8 f
      · rw [if_pos hq] at ih ⊢
        exact ih
      · rw [if_neg hq] at ih ⊢
        exact ih
theorem pm_ul (u : ts_S) {f : Nat} (hf : f < 16) (w : Int32) : dm_file_135 40 u (nI f) w 0 0 = some (ul (u.2 2) (u.2 8) (u.2 8 f) 16, u) := pm_ul_l u hf w 16 0 40 rfl (by decide)
end
section
/-! pure: copies -/
theorem pt_hasCopy (u : ts_S) {j : Nat} (h : j < 16) : dt_hasCopy u (nI j) = some (if u.2 2 j = 2 ∨ u.2 2 j = 3 then 1 else 0, u) := by
  unfold dt_hasCopy
  simp only [pu_ix h (by decide), pu_cl h]
  by_cases h1 : u.2 2 j = 2
  · rw [if_pos h1, if_pos (Or.inl h1)]
  · rw [if_neg h1]
    by_cases h2 : u.2 2 j = 3
    · rw [if_pos h2, if_pos (Or.inr h2)]
    · rw [if_neg h2, if_neg (by rintro (h | h) <;> contradiction)]
theorem pm_copied (u : ts_S) {j : Nat} (h : j < 16) : dm_copied u (nI j) = some (if u.2 2 j = 2 ∨ u.2 2 j = 3 then 1 else 0, u) := by
  unfold dm_copied
  simp only [pu_ix h (by decide), pu_cl h]
  by_cases h1 : u.2 2 j = 2
  · rw [if_pos h1, if_pos (Or.inl h1)]
  · rw [if_neg h1]
    by_cases h2 : u.2 2 j = 3
    · rw [if_pos h2, if_pos (Or.inr h2)]
    · rw [if_neg h2, if_neg (by rintro (h | h) <;> contradiction)]
/-- the file j has a live copy on c -/
def lc (u : ts_S) (c : Int32) (j : Nat) : Prop := (u.2 2 j = 2 ∨ u.2 2 j = 3) ∧ u.2 5 j = c
theorem pt_copyOn (u : ts_S) (c : Int32) {j : Nat} (h : j < 16) : (lc u c j → dt_hasCopyOn u (nI j) c = some (1, u)) ∧ (¬ lc u c j → dt_hasCopyOn u (nI j) c = some (0, u)) := by
  unfold dt_hasCopyOn
  rw [pt_hasCopy u h]
  simp only [ts_b, pu_ix h (by decide), pu_cl h]
  constructor
  · rintro ⟨h1, h2⟩
    rw [if_pos h1, if_neg (by decide), if_pos h2]
  · intro hn
    by_cases h1 : u.2 2 j = 2 ∨ u.2 2 j = 3
    · rw [if_pos h1, if_neg (by decide), if_neg (fun q => hn ⟨h1, q⟩)]
    · rw [if_neg h1, if_pos rfl]
/-- units of the live copies on c among the first n files -/
noncomputable def lu (u : ts_S) (c : Int32) : Nat → Int32
  | 0 => 0
  | n + 1 => if (u.2 2 n = 2 ∨ u.2 2 n = 3) ∧ u.2 5 n = c then lu u c n + u.2 3 n else lu u c n
theorem lu_p {u : ts_S} {c : Int32} {n : Nat} (h : lc u c n) : lu u c (n + 1) = lu u c n + u.2 3 n := if_pos h
theorem lu_n {u : ts_S} {c : Int32} {n : Nat} (h : ¬ lc u c n) : lu u c (n + 1) = lu u c n := if_neg h
theorem pt_lu_l (u : ts_S) (c : Int32) : ∀ (d j n : Nat), j + d = 16 → d < n → dt_liveUnits_4 n u c (lu u c j) (nI j) = some (lu u c 16, u) := by
  intro d
  induction d with
  | zero =>
    intro j n hj hn
    obtain ⟨n, rfl⟩ := pu_nn hn
    obtain rfl : j = 16 := by omega
    show dt_liveUnits_4_b (dt_liveUnits_4 n) u c _ (nI 16) = _
    unfold dt_liveUnits_4_b
    rw [if_pos (by decide)]
  | succ d ih =>
    intro j n hj hn
    obtain ⟨n, rfl⟩ := pu_nn hn
    have h : j < 16 := by omega
    have ih := ih (j + 1) n (by omega) (by omega)
    show dt_liveUnits_4_b (dt_liveUnits_4 n) u c _ (nI j) = _
    unfold dt_liveUnits_4_b
    rw [if_neg (pu_16 h)]
    by_cases hq : lc u c j
    · rw [(pt_copyOn u c h).1 hq]
      rw [lu_p hq] at ih
      simp only [ts_b, nI_1, pu_ix h (by decide), pu_cl h]
      rw [if_neg (by decide)]
      exact ih
    · rw [(pt_copyOn u c h).2 hq]
      rw [lu_n hq] at ih
      simp only [ts_b, nI_1]
      rw [if_pos trivial]
      exact ih
theorem pt_lu (u : ts_S) (c : Int32) : dt_liveUnits u c = some (lu u c 16, u) := pt_lu_l u c 16 0 40 rfl (by decide)
theorem pm_lu_l (u : ts_S) (c w : Int32) : ∀ (d j n : Nat), j + d = 16 → d < n → dm_cartridge_53 n u c w (lu u c j) (nI j) = some (lu u c 16, u) := by
  intro d
  induction d with
  | zero =>
    intro j n hj hn
    obtain ⟨n, rfl⟩ := pu_nn hn
    obtain rfl : j = 16 := by omega
    show dm_cartridge_53_b (dm_cartridge_53 n) u c w _ (nI 16) = _
    unfold dm_cartridge_53_b
    rw [if_pos (by decide)]
  | succ d ih =>
    intro j n hj hn
    obtain ⟨n, rfl⟩ := pu_nn hn
    have h : j < 16 := by omega
    have ih := ih (j + 1) n (by omega) (by omega)
    show dm_cartridge_53_b (dm_cartridge_53 n) u c w _ (nI j) = _
    unfold dm_cartridge_53_b
    rw [if_neg (pu_16 h), pm_copied u h]
    simp only [ts_b, nI_1, pu_ix h (by decide), pu_cl h]
    by_cases h1 : u.2 2 j = 2 ∨ u.2 2 j = 3
    · rw [if_pos h1, if_neg (by decide)]
      by_cases h2 : u.2 5 j = c
      · rw [lu_p ⟨h1, h2⟩] at ih
        rw [if_pos h2]
        exact ih
      · rw [lu_n (fun q => h2 q.2)] at ih
        rw [if_neg h2]
        exact ih
    · rw [lu_n (fun q => h1 q.1)] at ih
      rw [if_neg h1, if_pos rfl]
      exact ih
theorem pm_lu (u : ts_S) (c w : Int32) : dm_cartridge_53 40 u c w 0 0 = some (lu u c 16, u) := pm_lu_l u c w 16 0 40 rfl (by decide)
/-- the first file from j on with a live copy on c at the place p -/
theorem pt_at_l (u : ts_S) (c p : Int32) : ∀ (d j n : Nat), j + d = 16 → d < n →
    (dt_fileWithCopyAt_2 n u c p (nI j) = some (-1, u) ∧ ∀ f, j ≤ f → f < 16 → ¬ (lc u c f ∧ u.2 6 f = p)) ∨ ∃ f, j ≤ f ∧ f < 16 ∧ lc u c f ∧ u.2 6 f = p ∧ dt_fileWithCopyAt_2 n u c p (nI j) = some (nI f, u) := by
  intro d
  induction d with
  | zero =>
    intro j n hj hn
    obtain ⟨n, rfl⟩ := pu_nn hn
    obtain rfl : j = 16 := by omega
    refine Or.inl ⟨?_, fun f h1 h2 => absurd h1 (by omega)⟩
    show dt_fileWithCopyAt_2_b (dt_fileWithCopyAt_2 n) u c p (nI 16) = _
    unfold dt_fileWithCopyAt_2_b
    rw [if_pos (by decide)]
  | succ d ih =>
    intro j n hj hn
    obtain ⟨n, rfl⟩ := pu_nn hn
    have h : j < 16 := by omega
    have ih := ih (j + 1) n (by omega) (by omega)
    have e : dt_fileWithCopyAt_2 (n + 1) u c p (nI j) = dt_fileWithCopyAt_2_b (dt_fileWithCopyAt_2 n) u c p (nI j) := rfl
    rw [e]
    unfold dt_fileWithCopyAt_2_b
    rw [if_neg (pu_16 h)]
    by_cases hq : lc u c j
    · rw [(pt_copyOn u c h).1 hq]
      simp only [ts_b, nI_1, pu_ix h (by decide), pu_cl h]
      rw [if_neg (by decide)]
      by_cases hp : u.2 6 j = p
      · rw [if_pos hp]
        exact Or.inr ⟨j, Nat.le_refl j, h, hq, hp, rfl⟩
      · rw [if_neg hp]
        rcases ih with ⟨i1, i2⟩ | ⟨f, f1, f2, f3, f4, f5⟩
        · refine Or.inl ⟨i1, fun f h1 h2 => ?_⟩
          rcases Nat.lt_or_ge j f with q | q
          · exact i2 f q h2
          · obtain rfl : f = j := by omega
            exact fun z => hp z.2
        · exact Or.inr ⟨f, by omega, f2, f3, f4, f5⟩
    · rw [(pt_copyOn u c h).2 hq]
      simp only [ts_b, nI_1]
      rw [if_pos trivial]
      rcases ih with ⟨i1, i2⟩ | ⟨f, f1, f2, f3, f4, f5⟩
      · refine Or.inl ⟨i1, fun f h1 h2 => ?_⟩
        rcases Nat.lt_or_ge j f with q | q
        · exact i2 f q h2
        · obtain rfl : f = j := by omega
          exact fun z => hq z.1
      · exact Or.inr ⟨f, by omega, f2, f3, f4, f5⟩
theorem pt_at (u : ts_S) (c p : Int32) : (dt_fileWithCopyAt u c p = some (-1, u) ∧ ∀ f, f < 16 → ¬ (lc u c f ∧ u.2 6 f = p)) ∨ ∃ f, f < 16 ∧ lc u c f ∧ u.2 6 f = p ∧ dt_fileWithCopyAt u c p = some (nI f, u) := by
  rcases pt_at_l u c p 16 0 40 rfl (by decide) with ⟨h1, h2⟩ | ⟨f, -, h⟩
  · exact Or.inl ⟨h1, fun f hf => h2 f (Nat.zero_le f) hf⟩
  · exact Or.inr ⟨f, h⟩
/-- next(c, p): the live copy on c with the least place from p on -/
theorem pm_next_l (u : ts_S) (c p : Int32) : ∀ (d j n : Nat) (b : Int32), j + d = 16 → d < n →
    (b = -1 ∧ (∀ f, f < j → ¬ (lc u c f ∧ ¬ u.2 6 f < p)) ∨ ∃ g, g < j ∧ b = nI g ∧ lc u c g ∧ ¬ u.2 6 g < p ∧ ∀ f, f < j → lc u c f → ¬ u.2 6 f < p → u.2 6 g ≤ u.2 6 f) →
    (dm_next_5 n u c p b (nI j) = some (-1, u) ∧ (∀ f, f < 16 → ¬ (lc u c f ∧ ¬ u.2 6 f < p))) ∨ ∃ g, g < 16 ∧ dm_next_5 n u c p b (nI j) = some (nI g, u) ∧ lc u c g ∧ ¬ u.2 6 g < p ∧ ∀ f, f < 16 → lc u c f → ¬ u.2 6 f < p → u.2 6 g ≤ u.2 6 f := by
  intro d
  induction d with
  | zero =>
    intro j n b hj hn hb
    obtain ⟨n, rfl⟩ := pu_nn hn
    obtain rfl : j = 16 := by omega
    have e : dm_next_5 (n + 1) u c p b (nI 16) = some (b, u) := by
      show dm_next_5_b (dm_next_5 n) u c p b (nI 16) = _
      unfold dm_next_5_b
      rw [if_pos (by decide)]
    rw [e]
    rcases hb with ⟨rfl, h⟩ | ⟨g, h1, rfl, h2⟩
    · exact Or.inl ⟨rfl, h⟩
    · exact Or.inr ⟨g, h1, rfl, h2⟩
  | succ d ih =>
    intro j n b hj hn hb
    obtain ⟨n, rfl⟩ := pu_nn hn
    have h : j < 16 := by omega
    have e : dm_next_5 (n + 1) u c p b (nI j) = dm_next_5_b (dm_next_5 n) u c p b (nI j) := rfl
    rw [e]
    unfold dm_next_5_b
    rw [if_neg (pu_16 h), pm_copied u h]
    simp only [ts_b, nI_1, pu_ix h (by decide), pu_cl h]
    have skip : ¬ (lc u c j ∧ ¬ u.2 6 j < p) → (b = -1 ∧ (∀ f, f < j + 1 → ¬ (lc u c f ∧ ¬ u.2 6 f < p)) ∨ ∃ g, g < j + 1 ∧ b = nI g ∧ lc u c g ∧ ¬ u.2 6 g < p ∧ ∀ f, f < j + 1 → lc u c f → ¬ u.2 6 f < p → u.2 6 g ≤ u.2 6 f) := by
      intro hs
      rcases hb with ⟨h1, h2⟩ | ⟨g, g1, g2, g3, g4, g5⟩
      · refine Or.inl ⟨h1, fun f hf => ?_⟩
        rcases Nat.lt_or_ge f j with q | q
        · exact h2 f q
        · obtain rfl : f = j := by omega
          exact hs
      · refine Or.inr ⟨g, by omega, g2, g3, g4, fun f hf a1 a2 => ?_⟩
        rcases Nat.lt_or_ge f j with q | q
        · exact g5 f q a1 a2
        · obtain rfl : f = j := by omega
          exact absurd ⟨a1, a2⟩ hs
    by_cases h1 : u.2 2 j = 2 ∨ u.2 2 j = 3
    · rw [if_pos h1, if_neg (by decide)]
      by_cases h2 : u.2 5 j = c
      · rw [if_pos h2]
        by_cases h3 : u.2 6 j < p
        · rw [if_pos h3]
          exact ih (j + 1) n b (by omega) (by omega) (skip (fun q => q.2 h3))
        · rw [if_neg h3]
          rcases hb with ⟨rfl, b2⟩ | ⟨g, g1, rfl, g3, g4, g5⟩
          · rw [if_pos (by decide)]
            refine ih (j + 1) n (nI j) (by omega) (by omega) (Or.inr ⟨j, by omega, rfl, ⟨h1, h2⟩, h3, fun f hf a1 a2 => ?_⟩)
            rcases Nat.lt_or_ge f j with q | q
            · exact absurd ⟨a1, a2⟩ (b2 f q)
            · obtain rfl : f = j := by omega
              exact Int32.le_refl _
          · rw [if_neg (nI_pos (by omega))]
            simp only [pu_ix (show g < 16 by omega) (by decide), pu_cl (show g < 16 by omega)]
            by_cases h4 : u.2 6 g ≤ u.2 6 j
            · rw [if_pos h4]
              refine ih (j + 1) n (nI g) (by omega) (by omega) (Or.inr ⟨g, by omega, rfl, g3, g4, fun f hf a1 a2 => ?_⟩)
              rcases Nat.lt_or_ge f j with q | q
              · exact g5 f q a1 a2
              · obtain rfl : f = j := by omega
                exact h4
            · rw [if_neg h4]
              refine ih (j + 1) n (nI j) (by omega) (by omega) (Or.inr ⟨j, by omega, rfl, ⟨h1, h2⟩, h3, fun f hf a1 a2 => ?_⟩)
              rcases Nat.lt_or_ge f j with q | q
              · have := g5 f q a1 a2
                exact Int32.le_trans (Int32.le_of_lt (Int32.not_le.mp h4)) this
              · obtain rfl : f = j := by omega
                exact Int32.le_refl _
      · rw [if_neg h2]
        exact ih (j + 1) n b (by omega) (by omega) (skip (fun q => h2 q.1.2))
    · rw [if_neg h1, if_pos rfl]
      exact ih (j + 1) n b (by omega) (by omega) (skip (fun q => h1 q.1.1))
theorem pm_next (u : ts_S) (c p : Int32) : (dm_next u c p = some (-1, u) ∧ (∀ f, f < 16 → ¬ (lc u c f ∧ ¬ u.2 6 f < p))) ∨ ∃ g, g < 16 ∧ dm_next u c p = some (nI g, u) ∧ lc u c g ∧ ¬ u.2 6 g < p ∧ ∀ f, f < 16 → lc u c f → ¬ u.2 6 f < p → u.2 6 g ≤ u.2 6 f :=
  pm_next_l u c p 16 0 40 (-1) rfl (by decide) (Or.inl ⟨rfl, fun f hf => absurd hf (Nat.not_lt_zero f)⟩)
/-- r is the first of the four that the test takes, or -1 -/
def fs (A : Nat → Prop) (r : Int32) : Prop := (r = -1 ∧ ∀ c, c < 4 → ¬ A c) ∨ ∃ c, c < 4 ∧ r = nI c ∧ A c ∧ ∀ d, d < c → ¬ A d
theorem fs_u {A B : Nat → Prop} {r q : Int32} (h : ∀ c, c < 4 → (A c ↔ B c)) (hr : fs A r) (hq : fs B q) : r = q := by
  rcases hr with ⟨rfl, h1⟩ | ⟨c, c1, rfl, c2, c3⟩
  · rcases hq with ⟨rfl, h2⟩ | ⟨d, d1, rfl, d2, d3⟩
    · rfl
    · exact absurd ((h d d1).mpr d2) (h1 d d1)
  · rcases hq with ⟨rfl, h2⟩ | ⟨d, d1, rfl, d2, d3⟩
    · exact absurd ((h c c1).mp c2) (h2 c c1)
    · rcases Nat.lt_trichotomy c d with q | q | q
      · exact absurd ((h c c1).mp c2) (d3 c q)
      · rw [q]
      · exact absurd ((h d d1).mpr d2) (c3 d q)
theorem pt_ff10_l (u : ts_S) (x y : Int32) : ∀ (d j n : Nat), j + d = 4 → d < n → (∀ c, c < j → ¬ (¬ nI c = y ∧ ¬ u.1 3 < u.2 10 c + x)) → ∃ r, dp_firstFitting_10_3 n u x y (nI j) = some (r, u) ∧ fs (fun c => ¬ nI c = y ∧ ¬ u.1 3 < u.2 10 c + x) r := by
  intro d
  induction d with
  | zero =>
    intro j n hj hn hb
    obtain ⟨n, rfl⟩ := pu_nn hn
    obtain rfl : j = 4 := by omega
    refine ⟨-1, ?_, Or.inl ⟨rfl, hb⟩⟩
    show dp_firstFitting_10_3_b (dp_firstFitting_10_3 n) u x y (nI 4) = _
    unfold dp_firstFitting_10_3_b
    rw [if_pos (by decide)]
  | succ d ih =>
    intro j n hj hn hb
    obtain ⟨n, rfl⟩ := pu_nn hn
    have h : j < 4 := by omega
    have e : dp_firstFitting_10_3 (n + 1) u x y (nI j) = dp_firstFitting_10_3_b (dp_firstFitting_10_3 n) u x y (nI j) := rfl
    rw [e]
    unfold dp_firstFitting_10_3_b
    rw [if_neg (pu_4 h)]
    simp only [nI_1, pu_ix h (by decide), pu_cl (show j < 16 by omega)]
    have skip : ¬ (¬ nI j = y ∧ ¬ u.1 3 < u.2 10 j + x) → ∀ c, c < j + 1 → ¬ (¬ nI c = y ∧ ¬ u.1 3 < u.2 10 c + x) := by
      intro hs c hc
      rcases Nat.lt_or_ge c j with q | q
      · exact hb c q
      · obtain rfl : c = j := by omega
        exact hs
    by_cases h1 : nI j = y
    · rw [if_pos h1]
      exact ih (j + 1) n (by omega) (by omega) (skip (fun q => q.1 h1))
    · rw [if_neg h1]
      by_cases h2 : u.1 3 < u.2 10 j + x
      · rw [if_pos h2]
        exact ih (j + 1) n (by omega) (by omega) (skip (fun q => q.2 h2))
      · rw [if_neg h2]
        exact ⟨nI j, rfl, Or.inr ⟨j, h, rfl, ⟨h1, h2⟩, hb⟩⟩
theorem pt_ff10 (u : ts_S) (x y : Int32) : ∃ r, dp_firstFitting_10 u x y = some (r, u) ∧ fs (fun c => ¬ nI c = y ∧ ¬ u.1 3 < u.2 10 c + x) r := pt_ff10_l u x y 4 0 40 rfl (by decide) (fun c hc => absurd hc (Nat.not_lt_zero c))
theorem pt_ff11_l (u : ts_S) (x y : Int32) : ∀ (d j n : Nat), j + d = 4 → d < n → (∀ c, c < j → ¬ (¬ nI c = y ∧ ¬ u.1 3 < u.2 11 c + x)) → ∃ r, dp_firstFitting_11_3 n u x y (nI j) = some (r, u) ∧ fs (fun c => ¬ nI c = y ∧ ¬ u.1 3 < u.2 11 c + x) r := by
  intro d
  induction d with
  | zero =>
    intro j n hj hn hb
    obtain ⟨n, rfl⟩ := pu_nn hn
    obtain rfl : j = 4 := by omega
    refine ⟨-1, ?_, Or.inl ⟨rfl, hb⟩⟩
    show dp_firstFitting_11_3_b (dp_firstFitting_11_3 n) u x y (nI 4) = _
    unfold dp_firstFitting_11_3_b
    rw [if_pos (by decide)]
  | succ d ih =>
    intro j n hj hn hb
    obtain ⟨n, rfl⟩ := pu_nn hn
    have h : j < 4 := by omega
    have e : dp_firstFitting_11_3 (n + 1) u x y (nI j) = dp_firstFitting_11_3_b (dp_firstFitting_11_3 n) u x y (nI j) := rfl
    rw [e]
    unfold dp_firstFitting_11_3_b
    rw [if_neg (pu_4 h)]
    simp only [nI_1, pu_ix h (by decide), pu_cl (show j < 16 by omega)]
    have skip : ¬ (¬ nI j = y ∧ ¬ u.1 3 < u.2 11 j + x) → ∀ c, c < j + 1 → ¬ (¬ nI c = y ∧ ¬ u.1 3 < u.2 11 c + x) := by
      intro hs c hc
      rcases Nat.lt_or_ge c j with q | q
      · exact hb c q
      · obtain rfl : c = j := by omega
        exact hs
    by_cases h1 : nI j = y
    · rw [if_pos h1]
      exact ih (j + 1) n (by omega) (by omega) (skip (fun q => q.1 h1))
    · rw [if_neg h1]
      by_cases h2 : u.1 3 < u.2 11 j + x
      · rw [if_pos h2]
        exact ih (j + 1) n (by omega) (by omega) (skip (fun q => q.2 h2))
      · rw [if_neg h2]
        exact ⟨nI j, rfl, Or.inr ⟨j, h, rfl, ⟨h1, h2⟩, hb⟩⟩
theorem pt_ff11 (u : ts_S) (x y : Int32) : ∃ r, dp_firstFitting_11 u x y = some (r, u) ∧ fs (fun c => ¬ nI c = y ∧ ¬ u.1 3 < u.2 11 c + x) r := pt_ff11_l u x y 4 0 40 rfl (by decide) (fun c hc => absurd hc (Nat.not_lt_zero c))
/-- cartridgeFor: the drive's cartridge where it fits, else the first that does -/
def cf (u : ts_S) (x y r : Int32) : Prop := (¬ u.1 4 = -1 ∧ ¬ u.1 4 = y ∧ ¬ u.1 3 < u.2 10 (u.1 4).toNatClampNeg + x ∧ r = u.1 4) ∨ ((u.1 4 = -1 ∨ u.1 4 = y ∨ u.1 3 < u.2 10 (u.1 4).toNatClampNeg + x) ∧ fs (fun c => ¬ nI c = y ∧ ¬ u.1 3 < u.2 10 c + x) r)
theorem pt_cf (u : ts_S) (x y : Int32) (hh : u.1 4 = -1 ∨ ∃ c, c < 4 ∧ u.1 4 = nI c) : ∃ r, dp_cartridgeFor u x y = some (r, u) ∧ cf u x y r := by
  obtain ⟨r, h1, h2⟩ := pt_ff10 u x y
  unfold dp_cartridgeFor
  rw [h1]
  simp only [ts_b]
  by_cases a : u.1 4 = -1
  · rw [if_pos a]
    exact ⟨r, rfl, Or.inr ⟨Or.inl a, h2⟩⟩
  · rw [if_neg a]
    by_cases b : u.1 4 = y
    · rw [if_pos b]
      exact ⟨r, rfl, Or.inr ⟨Or.inr (Or.inl b), h2⟩⟩
    · rw [if_neg b]
      obtain ⟨c, hc, e⟩ : ∃ c, c < 4 ∧ u.1 4 = nI c := by
        rcases hh with q | q
        · exact absurd q a
        · exact q
      have hix : ∀ t : Option (Int32 × ts_S), ts_ix (u.1 4) 4 t = t := fun t => by rw [e]; exact pu_ix hc (by decide) t
      rw [hix]
      by_cases d : u.1 3 < u.2 10 (u.1 4).toNatClampNeg + x
      · rw [if_pos d]
        exact ⟨r, rfl, Or.inr ⟨Or.inr (Or.inr d), h2⟩⟩
      · rw [if_neg d]
        exact ⟨u.1 4, rfl, Or.inl ⟨a, b, d, rfl⟩⟩
end
section
/-! pure: making room, tidying, moving the head -/
theorem ts_ext {a b : ts_S} (h1 : ∀ k, a.1 k = b.1 k) (h2 : ∀ j, a.2 j = b.2 j) : a = b := Prod.ext (funext h1) (funext h2)
def s2 (st : Nat → Int32) (u : ts_S) : ts_S := (u.1, va_up u.2 2 st)
theorem s2_self (u : ts_S) : s2 (u.2 2) u = u := by
  refine ts_ext (fun k => rfl) (fun j => ?_)
  show (if j = 2 then u.2 2 else u.2 j) = u.2 j
  by_cases h : j = 2
  · rw [if_pos h, h]
  · rw [if_neg h]
theorem s2_s2 (a b : Nat → Int32) (u : ts_S) : s2 a (s2 b u) = s2 a u := by
  refine ts_ext (fun k => rfl) (fun j => ?_)
  show (if j = 2 then a else (if j = 2 then b else u.2 j)) = (if j = 2 then a else u.2 j)
  by_cases h : j = 2
  · rw [if_pos h, if_pos h]
  · rw [if_neg h, if_neg h, if_neg h]
theorem s2_a (b : Nat → Int32) (i : Nat) (x : Int32) (u : ts_S) : ts_a 2 i x (s2 b u) = s2 (upd b i x) u := s2_s2 _ b u
theorem a_s2 (i : Nat) (x : Int32) (u : ts_S) : ts_a 2 i x u = s2 (upd (u.2 2) i x) u := rfl
theorem pt_stub_n {u : ts_S} (h : od (u.2 2) (u.2 8) 2 16 = -1) : dt_stubOldestDouble u = some (0, u) := by
  unfold dt_stubOldestDouble
  rw [pt_old]
  simp only [ts_b]
  rw [if_pos h]
theorem pt_stub_p {u : ts_S} (h : ¬ od (u.2 2) (u.2 8) 2 16 = -1) : dt_stubOldestDouble u = some (1, s2 (upd (u.2 2) (od (u.2 2) (u.2 8) 2 16).toNatClampNeg 3) u) := by
  unfold dt_stubOldestDouble
  rw [pt_old]
  simp only [ts_b]
  rw [if_neg h]
  rcases od_in (u.2 2) (u.2 8) 2 16 with q | ⟨f, hf, q, -⟩
  · exact absurd q h
  · rw [q]
    rw [pu_ix hf (by decide), a_s2]
theorem pt_room (u : ts_S) (n : Int32) : dt_hasRoom u n = some (if u.1 0 - tk (u.2 2) (u.2 3) 16 < n then 0 else 1, u) := by
  unfold dt_hasRoom
  rw [pt_taken]
  simp only [ts_b]
  by_cases h : u.1 0 - tk (u.2 2) (u.2 3) 16 < n
  · rw [if_pos h, if_pos h]
  · rw [if_neg h, if_neg h]
theorem pu_z0 {α : Type} (t : Option α) : ts_z 0 t = t := if_pos (Or.inl rfl)
theorem pu_z1 {α : Type} (t : Option α) : ts_z 1 t = t := if_pos (Or.inr rfl)
/-- making room of n units in at most d turns: the answer and the new states -/
def mr (rm n : Int32) (le us : Nat → Int32) : Nat → (Nat → Int32) → Int32 × (Nat → Int32)
  | 0, st => (if rm - tk st le 16 < n then 0 else 1, st)
  | d + 1, st => if rm - tk st le 16 < n then (if od st us 2 16 = -1 then (0, st) else mr rm n le us d (upd st (od st us 2 16).toNatClampNeg 3)) else (1, st)
theorem mr_s (rm n : Int32) (le us : Nat → Int32) (d : Nat) (st : Nat → Int32) : mr rm n le us (d + 1) st = if rm - tk st le 16 < n then (if od st us 2 16 = -1 then (0, st) else mr rm n le us d (upd st (od st us 2 16).toNatClampNeg 3)) else (1, st) := rfl
theorem pt_mr_l (u : ts_S) (n : Int32) : ∀ (d j k : Nat) (st : Nat → Int32), j + d = 16 → d < k → dt_makeRoom_2 k (s2 st u) n (nI j) = some ((mr (u.1 0) n (u.2 3) (u.2 8) d st).1, s2 (mr (u.1 0) n (u.2 3) (u.2 8) d st).2 u) := by
  intro d
  induction d with
  | zero =>
    intro j k st hj hk
    obtain ⟨k, rfl⟩ := pu_nn hk
    obtain rfl : j = 16 := by omega
    show dt_makeRoom_2_b (dt_makeRoom_2 k) (s2 st u) n (nI 16) = _
    unfold dt_makeRoom_2_b
    rw [if_pos (by decide), pt_room]
    simp only [ts_b]
    show ts_z (if u.1 0 - tk st (u.2 3) 16 < n then 0 else 1) (some (if u.1 0 - tk st (u.2 3) 16 < n then 0 else 1, s2 st u)) = some (if u.1 0 - tk st (u.2 3) 16 < n then 0 else 1, s2 st u)
    by_cases h : u.1 0 - tk st (u.2 3) 16 < n
    · rw [if_pos h, pu_z0]
    · rw [if_neg h, pu_z1]
  | succ d ih =>
    intro j k st hj hk
    obtain ⟨k, rfl⟩ := pu_nn hk
    have h : j < 16 := by omega
    show dt_makeRoom_2_b (dt_makeRoom_2 k) (s2 st u) n (nI j) = _
    unfold dt_makeRoom_2_b
    rw [if_neg (pu_16 h), pt_room]
    simp only [ts_b]
    rw [mr_s]
    show (if (if u.1 0 - tk st (u.2 3) 16 < n then (0 : Int32) else 1) = 0 then _ else _) = _
    by_cases h1 : u.1 0 - tk st (u.2 3) 16 < n
    · rw [if_pos h1, if_pos rfl, if_pos h1]
      by_cases h2 : od st (u.2 8) 2 16 = -1
      · rw [pt_stub_n (u := s2 st u) h2, if_pos h2]
        rfl
      · rw [pt_stub_p (u := s2 st u) h2, if_neg h2]
        show (if (1 : Int32) = 0 then _ else dt_makeRoom_2 k (s2 (upd st (od st (u.2 8) 2 16).toNatClampNeg 3) (s2 st u)) n (nI j + 1)) = _
        rw [if_neg (by decide), s2_s2, nI_1]
        exact ih (j + 1) k _ (by omega) (by omega)
    · rw [if_neg h1, if_neg (by decide), if_neg h1, pt_room]
      show ts_z (if u.1 0 - tk st (u.2 3) 16 < n then 0 else 1) (some (if u.1 0 - tk st (u.2 3) 16 < n then 0 else 1, s2 st u)) = _
      rw [if_neg h1, pu_z1]
theorem pt_mr (u : ts_S) (n : Int32) : dt_makeRoom u n = some ((mr (u.1 0) n (u.2 3) (u.2 8) 16 (u.2 2)).1, s2 (mr (u.1 0) n (u.2 3) (u.2 8) 16 (u.2 2)).2 u) := by
  have h := pt_mr_l u n 16 0 40 (u.2 2) rfl (by decide)
  rw [s2_self] at h
  exact h
theorem pm_mr_0 (u : ts_S) (n : Int32) (h1 : u.1 0 - tk (u.2 2) (u.2 3) 16 < n) (h2 : od (u.2 2) (u.2 8) 2 16 = -1) : ∀ (d j k : Nat), j + d = 16 → d < k → dm_makeRoom_2 k u n (nI j) = some (0, u) := by
  intro d
  induction d with
  | zero =>
    intro j k hj hk
    obtain ⟨k, rfl⟩ := pu_nn hk
    obtain rfl : j = 16 := by omega
    show dm_makeRoom_2_b (dm_makeRoom_2 k) u n (nI 16) = _
    unfold dm_makeRoom_2_b
    rw [if_pos (by decide), pm_taken]
    simp only [ts_b]
    rw [if_pos h1]
  | succ d ih =>
    intro j k hj hk
    obtain ⟨k, rfl⟩ := pu_nn hk
    have h : j < 16 := by omega
    show dm_makeRoom_2_b (dm_makeRoom_2 k) u n (nI j) = _
    unfold dm_makeRoom_2_b
    rw [if_neg (pu_16 h), pm_taken]
    simp only [ts_b]
    rw [if_neg (Int32.not_le.mpr h1), pm_old, h2]
    simp only []
    rw [if_pos (by decide), nI_1]
    exact ih (j + 1) k (by omega) (by omega)
theorem pm_mr_l (u : ts_S) (n : Int32) : ∀ (d j k : Nat) (st : Nat → Int32), j + d = 16 → d < k → dm_makeRoom_2 k (s2 st u) n (nI j) = some ((mr (u.1 0) n (u.2 3) (u.2 8) d st).1, s2 (mr (u.1 0) n (u.2 3) (u.2 8) d st).2 u) := by
  intro d
  induction d with
  | zero =>
    intro j k st hj hk
    obtain ⟨k, rfl⟩ := pu_nn hk
    obtain rfl : j = 16 := by omega
    show dm_makeRoom_2_b (dm_makeRoom_2 k) (s2 st u) n (nI 16) = _
    unfold dm_makeRoom_2_b
    rw [if_pos (by decide), pm_taken]
    simp only [ts_b]
    show (if u.1 0 - tk st (u.2 3) 16 < n then some ((0 : Int32), s2 st u) else some (1, s2 st u)) = some (if u.1 0 - tk st (u.2 3) 16 < n then 0 else 1, s2 st u)
    by_cases h : u.1 0 - tk st (u.2 3) 16 < n
    · rw [if_pos h, if_pos h]
    · rw [if_neg h, if_neg h]
  | succ d ih =>
    intro j k st hj hk
    obtain ⟨k, rfl⟩ := pu_nn hk
    have h : j < 16 := by omega
    by_cases h1 : u.1 0 - tk st (u.2 3) 16 < n
    · by_cases h2 : od st (u.2 8) 2 16 = -1
      · rw [pm_mr_0 (s2 st u) n h1 h2 (d + 1) j (k + 1) hj hk, mr_s, if_pos h1, if_pos h2]
      · show dm_makeRoom_2_b (dm_makeRoom_2 k) (s2 st u) n (nI j) = _
        unfold dm_makeRoom_2_b
        rw [if_neg (pu_16 h), pm_taken]
        simp only [ts_b]
        have h1' : ¬ n ≤ (s2 st u).1 0 - tk ((s2 st u).2 2) ((s2 st u).2 3) 16 := Int32.not_le.mpr h1
        rw [if_neg h1', pm_old]
        have e : od ((s2 st u).2 2) ((s2 st u).2 8) 2 16 = od st (u.2 8) 2 16 := rfl
        rw [e]
        simp only []
        rcases od_in st (u.2 8) 2 16 with q | ⟨f, hf, q, -⟩
        · exact absurd q h2
        · rw [mr_s, if_pos h1, if_neg h2, q, if_neg (nI_pos (by omega)), pu_ix hf (by decide), s2_a, nI_1]
          exact ih (j + 1) k _ (by omega) (by omega)
    · show dm_makeRoom_2_b (dm_makeRoom_2 k) (s2 st u) n (nI j) = _
      unfold dm_makeRoom_2_b
      rw [if_neg (pu_16 h), pm_taken]
      simp only [ts_b]
      have h1' : n ≤ (s2 st u).1 0 - tk ((s2 st u).2 2) ((s2 st u).2 3) 16 := Int32.not_lt.mp h1
      have h1'' : ¬ (s2 st u).1 0 - tk ((s2 st u).2 2) ((s2 st u).2 3) 16 < n := h1
      rw [if_pos h1', pm_taken]
      simp only []
      rw [if_neg h1'', mr_s, if_neg h1]
theorem pm_mr (u : ts_S) (n : Int32) : dm_makeRoom u n = some ((mr (u.1 0) n (u.2 3) (u.2 8) 16 (u.2 2)).1, s2 (mr (u.1 0) n (u.2 3) (u.2 8) 16 (u.2 2)).2 u) := by
  have h := pm_mr_l u n 16 0 40 (u.2 2) rfl (by decide)
  rw [s2_self] at h
  exact h
/-- what making room changes: some DOUBLE files are STUBs -/
theorem mr_in (rm n : Int32) (le us : Nat → Int32) : ∀ (d : Nat) (st : Nat → Int32), ((mr rm n le us d st).1 = 0 ∨ (mr rm n le us d st).1 = 1) ∧ ∀ f, (mr rm n le us d st).2 f = st f ∨ (st f = 2 ∧ (mr rm n le us d st).2 f = 3) := by
  intro d
  induction d with
  | zero =>
    intro st
    refine ⟨?_, fun f => Or.inl rfl⟩
    show (if rm - tk st le 16 < n then (0 : Int32) else 1) = 0 ∨ (if rm - tk st le 16 < n then (0 : Int32) else 1) = 1
    by_cases h : rm - tk st le 16 < n
    · rw [if_pos h]; exact Or.inl rfl
    · rw [if_neg h]; exact Or.inr rfl
  | succ d ih =>
    intro st
    rw [mr_s]
    by_cases h1 : rm - tk st le 16 < n
    · rw [if_pos h1]
      by_cases h2 : od st us 2 16 = -1
      · rw [if_pos h2]
        exact ⟨Or.inl rfl, fun f => Or.inl rfl⟩
      · rw [if_neg h2]
        obtain ⟨i1, i2⟩ := ih (upd st (od st us 2 16).toNatClampNeg 3)
        refine ⟨i1, fun f => ?_⟩
        rcases od_in st us 2 16 with q | ⟨g, hg, q, hs⟩
        · exact absurd q h2
        · have i3 := i2 f
          rw [q, pu_cl hg] at i3 ⊢
          by_cases hf : f = g
          · subst hf
            have e : upd st f 3 f = 3 := if_pos rfl
            rw [e] at i3
            rcases i3 with i3 | ⟨i3, -⟩
            · exact Or.inr ⟨hs, i3⟩
            · exact absurd i3 (by decide)
          · have e : upd st g 3 f = st f := if_neg hf
            rw [e] at i3
            exact i3
    · rw [if_neg h1]
      exact ⟨Or.inr rfl, fun f => Or.inl rfl⟩
/-- tidying in at most d turns: how many became stubs, and the new states -/
def td (lo : Int32) (le us : Nat → Int32) : Nat → (Nat → Int32) → Nat × (Nat → Int32)
  | 0, st => (0, st)
  | d + 1, st => if tk st le 16 ≤ lo then (0, st) else if od st us 2 16 = -1 then (0, st) else ((td lo le us d (upd st (od st us 2 16).toNatClampNeg 3)).1 + 1, (td lo le us d (upd st (od st us 2 16).toNatClampNeg 3)).2)
theorem td_s (lo : Int32) (le us : Nat → Int32) (d : Nat) (st : Nat → Int32) : td lo le us (d + 1) st = if tk st le 16 ≤ lo then (0, st) else if od st us 2 16 = -1 then (0, st) else ((td lo le us d (upd st (od st us 2 16).toNatClampNeg 3)).1 + 1, (td lo le us d (upd st (od st us 2 16).toNatClampNeg 3)).2) := rfl
theorem pt_td_l (u : ts_S) (hi lo : Int32) : ∀ (d j k : Nat) (st : Nat → Int32), j + d = 16 → d < k → dt_tidy_33 k (s2 st u) hi lo (nI j) = some (nI (j + (td lo (u.2 3) (u.2 8) d st).1), s2 (td lo (u.2 3) (u.2 8) d st).2 u) := by
  intro d
  induction d with
  | zero =>
    intro j k st hj hk
    obtain ⟨k, rfl⟩ := pu_nn hk
    obtain rfl : j = 16 := by omega
    show dt_tidy_33_b (dt_tidy_33 k) (s2 st u) hi lo (nI 16) = _
    unfold dt_tidy_33_b
    rw [if_pos (by decide)]
    rfl
  | succ d ih =>
    intro j k st hj hk
    obtain ⟨k, rfl⟩ := pu_nn hk
    have h : j < 16 := by omega
    show dt_tidy_33_b (dt_tidy_33 k) (s2 st u) hi lo (nI j) = _
    unfold dt_tidy_33_b
    rw [if_neg (pu_16 h), pt_taken]
    simp only [ts_b]
    have e : tk ((s2 st u).2 2) ((s2 st u).2 3) 16 = tk st (u.2 3) 16 := rfl
    rw [td_s, e]
    by_cases h1 : tk st (u.2 3) 16 ≤ lo
    · rw [if_pos h1, if_pos h1]
      rfl
    · rw [if_neg h1, if_neg h1]
      by_cases h2 : od st (u.2 8) 2 16 = -1
      · rw [pt_stub_n (u := s2 st u) h2, if_pos h2]
        rfl
      · rw [pt_stub_p (u := s2 st u) h2, if_neg h2]
        show (if (1 : Int32) = 0 then _ else dt_tidy_33 k (s2 (upd st (od st (u.2 8) 2 16).toNatClampNeg 3) (s2 st u)) hi lo (nI j + 1)) = _
        rw [if_neg (by decide), s2_s2, nI_1, ih (j + 1) k _ (by omega) (by omega)]
        have e2 : j + 1 + (td lo (u.2 3) (u.2 8) d (upd st (od st (u.2 8) 2 16).toNatClampNeg 3)).1 = j + ((td lo (u.2 3) (u.2 8) d (upd st (od st (u.2 8) 2 16).toNatClampNeg 3)).1 + 1) := by omega
        rw [e2]
theorem pm_td_0 (u : ts_S) (hi lo x : Int32) : ∀ (d j k : Nat), j + d = 16 → d < k → dm_tidy_45 k u hi lo x 0 (nI j) = some (x, u) := by
  intro d
  induction d with
  | zero =>
    intro j k hj hk
    obtain ⟨k, rfl⟩ := pu_nn hk
    obtain rfl : j = 16 := by omega
    show dm_tidy_45_b (dm_tidy_45 k) u hi lo x 0 (nI 16) = _
    unfold dm_tidy_45_b
    rw [if_pos (by decide)]
  | succ d ih =>
    intro j k hj hk
    obtain ⟨k, rfl⟩ := pu_nn hk
    have h : j < 16 := by omega
    show dm_tidy_45_b (dm_tidy_45 k) u hi lo x 0 (nI j) = _
    unfold dm_tidy_45_b
    rw [if_neg (pu_16 h), pm_old]
    simp only [ts_b]
    rw [if_pos trivial, nI_1]
    exact ih (j + 1) k (by omega) (by omega)
theorem pm_td_1 (u : ts_S) (hi lo x : Int32) (hs : tk (u.2 2) (u.2 3) 16 ≤ lo ∨ od (u.2 2) (u.2 8) 2 16 = -1) : ∀ (d j k : Nat), j + d = 16 → d < k → dm_tidy_45 k u hi lo x 1 (nI j) = some (x, u) := by
  intro d
  induction d with
  | zero =>
    intro j k hj hk
    obtain ⟨k, rfl⟩ := pu_nn hk
    obtain rfl : j = 16 := by omega
    show dm_tidy_45_b (dm_tidy_45 k) u hi lo x 1 (nI 16) = _
    unfold dm_tidy_45_b
    rw [if_pos (by decide)]
  | succ d ih =>
    intro j k hj hk
    obtain ⟨k, rfl⟩ := pu_nn hk
    have h : j < 16 := by omega
    show dm_tidy_45_b (dm_tidy_45 k) u hi lo x 1 (nI j) = _
    unfold dm_tidy_45_b
    rw [if_neg (pu_16 h), pm_old]
    simp only [ts_b]
    rw [if_neg (by decide), pm_taken]
    simp only []
    by_cases h1 : tk (u.2 2) (u.2 3) 16 ≤ lo
    · rw [if_pos h1, nI_1]
      exact ih (j + 1) k (by omega) (by omega)
    · rw [if_neg h1]
      rcases hs with q | q
      · exact absurd q h1
      · rw [q, if_pos (by decide), nI_1]
        exact ih (j + 1) k (by omega) (by omega)
theorem pm_td_l (u : ts_S) (hi lo : Int32) : ∀ (d j k a : Nat) (st : Nat → Int32), j + d = 16 → d < k → dm_tidy_45 k (s2 st u) hi lo (nI a) 1 (nI j) = some (nI (a + (td lo (u.2 3) (u.2 8) d st).1), s2 (td lo (u.2 3) (u.2 8) d st).2 u) := by
  intro d
  induction d with
  | zero =>
    intro j k a st hj hk
    obtain ⟨k, rfl⟩ := pu_nn hk
    obtain rfl : j = 16 := by omega
    show dm_tidy_45_b (dm_tidy_45 k) (s2 st u) hi lo (nI a) 1 (nI 16) = _
    unfold dm_tidy_45_b
    rw [if_pos (by decide)]
    rfl
  | succ d ih =>
    intro j k a st hj hk
    have h : j < 16 := by omega
    rw [td_s]
    by_cases h1 : tk st (u.2 3) 16 ≤ lo
    · rw [if_pos h1, pm_td_1 (s2 st u) hi lo (nI a) (Or.inl h1) (d + 1) j k hj hk]
      rfl
    · rw [if_neg h1]
      by_cases h2 : od st (u.2 8) 2 16 = -1
      · rw [if_pos h2, pm_td_1 (s2 st u) hi lo (nI a) (Or.inr h2) (d + 1) j k hj hk]
        rfl
      · rw [if_neg h2]
        obtain ⟨k, rfl⟩ := pu_nn hk
        show dm_tidy_45_b (dm_tidy_45 k) (s2 st u) hi lo (nI a) 1 (nI j) = _
        unfold dm_tidy_45_b
        rw [if_neg (pu_16 h), pm_old]
        have e : od ((s2 st u).2 2) ((s2 st u).2 8) 2 16 = od st (u.2 8) 2 16 := rfl
        have e1 : tk ((s2 st u).2 2) ((s2 st u).2 3) 16 = tk st (u.2 3) 16 := rfl
        rw [e]
        simp only [ts_b]
        rw [if_neg (by decide), pm_taken, e1]
        simp only []
        rw [if_neg h1]
        rcases od_in st (u.2 8) 2 16 with q | ⟨f, hf, q, -⟩
        · exact absurd q h2
        · rw [q, if_neg (nI_pos (by omega)), pu_ix hf (by decide), s2_a, nI_1, nI_1, ih (j + 1) k (a + 1) _ (by omega) (by omega)]
          have e2 : a + 1 + (td lo (u.2 3) (u.2 8) d (upd st (nI f).toNatClampNeg 3)).1 = a + ((td lo (u.2 3) (u.2 8) d (upd st (nI f).toNatClampNeg 3)).1 + 1) := by omega
          rw [e2]
theorem td_in (lo : Int32) (le us : Nat → Int32) : ∀ (d : Nat) (st : Nat → Int32) (f : Nat), (td lo le us d st).2 f = st f ∨ (st f = 2 ∧ (td lo le us d st).2 f = 3) := by
  intro d
  induction d with
  | zero => intro st f; exact Or.inl rfl
  | succ d ih =>
    intro st f
    rw [td_s]
    by_cases h1 : tk st le 16 ≤ lo
    · rw [if_pos h1]; exact Or.inl rfl
    · rw [if_neg h1]
      by_cases h2 : od st us 2 16 = -1
      · rw [if_pos h2]; exact Or.inl rfl
      · rw [if_neg h2]
        have i3 := ih (upd st (od st us 2 16).toNatClampNeg 3) f
        show (td lo le us d (upd st (od st us 2 16).toNatClampNeg 3)).2 f = st f ∨ (st f = 2 ∧ (td lo le us d (upd st (od st us 2 16).toNatClampNeg 3)).2 f = 3)
        rcases od_in st us 2 16 with q | ⟨g, hg, q, hs⟩
        · exact absurd q h2
        · rw [q, pu_cl hg] at i3 ⊢
          by_cases hf : f = g
          · subst hf
            have e : upd st f 3 f = 3 := if_pos rfl
            rw [e] at i3
            rcases i3 with i3 | ⟨i3, -⟩
            · exact Or.inr ⟨hs, i3⟩
            · exact absurd i3 (by decide)
          · have e : upd st g 3 f = st f := if_neg hf
            rw [e] at i3
            exact i3
end
section
/-! pure: the head's movement -/
def mvc (u : ts_S) (c : Int32) : Int32 := if u.1 4 = c then u.1 6 else u.1 6 + 20
def mvh (u : ts_S) (c : Int32) : Int32 := if u.1 4 = c then u.1 5 else 0
def mv (u : ts_S) (c p n d : Int32) : ts_S := ts_p 5 (p + n) (ts_p 6 (mvc u c + d + n) (ts_p 4 c u))
theorem mv_2 (u : ts_S) (c p n d : Int32) : (mv u c p n d).2 = u.2 := rfl
theorem mv_k (u : ts_S) (c p n d : Int32) {k : Nat} (h4 : k ≠ 4) (h5 : k ≠ 5) (h6 : k ≠ 6) : (mv u c p n d).1 k = u.1 k := by
  show (if k = 5 then _ else (if k = 6 then _ else (if k = 4 then _ else u.1 k))) = u.1 k
  rw [if_neg h5, if_neg h6, if_neg h4]
theorem mv_4 (u : ts_S) (c p n d : Int32) : (mv u c p n d).1 4 = c := rfl
theorem mv_5 (u : ts_S) (c p n d : Int32) : (mv u c p n d).1 5 = p + n := rfl
theorem mv_6 (u : ts_S) (c p n d : Int32) : (mv u c p n d).1 6 = mvc u c + d + n := rfl
theorem pu_mv {u w : ts_S} {c p n d : Int32} (h2 : w.2 = u.2) (h4 : w.1 4 = c) (h5 : w.1 5 = p + n) (h6 : w.1 6 = mvc u c + d + n) (hk : ∀ k, k ≠ 4 → k ≠ 5 → k ≠ 6 → w.1 k = u.1 k) : w = mv u c p n d := by
  refine ts_ext (fun k => ?_) (fun j => by rw [h2]; rfl)
  by_cases a : k = 4
  · rw [a, h4]; rfl
  · by_cases b : k = 5
    · rw [b, h5]; rfl
    · by_cases e : k = 6
      · rw [e, h6]; rfl
      · rw [hk k a b e, mv_k u c p n d a b e]
theorem pu_upk (f : Nat → Int32) (k : Nat) (v : Int32) {j : Nat} (h : j ≠ k) : va_up f k v j = f j := if_neg h
theorem pt_pass (u : ts_S) (c p n : Int32) : dp_pass u c p n = some (0, mv u c p n (if 0 ≤ mvh u c - p then mvh u c - p else 0 - (mvh u c - p))) := by
  unfold dp_pass dp_goTo
  by_cases h : u.1 4 = c
  · rw [if_pos h]
    simp only [ts_b]
    refine congrArg (fun z => some ((0 : Int32), z)) (pu_mv rfl h ?_ ?_ ?_)
    · rfl
    · show u.1 6 + _ + n = _
      unfold mvc mvh
      rw [if_pos h, if_pos h]
    · intro k h4 h5 h6
      simp only [ts_p, pu_upk _ _ _ h4, pu_upk _ _ _ h5, pu_upk _ _ _ h6]
  · rw [if_neg h]
    simp only [ts_b]
    refine congrArg (fun z => some ((0 : Int32), z)) (pu_mv rfl rfl ?_ ?_ ?_)
    · rfl
    · show u.1 6 + 20 + _ + n = _
      unfold mvc mvh
      rw [if_neg h, if_neg h]
      rfl
    · intro k h4 h5 h6
      simp only [ts_p, pu_upk _ _ _ h4, pu_upk _ _ _ h5, pu_upk _ _ _ h6]
theorem pm_move (u : ts_S) (c p n : Int32) : dm_move u c p n = some (0, mv u c p n (if p ≤ mvh u c then mvh u c - p else p - mvh u c)) := by
  unfold dm_move
  by_cases h : u.1 4 = c
  · rw [if_pos h]
    have e : mvh u c = u.1 5 := if_pos h
    rw [e]
    by_cases h2 : p ≤ u.1 5
    · rw [if_pos h2, if_pos h2]
      refine congrArg (fun z => some ((0 : Int32), z)) (pu_mv rfl h rfl ?_ ?_)
      · show u.1 6 + _ + n = _
        unfold mvc
        rw [if_pos h]
      · intro k h4 h5 h6
        simp only [ts_p, pu_upk _ _ _ h4, pu_upk _ _ _ h5, pu_upk _ _ _ h6]
    · rw [if_neg h2, if_neg h2]
      refine congrArg (fun z => some ((0 : Int32), z)) (pu_mv rfl h rfl ?_ ?_)
      · show u.1 6 + _ + n = _
        unfold mvc
        rw [if_pos h]
      · intro k h4 h5 h6
        simp only [ts_p, pu_upk _ _ _ h4, pu_upk _ _ _ h5, pu_upk _ _ _ h6]
  · rw [if_neg h]
    have e : mvh u c = 0 := if_neg h
    have e2 : (ts_p 5 0 (ts_p 4 c (ts_p 6 ((u.1 6) + 20) u))).1 5 = 0 := rfl
    have e3 : (ts_p 5 0 (ts_p 4 c (ts_p 6 ((u.1 6) + 20) u))).1 6 = u.1 6 + 20 := rfl
    rw [e, e2, e3]
    by_cases h2 : p ≤ 0
    · rw [if_pos h2, if_pos h2]
      refine congrArg (fun z => some ((0 : Int32), z)) (pu_mv rfl rfl rfl ?_ ?_)
      · show u.1 6 + 20 + _ + n = _
        unfold mvc
        rw [if_neg h]
      · intro k h4 h5 h6
        simp only [ts_p, pu_upk _ _ _ h4, pu_upk _ _ _ h5, pu_upk _ _ _ h6]
    · rw [if_neg h2, if_neg h2]
      refine congrArg (fun z => some ((0 : Int32), z)) (pu_mv rfl rfl rfl ?_ ?_)
      · show u.1 6 + 20 + _ + n = _
        unfold mvc
        rw [if_neg h]
      · intro k h4 h5 h6
        simp only [ts_p, pu_upk _ _ _ h4, pu_upk _ _ _ h5, pu_upk _ _ _ h6]
theorem pu_dist {a b : Nat} (ha : a < 1000) (hb : b < 1000) : (if (0 : Int32) ≤ nI a - nI b then nI a - nI b else 0 - (nI a - nI b)) = if nI b ≤ nI a then nI a - nI b else nI b - nI a := by
  by_cases h : b ≤ a
  · have h1 : nI b ≤ nI a := nI_le h (by omega)
    have h2 : (0 : Int32) ≤ nI a - nI b := by
      rw [pk_sub h]
      exact nI_pos' (by omega)
    rw [if_pos h1, if_pos h2]
  · have h1 : ¬ nI b ≤ nI a := nI_ge (by omega) (by omega)
    have h2 : ¬ (0 : Int32) ≤ nI a - nI b := Int32.not_le.mpr (pk_sneg (by omega) (by omega))
    rw [if_neg h1, if_neg h2]
    apply Int32.toInt_inj.mp
    have e1 : (nI a - nI b).toInt = (a : Int) - b := pk_sub_toInt (by omega) (by omega)
    have e2 : (nI b - nI a).toInt = (b : Int) - a := pk_sub_toInt (by omega) (by omega)
    rw [Int32.toInt_sub, e1, e2]
    show ((0 : Int) - ((a : Int) - b)).bmod (2 ^ 32) = (b : Int) - a
    rw [Int.bmod_eq_of_le] <;> omega
/-! pure: the two states side by side -/
def rel (u v : ts_S) : Prop := (∀ k, k ≠ 2 → k ≠ 5 → u.1 k = v.1 k) ∧ (¬ u.1 4 = -1 → u.1 5 = v.1 5) ∧ (u.1 4 = -1 → u.1 5 = 0) ∧ (∀ j, j ≠ 4 → j ≠ 9 → j ≠ 11 → j < 20 → u.2 j = v.2 j) ∧ ∀ f i, f < 16 → i < 4 → u.2 (20 + f) i = v.2 4 (f * 4 + i)
theorem rel_a {u v : ts_S} (h : rel u v) {j : Nat} (i : Nat) (x : Int32) (h4 : j ≠ 4) (h20 : j < 20) : rel (ts_a j i x u) (ts_a j i x v) := by
  obtain ⟨a, b, c, d, e⟩ := h
  refine ⟨a, b, c, fun t t4 t9 t11 t20 => ?_, fun f g hf hg => ?_⟩
  · show (if t = j then upd (u.2 j) i x else u.2 t) = (if t = j then upd (v.2 j) i x else v.2 t)
    by_cases q : t = j
    · rw [if_pos q, if_pos q]
      subst q
      rw [d t t4 t9 t11 t20]
    · rw [if_neg q, if_neg q, d t t4 t9 t11 t20]
  · show (if 20 + f = j then upd (u.2 j) i x else u.2 (20 + f)) g = (if 4 = j then upd (v.2 j) i x else v.2 4) (f * 4 + g)
    rw [if_neg (by omega), if_neg (by omega)]
    exact e f g hf hg
/-- a row of the class alone, or of the reference alone, that the other has not -/
theorem rel_aL {u v : ts_S} (h : rel u v) {j : Nat} (i : Nat) (x : Int32) (hj : j = 9 ∨ j = 11) : rel (ts_a j i x u) v := by
  obtain ⟨a, b, c, d, e⟩ := h
  refine ⟨a, b, c, fun t t4 t9 t11 t20 => ?_, fun f g hf hg => ?_⟩
  · show (if t = j then upd (u.2 j) i x else u.2 t) = v.2 t
    rw [if_neg (by omega)]
    exact d t t4 t9 t11 t20
  · show (if 20 + f = j then upd (u.2 j) i x else u.2 (20 + f)) g = v.2 4 (f * 4 + g)
    rw [if_neg (by omega)]
    exact e f g hf hg
theorem rel_aR {u v : ts_S} (h : rel u v) {j : Nat} (i : Nat) (x : Int32) (hj : j = 9 ∨ j = 11) : rel u (ts_a j i x v) := by
  obtain ⟨a, b, c, d, e⟩ := h
  refine ⟨a, b, c, fun t t4 t9 t11 t20 => ?_, fun f g hf hg => ?_⟩
  · show u.2 t = (if t = j then upd (v.2 j) i x else v.2 t)
    rw [if_neg (by omega)]
    exact d t t4 t9 t11 t20
  · show u.2 (20 + f) g = (if 4 = j then upd (v.2 j) i x else v.2 4) (f * 4 + g)
    rw [if_neg (by omega)]
    exact e f g hf hg
theorem rel_pL {u v : ts_S} (h : rel u v) (x : Int32) : rel (ts_p 2 x u) v := by
  obtain ⟨a, b, c, d, e⟩ := h
  refine ⟨fun k k2 k5 => ?_, b, c, d, e⟩
  show (if k = 2 then x else u.1 k) = v.1 k
  rw [if_neg k2]
  exact a k k2 k5
theorem rel_cL {u v : ts_S} (h : rel u v) : rel (ts_c u) v := by
  obtain ⟨a, b, c, d, e⟩ := h
  refine ⟨a, b, c, fun t t4 t9 t11 t20 => ?_, fun f g hf hg => ?_⟩
  · show (if t = 11 then _ else u.2 t) = v.2 t
    rw [if_neg t11]
    exact d t t4 t9 t11 t20
  · show (if 20 + f = 11 then _ else u.2 (20 + f)) g = v.2 4 (f * 4 + g)
    rw [if_neg (by omega)]
    exact e f g hf hg
theorem rel_p {u v : ts_S} (h : rel u v) {k : Nat} (x : Int32) (h4 : k ≠ 4) (h5 : k ≠ 5) : rel (ts_p k x u) (ts_p k x v) := by
  obtain ⟨a, b, c, d, e⟩ := h
  have e4 : (ts_p k x u).1 4 = u.1 4 := if_neg (fun q => h4 q.symm)
  have e5 : (ts_p k x u).1 5 = u.1 5 := if_neg (fun q => h5 q.symm)
  have e5' : (ts_p k x v).1 5 = v.1 5 := if_neg (fun q => h5 q.symm)
  refine ⟨fun t t2 t5 => ?_, fun q => ?_, fun q => ?_, d, e⟩
  · show (if t = k then x else u.1 t) = (if t = k then x else v.1 t)
    by_cases q : t = k
    · rw [if_pos q, if_pos q]
    · rw [if_neg q, if_neg q, a t t2 t5]
  · rw [e5, e5']
    exact b (by rw [← e4]; exact q)
  · rw [e5]
    exact c (by rw [← e4]; exact q)
theorem rel_s2 {u v : ts_S} (h : rel u v) (st : Nat → Int32) : rel (s2 st u) (s2 st v) := by
  obtain ⟨a, b, c, d, e⟩ := h
  refine ⟨a, b, c, fun t t4 t9 t11 t20 => ?_, fun f g hf hg => ?_⟩
  · show (if t = 2 then st else u.2 t) = (if t = 2 then st else v.2 t)
    by_cases q : t = 2
    · rw [if_pos q, if_pos q]
    · rw [if_neg q, if_neg q, d t t4 t9 t11 t20]
  · show (if 20 + f = 2 then st else u.2 (20 + f)) g = (if 4 = 2 then st else v.2 4) (f * 4 + g)
    rw [if_neg (by omega), if_neg (by omega)]
    exact e f g hf hg
theorem rel_cell {u v : ts_S} (h : rel u v) {f i : Nat} (x : Int32) (hf : f < 16) (hi : i < 4) : rel (ts_a (20 + f) i x u) (ts_a 4 (f * 4 + i) x v) := by
  obtain ⟨a, b, c, d, e⟩ := h
  refine ⟨a, b, c, fun t t4 t9 t11 t20 => ?_, fun g j hg hj => ?_⟩
  · show (if t = 20 + f then _ else u.2 t) = (if t = 4 then _ else v.2 t)
    rw [if_neg (by omega), if_neg t4]
    exact d t t4 t9 t11 t20
  · show (if 20 + g = 20 + f then upd (u.2 (20 + f)) i x else u.2 (20 + g)) j = upd (v.2 4) (f * 4 + i) x (g * 4 + j)
    by_cases q : g = f
    · subst q
      rw [if_pos rfl]
      show (if j = i then x else u.2 (20 + g) j) = (if g * 4 + j = g * 4 + i then x else v.2 4 (g * 4 + j))
      by_cases z : j = i
      · rw [if_pos z, if_pos (by omega)]
      · rw [if_neg z, if_neg (by omega)]
        exact e g j hg hj
    · rw [if_neg (by omega)]
      show u.2 (20 + g) j = (if g * 4 + j = f * 4 + i then x else v.2 4 (g * 4 + j))
      rw [if_neg (by omega)]
      exact e g j hg hj
theorem rel_mv {u v : ts_S} (h : rel u v) {c p n d : Int32} (hc : ¬ c = -1) : rel (mv u c p n d) (mv v c p n d) := by
  have e6 : mvc u c = mvc v c := by
    unfold mvc
    rw [h.1 4 (by decide) (by decide), h.1 6 (by decide) (by decide)]
  obtain ⟨a, b, c', d', e⟩ := h
  refine ⟨fun k k2 k5 => ?_, fun _ => rfl, fun q => absurd q hc, d', e⟩
  by_cases k4 : k = 4
  · rw [k4]; rfl
  · by_cases k6 : k = 6
    · rw [k6, mv_6, mv_6, e6]
    · rw [mv_k u c p n d k4 k5 k6, mv_k v c p n d k4 k5 k6, a k k2 k5]
theorem rel_mvh {u v : ts_S} (h : rel u v) (c : Int32) (hc : ¬ c = -1) : mvh u c = mvh v c := by
  unfold mvh
  have e := h.1 4 (by decide) (by decide)
  by_cases q : u.1 4 = c
  · rw [if_pos q, if_pos (by rw [← e]; exact q), h.2.1 (by rw [q]; exact hc)]
  · rw [if_neg q, if_neg (by rw [← e]; exact q)]
/-! pure: what holds of the class's state -/
def lv (u : ts_S) (f : Nat) : Prop := u.2 2 f = 2 ∨ u.2 2 f = 3
def iv (u : ts_S) (L : Nat) (E N C P : Nat → Nat) : Prop :=
  (L ≤ 20 ∧ u.1 3 = nI L) ∧ (u.1 4 = -1 ∨ ∃ c, c < 4 ∧ u.1 4 = nI c) ∧ (∃ h, h ≤ 24 ∧ u.1 5 = nI h) ∧ (∀ c, c < 4 → E c ≤ L ∧ u.2 10 c = nI (E c)) ∧ (∀ f, f < 16 → N f ≤ 4 ∧ u.2 3 f = nI (N f) ∧ (¬ u.2 2 f = 0 → 1 ≤ N f)) ∧ (∀ f, f < 16 → lv u f → C f < 4 ∧ u.2 5 f = nI (C f) ∧ u.2 6 f = nI (P f) ∧ P f + N f ≤ E (C f)) ∧ (∀ f g, f < 16 → g < 16 → lv u f → lv u g → f ≠ g → C f = C g → P f ≠ P g) ∧ wt (u.2 7) 16 ≤ 6
theorem iv_sub {u w : ts_S} {L : Nat} {E N C P : Nat → Nat} (h : iv u L E N C P) (h3 : w.1 3 = u.1 3) (h4 : w.1 4 = -1 ∨ ∃ c, c < 4 ∧ w.1 4 = nI c) (h5 : ∃ h, h ≤ 24 ∧ w.1 5 = nI h) (a10 : w.2 10 = u.2 10) (a3 : w.2 3 = u.2 3) (a5 : w.2 5 = u.2 5) (a6 : w.2 6 = u.2 6) (hl : ∀ f, f < 16 → lv w f → lv u f) (hz : ∀ f, f < 16 → ¬ w.2 2 f = 0 → ¬ u.2 2 f = 0) (hw : wt (w.2 7) 16 ≤ 6) : iv w L E N C P := by
  obtain ⟨i1, i2, i3, i4, i5, i6, i7, i8⟩ := h
  refine ⟨⟨i1.1, by rw [h3]; exact i1.2⟩, h4, h5, fun c hc => ?_, fun f hf => ?_, fun f hf hv => ?_, fun f g hf hg v1 v2 => i7 f g hf hg (hl f hf v1) (hl g hg v2), hw⟩
  · rw [a10]; exact i4 c hc
  · rw [a3]; exact ⟨(i5 f hf).1, (i5 f hf).2.1, fun q => (i5 f hf).2.2 (hz f hf q)⟩
  · rw [a5, a6]; exact i6 f hf (hl f hf hv)
end
section
/-! pure: the calls side by side (all but serve and empty) -/
def ri (u v : ts_S) : Prop := rel u v ∧ ∃ (L : Nat) (E N C P : Nat → Nat), iv u L E N C P
theorem pt_isF0 (u : ts_S) {x : Int32} (h : x < 0 ∨ nI 16 ≤ x) : dt_isFileNumber u x = some (0, u) := by
  unfold dt_isFileNumber
  by_cases a : x < 0
  · rw [if_pos a]
  · rw [if_neg a]
    rcases h with h | h
    · exact absurd h a
    · rw [if_pos (show (16 : Int32) ≤ x from h)]
theorem pt_isF1 (u : ts_S) {j : Nat} (h : j < 16) : dt_isFileNumber u (nI j) = some (1, u) := by
  unfold dt_isFileNumber
  rw [if_neg (nI_pos (by omega)), if_neg (pu_16 h)]
theorem pt_isC0 (u : ts_S) {x : Int32} (h : x < 0 ∨ nI 4 ≤ x) : dt_isCartridgeNumber u x = some (0, u) := by
  unfold dt_isCartridgeNumber
  by_cases a : x < 0
  · rw [if_pos a]
  · rw [if_neg a]
    rcases h with h | h
    · exact absurd h a
    · rw [if_pos (show (4 : Int32) ≤ x from h)]
theorem pt_isC1 (u : ts_S) {j : Nat} (h : j < 4) : dt_isCartridgeNumber u (nI j) = some (1, u) := by
  unfold dt_isCartridgeNumber
  rw [if_neg (nI_pos (by omega)), if_neg (pu_4 h)]
theorem pm_in0 (u : ts_S) {x y : Int32} (h : x < 0 ∨ y ≤ x) : dm_in u x y = some (0, u) := by
  unfold dm_in
  by_cases a : x < 0
  · rw [if_pos a]
  · rw [if_neg a]
    rcases h with h | h
    · exact absurd h a
    · rw [if_pos h]
theorem pm_in1 (u : ts_S) {x y : Int32} (h1 : ¬ x < 0) (h2 : ¬ y ≤ x) : dm_in u x y = some (1, u) := by
  unfold dm_in
  rw [if_neg h1, if_neg h2]
theorem pm_inF (u : ts_S) {j : Nat} (h : j < 16) : dm_in u (nI j) 16 = some (1, u) := pm_in1 u (nI_pos (by omega)) (pu_16 h)
theorem pm_inC (u : ts_S) {j : Nat} (h : j < 4) : dm_in u (nI j) 4 = some (1, u) := pm_in1 u (nI_pos (by omega)) (pu_4 h)
def us (f : Nat) (u : ts_S) : ts_S := ts_a 8 f (u.1 1 + 1) (ts_p 1 (u.1 1 + 1) u)
theorem pt_use (u : ts_S) {f : Nat} (h : f < 16) : dt_use u (nI f) = some (0, us f u) := by
  unfold dt_use
  rw [pu_ix h (by decide), pu_cl h]
  rfl
theorem pm_use (u : ts_S) {f : Nat} (h : f < 16) : dm_use u (nI f) = some (0, us f u) := by
  unfold dm_use
  rw [pu_ix h (by decide), pu_cl h]
  rfl
theorem rel_us {u v : ts_S} (h : rel u v) (f : Nat) : rel (us f u) (us f v) := by
  unfold us
  rw [h.1 1 (by decide) (by decide)]
  exact rel_a (rel_p h _ (by decide) (by decide)) f _ (by decide) (by decide)
theorem us_k (f : Nat) (u : ts_S) {k : Nat} (h : k ≠ 1) : (us f u).1 k = u.1 k := if_neg h
theorem us_j (f : Nat) (u : ts_S) {j : Nat} (h : j ≠ 8) : (us f u).2 j = u.2 j := if_neg h
theorem iv_us {u : ts_S} {L : Nat} {E N C P : Nat → Nat} (h : iv u L E N C P) (f : Nat) : iv (us f u) L E N C P :=
  iv_sub h (us_k f u (by decide)) (by rw [us_k f u (by decide)]; exact h.2.1) (by rw [us_k f u (by decide)]; exact h.2.2.1) (us_j f u (by decide)) (us_j f u (by decide)) (us_j f u (by decide)) (us_j f u (by decide)) (fun g _ q => by unfold lv at q ⊢; rw [us_j f u (by decide)] at q; exact q) (fun g _ q => by rw [us_j f u (by decide)] at q; exact q) (by rw [us_j f u (by decide)]; exact h.2.2.2.2.2.2.2)
/-- states may change so long as nothing comes alive and nothing comes to be -/
theorem iv_s2 {u : ts_S} {L : Nat} {E N C P : Nat → Nat} (h : iv u L E N C P) {st : Nat → Int32} (hl : ∀ f, f < 16 → (st f = 2 ∨ st f = 3) → lv u f) (hz : ∀ f, f < 16 → ¬ st f = 0 → ¬ u.2 2 f = 0) : iv (s2 st u) L E N C P :=
  iv_sub h rfl h.2.1 h.2.2.1 rfl rfl rfl rfl hl hz h.2.2.2.2.2.2.2
theorem pu_stub {x y : Int32} (h : y = x ∨ (x = 2 ∧ y = 3)) : ((y = 2 ∨ y = 3) → (x = 2 ∨ x = 3)) ∧ (¬ y = 0 → ¬ x = 0) := by
  rcases h with rfl | ⟨rfl, rfl⟩
  · exact ⟨id, id⟩
  · exact ⟨fun _ => Or.inl rfl, fun _ => by decide⟩
/-- making room, on both sides -/
theorem sim_mr {u v : ts_S} (h : rel u v) {L : Nat} {E N C P : Nat → Nat} (hi : iv u L E N C P) (n : Int32) : ∃ (r : Int32) (st : Nat → Int32), (r = 0 ∨ r = 1) ∧ (∀ f, st f = u.2 2 f ∨ (u.2 2 f = 2 ∧ st f = 3)) ∧ dt_makeRoom u n = some (r, s2 st u) ∧ dm_makeRoom v n = some (r, s2 st v) ∧ rel (s2 st u) (s2 st v) ∧ iv (s2 st u) L E N C P := by
  have q := mr_in (u.1 0) n (u.2 3) (u.2 8) 16 (u.2 2)
  refine ⟨_, _, q.1, q.2, pt_mr u n, ?_, rel_s2 h _, iv_s2 hi (fun f _ => (pu_stub (q.2 f)).1) (fun f _ => (pu_stub (q.2 f)).2)⟩
  rw [pm_mr, h.1 0 (by decide) (by decide), h.2.2.2.1 3 (by decide) (by decide) (by decide) (by decide), h.2.2.2.1 8 (by decide) (by decide) (by decide) (by decide), h.2.2.2.1 2 (by decide) (by decide) (by decide) (by decide)]
theorem iv_mv {u : ts_S} {L : Nat} {E N C P : Nat → Nat} (h : iv u L E N C P) {c p n : Nat} (d : Int32) (hc : c < 4) (hp : p + n ≤ 24) : iv (mv u (nI c) (nI p) (nI n) d) L E N C P :=
  iv_sub h (mv_k _ _ _ _ _ (by decide) (by decide) (by decide)) (Or.inr ⟨c, hc, rfl⟩) ⟨p + n, hp, nI_add p n⟩ rfl rfl rfl rfl (fun _ _ q => q) (fun _ _ q => q) h.2.2.2.2.2.2.2
/-- the movement of the head over n units at the place p of c, on both sides -/
theorem sim_mv {u v : ts_S} (h : rel u v) {L : Nat} {E N C P : Nat → Nat} (hi : iv u L E N C P) {c p n : Nat} (hc : c < 4) (hp : p + n ≤ 24) : ∃ d, dp_pass u (nI c) (nI p) (nI n) = some (0, mv u (nI c) (nI p) (nI n) d) ∧ dm_move v (nI c) (nI p) (nI n) = some (0, mv v (nI c) (nI p) (nI n) d) ∧ rel (mv u (nI c) (nI p) (nI n) d) (mv v (nI c) (nI p) (nI n) d) ∧ iv (mv u (nI c) (nI p) (nI n) d) L E N C P := by
  have hc1 : ¬ nI c = -1 := pu_m1 (by omega)
  refine ⟨_, pt_pass u (nI c) (nI p) (nI n), ?_, rel_mv h hc1, iv_mv hi _ hc hp⟩
  rw [pm_move, ← rel_mvh h (nI c) hc1]
  obtain ⟨a, ha, e⟩ : ∃ a, a ≤ 24 ∧ mvh u (nI c) = nI a := by
    unfold mvh
    by_cases q : u.1 4 = nI c
    · rw [if_pos q]; exact hi.2.2.1
    · rw [if_neg q]; exact ⟨0, by omega, rfl⟩
  rw [e, pu_dist (by omega) (by omega)]
/-- bringing back a STUB, on both sides -/
theorem sim_bring {u v : ts_S} (h : rel u v) {L : Nat} {E N C P : Nat → Nat} (hi : iv u L E N C P) {f : Nat} (hf : f < 16) (hs : u.2 2 f = 3) : ∃ r w z, (r = 0 ∨ r = 1) ∧ dt_bringToDisk u (nI f) = some (r, w) ∧ dm_bringBack v (nI f) = some (r, z) ∧ rel w z ∧ iv w L E N C P ∧ (∀ g, g ≠ f → u.2 2 g = 3 → w.2 2 g = 3) ∧ w.1 2 = u.1 2 ∧ w.2 9 = u.2 9 ∧ z.2 9 = v.2 9 ∧ (r = 0 ∨ w.2 2 f = 2) ∧ w.2 7 = u.2 7 := by
  have hl : lv u f := Or.inr hs
  obtain ⟨c1, c2, c3, c4⟩ := hi.2.2.2.2.2.1 f hf hl
  obtain ⟨n1, n2, n3⟩ := hi.2.2.2.2.1 f hf
  have hE := hi.2.2.2.1 (C f) c1
  have hL := hi.1.1
  obtain ⟨r, st, r1, s1, t1, t2, t3, t4⟩ := sim_mr h hi (u.2 3 f)
  have v3 : v.2 3 = u.2 3 := (h.2.2.2.1 3 (by decide) (by decide) (by decide) (by decide)).symm
  have v5 : v.2 5 = u.2 5 := (h.2.2.2.1 5 (by decide) (by decide) (by decide) (by decide)).symm
  have v6 : v.2 6 = u.2 6 := (h.2.2.2.1 6 (by decide) (by decide) (by decide) (by decide)).symm
  have keep : ∀ g, u.2 2 g = 3 → st g = 3 := fun g hg => by
    rcases s1 g with q | ⟨q, -⟩
    · rw [q, hg]
    · rw [hg] at q; exact absurd q (by decide)
  unfold dt_bringToDisk dm_bringBack
  simp only [pu_ix hf (by decide), pu_cl hf]
  rw [if_pos hs, t1, v3, t2]
  simp only [ts_b]
  rcases r1 with rfl | rfl
  · rw [if_pos rfl, if_pos rfl]
    exact ⟨0, s2 st u, s2 st v, Or.inl rfl, rfl, rfl, t3, t4, fun g _ hg => keep g hg, rfl, rfl, rfl, Or.inl rfl, rfl⟩
  · rw [if_neg (by decide), if_neg (by decide)]
    have x5 : (s2 st u).2 5 = u.2 5 := rfl
    have x6 : (s2 st u).2 6 = u.2 6 := rfl
    have x3 : (s2 st u).2 3 = u.2 3 := rfl
    have y5 : (s2 st v).2 5 = v.2 5 := rfl
    have y6 : (s2 st v).2 6 = v.2 6 := rfl
    have y3 : (s2 st v).2 3 = v.2 3 := rfl
    rw [x5, x6, x3, y5, y6, y3, v3, v5, v6, c2, c3, n2]
    obtain ⟨d, d1, d2, d3, d4⟩ := sim_mv t3 t4 (c := C f) (p := P f) (n := N f) c1 (by omega)
    rw [d1, d2]
    simp only []
    rw [pt_use _ hf, pm_use _ hf]
    refine ⟨1, us f (ts_a 2 f 2 (mv (s2 st u) (nI (C f)) (nI (P f)) (nI (N f)) d)), us f (ts_a 2 f 2 (mv (s2 st v) (nI (C f)) (nI (P f)) (nI (N f)) d)), Or.inr rfl, rfl, rfl, rel_us (rel_a d3 f 2 (by decide) (by decide)) f, iv_us ?_ f, fun g hg h3 => ?_, ?_, rfl, rfl, Or.inr ?_, rfl⟩
    · rw [a_s2]
      refine iv_s2 d4 (fun g hg q => ?_) (fun g hg q => ?_)
      · by_cases e : g = f
        · rw [e]; exact Or.inr (keep f hs)
        · have : upd ((mv (s2 st u) (nI (C f)) (nI (P f)) (nI (N f)) d).2 2) f 2 g = (mv (s2 st u) (nI (C f)) (nI (P f)) (nI (N f)) d).2 2 g := if_neg e
          rw [this] at q
          exact q
      · by_cases e : g = f
        · rw [e]
          show ¬ st f = 0
          rw [keep f hs]
          decide
        · have : upd ((mv (s2 st u) (nI (C f)) (nI (P f)) (nI (N f)) d).2 2) f 2 g = (mv (s2 st u) (nI (C f)) (nI (P f)) (nI (N f)) d).2 2 g := if_neg e
          rw [this] at q
          exact q
    · show (if g = f then (2 : Int32) else st g) = 3
      rw [if_neg hg]
      exact keep g h3
    · rfl
    · show (if f = f then (2 : Int32) else st f) = 2
      rw [if_pos rfl]
end
section
/-! pure: calls side by side -/
theorem ts_bs {β α : Type} (r : β) (u : ts_S) (k : β → ts_S → Option α) : ts_b (some (r, u)) k = k r u := rfl
theorem zz_1_0 : ((1 : Int32) = 0) = False := eq_false (by decide)
theorem zz_2_0 : ((2 : Int32) = 0) = False := eq_false (by decide)
theorem zz_2_1 : ((2 : Int32) = 1) = False := eq_false (by decide)
theorem zz_3_0 : ((3 : Int32) = 0) = False := eq_false (by decide)
theorem zz_3_1 : ((3 : Int32) = 1) = False := eq_false (by decide)
theorem zz_3_2 : ((3 : Int32) = 2) = False := eq_false (by decide)
theorem zz_4_0 : ((4 : Int32) = 0) = False := eq_false (by decide)
theorem zz_4_1 : ((4 : Int32) = 1) = False := eq_false (by decide)
theorem zz_4_2 : ((4 : Int32) = 2) = False := eq_false (by decide)
theorem zz_4_3 : ((4 : Int32) = 3) = False := eq_false (by decide)
theorem zz_5_0 : ((5 : Int32) = 0) = False := eq_false (by decide)
theorem zz_5_1 : ((5 : Int32) = 1) = False := eq_false (by decide)
theorem zz_5_2 : ((5 : Int32) = 2) = False := eq_false (by decide)
theorem zz_5_3 : ((5 : Int32) = 3) = False := eq_false (by decide)
theorem zz_5_4 : ((5 : Int32) = 4) = False := eq_false (by decide)
theorem zz_1_2 : ((1 : Int32) = 2) = False := eq_false (by decide)
theorem rel_j {u v : ts_S} (h : rel u v) {j : Nat} (h4 : j ≠ 4) (h9 : j ≠ 9) (h11 : j ≠ 11) (h20 : j < 20) : v.2 j = u.2 j := (h.2.2.2.1 j h4 h9 h11 h20).symm
theorem rel_k {u v : ts_S} (h : rel u v) {k : Nat} (h2 : k ≠ 2) (h5 : k ≠ 5) : v.1 k = u.1 k := (h.1 k h2 h5).symm
theorem lu_rel {u v : ts_S} (h : rel u v) (c : Int32) : ∀ n, lu v c n = lu u c n := by
  intro n
  induction n with
  | zero => rfl
  | succ n ih =>
    have e2 := rel_j h (j := 2) (by decide) (by decide) (by decide) (by decide)
    have e3 := rel_j h (j := 3) (by decide) (by decide) (by decide) (by decide)
    have e5 := rel_j h (j := 5) (by decide) (by decide) (by decide) (by decide)
    by_cases q : lc u c n
    · have q' : lc v c n := by unfold lc at q ⊢; rw [e2, e5]; exact q
      rw [lu_p q, lu_p q', ih, e3]
    · have q' : ¬ lc v c n := by unfold lc at q ⊢; rw [e2, e5]; exact q
      rw [lu_n q, lu_n q', ih]
theorem sim_count {u v : ts_S} (h : ri u v) (x : Int32) : ∃ r w z, dt_count u x = some (r, w) ∧ dm_count v x = some (r, z) ∧ ri w z := by
  have hr := h.1
  have e2 := rel_j hr (j := 2) (by decide) (by decide) (by decide) (by decide)
  have e3 := rel_j hr (j := 3) (by decide) (by decide) (by decide) (by decide)
  have e7 := rel_j hr (j := 7) (by decide) (by decide) (by decide) (by decide)
  have k4 := rel_k hr (k := 4) (by decide) (by decide)
  have k6 := rel_k hr (k := 6) (by decide) (by decide)
  unfold dt_count dm_count
  rw [pt_taken, pm_taken, pt_wait, pm_wait, e2, e3, e7, k4, k6]
  simp only [ts_b]
  by_cases c0 : x = 0
  · rw [if_pos c0, if_pos c0]
    exact ⟨_, _, _, rfl, rfl, h⟩
  rw [if_neg c0, if_neg c0]
  by_cases c1 : x = 1
  · rw [if_pos c1, if_pos c1]
    exact ⟨_, _, _, rfl, rfl, h⟩
  rw [if_neg c1, if_neg c1]
  by_cases c2 : x = 2
  · rw [if_pos c2, if_pos c2]
    obtain ⟨L, E, N, C, P, hi⟩ := h.2
    rcases hi.2.1 with q | ⟨c, hc, q⟩
    · rw [if_neg (by rw [q]; decide)]
      exact ⟨_, _, _, rfl, by rw [hr.2.2.1 q], h⟩
    · rw [if_pos (by rw [q]; exact nI_pos' (by omega))]
      exact ⟨_, _, _, rfl, by rw [hr.2.1 (by rw [q]; exact pu_m1 (by omega))], h⟩
  rw [if_neg c2, if_neg c2]
  by_cases c3 : x = 3
  · rw [if_pos c3, if_pos c3]
    exact ⟨_, _, _, rfl, rfl, h⟩
  rw [if_neg c3, if_neg c3]
  exact ⟨_, _, _, rfl, rfl, h⟩
set_option maxHeartbeats 40000 in
theorem sc_T0 (u : ts_S) {c : Nat} (hc : c < 4) : dt_cartridge u (nI c) 0 = some (u.2 10 c, u) := by
  unfold dt_cartridge
  rw [pt_isC1 u hc]
  rw [ts_bs, if_neg (by decide), if_pos rfl, pu_ix hc (by decide), pu_cl (show c < 16 by omega)]
set_option maxHeartbeats 40000 in
theorem sc_T1 (u : ts_S) {c : Nat} (hc : c < 4) : dt_cartridge u (nI c) 1 = some (lu u (nI c) 16, u) := by
  unfold dt_cartridge
  rw [pt_isC1 u hc]
  rw [ts_bs, if_neg (by decide), if_neg (by decide), if_pos rfl, pt_lu, ts_bs]
set_option maxHeartbeats 40000 in
theorem sc_T2 (u : ts_S) {c : Nat} (hc : c < 4) : dt_cartridge u (nI c) 2 = some (if u.1 4 = nI c then 1 else 0, u) := by
  unfold dt_cartridge
  rw [pt_isC1 u hc]
  rw [ts_bs, if_neg (by decide), if_neg (by decide), if_neg (by decide), if_pos rfl]
  by_cases q : u.1 4 = nI c
  · rw [if_pos q, if_pos q]
  · rw [if_neg q, if_neg q]
set_option maxHeartbeats 40000 in
theorem sc_Tn (u : ts_S) {c : Nat} (hc : c < 4) {y : Int32} (c0 : ¬ y = 0) (c1 : ¬ y = 1) (c2 : ¬ y = 2) : dt_cartridge u (nI c) y = some (-1, u) := by
  unfold dt_cartridge
  rw [pt_isC1 u hc]
  rw [ts_bs, if_neg (by decide), if_neg c0, if_neg c1, if_neg c2]
set_option maxHeartbeats 40000 in
theorem sc_M0 (u : ts_S) {c : Nat} (hc : c < 4) : dm_cartridge u (nI c) 0 = some (u.2 10 c, u) := by
  unfold dm_cartridge
  rw [pm_inC u hc]
  rw [ts_bs, if_neg (by decide), pm_in1 u (x := 0) (y := 3) (by decide) (by decide)]
  rw [ts_bs, if_neg (by decide), if_pos rfl, pu_ix hc (by decide), pu_cl (show c < 16 by omega)]
set_option maxHeartbeats 40000 in
theorem sc_M1 (u : ts_S) {c : Nat} (hc : c < 4) : dm_cartridge u (nI c) 1 = some (lu u (nI c) 16, u) := by
  unfold dm_cartridge
  rw [pm_inC u hc]
  rw [ts_bs, if_neg (by decide), pm_in1 u (x := 1) (y := 3) (by decide) (by decide)]
  rw [ts_bs, if_neg (by decide), if_neg (by decide), if_neg (by decide), pm_lu]
set_option maxHeartbeats 40000 in
theorem sc_M2 (u : ts_S) {c : Nat} (hc : c < 4) : dm_cartridge u (nI c) 2 = some (if u.1 4 = nI c then 1 else 0, u) := by
  unfold dm_cartridge
  rw [pm_inC u hc]
  rw [ts_bs, if_neg (by decide), pm_in1 u (x := 2) (y := 3) (by decide) (by decide)]
  rw [ts_bs, if_neg (by decide), if_neg (by decide), if_pos rfl]
  by_cases q : u.1 4 = nI c
  · rw [if_pos q, if_pos q]
  · rw [if_neg q, if_neg q]
set_option maxHeartbeats 40000 in
theorem sc_Mn (u : ts_S) {c : Nat} (hc : c < 4) {y : Int32} (hy : y < 0 ∨ (3 : Int32) ≤ y) : dm_cartridge u (nI c) y = some (-1, u) := by
  unfold dm_cartridge
  rw [pm_inC u hc]
  rw [ts_bs, if_neg (by decide), pm_in0 u hy]
  rw [ts_bs, if_pos rfl]
set_option maxHeartbeats 40000 in
theorem sc_T_ (u : ts_S) {x : Int32} (y : Int32) (h : x < 0 ∨ nI 4 ≤ x) : dt_cartridge u x y = some (-1, u) := by
  unfold dt_cartridge
  rw [pt_isC0 u h]
  rw [ts_bs, if_pos rfl]
set_option maxHeartbeats 40000 in
theorem sc_M_ (u : ts_S) {x : Int32} (y : Int32) (h : x < 0 ∨ nI 4 ≤ x) : dm_cartridge u x y = some (-1, u) := by
  unfold dm_cartridge
  rw [pm_in0 u (y := 4) h]
  rw [ts_bs, if_pos rfl]
set_option maxHeartbeats 40000 in
theorem sim_cartridge {u v : ts_S} (h : ri u v) (x y : Int32) : ∃ r w z, dt_cartridge u x y = some (r, w) ∧ dm_cartridge v x y = some (r, z) ∧ ri w z := by
  have hr := h.1
  have e10 := rel_j hr (j := 10) (by decide) (by decide) (by decide) (by decide)
  have k4 := rel_k hr (k := 4) (by decide) (by decide)
  rcases pk_ix x (n := 4) (by decide) with q | q | ⟨c, hc, rfl⟩
  · exact ⟨_, _, _, sc_T_ u y (Or.inl q), sc_M_ v y (Or.inl q), h⟩
  · exact ⟨_, _, _, sc_T_ u y (Or.inr q), sc_M_ v y (Or.inr q), h⟩
  · by_cases c0 : y = 0
    · subst c0
      exact ⟨_, _, _, sc_T0 u hc, by rw [sc_M0 v hc, e10], h⟩
    by_cases c1 : y = 1
    · subst c1
      exact ⟨_, _, _, sc_T1 u hc, by rw [sc_M1 v hc, lu_rel hr], h⟩
    by_cases c2 : y = 2
    · subst c2
      exact ⟨_, _, _, sc_T2 u hc, by rw [sc_M2 v hc, k4], h⟩
    have hy : y < 0 ∨ (3 : Int32) ≤ y := by
      rcases pk_ix y (n := 3) (by decide) with q | q | ⟨j, hj, rfl⟩
      · exact Or.inl q
      · exact Or.inr q
      · rcases (show j = 0 ∨ j = 1 ∨ j = 2 by omega) with rfl | rfl | rfl
        · exact absurd rfl c0
        · exact absurd rfl c1
        · exact absurd rfl c2
    exact ⟨_, _, _, sc_Tn u hc c0 c1 c2, sc_Mn v hc hy, h⟩
theorem sim_file {u v : ts_S} (h : ri u v) (x y : Int32) : ∃ r w z, dt_file u x y = some (r, w) ∧ dm_file v x y = some (r, z) ∧ ri w z := by
  have hr := h.1
  have e2 := rel_j hr (j := 2) (by decide) (by decide) (by decide) (by decide)
  have e3 := rel_j hr (j := 3) (by decide) (by decide) (by decide) (by decide)
  have e5 := rel_j hr (j := 5) (by decide) (by decide) (by decide) (by decide)
  have e6 := rel_j hr (j := 6) (by decide) (by decide) (by decide) (by decide)
  have e7 := rel_j hr (j := 7) (by decide) (by decide) (by decide) (by decide)
  have e8 := rel_j hr (j := 8) (by decide) (by decide) (by decide) (by decide)
  have fin : ∀ {a b : Option (Int32 × ts_S)} {r : Int32}, a = some (r, u) → b = some (r, v) → ∃ r w z, a = some (r, w) ∧ b = some (r, z) ∧ ri w z := fun h1 h2 => ⟨_, _, _, h1, h2, h⟩
  rcases pk_ix x (n := 16) (by decide) with q | q | ⟨f, hf, rfl⟩
  · exact fin (r := -1) (by unfold dt_file; rw [pt_isF0 u (Or.inl q)]; rfl) (by unfold dm_file; rw [pm_in0 v (Or.inl q)]; rfl)
  · exact fin (r := -1) (by unfold dt_file; rw [pt_isF0 u (Or.inr q)]; rfl) (by unfold dm_file; rw [pm_in0 v (y := 16) (Or.inr q)]; rfl)
  · have ix : ∀ t : Option (Int32 × ts_S), ts_ix (nI f) 16 t = t := fun t => pu_ix hf (by decide) t
    have cl := pu_cl hf
    by_cases c0 : y = 0
    · subst c0
      refine fin (r := u.2 2 f) ?_ ?_
      · unfold dt_file
        rw [pt_isF1 u hf]
        by_cases q : u.2 2 f = 0
        · simp only [ts_b, zz_1_0, zz_2_0, zz_2_1, zz_3_0, zz_3_1, zz_3_2, zz_4_0, zz_4_1, zz_4_2, zz_4_3, zz_5_0, zz_5_1, zz_5_2, zz_5_3, zz_5_4, zz_1_2, ↓reduceIte, ix, cl, q]
        · simp only [ts_b, zz_1_0, zz_2_0, zz_2_1, zz_3_0, zz_3_1, zz_3_2, zz_4_0, zz_4_1, zz_4_2, zz_4_3, zz_5_0, zz_5_1, zz_5_2, zz_5_3, zz_5_4, zz_1_2, ↓reduceIte, ix, cl, q]
      · unfold dm_file
        rw [pm_inF v hf]
        simp only [ts_b, zz_1_0, zz_2_0, zz_2_1, zz_3_0, zz_3_1, zz_3_2, zz_4_0, zz_4_1, zz_4_2, zz_4_3, zz_5_0, zz_5_1, zz_5_2, zz_5_3, zz_5_4, zz_1_2, ↓reduceIte, ix, cl, e2, pm_in1 v (x := 0) (y := 6) (by decide) (by decide)]
    by_cases c1 : y = 1
    · subst c1
      by_cases q : u.2 2 f = 0
      · refine fin (r := 0) ?_ ?_
        · unfold dt_file
          rw [pt_isF1 u hf]
          simp only [ts_b, zz_1_0, zz_2_0, zz_2_1, zz_3_0, zz_3_1, zz_3_2, zz_4_0, zz_4_1, zz_4_2, zz_4_3, zz_5_0, zz_5_1, zz_5_2, zz_5_3, zz_5_4, zz_1_2, ↓reduceIte, ix, cl, q]
        · unfold dm_file
          rw [pm_inF v hf]
          simp only [ts_b, zz_1_0, zz_2_0, zz_2_1, zz_3_0, zz_3_1, zz_3_2, zz_4_0, zz_4_1, zz_4_2, zz_4_3, zz_5_0, zz_5_1, zz_5_2, zz_5_3, zz_5_4, zz_1_2, ↓reduceIte, ix, cl, e2, q, pm_in1 v (x := 1) (y := 6) (by decide) (by decide)]
      · refine fin (r := u.2 3 f) ?_ ?_
        · unfold dt_file
          rw [pt_isF1 u hf]
          simp only [ts_b, zz_1_0, zz_2_0, zz_2_1, zz_3_0, zz_3_1, zz_3_2, zz_4_0, zz_4_1, zz_4_2, zz_4_3, zz_5_0, zz_5_1, zz_5_2, zz_5_3, zz_5_4, zz_1_2, ↓reduceIte, ix, cl, q]
        · unfold dm_file
          rw [pm_inF v hf]
          simp only [ts_b, zz_1_0, zz_2_0, zz_2_1, zz_3_0, zz_3_1, zz_3_2, zz_4_0, zz_4_1, zz_4_2, zz_4_3, zz_5_0, zz_5_1, zz_5_2, zz_5_3, zz_5_4, zz_1_2, ↓reduceIte, ix, cl, e2, e3, q, pm_in1 v (x := 1) (y := 6) (by decide) (by decide)]
    by_cases c2 : y = 2
    · subst c2
      by_cases l : u.2 2 f = 2 ∨ u.2 2 f = 3
      · have q : ¬ u.2 2 f = 0 := by rcases l with l | l <;> rw [l] <;> decide
        refine fin (r := u.2 5 f) ?_ ?_
        · unfold dt_file
          rw [pt_isF1 u hf]
          simp only [ts_b, zz_1_0, zz_2_0, zz_2_1, zz_3_0, zz_3_1, zz_3_2, zz_4_0, zz_4_1, zz_4_2, zz_4_3, zz_5_0, zz_5_1, zz_5_2, zz_5_3, zz_5_4, zz_1_2, ↓reduceIte, ix, cl, q, pt_hasCopy u hf, if_pos l]
        · unfold dm_file
          rw [pm_inF v hf]
          simp only [ts_b, zz_1_0, zz_2_0, zz_2_1, zz_3_0, zz_3_1, zz_3_2, zz_4_0, zz_4_1, zz_4_2, zz_4_3, zz_5_0, zz_5_1, zz_5_2, zz_5_3, zz_5_4, zz_1_2, ↓reduceIte, ix, cl, e5, pm_copied v hf, e2, if_pos l, pm_in1 v (x := 2) (y := 6) (by decide) (by decide)]
      · refine fin (r := -1) ?_ ?_
        · unfold dt_file
          rw [pt_isF1 u hf]
          by_cases q : u.2 2 f = 0
          · simp only [ts_b, zz_1_0, zz_2_0, zz_2_1, zz_3_0, zz_3_1, zz_3_2, zz_4_0, zz_4_1, zz_4_2, zz_4_3, zz_5_0, zz_5_1, zz_5_2, zz_5_3, zz_5_4, zz_1_2, ↓reduceIte, ix, cl, if_pos q, pt_hasCopy u hf, if_neg l]
          · simp only [ts_b, zz_1_0, zz_2_0, zz_2_1, zz_3_0, zz_3_1, zz_3_2, zz_4_0, zz_4_1, zz_4_2, zz_4_3, zz_5_0, zz_5_1, zz_5_2, zz_5_3, zz_5_4, zz_1_2, ↓reduceIte, ix, cl, q, pt_hasCopy u hf, if_neg l]
        · unfold dm_file
          rw [pm_inF v hf]
          simp only [ts_b, zz_1_0, zz_2_0, zz_2_1, zz_3_0, zz_3_1, zz_3_2, zz_4_0, zz_4_1, zz_4_2, zz_4_3, zz_5_0, zz_5_1, zz_5_2, zz_5_3, zz_5_4, zz_1_2, ↓reduceIte, ix, cl, pm_copied v hf, e2, if_neg l, pm_in1 v (x := 2) (y := 6) (by decide) (by decide)]
    by_cases c3 : y = 3
    · subst c3
      by_cases l : u.2 2 f = 2 ∨ u.2 2 f = 3
      · have q : ¬ u.2 2 f = 0 := by rcases l with l | l <;> rw [l] <;> decide
        refine fin (r := u.2 6 f) ?_ ?_
        · unfold dt_file
          rw [pt_isF1 u hf]
          simp only [ts_b, zz_1_0, zz_2_0, zz_2_1, zz_3_0, zz_3_1, zz_3_2, zz_4_0, zz_4_1, zz_4_2, zz_4_3, zz_5_0, zz_5_1, zz_5_2, zz_5_3, zz_5_4, zz_1_2, ↓reduceIte, ix, cl, q, pt_hasCopy u hf, if_pos l]
        · unfold dm_file
          rw [pm_inF v hf]
          simp only [ts_b, zz_1_0, zz_2_0, zz_2_1, zz_3_0, zz_3_1, zz_3_2, zz_4_0, zz_4_1, zz_4_2, zz_4_3, zz_5_0, zz_5_1, zz_5_2, zz_5_3, zz_5_4, zz_1_2, ↓reduceIte, ix, cl, e6, pm_copied v hf, e2, if_pos l, pm_in1 v (x := 3) (y := 6) (by decide) (by decide)]
      · refine fin (r := -1) ?_ ?_
        · unfold dt_file
          rw [pt_isF1 u hf]
          by_cases q : u.2 2 f = 0
          · simp only [ts_b, zz_1_0, zz_2_0, zz_2_1, zz_3_0, zz_3_1, zz_3_2, zz_4_0, zz_4_1, zz_4_2, zz_4_3, zz_5_0, zz_5_1, zz_5_2, zz_5_3, zz_5_4, zz_1_2, ↓reduceIte, ix, cl, if_pos q, pt_hasCopy u hf, if_neg l]
          · simp only [ts_b, zz_1_0, zz_2_0, zz_2_1, zz_3_0, zz_3_1, zz_3_2, zz_4_0, zz_4_1, zz_4_2, zz_4_3, zz_5_0, zz_5_1, zz_5_2, zz_5_3, zz_5_4, zz_1_2, ↓reduceIte, ix, cl, q, pt_hasCopy u hf, if_neg l]
        · unfold dm_file
          rw [pm_inF v hf]
          simp only [ts_b, zz_1_0, zz_2_0, zz_2_1, zz_3_0, zz_3_1, zz_3_2, zz_4_0, zz_4_1, zz_4_2, zz_4_3, zz_5_0, zz_5_1, zz_5_2, zz_5_3, zz_5_4, zz_1_2, ↓reduceIte, ix, cl, pm_copied v hf, e2, if_neg l, pm_in1 v (x := 3) (y := 6) (by decide) (by decide)]
    by_cases c4 : y = 4
    · subst c4
      by_cases w : u.2 7 f = 0
      · refine fin (r := 0) ?_ ?_
        · unfold dt_file
          rw [pt_isF1 u hf]
          by_cases q : u.2 2 f = 0
          · simp only [ts_b, zz_1_0, zz_2_0, zz_2_1, zz_3_0, zz_3_1, zz_3_2, zz_4_0, zz_4_1, zz_4_2, zz_4_3, zz_5_0, zz_5_1, zz_5_2, zz_5_3, zz_5_4, zz_1_2, ↓reduceIte, ix, cl, q, w]
          · simp only [ts_b, zz_1_0, zz_2_0, zz_2_1, zz_3_0, zz_3_1, zz_3_2, zz_4_0, zz_4_1, zz_4_2, zz_4_3, zz_5_0, zz_5_1, zz_5_2, zz_5_3, zz_5_4, zz_1_2, ↓reduceIte, ix, cl, q, w]
        · unfold dm_file
          rw [pm_inF v hf]
          simp only [ts_b, zz_1_0, zz_2_0, zz_2_1, zz_3_0, zz_3_1, zz_3_2, zz_4_0, zz_4_1, zz_4_2, zz_4_3, zz_5_0, zz_5_1, zz_5_2, zz_5_3, zz_5_4, zz_1_2, ↓reduceIte, ix, cl, e7, w, pm_in1 v (x := 4) (y := 6) (by decide) (by decide)]
      · refine fin (r := 1) ?_ ?_
        · unfold dt_file
          rw [pt_isF1 u hf]
          by_cases q : u.2 2 f = 0
          · simp only [ts_b, zz_1_0, zz_2_0, zz_2_1, zz_3_0, zz_3_1, zz_3_2, zz_4_0, zz_4_1, zz_4_2, zz_4_3, zz_5_0, zz_5_1, zz_5_2, zz_5_3, zz_5_4, zz_1_2, ↓reduceIte, ix, cl, q, w]
          · simp only [ts_b, zz_1_0, zz_2_0, zz_2_1, zz_3_0, zz_3_1, zz_3_2, zz_4_0, zz_4_1, zz_4_2, zz_4_3, zz_5_0, zz_5_1, zz_5_2, zz_5_3, zz_5_4, zz_1_2, ↓reduceIte, ix, cl, q, w]
        · unfold dm_file
          rw [pm_inF v hf]
          simp only [ts_b, zz_1_0, zz_2_0, zz_2_1, zz_3_0, zz_3_1, zz_3_2, zz_4_0, zz_4_1, zz_4_2, zz_4_3, zz_5_0, zz_5_1, zz_5_2, zz_5_3, zz_5_4, zz_1_2, ↓reduceIte, ix, cl, e7, w, pm_in1 v (x := 4) (y := 6) (by decide) (by decide)]
    by_cases c5 : y = 5
    · subst c5
      by_cases q : u.2 2 f = 0
      · refine fin (r := -1) ?_ ?_
        · unfold dt_file
          rw [pt_isF1 u hf]
          simp only [ts_b, zz_1_0, zz_2_0, zz_2_1, zz_3_0, zz_3_1, zz_3_2, zz_4_0, zz_4_1, zz_4_2, zz_4_3, zz_5_0, zz_5_1, zz_5_2, zz_5_3, zz_5_4, zz_1_2, ↓reduceIte, ix, cl, q]
        · unfold dm_file
          rw [pm_inF v hf]
          simp only [ts_b, zz_1_0, zz_2_0, zz_2_1, zz_3_0, zz_3_1, zz_3_2, zz_4_0, zz_4_1, zz_4_2, zz_4_3, zz_5_0, zz_5_1, zz_5_2, zz_5_3, zz_5_4, zz_1_2, ↓reduceIte, ix, cl, e2, q, pm_in1 v (x := 5) (y := 6) (by decide) (by decide)]
      · refine fin (r := ul (u.2 2) (u.2 8) (u.2 8 f) 16) ?_ ?_
        · unfold dt_file
          rw [pt_isF1 u hf]
          simp only [ts_b, zz_1_0, zz_2_0, zz_2_1, zz_3_0, zz_3_1, zz_3_2, zz_4_0, zz_4_1, zz_4_2, zz_4_3, zz_5_0, zz_5_1, zz_5_2, zz_5_3, zz_5_4, zz_1_2, ↓reduceIte, ix, cl, q, pt_ul u hf]
        · unfold dm_file
          rw [pm_inF v hf]
          simp only [ts_b, zz_1_0, zz_2_0, zz_2_1, zz_3_0, zz_3_1, zz_3_2, zz_4_0, zz_4_1, zz_4_2, zz_4_3, zz_5_0, zz_5_1, zz_5_2, zz_5_3, zz_5_4, zz_1_2, ↓reduceIte, ix, cl, e2, q, pm_in1 v (x := 5) (y := 6) (by decide) (by decide)]
          have := pm_ul v hf 5
          rw [e2, e8] at this
          exact this
    have hy : y < 0 ∨ (6 : Int32) ≤ y := by
      rcases pk_ix y (n := 6) (by decide) with q | q | ⟨j, hj, rfl⟩
      · exact Or.inl q
      · exact Or.inr q
      · rcases (show j = 0 ∨ j = 1 ∨ j = 2 ∨ j = 3 ∨ j = 4 ∨ j = 5 by omega) with rfl | rfl | rfl | rfl | rfl | rfl
        · exact absurd rfl c0
        · exact absurd rfl c1
        · exact absurd rfl c2
        · exact absurd rfl c3
        · exact absurd rfl c4
        · exact absurd rfl c5
    refine fin (r := -1) ?_ ?_
    · unfold dt_file
      rw [pt_isF1 u hf]
      by_cases q : u.2 2 f = 0
      · simp only [ts_b, zz_1_0, zz_2_0, zz_2_1, zz_3_0, zz_3_1, zz_3_2, zz_4_0, zz_4_1, zz_4_2, zz_4_3, zz_5_0, zz_5_1, zz_5_2, zz_5_3, zz_5_4, zz_1_2, ↓reduceIte, ix, cl, q, c0, c1, c2, c3, c4, c5]
      · simp only [ts_b, zz_1_0, zz_2_0, zz_2_1, zz_3_0, zz_3_1, zz_3_2, zz_4_0, zz_4_1, zz_4_2, zz_4_3, zz_5_0, zz_5_1, zz_5_2, zz_5_3, zz_5_4, zz_1_2, ↓reduceIte, ix, cl, q, c0, c1, c2, c3, c4, c5]
    · unfold dm_file
      rw [pm_inF v hf]
      simp only [ts_b, zz_1_0, zz_2_0, zz_2_1, zz_3_0, zz_3_1, zz_3_2, zz_4_0, zz_4_1, zz_4_2, zz_4_3, zz_5_0, zz_5_1, zz_5_2, zz_5_3, zz_5_4, zz_1_2, ↓reduceIte, pm_in0 v hy]
end
