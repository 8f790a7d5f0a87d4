section
-- ===== PART A: goes FIRST, ahead of the names: the tables' words, and 'selects' of the private methods out of them =====
/-- a private method of a class that the tables say can be made, by its rows of tables_1 -/
def lw_okq (q : MethodName × Nat) : Prop := (q.1.cls ≠ "java/lang/invoke/MethodHandle" ∧ q.1.cls ≠ "java/lang/invoke/VarHandle") ∧ Cond.instantiable q.1.cls q.2 ∈ tables_1 ∧ Cond.privateMethod q.1 ∈ tables_1 ∧ Cond.instanceMethod q.1 ∈ tables_1
theorem lw_p0 : lw_okq (⟨"HerdMasters", "isMaster", "(I)Z"⟩, 6) := ⟨⟨by decide +kernel, by decide +kernel⟩, List.mem_of_getElem? (i := 10) (by decide +kernel), List.mem_of_getElem? (i := 215) (by decide +kernel), List.mem_of_getElem? (i := 216) (by decide +kernel)⟩
theorem lw_p1 : lw_okq (⟨"HerdMasters", "areMessages", "(I)Z"⟩, 6) := ⟨⟨by decide +kernel, by decide +kernel⟩, List.mem_of_getElem? (i := 10) (by decide +kernel), List.mem_of_getElem? (i := 227) (by decide +kernel), List.mem_of_getElem? (i := 228) (by decide +kernel)⟩
theorem lw_p2 : lw_okq (⟨"HerdMasters", "nextViewLedBy", "(I)I"⟩, 6) := ⟨⟨by decide +kernel, by decide +kernel⟩, List.mem_of_getElem? (i := 10) (by decide +kernel), List.mem_of_getElem? (i := 231) (by decide +kernel), List.mem_of_getElem? (i := 232) (by decide +kernel)⟩
theorem lw_p3 : lw_okq (⟨"HerdMasters", "gatherMajority", "(I)Z"⟩, 6) := ⟨⟨by decide +kernel, by decide +kernel⟩, List.mem_of_getElem? (i := 10) (by decide +kernel), List.mem_of_getElem? (i := 238) (by decide +kernel), List.mem_of_getElem? (i := 239) (by decide +kernel)⟩
theorem lw_p4 : lw_okq (⟨"HerdMasters", "isMajority", "(I)Z"⟩, 6) := ⟨⟨by decide +kernel, by decide +kernel⟩, List.mem_of_getElem? (i := 10) (by decide +kernel), List.mem_of_getElem? (i := 242) (by decide +kernel), List.mem_of_getElem? (i := 243) (by decide +kernel)⟩
theorem lw_p5 : lw_okq (⟨"HerdMasters", "reaches", "(II)Z"⟩, 6) := ⟨⟨by decide +kernel, by decide +kernel⟩, List.mem_of_getElem? (i := 10) (by decide +kernel), List.mem_of_getElem? (i := 246) (by decide +kernel), List.mem_of_getElem? (i := 247) (by decide +kernel)⟩
theorem lw_p6 : lw_okq (⟨"HerdMasters", "bringMessage", "()Z"⟩, 6) := ⟨⟨by decide +kernel, by decide +kernel⟩, List.mem_of_getElem? (i := 10) (by decide +kernel), List.mem_of_getElem? (i := 250) (by decide +kernel), List.mem_of_getElem? (i := 251) (by decide +kernel)⟩
theorem lw_p7 : lw_okq (⟨"HerdMasters$Master", "takeLog", "(LHerdMasters$Master;)V"⟩, 9) := ⟨⟨by decide +kernel, by decide +kernel⟩, List.mem_of_getElem? (i := 76) (by decide +kernel), List.mem_of_getElem? (i := 273) (by decide +kernel), List.mem_of_getElem? (i := 274) (by decide +kernel)⟩
theorem lw_p8 : lw_okq (⟨"HerdMasters", "announceView", "(I)V"⟩, 6) := ⟨⟨by decide +kernel, by decide +kernel⟩, List.mem_of_getElem? (i := 10) (by decide +kernel), List.mem_of_getElem? (i := 277) (by decide +kernel), List.mem_of_getElem? (i := 278) (by decide +kernel)⟩
theorem lw_p9 : lw_okq (⟨"HerdMasters", "carryOutWhatIsDone", "()V"⟩, 6) := ⟨⟨by decide +kernel, by decide +kernel⟩, List.mem_of_getElem? (i := 10) (by decide +kernel), List.mem_of_getElem? (i := 286) (by decide +kernel), List.mem_of_getElem? (i := 287) (by decide +kernel)⟩
theorem lw_p10 : lw_okq (⟨"HerdMasters$Scheduler", "setQuota", "(II)I"⟩, 8) := ⟨⟨by decide +kernel, by decide +kernel⟩, List.mem_of_getElem? (i := 84) (by decide +kernel), List.mem_of_getElem? (i := 294) (by decide +kernel), List.mem_of_getElem? (i := 295) (by decide +kernel)⟩
theorem lw_p11 : lw_okq (⟨"HerdMasters$Scheduler", "addWorker", "(I)I"⟩, 8) := ⟨⟨by decide +kernel, by decide +kernel⟩, List.mem_of_getElem? (i := 84) (by decide +kernel), List.mem_of_getElem? (i := 307) (by decide +kernel), List.mem_of_getElem? (i := 308) (by decide +kernel)⟩
theorem lw_p12 : lw_okq (⟨"HerdMasters$Scheduler", "isSize", "(I)Z"⟩, 8) := ⟨⟨by decide +kernel, by decide +kernel⟩, List.mem_of_getElem? (i := 84) (by decide +kernel), List.mem_of_getElem? (i := 311) (by decide +kernel), List.mem_of_getElem? (i := 312) (by decide +kernel)⟩
theorem lw_p13 : lw_okq (⟨"HerdMasters$Scheduler", "addTask", "(IIII)I"⟩, 8) := ⟨⟨by decide +kernel, by decide +kernel⟩, List.mem_of_getElem? (i := 84) (by decide +kernel), List.mem_of_getElem? (i := 315) (by decide +kernel), List.mem_of_getElem? (i := 316) (by decide +kernel)⟩
theorem lw_p14 : lw_okq (⟨"HerdMasters$Scheduler", "placeTasks", "()I"⟩, 8) := ⟨⟨by decide +kernel, by decide +kernel⟩, List.mem_of_getElem? (i := 84) (by decide +kernel), List.mem_of_getElem? (i := 323) (by decide +kernel), List.mem_of_getElem? (i := 324) (by decide +kernel)⟩
theorem lw_p15 : lw_okq (⟨"HerdMasters$Scheduler", "tryToBegin", "(LHerdMasters$Task;)Z"⟩, 8) := ⟨⟨by decide +kernel, by decide +kernel⟩, List.mem_of_getElem? (i := 84) (by decide +kernel), List.mem_of_getElem? (i := 327) (by decide +kernel), List.mem_of_getElem? (i := 328) (by decide +kernel)⟩
def lw_privs_1 : List (MethodName × Nat) := [(⟨"HerdMasters", "isMaster", "(I)Z"⟩, 6), (⟨"HerdMasters", "areMessages", "(I)Z"⟩, 6), (⟨"HerdMasters", "nextViewLedBy", "(I)I"⟩, 6), (⟨"HerdMasters", "gatherMajority", "(I)Z"⟩, 6), (⟨"HerdMasters", "isMajority", "(I)Z"⟩, 6), (⟨"HerdMasters", "reaches", "(II)Z"⟩, 6), (⟨"HerdMasters", "bringMessage", "()Z"⟩, 6), (⟨"HerdMasters$Master", "takeLog", "(LHerdMasters$Master;)V"⟩, 9), (⟨"HerdMasters", "announceView", "(I)V"⟩, 6), (⟨"HerdMasters", "carryOutWhatIsDone", "()V"⟩, 6), (⟨"HerdMasters$Scheduler", "setQuota", "(II)I"⟩, 8), (⟨"HerdMasters$Scheduler", "addWorker", "(I)I"⟩, 8), (⟨"HerdMasters$Scheduler", "isSize", "(I)Z"⟩, 8), (⟨"HerdMasters$Scheduler", "addTask", "(IIII)I"⟩, 8), (⟨"HerdMasters$Scheduler", "placeTasks", "()I"⟩, 8), (⟨"HerdMasters$Scheduler", "tryToBegin", "(LHerdMasters$Task;)Z"⟩, 8)]
theorem lw_r1 : ∀ q ∈ lw_privs_1, lw_okq q := List.forall_mem_cons.mpr ⟨lw_p0, List.forall_mem_cons.mpr ⟨lw_p1, List.forall_mem_cons.mpr ⟨lw_p2, List.forall_mem_cons.mpr ⟨lw_p3, List.forall_mem_cons.mpr ⟨lw_p4, List.forall_mem_cons.mpr ⟨lw_p5, List.forall_mem_cons.mpr ⟨lw_p6, List.forall_mem_cons.mpr ⟨lw_p7, List.forall_mem_cons.mpr ⟨lw_p8, List.forall_mem_cons.mpr ⟨lw_p9, List.forall_mem_cons.mpr ⟨lw_p10, List.forall_mem_cons.mpr ⟨lw_p11, List.forall_mem_cons.mpr ⟨lw_p12, List.forall_mem_cons.mpr ⟨lw_p13, List.forall_mem_cons.mpr ⟨lw_p14, List.forall_mem_cons.mpr ⟨lw_p15, fun _ h => absurd h List.not_mem_nil⟩⟩⟩⟩⟩⟩⟩⟩⟩⟩⟩⟩⟩⟩⟩⟩
theorem lw_p16 : lw_okq (⟨"HerdMasters$Scheduler", "bestFit", "(I)I"⟩, 8) := ⟨⟨by decide +kernel, by decide +kernel⟩, List.mem_of_getElem? (i := 84) (by decide +kernel), List.mem_of_getElem? (i := 331) (by decide +kernel), List.mem_of_getElem? (i := 332) (by decide +kernel)⟩
theorem lw_p17 : lw_okq (⟨"HerdMasters$Scheduler", "easiestToClear", "(LHerdMasters$Task;)I"⟩, 8) := ⟨⟨by decide +kernel, by decide +kernel⟩, List.mem_of_getElem? (i := 84) (by decide +kernel), List.mem_of_getElem? (i := 339) (by decide +kernel), List.mem_of_getElem? (i := 340) (by decide +kernel)⟩
theorem lw_p18 : lw_okq (⟨"HerdMasters$Scheduler", "noteLeaving", "(ILHerdMasters$Task;I)I"⟩, 8) := ⟨⟨by decide +kernel, by decide +kernel⟩, List.mem_of_getElem? (i := 84) (by decide +kernel), List.mem_of_getElem? (i := 343) (by decide +kernel), List.mem_of_getElem? (i := 344) (by decide +kernel)⟩
theorem lw_p19 : lw_okq (⟨"HerdMasters$Scheduler", "finish", "(III)I"⟩, 8) := ⟨⟨by decide +kernel, by decide +kernel⟩, List.mem_of_getElem? (i := 84) (by decide +kernel), List.mem_of_getElem? (i := 355) (by decide +kernel), List.mem_of_getElem? (i := 356) (by decide +kernel)⟩
theorem lw_p20 : lw_okq (⟨"HerdMasters$Scheduler", "cancel", "(I)I"⟩, 8) := ⟨⟨by decide +kernel, by decide +kernel⟩, List.mem_of_getElem? (i := 84) (by decide +kernel), List.mem_of_getElem? (i := 359) (by decide +kernel), List.mem_of_getElem? (i := 360) (by decide +kernel)⟩
theorem lw_p21 : lw_okq (⟨"HerdMasters$Scheduler", "endLease", "(I)I"⟩, 8) := ⟨⟨by decide +kernel, by decide +kernel⟩, List.mem_of_getElem? (i := 84) (by decide +kernel), List.mem_of_getElem? (i := 363) (by decide +kernel), List.mem_of_getElem? (i := 364) (by decide +kernel)⟩
theorem lw_p22 : lw_okq (⟨"HerdMasters$Scheduler", "standing", "(I)I"⟩, 8) := ⟨⟨by decide +kernel, by decide +kernel⟩, List.mem_of_getElem? (i := 84) (by decide +kernel), List.mem_of_getElem? (i := 371) (by decide +kernel), List.mem_of_getElem? (i := 372) (by decide +kernel)⟩
theorem lw_p23 : lw_okq (⟨"HerdMasters", "isClient", "(I)Z"⟩, 6) := ⟨⟨by decide +kernel, by decide +kernel⟩, List.mem_of_getElem? (i := 10) (by decide +kernel), List.mem_of_getElem? (i := 379) (by decide +kernel), List.mem_of_getElem? (i := 380) (by decide +kernel)⟩
theorem lw_p24 : lw_okq (⟨"HerdMasters", "isNumber", "(I)Z"⟩, 6) := ⟨⟨by decide +kernel, by decide +kernel⟩, List.mem_of_getElem? (i := 10) (by decide +kernel), List.mem_of_getElem? (i := 383) (by decide +kernel), List.mem_of_getElem? (i := 384) (by decide +kernel)⟩
theorem lw_p25 : lw_okq (⟨"HerdMasters", "giveAnswer", "(LHerdMasters$Master;II)I"⟩, 6) := ⟨⟨by decide +kernel, by decide +kernel⟩, List.mem_of_getElem? (i := 10) (by decide +kernel), List.mem_of_getElem? (i := 396) (by decide +kernel), List.mem_of_getElem? (i := 397) (by decide +kernel)⟩
theorem lw_p26 : lw_okq (⟨"HerdMasters", "spreadLog", "(I)V"⟩, 6) := ⟨⟨by decide +kernel, by decide +kernel⟩, List.mem_of_getElem? (i := 10) (by decide +kernel), List.mem_of_getElem? (i := 408) (by decide +kernel), List.mem_of_getElem? (i := 409) (by decide +kernel)⟩
theorem lw_p27 : lw_okq (⟨"HerdMasters", "agreesWithThoseBefore", "(I)Z"⟩, 6) := ⟨⟨by decide +kernel, by decide +kernel⟩, List.mem_of_getElem? (i := 10) (by decide +kernel), List.mem_of_getElem? (i := 453) (by decide +kernel), List.mem_of_getElem? (i := 454) (by decide +kernel)⟩
theorem lw_p28 : lw_okq (⟨"HerdMasters", "greatestView", "()I"⟩, 6) := ⟨⟨by decide +kernel, by decide +kernel⟩, List.mem_of_getElem? (i := 10) (by decide +kernel), List.mem_of_getElem? (i := 476) (by decide +kernel), List.mem_of_getElem? (i := 477) (by decide +kernel)⟩
theorem lw_p29 : lw_okq (⟨"HerdMastersModel", "no", "(I)Z"⟩, 26) := ⟨⟨by decide +kernel, by decide +kernel⟩, List.mem_of_getElem? (i := 483) (by decide +kernel), List.mem_of_getElem? (i := 571) (by decide +kernel), List.mem_of_getElem? (i := 572) (by decide +kernel)⟩
theorem lw_p30 : lw_okq (⟨"HerdMastersModel", "reaches", "(II)Z"⟩, 26) := ⟨⟨by decide +kernel, by decide +kernel⟩, List.mem_of_getElem? (i := 483) (by decide +kernel), List.mem_of_getElem? (i := 586) (by decide +kernel), List.mem_of_getElem? (i := 587) (by decide +kernel)⟩
theorem lw_p31 : lw_okq (⟨"HerdMastersModel", "bring", "()Z"⟩, 26) := ⟨⟨by decide +kernel, by decide +kernel⟩, List.mem_of_getElem? (i := 483) (by decide +kernel), List.mem_of_getElem? (i := 590) (by decide +kernel), List.mem_of_getElem? (i := 591) (by decide +kernel)⟩
def lw_privs_2 : List (MethodName × Nat) := [(⟨"HerdMasters$Scheduler", "bestFit", "(I)I"⟩, 8), (⟨"HerdMasters$Scheduler", "easiestToClear", "(LHerdMasters$Task;)I"⟩, 8), (⟨"HerdMasters$Scheduler", "noteLeaving", "(ILHerdMasters$Task;I)I"⟩, 8), (⟨"HerdMasters$Scheduler", "finish", "(III)I"⟩, 8), (⟨"HerdMasters$Scheduler", "cancel", "(I)I"⟩, 8), (⟨"HerdMasters$Scheduler", "endLease", "(I)I"⟩, 8), (⟨"HerdMasters$Scheduler", "standing", "(I)I"⟩, 8), (⟨"HerdMasters", "isClient", "(I)Z"⟩, 6), (⟨"HerdMasters", "isNumber", "(I)Z"⟩, 6), (⟨"HerdMasters", "giveAnswer", "(LHerdMasters$Master;II)I"⟩, 6), (⟨"HerdMasters", "spreadLog", "(I)V"⟩, 6), (⟨"HerdMasters", "agreesWithThoseBefore", "(I)Z"⟩, 6), (⟨"HerdMasters", "greatestView", "()I"⟩, 6), (⟨"HerdMastersModel", "no", "(I)Z"⟩, 26), (⟨"HerdMastersModel", "reaches", "(II)Z"⟩, 26), (⟨"HerdMastersModel", "bring", "()Z"⟩, 26)]
theorem lw_r2 : ∀ q ∈ lw_privs_2, lw_okq q := List.forall_mem_cons.mpr ⟨lw_p16, List.forall_mem_cons.mpr ⟨lw_p17, List.forall_mem_cons.mpr ⟨lw_p18, List.forall_mem_cons.mpr ⟨lw_p19, List.forall_mem_cons.mpr ⟨lw_p20, List.forall_mem_cons.mpr ⟨lw_p21, List.forall_mem_cons.mpr ⟨lw_p22, List.forall_mem_cons.mpr ⟨lw_p23, List.forall_mem_cons.mpr ⟨lw_p24, List.forall_mem_cons.mpr ⟨lw_p25, List.forall_mem_cons.mpr ⟨lw_p26, List.forall_mem_cons.mpr ⟨lw_p27, List.forall_mem_cons.mpr ⟨lw_p28, List.forall_mem_cons.mpr ⟨lw_p29, List.forall_mem_cons.mpr ⟨lw_p30, List.forall_mem_cons.mpr ⟨lw_p31, fun _ h => absurd h List.not_mem_nil⟩⟩⟩⟩⟩⟩⟩⟩⟩⟩⟩⟩⟩⟩⟩⟩
theorem lw_p32 : lw_okq (⟨"HerdMastersModel", "isNormal", "(I)Z"⟩, 26) := ⟨⟨by decide +kernel, by decide +kernel⟩, List.mem_of_getElem? (i := 483) (by decide +kernel), List.mem_of_getElem? (i := 594) (by decide +kernel), List.mem_of_getElem? (i := 595) (by decide +kernel)⟩
theorem lw_p33 : lw_okq (⟨"HerdMastersModel", "copyLog", "(II)V"⟩, 26) := ⟨⟨by decide +kernel, by decide +kernel⟩, List.mem_of_getElem? (i := 483) (by decide +kernel), List.mem_of_getElem? (i := 598) (by decide +kernel), List.mem_of_getElem? (i := 599) (by decide +kernel)⟩
theorem lw_p34 : lw_okq (⟨"HerdMastersModel", "takes", "(II)Z"⟩, 26) := ⟨⟨by decide +kernel, by decide +kernel⟩, List.mem_of_getElem? (i := 483) (by decide +kernel), List.mem_of_getElem? (i := 602) (by decide +kernel), List.mem_of_getElem? (i := 603) (by decide +kernel)⟩
theorem lw_p35 : lw_okq (⟨"HerdMastersModel", "replay", "(II)I"⟩, 26) := ⟨⟨by decide +kernel, by decide +kernel⟩, List.mem_of_getElem? (i := 483) (by decide +kernel), List.mem_of_getElem? (i := 610) (by decide +kernel), List.mem_of_getElem? (i := 611) (by decide +kernel)⟩
theorem lw_p36 : lw_okq (⟨"HerdMastersModel", "act", "(IIIII)I"⟩, 26) := ⟨⟨by decide +kernel, by decide +kernel⟩, List.mem_of_getElem? (i := 483) (by decide +kernel), List.mem_of_getElem? (i := 614) (by decide +kernel), List.mem_of_getElem? (i := 615) (by decide +kernel)⟩
theorem lw_p37 : lw_okq (⟨"HerdMastersModel", "come", "(IIII)I"⟩, 26) := ⟨⟨by decide +kernel, by decide +kernel⟩, List.mem_of_getElem? (i := 483) (by decide +kernel), List.mem_of_getElem? (i := 618) (by decide +kernel), List.mem_of_getElem? (i := 619) (by decide +kernel)⟩
theorem lw_p38 : lw_okq (⟨"HerdMastersModel", "placing", "()I"⟩, 26) := ⟨⟨by decide +kernel, by decide +kernel⟩, List.mem_of_getElem? (i := 483) (by decide +kernel), List.mem_of_getElem? (i := 622) (by decide +kernel), List.mem_of_getElem? (i := 623) (by decide +kernel)⟩
theorem lw_p39 : lw_okq (⟨"HerdMastersModel", "uses", "(I)I"⟩, 26) := ⟨⟨by decide +kernel, by decide +kernel⟩, List.mem_of_getElem? (i := 483) (by decide +kernel), List.mem_of_getElem? (i := 626) (by decide +kernel), List.mem_of_getElem? (i := 627) (by decide +kernel)⟩
theorem lw_p40 : lw_okq (⟨"HerdMastersModel", "workerFor", "(I)I"⟩, 26) := ⟨⟨by decide +kernel, by decide +kernel⟩, List.mem_of_getElem? (i := 483) (by decide +kernel), List.mem_of_getElem? (i := 630) (by decide +kernel), List.mem_of_getElem? (i := 631) (by decide +kernel)⟩
theorem lw_p41 : lw_okq (⟨"HerdMastersModel", "free", "(I)I"⟩, 26) := ⟨⟨by decide +kernel, by decide +kernel⟩, List.mem_of_getElem? (i := 483) (by decide +kernel), List.mem_of_getElem? (i := 634) (by decide +kernel), List.mem_of_getElem? (i := 635) (by decide +kernel)⟩
theorem lw_p42 : lw_okq (⟨"HerdMastersModel", "mustGo", "(II)I"⟩, 26) := ⟨⟨by decide +kernel, by decide +kernel⟩, List.mem_of_getElem? (i := 483) (by decide +kernel), List.mem_of_getElem? (i := 638) (by decide +kernel), List.mem_of_getElem? (i := 639) (by decide +kernel)⟩
theorem lw_p43 : lw_okq (⟨"HerdMastersModel", "weakest", "(III)I"⟩, 26) := ⟨⟨by decide +kernel, by decide +kernel⟩, List.mem_of_getElem? (i := 483) (by decide +kernel), List.mem_of_getElem? (i := 642) (by decide +kernel), List.mem_of_getElem? (i := 643) (by decide +kernel)⟩
theorem lw_p44 : lw_okq (⟨"HerdMastersModel", "rank", "(I)I"⟩, 26) := ⟨⟨by decide +kernel, by decide +kernel⟩, List.mem_of_getElem? (i := 483) (by decide +kernel), List.mem_of_getElem? (i := 646) (by decide +kernel), List.mem_of_getElem? (i := 647) (by decide +kernel)⟩
theorem lw_p45 : lw_okq (⟨"HerdMastersModel", "noTask", "(I)Z"⟩, 26) := ⟨⟨by decide +kernel, by decide +kernel⟩, List.mem_of_getElem? (i := 483) (by decide +kernel), List.mem_of_getElem? (i := 650) (by decide +kernel), List.mem_of_getElem? (i := 651) (by decide +kernel)⟩
theorem lw_p46 : lw_okq (⟨"HerdMastersModel", "give", "(III)I"⟩, 26) := ⟨⟨by decide +kernel, by decide +kernel⟩, List.mem_of_getElem? (i := 483) (by decide +kernel), List.mem_of_getElem? (i := 654) (by decide +kernel), List.mem_of_getElem? (i := 655) (by decide +kernel)⟩
theorem lw_p47 : lw_okq (⟨"HerdMastersModel", "isSame", "(II)Z"⟩, 26) := ⟨⟨by decide +kernel, by decide +kernel⟩, List.mem_of_getElem? (i := 483) (by decide +kernel), List.mem_of_getElem? (i := 682) (by decide +kernel), List.mem_of_getElem? (i := 683) (by decide +kernel)⟩
def lw_privs_3 : List (MethodName × Nat) := [(⟨"HerdMastersModel", "isNormal", "(I)Z"⟩, 26), (⟨"HerdMastersModel", "copyLog", "(II)V"⟩, 26), (⟨"HerdMastersModel", "takes", "(II)Z"⟩, 26), (⟨"HerdMastersModel", "replay", "(II)I"⟩, 26), (⟨"HerdMastersModel", "act", "(IIIII)I"⟩, 26), (⟨"HerdMastersModel", "come", "(IIII)I"⟩, 26), (⟨"HerdMastersModel", "placing", "()I"⟩, 26), (⟨"HerdMastersModel", "uses", "(I)I"⟩, 26), (⟨"HerdMastersModel", "workerFor", "(I)I"⟩, 26), (⟨"HerdMastersModel", "free", "(I)I"⟩, 26), (⟨"HerdMastersModel", "mustGo", "(II)I"⟩, 26), (⟨"HerdMastersModel", "weakest", "(III)I"⟩, 26), (⟨"HerdMastersModel", "rank", "(I)I"⟩, 26), (⟨"HerdMastersModel", "noTask", "(I)Z"⟩, 26), (⟨"HerdMastersModel", "give", "(III)I"⟩, 26), (⟨"HerdMastersModel", "isSame", "(II)Z"⟩, 26)]
theorem lw_r3 : ∀ q ∈ lw_privs_3, lw_okq q := List.forall_mem_cons.mpr ⟨lw_p32, List.forall_mem_cons.mpr ⟨lw_p33, List.forall_mem_cons.mpr ⟨lw_p34, List.forall_mem_cons.mpr ⟨lw_p35, List.forall_mem_cons.mpr ⟨lw_p36, List.forall_mem_cons.mpr ⟨lw_p37, List.forall_mem_cons.mpr ⟨lw_p38, List.forall_mem_cons.mpr ⟨lw_p39, List.forall_mem_cons.mpr ⟨lw_p40, List.forall_mem_cons.mpr ⟨lw_p41, List.forall_mem_cons.mpr ⟨lw_p42, List.forall_mem_cons.mpr ⟨lw_p43, List.forall_mem_cons.mpr ⟨lw_p44, List.forall_mem_cons.mpr ⟨lw_p45, List.forall_mem_cons.mpr ⟨lw_p46, List.forall_mem_cons.mpr ⟨lw_p47, fun _ h => absurd h List.not_mem_nil⟩⟩⟩⟩⟩⟩⟩⟩⟩⟩⟩⟩⟩⟩⟩⟩
def lw_privs : List (MethodName × Nat) := lw_privs_1 ++ (lw_privs_2 ++ (lw_privs_3))
def lw_tbl : List Cond := k2_sels lw_privs ++ tables_1
theorem lw_privs_ok : ∀ q ∈ lw_privs, lw_okq q := by
  show ∀ q ∈ lw_privs_1 ++ (lw_privs_2 ++ (lw_privs_3)), lw_okq q
  exact List.forall_mem_append.mpr ⟨lw_r1, List.forall_mem_append.mpr ⟨lw_r2, lw_r3⟩⟩
end
section
def RX0 : String := "HerdMasters$GivenAnswers"
def TX0 : u_T := fun k => match k with
  | 0 => ("HerdMasters$GivenAnswers", "isGiven", "[Z", true)
  | 1 => ("HerdMasters$GivenAnswers", "answers", "[I", true)
  | 2 => ("HerdMasters$GivenAnswers", "count", "I", false)
  | _ => ("HerdMasters$GivenAnswers", "contradicted", "Z", false)
def tyX0 : Nat → FieldType := fun k => match k with
  | 0 => .array .boolean
  | 1 => .array .int
  | 2 => .int
  | _ => .boolean
abbrev wsX00 : List Cond := u_ws RX0 TX0 4
theorem nmX0 : ∀ a, a < 4 → ∀ b, b < 4 → a ≠ b → (TX0 a).2.1 ≠ (TX0 b).2.1 := by decide +kernel
theorem tyX0_ok : ∀ k, k < 4 → parseFieldDescriptor (TX0 k).2.2.1 = some (tyX0 k) := by decide +kernel
abbrev cX0_init : ByteArray := prog_2_method_1_code
def yX0_init : MethodName := ⟨RX0, "<init>", "()V"⟩
abbrev cX0_add : ByteArray := prog_2_method_2_code
def yX0_add : MethodName := ⟨RX0, "add", "(II)V"⟩
abbrev cX0_standBy : ByteArray := prog_2_method_3_code
def yX0_standBy : MethodName := ⟨RX0, "standBy", "(LHerdMasters$Master;)Z"⟩
def RX1 : String := "HerdMasters$Master"
def TX1 : u_T := fun k => match k with
  | 0 => ("HerdMasters$Master", "entries", "[LHerdMasters$Order;", true)
  | 1 => ("HerdMasters$Master", "scheduler", "LHerdMasters$Scheduler;", true)
  | 2 => ("HerdMasters$Master", "answers", "[I", true)
  | 3 => ("HerdMasters$Master", "carriedOut", "I", false)
  | 4 => ("HerdMasters$Master", "view", "I", false)
  | 5 => ("HerdMasters$Master", "lastNormal", "I", false)
  | 6 => ("HerdMasters$Master", "length", "I", false)
  | 7 => ("HerdMasters$Master", "done", "I", false)
  | _ => ("HerdMasters$Master", "isUp", "Z", false)
def tyX1 : Nat → FieldType := fun k => match k with
  | 0 => .array (.object "HerdMasters$Order")
  | 1 => .object "HerdMasters$Scheduler"
  | 2 => .array .int
  | 3 => .int
  | 4 => .int
  | 5 => .int
  | 6 => .int
  | 7 => .int
  | _ => .boolean
abbrev wsX10 : List Cond := u_ws RX1 TX1 9
theorem nmX1 : ∀ a, a < 9 → ∀ b, b < 9 → a ≠ b → (TX1 a).2.1 ≠ (TX1 b).2.1 := by decide +kernel
theorem tyX1_ok : ∀ k, k < 9 → parseFieldDescriptor (TX1 k).2.2.1 = some (tyX1 k) := by decide +kernel
abbrev cX1_init : ByteArray := prog_3_method_1_code
def yX1_init : MethodName := ⟨RX1, "<init>", "(LHerdMasters$Order;)V"⟩
abbrev cX1_isNormal : ByteArray := prog_3_method_2_code
def yX1_isNormal : MethodName := ⟨RX1, "isNormal", "()Z"⟩
abbrev cX1_joins : ByteArray := prog_3_method_3_code
def yX1_joins : MethodName := ⟨RX1, "joins", "(I)Z"⟩
abbrev cX1_knowsMoreThan : ByteArray := prog_3_method_4_code
def yX1_knowsMoreThan : MethodName := ⟨RX1, "knowsMoreThan", "(LHerdMasters$Master;)Z"⟩
abbrev cX1_lead : ByteArray := prog_3_method_5_code
def yX1_lead : MethodName := ⟨RX1, "lead", "(LHerdMasters$Master;I)V"⟩
abbrev cX1_follow : ByteArray := prog_3_method_6_code
def yX1_follow : MethodName := ⟨RX1, "follow", "(LHerdMasters$Master;)Z"⟩
abbrev cX1_takeLog : ByteArray := prog_3_method_7_code
def yX1_takeLog : MethodName := ⟨RX1, "takeLog", "(LHerdMasters$Master;)V"⟩
abbrev cX1_append : ByteArray := prog_3_method_8_code
def yX1_append : MethodName := ⟨RX1, "append", "(LHerdMasters$Order;)V"⟩
abbrev cX1_greatestNumberOf : ByteArray := prog_3_method_9_code
def yX1_greatestNumberOf : MethodName := ⟨RX1, "greatestNumberOf", "(I)I"⟩
abbrev cX1_placeOf : ByteArray := prog_3_method_10_code
def yX1_placeOf : MethodName := ⟨RX1, "placeOf", "(II)I"⟩
abbrev cX1_hasSameDoneAs : ByteArray := prog_3_method_11_code
def yX1_hasSameDoneAs : MethodName := ⟨RX1, "hasSameDoneAs", "(LHerdMasters$Master;)Z"⟩
def RX2 : String := "HerdMasters$Order"
def TX2 : u_T := fun k => match k with
  | 0 => ("HerdMasters$Order", "client", "I", true)
  | 1 => ("HerdMasters$Order", "number", "I", true)
  | 2 => ("HerdMasters$Order", "kind", "I", true)
  | 3 => ("HerdMasters$Order", "a", "I", true)
  | 4 => ("HerdMasters$Order", "b", "I", true)
  | 5 => ("HerdMasters$Order", "c", "I", true)
  | _ => ("HerdMasters$Order", "d", "I", true)
def tyX2 : Nat → FieldType := fun k => match k with
  | 0 => .int
  | 1 => .int
  | 2 => .int
  | 3 => .int
  | 4 => .int
  | 5 => .int
  | _ => .int
abbrev wsX20 : List Cond := u_ws RX2 TX2 7
theorem nmX2 : ∀ a, a < 7 → ∀ b, b < 7 → a ≠ b → (TX2 a).2.1 ≠ (TX2 b).2.1 := by decide +kernel
theorem tyX2_ok : ∀ k, k < 7 → parseFieldDescriptor (TX2 k).2.2.1 = some (tyX2 k) := by decide +kernel
abbrev cX2_init : ByteArray := prog_4_method_1_code
def yX2_init : MethodName := ⟨RX2, "<init>", "(IIIIIII)V"⟩
abbrev cX2_part : ByteArray := prog_4_method_2_code
def yX2_part : MethodName := ⟨RX2, "part", "(I)I"⟩
abbrev cX2_isSameAs : ByteArray := prog_4_method_3_code
def yX2_isSameAs : MethodName := ⟨RX2, "isSameAs", "(LHerdMasters$Order;)Z"⟩
def RX3 : String := "HerdMasters$Scheduler"
def TX3 : u_T := fun k => match k with
  | 0 => ("HerdMasters$Scheduler", "quotas", "[I", true)
  | 1 => ("HerdMasters$Scheduler", "bounds", "[I", true)
  | 2 => ("HerdMasters$Scheduler", "capacities", "[I", true)
  | 3 => ("HerdMasters$Scheduler", "tasks", "[LHerdMasters$Task;", true)
  | 4 => ("HerdMasters$Scheduler", "waitedAtFirst", "[Z", true)
  | 5 => ("HerdMasters$Scheduler", "leaving", "[I", true)
  | 6 => ("HerdMasters$Scheduler", "workerCount", "I", false)
  | _ => ("HerdMasters$Scheduler", "taskCount", "I", false)
def tyX3 : Nat → FieldType := fun k => match k with
  | 0 => .array .int
  | 1 => .array .int
  | 2 => .array .int
  | 3 => .array (.object "HerdMasters$Task")
  | 4 => .array .boolean
  | 5 => .array .int
  | 6 => .int
  | _ => .int
abbrev wsX30 : List Cond := u_ws RX3 TX3 8
theorem nmX3 : ∀ a, a < 8 → ∀ b, b < 8 → a ≠ b → (TX3 a).2.1 ≠ (TX3 b).2.1 := by decide +kernel
theorem tyX3_ok : ∀ k, k < 8 → parseFieldDescriptor (TX3 k).2.2.1 = some (tyX3 k) := by decide +kernel
abbrev cX3_init : ByteArray := prog_5_method_1_code
def yX3_init : MethodName := ⟨RX3, "<init>", "()V"⟩
abbrev cX3_isUser : ByteArray := prog_5_method_2_code
def yX3_isUser : MethodName := ⟨RX3, "isUser", "(I)Z"⟩
abbrev cX3_isWorker : ByteArray := prog_5_method_3_code
def yX3_isWorker : MethodName := ⟨RX3, "isWorker", "(I)Z"⟩
abbrev cX3_isTask : ByteArray := prog_5_method_4_code
def yX3_isTask : MethodName := ⟨RX3, "isTask", "(I)Z"⟩
abbrev cX3_isSize : ByteArray := prog_5_method_5_code
def yX3_isSize : MethodName := ⟨RX3, "isSize", "(I)Z"⟩
abbrev cX3_answerTo : ByteArray := prog_5_method_6_code
def yX3_answerTo : MethodName := ⟨RX3, "answerTo", "(LHerdMasters$Order;)I"⟩
abbrev cX3_setQuota : ByteArray := prog_5_method_7_code
def yX3_setQuota : MethodName := ⟨RX3, "setQuota", "(II)I"⟩
abbrev cX3_addWorker : ByteArray := prog_5_method_8_code
def yX3_addWorker : MethodName := ⟨RX3, "addWorker", "(I)I"⟩
abbrev cX3_addTask : ByteArray := prog_5_method_9_code
def yX3_addTask : MethodName := ⟨RX3, "addTask", "(IIII)I"⟩
abbrev cX3_finish : ByteArray := prog_5_method_10_code
def yX3_finish : MethodName := ⟨RX3, "finish", "(III)I"⟩
abbrev cX3_cancel : ByteArray := prog_5_method_11_code
def yX3_cancel : MethodName := ⟨RX3, "cancel", "(I)I"⟩
abbrev cX3_endLease : ByteArray := prog_5_method_12_code
def yX3_endLease : MethodName := ⟨RX3, "endLease", "(I)I"⟩
abbrev cX3_standing : ByteArray := prog_5_method_13_code
def yX3_standing : MethodName := ⟨RX3, "standing", "(I)I"⟩
abbrev cX3_placeTasks : ByteArray := prog_5_method_14_code
def yX3_placeTasks : MethodName := ⟨RX3, "placeTasks", "()I"⟩
abbrev cX3_tryToBegin : ByteArray := prog_5_method_15_code
def yX3_tryToBegin : MethodName := ⟨RX3, "tryToBegin", "(LHerdMasters$Task;)Z"⟩
abbrev cX3_bestFit : ByteArray := prog_5_method_16_code
def yX3_bestFit : MethodName := ⟨RX3, "bestFit", "(I)I"⟩
abbrev cX3_easiestToClear : ByteArray := prog_5_method_17_code
def yX3_easiestToClear : MethodName := ⟨RX3, "easiestToClear", "(LHerdMasters$Task;)I"⟩
abbrev cX3_noteLeaving : ByteArray := prog_5_method_18_code
def yX3_noteLeaving : MethodName := ⟨RX3, "noteLeaving", "(ILHerdMasters$Task;I)I"⟩
abbrev cX3_freeOn : ByteArray := prog_5_method_19_code
def yX3_freeOn : MethodName := ⟨RX3, "freeOn", "(I)I"⟩
abbrev cX3_usedBy : ByteArray := prog_5_method_20_code
def yX3_usedBy : MethodName := ⟨RX3, "usedBy", "(I)I"⟩
abbrev cX3_keepsBounds : ByteArray := prog_5_method_21_code
def yX3_keepsBounds : MethodName := ⟨RX3, "keepsBounds", "()Z"⟩
def RX4 : String := "HerdMasters$Task"
def TX4 : u_T := fun k => match k with
  | 0 => ("HerdMasters$Task", "user", "I", false)
  | 1 => ("HerdMasters$Task", "need", "I", false)
  | 2 => ("HerdMasters$Task", "priority", "I", false)
  | 3 => ("HerdMasters$Task", "before", "I", false)
  | 4 => ("HerdMasters$Task", "state", "I", false)
  | 5 => ("HerdMasters$Task", "attempt", "I", false)
  | 6 => ("HerdMasters$Task", "place", "I", false)
  | _ => ("HerdMasters$Task", "output", "I", false)
def tyX4 : Nat → FieldType := fun k => match k with
  | 0 => .int
  | 1 => .int
  | 2 => .int
  | 3 => .int
  | 4 => .int
  | 5 => .int
  | 6 => .int
  | _ => .int
abbrev wsX40 : List Cond := u_ws RX4 TX4 8
theorem nmX4 : ∀ a, a < 8 → ∀ b, b < 8 → a ≠ b → (TX4 a).2.1 ≠ (TX4 b).2.1 := by decide +kernel
theorem tyX4_ok : ∀ k, k < 8 → parseFieldDescriptor (TX4 k).2.2.1 = some (tyX4 k) := by decide +kernel
abbrev cX4_init : ByteArray := prog_6_method_1_code
def yX4_init : MethodName := ⟨RX4, "<init>", "()V"⟩
abbrev cX4_beginOn : ByteArray := prog_6_method_2_code
def yX4_beginOn : MethodName := ⟨RX4, "beginOn", "(I)V"⟩
abbrev cX4_leave : ByteArray := prog_6_method_3_code
def yX4_leave : MethodName := ⟨RX4, "leave", "(I)V"⟩
abbrev cX4_part : ByteArray := prog_6_method_4_code
def yX4_part : MethodName := ⟨RX4, "part", "(I)I"⟩
def RX5 : String := "HerdMasters"
def TX5 : u_T := fun k => match k with
  | 0 => ("HerdMasters", "size", "I", true)
  | 1 => ("HerdMasters", "masters", "[LHerdMasters$Master;", true)
  | 2 => ("HerdMasters", "cut", "[Z", true)
  | 3 => ("HerdMasters", "given", "LHerdMasters$GivenAnswers;", true)
  | 4 => ("HerdMasters", "messagesLeft", "I", false)
  | _ => ("HerdMasters", "messagesBrought", "I", false)
def tyX5 : Nat → FieldType := fun k => match k with
  | 0 => .int
  | 1 => .array (.object "HerdMasters$Master")
  | 2 => .array .boolean
  | 3 => .object "HerdMasters$GivenAnswers"
  | 4 => .int
  | _ => .int
abbrev wsX50 : List Cond := u_ws RX5 TX5 6
theorem nmX5 : ∀ a, a < 6 → ∀ b, b < 6 → a ≠ b → (TX5 a).2.1 ≠ (TX5 b).2.1 := by decide +kernel
theorem tyX5_ok : ∀ k, k < 6 → parseFieldDescriptor (TX5 k).2.2.1 = some (tyX5 k) := by decide +kernel
abbrev cX5_init : ByteArray := prog_1_method_1_code
def yX5_init : MethodName := ⟨RX5, "<init>", "(I)V"⟩
abbrev cX5_link : ByteArray := prog_1_method_2_code
def yX5_link : MethodName := ⟨RX5, "link", "(IIZ)Z"⟩
abbrev cX5_up : ByteArray := prog_1_method_3_code
def yX5_up : MethodName := ⟨RX5, "up", "(IZ)Z"⟩
abbrev cX5_change : ByteArray := prog_1_method_4_code
def yX5_change : MethodName := ⟨RX5, "change", "(II)I"⟩
abbrev cX5_order : ByteArray := prog_1_method_5_code
def yX5_order : MethodName := ⟨RX5, "order", "(IIIIIIIII)I"⟩
abbrev cX5_told : ByteArray := prog_1_method_6_code
def yX5_told : MethodName := ⟨RX5, "told", "(II)I"⟩
abbrev cX5_log : ByteArray := prog_1_method_7_code
def yX5_log : MethodName := ⟨RX5, "log", "(III)I"⟩
abbrev cX5_task : ByteArray := prog_1_method_8_code
def yX5_task : MethodName := ⟨RX5, "task", "(III)I"⟩
abbrev cX5_worker : ByteArray := prog_1_method_9_code
def yX5_worker : MethodName := ⟨RX5, "worker", "(III)I"⟩
abbrev cX5_used : ByteArray := prog_1_method_10_code
def yX5_used : MethodName := ⟨RX5, "used", "(II)I"⟩
abbrev cX5_agree : ByteArray := prog_1_method_11_code
def yX5_agree : MethodName := ⟨RX5, "agree", "()Z"⟩
abbrev cX5_count : ByteArray := prog_1_method_12_code
def yX5_count : MethodName := ⟨RX5, "count", "(I)I"⟩
abbrev cX5_isMaster : ByteArray := prog_1_method_13_code
def yX5_isMaster : MethodName := ⟨RX5, "isMaster", "(I)Z"⟩
abbrev cX5_isClient : ByteArray := prog_1_method_14_code
def yX5_isClient : MethodName := ⟨RX5, "isClient", "(I)Z"⟩
abbrev cX5_isNumber : ByteArray := prog_1_method_15_code
def yX5_isNumber : MethodName := ⟨RX5, "isNumber", "(I)Z"⟩
abbrev cX5_areMessages : ByteArray := prog_1_method_16_code
def yX5_areMessages : MethodName := ⟨RX5, "areMessages", "(I)Z"⟩
abbrev cX5_isMajority : ByteArray := prog_1_method_17_code
def yX5_isMajority : MethodName := ⟨RX5, "isMajority", "(I)Z"⟩
abbrev cX5_reaches : ByteArray := prog_1_method_18_code
def yX5_reaches : MethodName := ⟨RX5, "reaches", "(II)Z"⟩
abbrev cX5_nextViewLedBy : ByteArray := prog_1_method_19_code
def yX5_nextViewLedBy : MethodName := ⟨RX5, "nextViewLedBy", "(I)I"⟩
abbrev cX5_greatestView : ByteArray := prog_1_method_20_code
def yX5_greatestView : MethodName := ⟨RX5, "greatestView", "()I"⟩
abbrev cX5_bringMessage : ByteArray := prog_1_method_21_code
def yX5_bringMessage : MethodName := ⟨RX5, "bringMessage", "()Z"⟩
abbrev cX5_gatherMajority : ByteArray := prog_1_method_22_code
def yX5_gatherMajority : MethodName := ⟨RX5, "gatherMajority", "(I)Z"⟩
abbrev cX5_announceView : ByteArray := prog_1_method_23_code
def yX5_announceView : MethodName := ⟨RX5, "announceView", "(I)V"⟩
abbrev cX5_spreadLog : ByteArray := prog_1_method_24_code
def yX5_spreadLog : MethodName := ⟨RX5, "spreadLog", "(I)V"⟩
abbrev cX5_carryOutWhatIsDone : ByteArray := prog_1_method_25_code
def yX5_carryOutWhatIsDone : MethodName := ⟨RX5, "carryOutWhatIsDone", "()V"⟩
abbrev cX5_giveAnswer : ByteArray := prog_1_method_26_code
def yX5_giveAnswer : MethodName := ⟨RX5, "giveAnswer", "(LHerdMasters$Master;II)I"⟩
abbrev cX5_agreesWithThoseBefore : ByteArray := prog_1_method_27_code
def yX5_agreesWithThoseBefore : MethodName := ⟨RX5, "agreesWithThoseBefore", "(I)Z"⟩
def RX6 : String := "HerdMastersModel"
def TX6 : u_T := fun k => match k with
  | 0 => ("HerdMastersModel", "thrown", "I", false)
  | 1 => ("HerdMastersModel", "masters", "I", false)
  | 2 => ("HerdMastersModel", "views", "[I", true)
  | 3 => ("HerdMastersModel", "normals", "[I", true)
  | 4 => ("HerdMastersModel", "lengths", "[I", true)
  | 5 => ("HerdMastersModel", "done", "[I", true)
  | 6 => ("HerdMastersModel", "down", "[Z", true)
  | 7 => ("HerdMastersModel", "apart", "[Z", true)
  | 8 => ("HerdMastersModel", "logs", "[I", true)
  | 9 => ("HerdMastersModel", "left", "I", false)
  | 10 => ("HerdMastersModel", "brought", "I", false)
  | 11 => ("HerdMastersModel", "answered", "I", false)
  | 12 => ("HerdMastersModel", "given", "[I", true)
  | 13 => ("HerdMastersModel", "quotas", "[I", true)
  | 14 => ("HerdMastersModel", "workers", "I", false)
  | 15 => ("HerdMastersModel", "capacities", "[I", true)
  | 16 => ("HerdMastersModel", "tasks", "I", false)
  | 17 => ("HerdMastersModel", "users", "[I", true)
  | 18 => ("HerdMastersModel", "needs", "[I", true)
  | 19 => ("HerdMastersModel", "priorities", "[I", true)
  | 20 => ("HerdMastersModel", "behind", "[I", true)
  | 21 => ("HerdMastersModel", "states", "[I", true)
  | 22 => ("HerdMastersModel", "attempts", "[I", true)
  | 23 => ("HerdMastersModel", "places", "[I", true)
  | 24 => ("HerdMastersModel", "outputs", "[I", true)
  | _ => ("HerdMastersModel", "waited", "[Z", true)
def tyX6 : Nat → FieldType := fun k => match k with
  | 0 => .int
  | 1 => .int
  | 2 => .array .int
  | 3 => .array .int
  | 4 => .array .int
  | 5 => .array .int
  | 6 => .array .boolean
  | 7 => .array .boolean
  | 8 => .array .int
  | 9 => .int
  | 10 => .int
  | 11 => .int
  | 12 => .array .int
  | 13 => .array .int
  | 14 => .int
  | 15 => .array .int
  | 16 => .int
  | 17 => .array .int
  | 18 => .array .int
  | 19 => .array .int
  | 20 => .array .int
  | 21 => .array .int
  | 22 => .array .int
  | 23 => .array .int
  | 24 => .array .int
  | _ => .array .boolean
abbrev wsX60 : List Cond := u_ws RX6 TX6 26
theorem nmX6 : ∀ a, a < 26 → ∀ b, b < 26 → a ≠ b → (TX6 a).2.1 ≠ (TX6 b).2.1 := by decide +kernel
theorem tyX6_ok : ∀ k, k < 26 → parseFieldDescriptor (TX6 k).2.2.1 = some (tyX6 k) := by decide +kernel
abbrev cX6_init : ByteArray := prog_8_method_1_code
def yX6_init : MethodName := ⟨RX6, "<init>", "(I)V"⟩
abbrev cX6_no : ByteArray := prog_8_method_3_code
def yX6_no : MethodName := ⟨RX6, "no", "(I)Z"⟩
abbrev cX6_isIn : ByteArray := prog_8_method_4_code
def yX6_isIn : MethodName := ⟨RX6, "isIn", "(III)Z"⟩
abbrev cX6_link : ByteArray := prog_8_method_5_code
def yX6_link : MethodName := ⟨RX6, "link", "(IIZ)Z"⟩
abbrev cX6_up : ByteArray := prog_8_method_6_code
def yX6_up : MethodName := ⟨RX6, "up", "(IZ)Z"⟩
abbrev cX6_reaches : ByteArray := prog_8_method_7_code
def yX6_reaches : MethodName := ⟨RX6, "reaches", "(II)Z"⟩
abbrev cX6_isNormal : ByteArray := prog_8_method_8_code
def yX6_isNormal : MethodName := ⟨RX6, "isNormal", "(I)Z"⟩
abbrev cX6_bring : ByteArray := prog_8_method_9_code
def yX6_bring : MethodName := ⟨RX6, "bring", "()Z"⟩
abbrev cX6_takes : ByteArray := prog_8_method_10_code
def yX6_takes : MethodName := ⟨RX6, "takes", "(II)Z"⟩
abbrev cX6_copyLog : ByteArray := prog_8_method_11_code
def yX6_copyLog : MethodName := ⟨RX6, "copyLog", "(II)V"⟩
abbrev cX6_change : ByteArray := prog_8_method_12_code
def yX6_change : MethodName := ⟨RX6, "change", "(II)I"⟩
abbrev cX6_order : ByteArray := prog_8_method_13_code
def yX6_order : MethodName := ⟨RX6, "order", "(IIIIIIIII)I"⟩
abbrev cX6_give : ByteArray := prog_8_method_14_code
def yX6_give : MethodName := ⟨RX6, "give", "(III)I"⟩
abbrev cX6_replay : ByteArray := prog_8_method_15_code
def yX6_replay : MethodName := ⟨RX6, "replay", "(II)I"⟩
abbrev cX6_noTask : ByteArray := prog_8_method_16_code
def yX6_noTask : MethodName := ⟨RX6, "noTask", "(I)Z"⟩
abbrev cX6_act : ByteArray := prog_8_method_17_code
def yX6_act : MethodName := ⟨RX6, "act", "(IIIII)I"⟩
abbrev cX6_come : ByteArray := prog_8_method_18_code
def yX6_come : MethodName := ⟨RX6, "come", "(IIII)I"⟩
abbrev cX6_free : ByteArray := prog_8_method_19_code
def yX6_free : MethodName := ⟨RX6, "free", "(I)I"⟩
abbrev cX6_uses : ByteArray := prog_8_method_20_code
def yX6_uses : MethodName := ⟨RX6, "uses", "(I)I"⟩
abbrev cX6_weakest : ByteArray := prog_8_method_21_code
def yX6_weakest : MethodName := ⟨RX6, "weakest", "(III)I"⟩
abbrev cX6_rank : ByteArray := prog_8_method_22_code
def yX6_rank : MethodName := ⟨RX6, "rank", "(I)I"⟩
abbrev cX6_mustGo : ByteArray := prog_8_method_23_code
def yX6_mustGo : MethodName := ⟨RX6, "mustGo", "(II)I"⟩
abbrev cX6_workerFor : ByteArray := prog_8_method_24_code
def yX6_workerFor : MethodName := ⟨RX6, "workerFor", "(I)I"⟩
abbrev cX6_placing : ByteArray := prog_8_method_25_code
def yX6_placing : MethodName := ⟨RX6, "placing", "()I"⟩
abbrev cX6_told : ByteArray := prog_8_method_26_code
def yX6_told : MethodName := ⟨RX6, "told", "(II)I"⟩
abbrev cX6_log : ByteArray := prog_8_method_27_code
def yX6_log : MethodName := ⟨RX6, "log", "(III)I"⟩
abbrev cX6_task : ByteArray := prog_8_method_28_code
def yX6_task : MethodName := ⟨RX6, "task", "(III)I"⟩
abbrev cX6_worker : ByteArray := prog_8_method_29_code
def yX6_worker : MethodName := ⟨RX6, "worker", "(III)I"⟩
abbrev cX6_used : ByteArray := prog_8_method_30_code
def yX6_used : MethodName := ⟨RX6, "used", "(II)I"⟩
abbrev cX6_isSame : ByteArray := prog_8_method_31_code
def yX6_isSame : MethodName := ⟨RX6, "isSame", "(II)Z"⟩
abbrev cX6_agree : ByteArray := prog_8_method_32_code
def yX6_agree : MethodName := ⟨RX6, "agree", "()Z"⟩
abbrev cX6_count : ByteArray := prog_8_method_33_code
def yX6_count : MethodName := ⟨RX6, "count", "(I)I"⟩
def RJ9 : String := "java/lang/Math"
def TJ9 : u_T := fun k => match k with
  | _ => ("", "", "", false)
def tyJ9 : Nat → FieldType := fun k => match k with
  | _ => .int
abbrev wsJ90 : List Cond := u_ws RJ9 TJ9 0
theorem nmJ9 : ∀ a, a < 0 → ∀ b, b < 0 → a ≠ b → (TJ9 a).2.1 ≠ (TJ9 b).2.1 := by decide +kernel
theorem tyJ9_ok : ∀ k, k < 0 → parseFieldDescriptor (TJ9 k).2.2.1 = some (tyJ9 k) := by decide +kernel
abbrev cJ9_floorMod_7cf53 : ByteArray := prog_9_method_50_code
def yJ9_floorMod_7cf53 : MethodName := ⟨RJ9, "floorMod", "(II)I"⟩
abbrev cJ9_max_7cf53 : ByteArray := prog_9_method_65_code
def yJ9_max_7cf53 : MethodName := ⟨RJ9, "max", "(II)I"⟩
abbrev cJ9_min_7cf53 : ByteArray := prog_9_method_69_code
def yJ9_min_7cf53 : MethodName := ⟨RJ9, "min", "(II)I"⟩
def RL : String := "HerdMastersLaw"
abbrev cL_cell : ByteArray := method_2_code
def yL_cell : MethodName := ⟨RL, "cell", "([II)I"⟩
abbrev cL_law : ByteArray := code
def yL_law : MethodName := ⟨RL, "law", "([I)Z"⟩
theorem inX0 : ∀ w ∈ wsX00, w ∈ lw_tbl := by decide +kernel
theorem inX1 : ∀ w ∈ wsX10, w ∈ lw_tbl := by decide +kernel
theorem inX2 : ∀ w ∈ wsX20, w ∈ lw_tbl := by decide +kernel
theorem inX3 : ∀ w ∈ wsX30, w ∈ lw_tbl := by decide +kernel
theorem inX4 : ∀ w ∈ wsX40, w ∈ lw_tbl := by decide +kernel
theorem inX5 : ∀ w ∈ wsX50, w ∈ lw_tbl := by decide +kernel
theorem inX6 : ∀ w ∈ wsX60, w ∈ lw_tbl := by decide +kernel
end
section
/-! THE MODEL OF MEMORY: places (0: the script; p: the cell at xo + p), a kind a place, ints and references by place and slot.
    'Wp X k n0 z0 pc L st M Q': method k, standing at pc with locals L, stack st and memory M, returns, with Q of answer and memory. -/
abbrev hV : Type := Int32 ⊕ Option Nat
abbrev hK : Type := Nat ⊕ ((FieldType × Nat) ⊕ (FieldType × Nat))
abbrev hM : Type := Nat × Nat × (Nat → Option hK) × (Nat → Nat → Int32) × (Nat → Nat → Option Nat)
abbrev hX : Type := Launch × Nat × Nat × va_G × (FieldType → ClassId)
abbrev hMI : Type := MethodName × ByteArray × Nat × Option FieldType × Nat × Nat × List (Nat × Instr × Nat)
abbrev xl (X : hX) : Launch := X.1
abbrev xb (X : hX) : Nat := X.2.1
abbrev xo (X : hX) : Nat := X.2.2.1
abbrev xD (X : hX) : va_G := X.2.2.2.1
abbrev xA (X : hX) : FieldType → ClassId := X.2.2.2.2
abbrev mK (M : hM) : Nat := M.1
abbrev mz (M : hM) : Nat := M.2.1
abbrev mk (M : hM) : Nat → Option hK := M.2.2.1
abbrev md (M : hM) : Nat → Nat → Int32 := M.2.2.2.1
abbrev mr (M : hM) : Nat → Nat → Option Nat := M.2.2.2.2
abbrev ky (k : hMI) : MethodName := k.1
abbrev kc (k : hMI) : ByteArray := k.2.1
abbrev kml (k : hMI) : Nat := k.2.2.1
abbrev krt (k : hMI) : Option FieldType := k.2.2.2.1
abbrev kfr (k : hMI) : Nat := k.2.2.2.2.1
abbrev klo (k : hMI) : Nat := k.2.2.2.2.2.1
abbrev ktb (k : hMI) : List (Nat × Instr × Nat) := k.2.2.2.2.2.2
/-- an update at a place and a slot -/
def hu {α : Type} (f : Nat → Nat → α) (p j : Nat) (x : α) : Nat → Nat → α := fun q i => if q = p ∧ i = j then x else f q i
theorem hu_s {α : Type} {f : Nat → Nat → α} {p j : Nat} {x : α} : hu f p j x p j = x := by simp [hu]
theorem hu_n {α : Type} {f : Nat → Nat → α} {p j q i : Nat} {x : α} (h : ¬ (q = p ∧ i = j)) : hu f p j x q i = f q i := by simp only [hu]; rw [if_neg h]
/-- a new place -/
def hu1 {α : Type} (f : Nat → α) (p : Nat) (x : α) : Nat → α := fun q => if q = p then x else f q
theorem hu1_s {α : Type} {f : Nat → α} {p : Nat} {x : α} : hu1 f p x p = x := by simp [hu1]
theorem hu1_n {α : Type} {f : Nat → α} {p q : Nat} {x : α} (h : ¬ q = p) : hu1 f p x q = f q := by simp only [hu1]; rw [if_neg h]
/-- the words of the tables that every call keeps -/
def h_tbl : List Cond := lw_tbl.filter goodWord
theorem h_tbl_in {w : Cond} (h : w ∈ h_tbl) : w ∈ lw_tbl := (List.mem_filter.mp h).1
/-- two more kinds, kept by rows of their own: arrays of references, two links among nest mates -/
def h_ex (U : State) : Prop := va_AO RX1 U ∧ va_AO RX2 U ∧ va_AO RX4 U ∧ va_Nw (.methodLinkNest RX5 19 yX0_init RX5) U ∧ va_Nw (.methodLinkNest RX3 32 yX4_init RX5) U
theorem h_ex_warm {s U : State} (hw : s.WarmedH U.vm) (h : h_ex s) : h_ex U := ⟨h.1.moved hw.alike, h.2.1.moved hw.alike, h.2.2.1.moved hw.alike, va_Nw.warmM hw h.2.2.2.1, va_Nw.warmM hw h.2.2.2.2⟩
theorem h_ex_call {U : State} {g : JFrame} {mk : MethodId} {a : Array Value} (h : h_ex U) : h_ex (U.calling g mk a) := ⟨va_AO.moved (u := U) (Vm.Alike.refl U.vm) h.1, va_AO.moved (u := U) (Vm.Alike.refl U.vm) h.2.1, va_AO.moved (u := U) (Vm.Alike.refl U.vm) h.2.2.1, va_Nw.same (u := U) rfl rfl h.2.2.2.1, va_Nw.same (u := U) rfl rfl h.2.2.2.2⟩
theorem iyX0 : ∀ w ∈ wsX00, w ∈ h_tbl := by decide +kernel
theorem iyX1 : ∀ w ∈ wsX10, w ∈ h_tbl := by decide +kernel
theorem iyX2 : ∀ w ∈ wsX20, w ∈ h_tbl := by decide +kernel
theorem iyX3 : ∀ w ∈ wsX30, w ∈ h_tbl := by decide +kernel
theorem iyX4 : ∀ w ∈ wsX40, w ∈ h_tbl := by decide +kernel
theorem iyX5 : ∀ w ∈ wsX50, w ∈ h_tbl := by decide +kernel
theorem iyX6 : ∀ w ∈ wsX60, w ∈ h_tbl := by decide +kernel
def hCl : List vw_C := [(RX0, TX0, 4), (RX1, TX1, 9), (RX2, TX2, 7), (RX3, TX3, 8), (RX4, TX4, 8), (RX5, TX5, 6), (RX6, TX6, 26)]
def hCN : Nat → String := fun c => match c with | 0 => RX0 | 1 => RX1 | 2 => RX2 | 3 => RX3 | 4 => RX4 | 5 => RX5 | _ => RX6
def hCT : Nat → u_T := fun c => match c with | 0 => TX0 | 1 => TX1 | 2 => TX2 | 3 => TX3 | 4 => TX4 | 5 => TX5 | _ => TX6
def hTy : Nat → Nat → FieldType := fun c => match c with | 0 => tyX0 | 1 => tyX1 | 2 => tyX2 | 3 => tyX3 | 4 => tyX4 | 5 => tyX5 | _ => tyX6
def hN : Nat → Nat := fun c => match c with | 0 => 4 | 1 => 9 | 2 => 7 | 3 => 8 | 4 => 8 | 5 => 6 | _ => 26
theorem hCl_at {c : Nat} (h : c < 7) : hCl[c]? = some (hCN c, hCT c, hN c) := by
  rcases (show c = 0 ∨ c = 1 ∨ c = 2 ∨ c = 3 ∨ c = 4 ∨ c = 5 ∨ c = 6 by omega) with rfl | rfl | rfl | rfl | rfl | rfl | rfl <;> rfl
theorem hCl_in {c : Nat} (h : c < 7) : ∀ w ∈ u_ws (hCN c) (hCT c) (hN c), w ∈ h_tbl := by
  rcases (show c = 0 ∨ c = 1 ∨ c = 2 ∨ c = 3 ∨ c = 4 ∨ c = 5 ∨ c = 6 by omega) with rfl | rfl | rfl | rfl | rfl | rfl | rfl
  · exact iyX0
  · exact iyX1
  · exact iyX2
  · exact iyX3
  · exact iyX4
  · exact iyX5
  · exact iyX6
theorem hCl_ty {c : Nat} (h : c < 7) : ∀ k, k < hN c → parseFieldDescriptor (hCT c k).2.2.1 = some (hTy c k) := by
  rcases (show c = 0 ∨ c = 1 ∨ c = 2 ∨ c = 3 ∨ c = 4 ∨ c = 5 ∨ c = 6 by omega) with rfl | rfl | rfl | rfl | rfl | rfl | rfl
  · exact tyX0_ok
  · exact tyX1_ok
  · exact tyX2_ok
  · exact tyX3_ok
  · exact tyX4_ok
  · exact tyX5_ok
  · exact tyX6_ok
theorem hCl_nm {c : Nat} (h : c < 7) : ∀ a, a < hN c → ∀ b, b < hN c → a ≠ b → (hCT c a).2.1 ≠ (hCT c b).2.1 := by
  rcases (show c = 0 ∨ c = 1 ∨ c = 2 ∨ c = 3 ∨ c = 4 ∨ c = 5 ∨ c = 6 by omega) with rfl | rfl | rfl | rfl | rfl | rfl | rfl
  · exact nmX0
  · exact nmX1
  · exact nmX2
  · exact nmX3
  · exact nmX4
  · exact nmX5
  · exact nmX6
def hAT : List FieldType := [.int, .boolean, .object RX1, .object RX2, .object RX4]
def h_tys (X : hX) : List (ClassId × FieldType) := hAT.map (fun t => (xA X t, t))
def h_ad (X : hX) (p : Nat) : Nat := if p = 0 then xb X else xo X + p
theorem h_ad_p {X : hX} {p : Nat} (h : p ≠ 0) : h_ad X p = xo X + p := by simp [h_ad, h]
def h_val (X : hX) (v : hV) : Value := match v with
  | .inl x => .int x
  | .inr r => va_rf (r.map (h_ad X))
theorem h_val_cat (X : hX) (v : hV) : (h_val X v).category = 1 := by
  rcases v with x | r
  · rfl
  · rcases r with _ | a <;> rfl
def h_fv (X : hX) (M : hM) (p c k : Nat) : Value := if (hTy c k).isReference = true then va_rf ((mr M p k).map (h_ad X)) else .int (md M p k)
def h_fs (X : hX) (M : hM) (p c : Nat) : List Value := (List.range (hN c)).map (h_fv X M p c)
theorem h_fs_at {X : hX} {M : hM} {p c k : Nat} (h : k < hN c) : (h_fs X M p c)[k]? = some (h_fv X M p c k) := by
  simp [h_fs, h]
def h_cell (X : hX) (M : hM) (p : Nat) (k : hK) : va_E := match k with
  | .inl c => .inr (c, h_fs X M p c)
  | .inr (.inl (ty, n)) => .inl (xA X ty, n, .inl (md M p))
  | .inr (.inr (ty, n)) => .inl (xA X ty, n, .inr (.inr (.inr (.inr (fun j => (mr M p j).map (h_ad X))))))
def h_W (X : hX) (M : hM) (U : State) (H : Heap) : Prop :=
  H.size = xo X + mK M ∧ 1 ≤ mK M ∧ xb X ≤ xo X ∧ (∀ (p : Nat) (k : hK), p ≠ 0 → mk M p = some k → va_at (xD X) hCl (xo X + p, h_cell X M p k) H) ∧ ∃ n, mk M 0 = some (.inr (.inl (.int, n))) ∧ va_X (xb X) n (md M 0) U H
def h_L (X : hX) (ls : Array Slot) (n : Nat) (L : List (Option hV)) : Prop := ls.size = n ∧ lv_wf ls ∧ L.length ≤ n ∧ ∀ (i : Nat) (v : hV), L[i]? = some (some v) → ls[i]? = some (.val (h_val X v))
def xF (X : hX) : Nat → Prop := fun q => xo X + 1 ≤ q
def h_ok (k : hMI) : Prop := ∀ q ∈ ktb k, decode (kc k) q.1 = .ok q.2
def h_at (k : hMI) (pc : Nat) : Option (Instr × Nat) := (ktb k).lookup pc
theorem h_lookup {β : Type} : ∀ (l : List (Nat × β)) {a : Nat} {b : β}, l.lookup a = some b → (a, b) ∈ l
  | [], _, _, h => by simp at h
  | (x, y) :: l, a, b, h => by
    rw [List.lookup_cons] at h
    cases hx : a == x with
    | true =>
      rw [hx] at h
      cases h
      rw [show a = x by simpa using hx]
      exact List.mem_cons_self
    | false =>
      rw [hx] at h
      exact List.mem_cons_of_mem _ (h_lookup l h)
theorem h_dec {k : hMI} {pc : Nat} {q : Instr × Nat} (hk : h_ok k) (h : h_at k pc = some q) : decode (kc k) pc = .ok q := hk (pc, q) (h_lookup _ h)
def h_Cx (X : hX) (k : hMI) (R : Room) (p : Program) (s : State) (m : MethodId) (args : Array Value) (meth : Method) (c : Code) : Prop :=
  p.tables.exec = Jvm.exec ∧ c.code = kc k ∧ meth.sig.returnType = krt k ∧ c.maxLocals = kml k ∧ meth.locks = false ∧ meth.name = (ky k).name ∧ s.vm.findClass (ky k).cls = some m.cls ∧ (∀ w ∈ h_tbl, w.before args s = true) ∧ va_K (xD X) hCl (h_tys X) s ∧ xo X + 1 ≤ s.heap.size ∧ kfr k ≤ R.frames ∧ klo k ≤ R.locals ∧ h_ok k ∧ h_ex s
def h_fin (k : hMI) (pc : Nat) (rv : Option hV) : Prop := match rv with
  | none => decode (kc k) pc = .ok (.return_, 1) ∧ krt k = none
  | some (.inl v) => decode (kc k) pc = .ok (.ireturn, 1) ∧ ∃ ty, krt k = some ty ∧ narrow ty (.int v) = .int v
  | some (.inr _) => False
def h_R (X : hX) (k : hMI) (n0 z0 : Nat) (res : Option hV × hM) (pc : Nat) (L : List (Option hV)) (st : List hV) (M : hM) : Prop :=
  mK M ≤ mK res.2 ∧ mz M ≤ mz res.2 ∧
  ∀ (R : Room) (p : Program) (e : Env) (s : State) (m : MethodId) (args : Array Value) (below : List Frame) (meth : Method) (c : Code) (Qf : State → Prop) (H : Heap) (locs : List Loc) (ls : Array Slot) (cells slots : Nat),
    h_Cx X k R p s m args meth c → mK res.2 ≤ n0 + R.cells → mz res.2 ≤ z0 + R.slots → cells + n0 = mK M → slots + z0 = mz M → h_W X M s H → h_L X ls (kml k) L → va_S (xF X) s.heap H locs →
    (∀ (pc' : Nat) (ls' : Array Slot) (H' : Heap) (locs' : List Loc) (cells' slots' : Nat), cells' + n0 = mK res.2 → slots' + z0 = mz res.2 → h_fin k pc' res.1 → h_W X res.2 s H' → va_S (xF X) s.heap H' locs' → W p (xl X) e R s m args below meth c H' locs' cells' slots' Qf (F0 m pc' ls' (res.1.toList.map (h_val X)))) →
    W p (xl X) e R s m args below meth c H locs cells slots Qf (F0 m pc ls (st.map (h_val X)))
def Wp (X : hX) (k : hMI) (n0 z0 : Nat) (pc : Nat) (L : List (Option hV)) (st : List hV) (M : hM) (Q : Option hV → hM → Prop) : Prop := ∃ res, h_R X k n0 z0 res pc L st M ∧ Q res.1 res.2
section GO
variable {X : hX} {k : hMI} {n0 z0 pc pc' : Nat} {L L' : List (Option hV)} {st st' : List hV} {M M' : hM} {Q : Option hV → hM → Prop}
theorem wp_go (hK : mK M ≤ mK M') (hz : mz M ≤ mz M')
    (go : ∀ (R : Room) (p : Program) (e : Env) (s : State) (m : MethodId) (args : Array Value) (below : List Frame) (meth : Method) (c : Code) (Qf : State → Prop) (H : Heap) (locs : List Loc) (ls : Array Slot) (cells slots : Nat),
      h_Cx X k R p s m args meth c → mK M' ≤ n0 + R.cells → mz M' ≤ z0 + R.slots → cells + n0 = mK M → slots + z0 = mz M → h_W X M s H → h_L X ls (kml k) L → va_S (xF X) s.heap H locs →
      (∀ (H' : Heap) (locs' : List Loc) (ls' : Array Slot) (cells' slots' : Nat), cells' + n0 = mK M' → slots' + z0 = mz M' → h_W X M' s H' → h_L X ls' (kml k) L' → va_S (xF X) s.heap H' locs' → W p (xl X) e R s m args below meth c H' locs' cells' slots' Qf (F0 m pc' ls' (st'.map (h_val X)))) →
      W p (xl X) e R s m args below meth c H locs cells slots Qf (F0 m pc ls (st.map (h_val X))))
    (kk : Wp X k n0 z0 pc' L' st' M' Q) : Wp X k n0 z0 pc L st M Q := by
  obtain ⟨res, ⟨g1, g2, g3⟩, hq⟩ := kk
  refine ⟨res, ⟨Nat.le_trans hK g1, Nat.le_trans hz g2, ?_⟩, hq⟩
  intro R p e s m args below meth c Qf H locs ls cells slots C hc hs ec es hW hL hS hf
  refine go R p e s m args below meth c Qf H locs ls cells slots C (Nat.le_trans g1 hc) (Nat.le_trans g2 hs) ec es hW hL hS ?_
  intro H' locs' ls' cells' slots' ec' es' hW' hL' hS'
  exact g3 R p e s m args below meth c Qf H' locs' ls' cells' slots' C hc hs ec' es' hW' hL' hS' hf
/-- a step that changes neither memory nor locals -/
theorem wp_st (go : ∀ (R : Room) (p : Program) (e : Env) (s : State) (m : MethodId) (args : Array Value) (below : List Frame) (meth : Method) (c : Code) (Qf : State → Prop) (H : Heap) (locs : List Loc) (ls : Array Slot) (cells slots : Nat),
      h_Cx X k R p s m args meth c → cells ≤ R.cells → slots ≤ R.slots → h_W X M s H → h_L X ls (kml k) L → va_S (xF X) s.heap H locs →
      W p (xl X) e R s m args below meth c H locs cells slots Qf (F0 m pc' ls (st'.map (h_val X))) →
      W p (xl X) e R s m args below meth c H locs cells slots Qf (F0 m pc ls (st.map (h_val X))))
    (kk : Wp X k n0 z0 pc' L st' M Q) : Wp X k n0 z0 pc L st M Q :=
  wp_go (Nat.le_refl _) (Nat.le_refl _) (fun R p e s m args below meth c Qf H locs ls cells slots C hc hs ec es hW hL hS hk => go R p e s m args below meth c Qf H locs ls cells slots C (by omega) (by omega) hW hL hS (hk H locs ls cells slots ec es hW hL hS)) kk
/-- a step that changes locals alone -/
theorem wp_lo (go : ∀ (R : Room) (p : Program) (e : Env) (s : State) (m : MethodId) (args : Array Value) (below : List Frame) (meth : Method) (c : Code) (Qf : State → Prop) (H : Heap) (locs : List Loc) (ls : Array Slot) (cells slots : Nat),
      h_Cx X k R p s m args meth c → h_L X ls (kml k) L →
      (∀ ls', h_L X ls' (kml k) L' → W p (xl X) e R s m args below meth c H locs cells slots Qf (F0 m pc' ls' (st'.map (h_val X)))) →
      W p (xl X) e R s m args below meth c H locs cells slots Qf (F0 m pc ls (st.map (h_val X))))
    (kk : Wp X k n0 z0 pc' L' st' M Q) : Wp X k n0 z0 pc L st M Q :=
  wp_go (Nat.le_refl _) (Nat.le_refl _) (fun R p e s m args below meth c Qf H locs ls cells slots C hc hs ec es hW hL hS hk => go R p e s m args below meth c Qf H locs ls cells slots C hL (fun ls' hL' => hk H locs ls' cells slots ec es hW hL' hS)) kk
/-- storing into a local -/
theorem h_L_has {ls : Array Slot} {n : Nat} (h : h_L X ls n L) : lv_has ls n ((List.range L.length).filterMap (fun i => match L[i]? with | some (some v) => some (i, h_val X v) | _ => none)) := by
  refine ⟨h.1, h.2.1, fun q hq => ?_⟩
  obtain ⟨i, -, hi⟩ := List.mem_filterMap.mp hq
  cases hL : L[i]? with
  | none => rw [hL] at hi; cases hi
  | some o =>
    cases o with
    | none => rw [hL] at hi; cases hi
    | some v =>
      rw [hL] at hi
      cases hi
      exact h.2.2.2 i v hL
theorem h_L_set {ls ls' : Array Slot} {n i : Nat} {v : hV} (h : h_L X ls n L) (hi : i < n) (h' : lv_has ls' n ((i, h_val X v) :: ((List.range L.length).filterMap (fun i => match L[i]? with | some (some v) => some (i, h_val X v) | _ => none)).filter (fun q => !(q.1 == i) && !(q.1 + 1 == i && q.2.category == 2)))) : h_L X ls' n (L.set i (some v)) := by
  refine ⟨h'.1, h'.2.1, by simpa using h.2.2.1, fun j w hj => ?_⟩
  by_cases e : j = i
  · subst e
    rw [List.getElem?_set_self' ] at hj
    cases hL : L[j]? with
    | none => rw [hL] at hj; simp at hj
    | some o =>
      rw [hL] at hj
      simp at hj
      subst hj
      exact h'.2.2 (j, h_val X v) List.mem_cons_self
  · rw [List.getElem?_set_ne (fun q => e q.symm)] at hj
    refine h'.2.2 (j, h_val X w) (List.mem_cons_of_mem _ (List.mem_filter.mpr ⟨List.mem_filterMap.mpr ⟨j, List.mem_range.mpr ?_, by rw [hj]⟩, ?_⟩))
    · exact (List.getElem?_eq_some_iff.mp hj).1
    · simp [e, h_val_cat]
end GO
end
section
/-! STEPS: a lemma an instruction, goal first -/
section STEPS
variable {X : hX} {k : hMI} {n0 z0 pc : Nat} {L : List (Option hV)} {st : List hV} {M : hM} {Q : Option hV → hM → Prop}
theorem wp_iconst {n : Int} {v : Int32} (hat : h_at k pc = some (.iconst n, 1)) (hv : Int32.ofInt n = v) (kk : Wp X k n0 z0 (pc + 1) L (.inl v :: st) M Q) : Wp X k n0 z0 pc L st M Q :=
  wp_st (fun R p e s m args below meth c Qf H locs ls cells slots C _ _ hW hL hS w => lv_iconst C.1 C.2.1 (h_dec C.2.2.2.2.2.2.2.2.2.2.2.2.1 hat) hv w) kk
theorem wp_bipush {n : Int} {v : Int32} (hat : h_at k pc = some (.bipush n, 2)) (hv : (Int8.ofInt n).toInt32 = v) (kk : Wp X k n0 z0 (pc + 2) L (.inl v :: st) M Q) : Wp X k n0 z0 pc L st M Q :=
  wp_st (fun R p e s m args below meth c Qf H locs ls cells slots C _ _ hW hL hS w => lv_bipush C.1 C.2.1 (h_dec C.2.2.2.2.2.2.2.2.2.2.2.2.1 hat) hv w) kk
theorem wp_sipush {n : Int} {v : Int32} (hat : h_at k pc = some (.sipush n, 3)) (hv : (Int16.ofInt n).toInt32 = v) (kk : Wp X k n0 z0 (pc + 3) L (.inl v :: st) M Q) : Wp X k n0 z0 pc L st M Q :=
  wp_st (fun R p e s m args below meth c Qf H locs ls cells slots C _ _ hW hL hS w => lv_sipush C.1 C.2.1 (h_dec C.2.2.2.2.2.2.2.2.2.2.2.2.1 hat) hv w) kk
theorem wp_iload_n {i : Fin 4} {x : Int32} (hat : h_at k pc = some (.iload_n i, 1)) (hl : L[(i : Nat)]? = some (some (.inl x))) (kk : Wp X k n0 z0 (pc + 1) L (.inl x :: st) M Q) : Wp X k n0 z0 pc L st M Q :=
  wp_st (fun R p e s m args below meth c Qf H locs ls cells slots C _ _ hW hL hS w => lv_iload_n C.1 C.2.1 (h_dec C.2.2.2.2.2.2.2.2.2.2.2.2.1 hat) rfl (hL.2.2.2 _ _ hl) w) kk
theorem wp_iload {i : Nat} {x : Int32} (hat : h_at k pc = some (.iload i, 2)) (hl : L[i]? = some (some (.inl x))) (kk : Wp X k n0 z0 (pc + 2) L (.inl x :: st) M Q) : Wp X k n0 z0 pc L st M Q :=
  wp_st (fun R p e s m args below meth c Qf H locs ls cells slots C _ _ hW hL hS w => lv_iload C.1 C.2.1 (h_dec C.2.2.2.2.2.2.2.2.2.2.2.2.1 hat) (hL.2.2.2 _ _ hl) w) kk
theorem wp_aload_n {i : Fin 4} {a : Nat} (hat : h_at k pc = some (.aload_n i, 1)) (hl : L[(i : Nat)]? = some (some (.inr (some a)))) (kk : Wp X k n0 z0 (pc + 1) L (.inr (some a) :: st) M Q) : Wp X k n0 z0 pc L st M Q :=
  wp_st (fun R p e s m args below meth c Qf H locs ls cells slots C _ _ hW hL hS w => lv_aload_n C.1 C.2.1 (h_dec C.2.2.2.2.2.2.2.2.2.2.2.2.1 hat) rfl (hL.2.2.2 _ _ hl) w) kk
theorem wp_aload {i a : Nat} (hat : h_at k pc = some (.aload i, 2)) (hl : L[i]? = some (some (.inr (some a)))) (kk : Wp X k n0 z0 (pc + 2) L (.inr (some a) :: st) M Q) : Wp X k n0 z0 pc L st M Q :=
  wp_st (fun R p e s m args below meth c Qf H locs ls cells slots C _ _ hW hL hS w => lv_aload C.1 C.2.1 (h_dec C.2.2.2.2.2.2.2.2.2.2.2.2.1 hat) (hL.2.2.2 _ _ hl) w) kk
theorem wp_istore_n {i : Fin 4} {x : Int32} (hat : h_at k pc = some (.istore_n i, 1)) (hi : (i : Nat) < kml k) (kk : Wp X k n0 z0 (pc + 1) (L.set i (some (.inl x))) st M Q) : Wp X k n0 z0 pc L (.inl x :: st) M Q :=
  wp_lo (fun R p e s m args below meth c Qf H locs ls cells slots C hL w => lv_istore_n C.1 C.2.1 (h_dec C.2.2.2.2.2.2.2.2.2.2.2.2.1 hat) rfl (h_L_has hL) hi rfl (fun ls' hl' => w ls' (h_L_set (v := .inl x) hL hi hl'))) kk
theorem wp_istore {i : Nat} {x : Int32} (hat : h_at k pc = some (.istore i, 2)) (hi : i < kml k) (kk : Wp X k n0 z0 (pc + 2) (L.set i (some (.inl x))) st M Q) : Wp X k n0 z0 pc L (.inl x :: st) M Q :=
  wp_lo (fun R p e s m args below meth c Qf H locs ls cells slots C hL w => lv_istore C.1 C.2.1 (h_dec C.2.2.2.2.2.2.2.2.2.2.2.2.1 hat) (h_L_has hL) hi rfl (fun ls' hl' => w ls' (h_L_set (v := .inl x) hL hi hl'))) kk
theorem wp_astore_n {i : Fin 4} {a : Nat} (hat : h_at k pc = some (.astore_n i, 1)) (hi : (i : Nat) < kml k) (kk : Wp X k n0 z0 (pc + 1) (L.set i (some (.inr (some a)))) st M Q) : Wp X k n0 z0 pc L (.inr (some a) :: st) M Q :=
  wp_lo (fun R p e s m args below meth c Qf H locs ls cells slots C hL w => lv_astore_n C.1 C.2.1 (h_dec C.2.2.2.2.2.2.2.2.2.2.2.2.1 hat) rfl (h_L_has hL) hi rfl (fun ls' hl' => w ls' (h_L_set (v := .inr (some a)) hL hi hl'))) kk
theorem wp_astore {i a : Nat} (hat : h_at k pc = some (.astore i, 2)) (hi : i < kml k) (kk : Wp X k n0 z0 (pc + 2) (L.set i (some (.inr (some a)))) st M Q) : Wp X k n0 z0 pc L (.inr (some a) :: st) M Q :=
  wp_lo (fun R p e s m args below meth c Qf H locs ls cells slots C hL w => lv_astore C.1 C.2.1 (h_dec C.2.2.2.2.2.2.2.2.2.2.2.2.1 hat) (h_L_has hL) hi rfl (fun ls' hl' => w ls' (h_L_set (v := .inr (some a)) hL hi hl'))) kk
theorem wp_iinc {i : Nat} {n : Int} {x v : Int32} (hat : h_at k pc = some (.iinc i n, 3)) (hl : L[i]? = some (some (.inl x))) (hv : x + Int32.ofInt n = v) (hi : i < kml k) (kk : Wp X k n0 z0 (pc + 3) (L.set i (some (.inl v))) st M Q) : Wp X k n0 z0 pc L st M Q :=
  wp_lo (fun R p e s m args below meth c Qf H locs ls cells slots C hL w => by
    have hm : (i, h_val X (.inl x)) ∈ ((List.range L.length).filterMap (fun i => match L[i]? with | some (some v) => some (i, h_val X v) | _ => none)) := List.mem_filterMap.mpr ⟨i, List.mem_range.mpr (List.getElem?_eq_some_iff.mp hl).1, by rw [hl]⟩
    obtain ⟨j, hj⟩ := List.getElem?_of_mem hm
    exact lv_iinc (v := v) C.1 C.2.1 (h_dec C.2.2.2.2.2.2.2.2.2.2.2.2.1 hat) (h_L_has hL) hj hv hi rfl (fun ls' hl' => w ls' (h_L_set (v := .inl v) hL hi hl'))) kk
theorem wp_iadd {x y : Int32} (hat : h_at k pc = some (.iadd, 1)) (kk : Wp X k n0 z0 (pc + 1) L (.inl (x + y) :: st) M Q) : Wp X k n0 z0 pc L (.inl y :: .inl x :: st) M Q :=
  wp_st (fun R p e s m args below meth c Qf H locs ls cells slots C _ _ hW hL hS w => lv_iadd C.1 C.2.1 (h_dec C.2.2.2.2.2.2.2.2.2.2.2.2.1 hat) w) kk
theorem wp_isub {x y : Int32} (hat : h_at k pc = some (.isub, 1)) (kk : Wp X k n0 z0 (pc + 1) L (.inl (x - y) :: st) M Q) : Wp X k n0 z0 pc L (.inl y :: .inl x :: st) M Q :=
  wp_st (fun R p e s m args below meth c Qf H locs ls cells slots C _ _ hW hL hS w => lv_isub C.1 C.2.1 (h_dec C.2.2.2.2.2.2.2.2.2.2.2.2.1 hat) w) kk
theorem wp_imul {x y : Int32} (hat : h_at k pc = some (.imul, 1)) (kk : Wp X k n0 z0 (pc + 1) L (.inl (x * y) :: st) M Q) : Wp X k n0 z0 pc L (.inl y :: .inl x :: st) M Q :=
  wp_st (fun R p e s m args below meth c Qf H locs ls cells slots C _ _ hW hL hS w => lv_imul C.1 C.2.1 (h_dec C.2.2.2.2.2.2.2.2.2.2.2.2.1 hat) w) kk
theorem wp_iand {x y : Int32} (hat : h_at k pc = some (.iand, 1)) (kk : Wp X k n0 z0 (pc + 1) L (.inl (x &&& y) :: st) M Q) : Wp X k n0 z0 pc L (.inl y :: .inl x :: st) M Q :=
  wp_st (fun R p e s m args below meth c Qf H locs ls cells slots C _ _ hW hL hS w => lv_iand C.1 C.2.1 (h_dec C.2.2.2.2.2.2.2.2.2.2.2.2.1 hat) w) kk
theorem wp_ixor {x y : Int32} (hat : h_at k pc = some (.ixor, 1)) (kk : Wp X k n0 z0 (pc + 1) L (.inl (x ^^^ y) :: st) M Q) : Wp X k n0 z0 pc L (.inl y :: .inl x :: st) M Q :=
  wp_st (fun R p e s m args below meth c Qf H locs ls cells slots C _ _ hW hL hS w => lv_ixor C.1 C.2.1 (h_dec C.2.2.2.2.2.2.2.2.2.2.2.2.1 hat) w) kk
theorem wp_idiv {x y : Int32} (hat : h_at k pc = some (.idiv, 1)) (hy : ¬ y = 0) (kk : Wp X k n0 z0 (pc + 1) L (.inl (x / y) :: st) M Q) : Wp X k n0 z0 pc L (.inl y :: .inl x :: st) M Q :=
  wp_st (fun R p e s m args below meth c Qf H locs ls cells slots C _ _ hW hL hS w => lv_idiv C.1 C.2.1 (h_dec C.2.2.2.2.2.2.2.2.2.2.2.2.1 hat) hy w) kk
theorem wp_irem {x y : Int32} (hat : h_at k pc = some (.irem, 1)) (hy : ¬ y = 0) (kk : Wp X k n0 z0 (pc + 1) L (.inl (x - x / y * y) :: st) M Q) : Wp X k n0 z0 pc L (.inl y :: .inl x :: st) M Q :=
  wp_st (fun R p e s m args below meth c Qf H locs ls cells slots C _ _ hW hL hS w => lv_irem C.1 C.2.1 (h_dec C.2.2.2.2.2.2.2.2.2.2.2.2.1 hat) hy w) kk
theorem wp_dup {v : hV} (hat : h_at k pc = some (.dup, 1)) (kk : Wp X k n0 z0 (pc + 1) L (v :: v :: st) M Q) : Wp X k n0 z0 pc L (v :: st) M Q :=
  wp_st (fun R p e s m args below meth c Qf H locs ls cells slots C _ _ hW hL hS w => lv_dup C.1 C.2.1 (h_dec C.2.2.2.2.2.2.2.2.2.2.2.2.1 hat) (h_val_cat X v) w) kk
theorem wp_dup2 {v w : hV} (hat : h_at k pc = some (.dup2, 1)) (kk : Wp X k n0 z0 (pc + 1) L (v :: w :: v :: w :: st) M Q) : Wp X k n0 z0 pc L (v :: w :: st) M Q :=
  wp_st (fun R p e s m args below meth c Qf H locs ls cells slots C _ _ hW hL hS w' => lv_dup2_11 C.1 C.2.1 (h_dec C.2.2.2.2.2.2.2.2.2.2.2.2.1 hat) (h_val_cat X v) (h_val_cat X w) w') kk
theorem wp_pop {v : hV} (hat : h_at k pc = some (.pop, 1)) (kk : Wp X k n0 z0 (pc + 1) L st M Q) : Wp X k n0 z0 pc L (v :: st) M Q :=
  wp_st (fun R p e s m args below meth c Qf H locs ls cells slots C _ _ hW hL hS w => lv_pop C.1 C.2.1 (h_dec C.2.2.2.2.2.2.2.2.2.2.2.2.1 hat) (h_val_cat X v) w) kk
theorem wp_goto {off : Int} {tgt : Nat} (hat : h_at k pc = some (.goto off, 3)) (ht : (pc : Int) + off = (tgt : Int)) (kk : Wp X k n0 z0 tgt L st M Q) : Wp X k n0 z0 pc L st M Q :=
  wp_st (fun R p e s m args below meth c Qf H locs ls cells slots C _ _ hW hL hS w => lv_goto C.1 C.2.1 (h_dec C.2.2.2.2.2.2.2.2.2.2.2.2.1 hat) ht w) kk
theorem wp_br {pc1 pc2 : Nat} {st' : List hV} {cnd : Prop}
    (go : ∀ (R : Room) (p : Program) (e : Env) (s : State) (m : MethodId) (args : Array Value) (below : List Frame) (meth : Method) (c : Code) (Qf : State → Prop) (H : Heap) (locs : List Loc) (ls : Array Slot) (cells slots : Nat),
      h_Cx X k R p s m args meth c →
      (cnd → W p (xl X) e R s m args below meth c H locs cells slots Qf (F0 m pc1 ls (st'.map (h_val X)))) → (¬ cnd → W p (xl X) e R s m args below meth c H locs cells slots Qf (F0 m pc2 ls (st'.map (h_val X)))) →
      W p (xl X) e R s m args below meth c H locs cells slots Qf (F0 m pc ls (st.map (h_val X))))
    (k1 : cnd → Wp X k n0 z0 pc1 L st' M Q) (k2 : ¬ cnd → Wp X k n0 z0 pc2 L st' M Q) : Wp X k n0 z0 pc L st M Q := by
  rcases Classical.em cnd with h | h
  · exact wp_st (fun R p e s m args below meth c Qf H locs ls cells slots C _ _ hW hL hS w => go R p e s m args below meth c Qf H locs ls cells slots C (fun _ => w) (fun q => absurd h q)) (k1 h)
  · exact wp_st (fun R p e s m args below meth c Qf H locs ls cells slots C _ _ hW hL hS w => go R p e s m args below meth c Qf H locs ls cells slots C (fun q => absurd q h) (fun _ => w)) (k2 h)
theorem wp_if_eq {x : Int32} {off : Int} {tgt : Nat} (hat : h_at k pc = some (.ifCond .eq off, 3)) (ht : (pc : Int) + off = (tgt : Int)) (k1 : x = 0 → Wp X k n0 z0 tgt L st M Q) (k2 : ¬ (x = 0) → Wp X k n0 z0 (pc + 3) L st M Q) : Wp X k n0 z0 pc L (.inl x :: st) M Q :=
  wp_br (fun R p e s m args below meth c Qf H locs ls cells slots C w1 w2 => lv_if_eq C.1 C.2.1 (h_dec C.2.2.2.2.2.2.2.2.2.2.2.2.1 hat) ht w1 w2) k1 k2
theorem wp_if_ne {x : Int32} {off : Int} {tgt : Nat} (hat : h_at k pc = some (.ifCond .ne off, 3)) (ht : (pc : Int) + off = (tgt : Int)) (k1 : ¬ x = 0 → Wp X k n0 z0 tgt L st M Q) (k2 : x = 0 → Wp X k n0 z0 (pc + 3) L st M Q) : Wp X k n0 z0 pc L (.inl x :: st) M Q :=
  wp_br (fun R p e s m args below meth c Qf H locs ls cells slots C w1 w2 => lv_if_ne C.1 C.2.1 (h_dec C.2.2.2.2.2.2.2.2.2.2.2.2.1 hat) ht w1 (fun h => w2 (fun n => n h))) k1 (fun h => k2 (Classical.not_not.mp h))
theorem wp_if_lt {x : Int32} {off : Int} {tgt : Nat} (hat : h_at k pc = some (.ifCond .lt off, 3)) (ht : (pc : Int) + off = (tgt : Int)) (k1 : x < 0 → Wp X k n0 z0 tgt L st M Q) (k2 : ¬ (x < 0) → Wp X k n0 z0 (pc + 3) L st M Q) : Wp X k n0 z0 pc L (.inl x :: st) M Q :=
  wp_br (fun R p e s m args below meth c Qf H locs ls cells slots C w1 w2 => lv_if_lt C.1 C.2.1 (h_dec C.2.2.2.2.2.2.2.2.2.2.2.2.1 hat) ht w1 w2) k1 k2
theorem wp_if_ge {x : Int32} {off : Int} {tgt : Nat} (hat : h_at k pc = some (.ifCond .ge off, 3)) (ht : (pc : Int) + off = (tgt : Int)) (k1 : 0 ≤ x → Wp X k n0 z0 tgt L st M Q) (k2 : ¬ (0 ≤ x) → Wp X k n0 z0 (pc + 3) L st M Q) : Wp X k n0 z0 pc L (.inl x :: st) M Q :=
  wp_br (fun R p e s m args below meth c Qf H locs ls cells slots C w1 w2 => lv_if_ge C.1 C.2.1 (h_dec C.2.2.2.2.2.2.2.2.2.2.2.2.1 hat) ht w1 w2) k1 k2
theorem wp_if_gt {x : Int32} {off : Int} {tgt : Nat} (hat : h_at k pc = some (.ifCond .gt off, 3)) (ht : (pc : Int) + off = (tgt : Int)) (k1 : 0 < x → Wp X k n0 z0 tgt L st M Q) (k2 : ¬ (0 < x) → Wp X k n0 z0 (pc + 3) L st M Q) : Wp X k n0 z0 pc L (.inl x :: st) M Q :=
  wp_br (fun R p e s m args below meth c Qf H locs ls cells slots C w1 w2 => lv_if_gt C.1 C.2.1 (h_dec C.2.2.2.2.2.2.2.2.2.2.2.2.1 hat) ht w1 w2) k1 k2
theorem wp_if_le {x : Int32} {off : Int} {tgt : Nat} (hat : h_at k pc = some (.ifCond .le off, 3)) (ht : (pc : Int) + off = (tgt : Int)) (k1 : x ≤ 0 → Wp X k n0 z0 tgt L st M Q) (k2 : ¬ (x ≤ 0) → Wp X k n0 z0 (pc + 3) L st M Q) : Wp X k n0 z0 pc L (.inl x :: st) M Q :=
  wp_br (fun R p e s m args below meth c Qf H locs ls cells slots C w1 w2 => lv_if_le C.1 C.2.1 (h_dec C.2.2.2.2.2.2.2.2.2.2.2.2.1 hat) ht w1 w2) k1 k2
theorem wp_icmp_eq {x y : Int32} {off : Int} {tgt : Nat} (hat : h_at k pc = some (.if_icmp .eq off, 3)) (ht : (pc : Int) + off = (tgt : Int)) (k1 : x = y → Wp X k n0 z0 tgt L st M Q) (k2 : ¬ (x = y) → Wp X k n0 z0 (pc + 3) L st M Q) : Wp X k n0 z0 pc L (.inl y :: .inl x :: st) M Q :=
  wp_br (fun R p e s m args below meth c Qf H locs ls cells slots C w1 w2 => lv_icmp_eq C.1 C.2.1 (h_dec C.2.2.2.2.2.2.2.2.2.2.2.2.1 hat) ht w1 w2) k1 k2
theorem wp_icmp_ne {x y : Int32} {off : Int} {tgt : Nat} (hat : h_at k pc = some (.if_icmp .ne off, 3)) (ht : (pc : Int) + off = (tgt : Int)) (k1 : ¬ x = y → Wp X k n0 z0 tgt L st M Q) (k2 : x = y → Wp X k n0 z0 (pc + 3) L st M Q) : Wp X k n0 z0 pc L (.inl y :: .inl x :: st) M Q :=
  wp_br (fun R p e s m args below meth c Qf H locs ls cells slots C w1 w2 => lv_icmp_ne C.1 C.2.1 (h_dec C.2.2.2.2.2.2.2.2.2.2.2.2.1 hat) ht w1 (fun h => w2 (fun n => n h))) k1 (fun h => k2 (Classical.not_not.mp h))
theorem wp_icmp_lt {x y : Int32} {off : Int} {tgt : Nat} (hat : h_at k pc = some (.if_icmp .lt off, 3)) (ht : (pc : Int) + off = (tgt : Int)) (k1 : x < y → Wp X k n0 z0 tgt L st M Q) (k2 : ¬ (x < y) → Wp X k n0 z0 (pc + 3) L st M Q) : Wp X k n0 z0 pc L (.inl y :: .inl x :: st) M Q :=
  wp_br (fun R p e s m args below meth c Qf H locs ls cells slots C w1 w2 => lv_icmp_lt C.1 C.2.1 (h_dec C.2.2.2.2.2.2.2.2.2.2.2.2.1 hat) ht w1 w2) k1 k2
theorem wp_icmp_ge {x y : Int32} {off : Int} {tgt : Nat} (hat : h_at k pc = some (.if_icmp .ge off, 3)) (ht : (pc : Int) + off = (tgt : Int)) (k1 : y ≤ x → Wp X k n0 z0 tgt L st M Q) (k2 : ¬ (y ≤ x) → Wp X k n0 z0 (pc + 3) L st M Q) : Wp X k n0 z0 pc L (.inl y :: .inl x :: st) M Q :=
  wp_br (fun R p e s m args below meth c Qf H locs ls cells slots C w1 w2 => lv_icmp_ge C.1 C.2.1 (h_dec C.2.2.2.2.2.2.2.2.2.2.2.2.1 hat) ht w1 w2) k1 k2
theorem wp_icmp_gt {x y : Int32} {off : Int} {tgt : Nat} (hat : h_at k pc = some (.if_icmp .gt off, 3)) (ht : (pc : Int) + off = (tgt : Int)) (k1 : y < x → Wp X k n0 z0 tgt L st M Q) (k2 : ¬ (y < x) → Wp X k n0 z0 (pc + 3) L st M Q) : Wp X k n0 z0 pc L (.inl y :: .inl x :: st) M Q :=
  wp_br (fun R p e s m args below meth c Qf H locs ls cells slots C w1 w2 => lv_icmp_gt C.1 C.2.1 (h_dec C.2.2.2.2.2.2.2.2.2.2.2.2.1 hat) ht w1 w2) k1 k2
theorem wp_icmp_le {x y : Int32} {off : Int} {tgt : Nat} (hat : h_at k pc = some (.if_icmp .le off, 3)) (ht : (pc : Int) + off = (tgt : Int)) (k1 : x ≤ y → Wp X k n0 z0 tgt L st M Q) (k2 : ¬ (x ≤ y) → Wp X k n0 z0 (pc + 3) L st M Q) : Wp X k n0 z0 pc L (.inl y :: .inl x :: st) M Q :=
  wp_br (fun R p e s m args below meth c Qf H locs ls cells slots C w1 w2 => lv_icmp_le C.1 C.2.1 (h_dec C.2.2.2.2.2.2.2.2.2.2.2.2.1 hat) ht w1 w2) k1 k2
end STEPS
end
section
/-! MEMORY STEPS -/
theorem h_P1 {D : va_G} {cl : List vw_C} {q : Nat × va_E} {H : Heap} (h : va_at D cl q H) : va_P D cl [q] H := by
  intro i x hx
  cases i with
  | zero => cases hx; exact h
  | succ i => simp at hx
theorem h_W_ne {X : hX} {M : hM} {U : State} {H : Heap} (h : h_W X M U H) {p : Nat} {kd : hK} (hk : mk M p = some kd) (hne : ∀ n, kd ≠ .inr (.inl (.int, n))) : p ≠ 0 := by
  intro e
  subst e
  obtain ⟨-, -, -, -, n, h0, -⟩ := h
  rw [hk] at h0
  exact hne n (Option.some.inj h0)
theorem h_W_moved {X : hX} {M : hM} {u U : State} {H : Heap} (hvm : u.vm.Alike U.vm) (h : h_W X M u H) : h_W X M U H := by
  obtain ⟨h1, h2, h3, h4, n, h5, h6⟩ := h
  exact ⟨h1, h2, h3, h4, n, h5, h6.moved hvm⟩
theorem h_V {X : hX} {M : hM} {p c j : Nat} (hj : j < hN c) : vp_V (h_fs X M p c) j = h_fv X M p c j := by
  have := h_fs_at (X := X) (M := M) (p := p) hj
  simp [vp_V, this]
def h_fl (k : hMI) (idx c j : Nat) : Prop := c < 7 ∧ j < hN c ∧ Cond.fieldLink (ky k).cls idx (hCT c j).1 (hCT c j).2.1 (hCT c j).2.2.1 ∈ h_tbl
section MEM
variable {X : hX} {k : hMI} {n0 z0 pc : Nat} {L : List (Option hV)} {st : List hV} {M : hM} {Q : Option hV → hM → Prop}
theorem wp_getI {idx a c j : Nat} (hat : h_at k pc = some (.getfield idx, 3)) (hf : h_fl k idx c j) (hty : (hTy c j).isReference = false) (hk : mk M a = some (.inl c)) (kk : Wp X k n0 z0 (pc + 3) L (.inl (md M a j) :: st) M Q) : Wp X k n0 z0 pc L (.inr (some a) :: st) M Q :=
  wp_st (fun R p e s m args below meth cd Qf H locs ls cells slots C _ _ hW hL hS w => by
    have ha := h_W_ne hW hk (fun n h => by cases h)
    have hP := h_P1 (hW.2.2.2.1 a _ ha hk)
    show W p (xl X) e R s m args below meth cd H locs cells slots Qf (F0 m pc ls (.ref (h_ad X a) :: st.map (h_val X)))
    rw [h_ad_p ha]
    exact va_get (D := xD X) (ci := c) (v := .int (md M a j)) (C := hCN c) (T := hCT c) (N := hN c) C.1 C.2.1 C.2.2.2.2.2.2.2.1 (hCl_in hf.1) C.2.2.2.2.2.2.1 C.2.2.2.2.2.2.2.2.1 hP 0 rfl (hCl_at hf.1) j hf.2.1 (C.2.2.2.2.2.2.2.1 _ hf.2.2) (fun _ h => h) (by rw [h_fs_at hf.2.1]; simp [h_fv, hty]) (h_dec C.2.2.2.2.2.2.2.2.2.2.2.2.1 hat) w) kk
theorem wp_getR {idx a c j q : Nat} (hat : h_at k pc = some (.getfield idx, 3)) (hf : h_fl k idx c j) (hty : (hTy c j).isReference = true) (hk : mk M a = some (.inl c)) (hq : mr M a j = some q) (kk : Wp X k n0 z0 (pc + 3) L (.inr (some q) :: st) M Q) : Wp X k n0 z0 pc L (.inr (some a) :: st) M Q :=
  wp_st (fun R p e s m args below meth cd Qf H locs ls cells slots C _ _ hW hL hS w => by
    have ha := h_W_ne hW hk (fun n h => by cases h)
    have hP := h_P1 (hW.2.2.2.1 a _ ha hk)
    show W p (xl X) e R s m args below meth cd H locs cells slots Qf (F0 m pc ls (.ref (h_ad X a) :: st.map (h_val X)))
    rw [h_ad_p ha]
    exact va_get (D := xD X) (ci := c) (v := .ref (h_ad X q)) (C := hCN c) (T := hCT c) (N := hN c) C.1 C.2.1 C.2.2.2.2.2.2.2.1 (hCl_in hf.1) C.2.2.2.2.2.2.1 C.2.2.2.2.2.2.2.2.1 hP 0 rfl (hCl_at hf.1) j hf.2.1 (C.2.2.2.2.2.2.2.1 _ hf.2.2) (fun _ h => h) (by rw [h_fs_at hf.2.1]; simp [h_fv, hty, hq, va_rf]) (h_dec C.2.2.2.2.2.2.2.2.2.2.2.2.1 hat) w) kk
/-- the world behind a change of one cell -/
theorem h_W_put {M' : hM} {U : State} {H H' : Heap} {a : Nat} (hW : h_W X M U H) (z : H'.size = H.size) (oq : ∀ q : Nat, q ≠ xo X + a → H'[q]? = H[q]?) (ha : a ≠ 0) (e1 : mK M' = mK M) (e2 : mk M' = mk M) (ed : ∀ p, p ≠ a → md M' p = md M p) (er : ∀ p, p ≠ a → mr M' p = mr M p)
    (hn : ∀ kd, mk M a = some kd → va_at (xD X) hCl (xo X + a, h_cell X M' a kd) H') : h_W X M' U H' := by
  obtain ⟨h1, h2, h3, h4, n, h5, h6⟩ := hW
  refine ⟨by rw [z, h1, e1], by rw [e1]; exact h2, h3, fun p kd hp hk => ?_, n, by rw [e2]; exact h5, ?_⟩
  · rw [e2] at hk
    by_cases e : p = a
    · subst e; exact hn kd hk
    · have hc : h_cell X M' p kd = h_cell X M p kd := by
        rcases kd with c | ⟨ty, n⟩ | ⟨ty, n⟩
        · simp only [h_cell, h_fs]
          have hff : h_fv X M' p c = h_fv X M p c := by
            funext x
            simp only [h_fv, ed p e, er p e]
          rw [hff]
        · simp only [h_cell, ed p e]
        · simp only [h_cell, er p e]
      rw [hc]
      exact (h4 p kd hp hk).kept (oq _ (by show xo X + p ≠ xo X + a; omega))
  · rw [ed 0 (fun h => ha h.symm)]
    exact h6.kept (oq _ (by have : xo X + 1 ≤ xo X + a := by omega
                            omega))
theorem hS_put {s : State} {H H1 : Heap} {locs : List Loc} {a i : Nat} (h : va_S (xF X) s.heap H locs) (z : H1.size = H.size) (oq : ∀ q : Nat, q ≠ xo X + a → H1[q]? = H[q]?) (ha : a ≠ 0) : va_S (xF X) s.heap H1 (locs ++ [⟨xo X + a, i⟩]) :=
  h.put z oq (show xo X + 1 ≤ xo X + a by omega)
/-- what a put leaves of an object -/
theorem h_ob_put {D : va_G} {c a j : Nat} {H' : Heap} {V : Nat → Value} {v : Value} {cell : Cell} (hc : c < 7) (hj : j < hN c) (q4 : ∀ i, i < hN c → cell.slots[D.2 c i]? = some (V i)) (q2 : cell.cls = D.1 c) (q3 : cell.vm = .none) (hap : ∀ x y, x < hN c → y < hN c → x ≠ y → (D.2 c) x ≠ (D.2 c) y) (e1 : H'[a]? = some (cell.setSlot (D.2 c j) v)) {fs : List Value} (hfs : ∀ i, i < hN c → vp_V fs i = if i = j then v else V i) : va_at D hCl (a, .inr (c, fs)) H' :=
  ⟨_, hCl_at hc, t_OB.to (V := updV V j v) ⟨_, e1, q2, q3, t_set q4 hap hj v⟩ (fun i hi => by rw [hfs i hi]; rfl)⟩
theorem wp_putI {idx a c j : Nat} {x : Int32} (hat : h_at k pc = some (.putfield idx, 3)) (hf : h_fl k idx c j) (hty : (hTy c j).isReference = false) (hfin : (hCT c j).2.2.2 = false) (hx : narrow (hTy c j) (.int x) = .int x ∧ fits (hTy c j) (.int x) = true) (hk : mk M a = some (.inl c))
    (kk : Wp X k n0 z0 (pc + 3) L st (mK M, mz M, mk M, hu (md M) a j x, mr M) Q) : Wp X k n0 z0 pc L (.inl x :: .inr (some a) :: st) M Q :=
  by
    refine wp_go ?_ ?_ ?_ kk
    · exact Nat.le_refl _
    · exact Nat.le_refl _
    intro R p e s m args below meth cd Qf H locs ls cells slots C hcs hss ec es hW hL hS w
    have ha := h_W_ne hW hk (fun n h => by cases h)
    have hat1 := hW.2.2.2.1 a _ ha hk
    show W p (xl X) e R s m args below meth cd H locs cells slots Qf (F0 m pc ls (.int x :: .ref (h_ad X a) :: st.map (h_val X)))
    rw [h_ad_p ha]
    have hts := C.2.2.2.2.2.2.2.1
    have hKK := C.2.2.2.2.2.2.2.2.1
    have hc := hCl_at hf.1
    have hap := va_apart (own := (ky k).cls) (D := xD X) hts (hCl_in hf.1) (hTy c) (hCl_ty hf.1) (hCl_nm hf.1) hKK hc
    obtain ⟨r, h1, cell, q1, q2, q3, q4⟩ := hat1
    have hr : r = (hCN c, hCT c, hN c) := Option.some.inj (h1.symm.trans hc)
    subst hr
    obtain ⟨hSl, hfc, kC, hkC, hkind⟩ := hKK.1 c _ hc
    obtain ⟨cf, kf, fi, f, hi, hsl⟩ := hSl j hf.2.1
    have hlay := hts _ (hCl_in hf.1 _ (u_in_lay hf.2.1))
    unfold u_lay at hlay
    rw [if_neg (by rw [hfin]; decide)] at hlay
    have hst := (u_facts hfc hkC (u_lays hts (hCl_in hf.1) hf.2.1) hi).1
    have h6 := u_store hfc hkC hkind hlay hi (hCl_ty hf.1 j hf.2.1) hx.1 hx.2
    refine W.putK C.1 C.2.1 (f := f) ⟨C.2.2.2.2.2.2.1, hts _ hf.2.2, ⟨_, _, _, hi⟩, hst⟩ (by rw [q2]; exact h6) q1 q3 (by rw [hsl]; exact k2_hasslot (q4 j hf.2.1)) rfl rfl (h_dec C.2.2.2.2.2.2.2.2.2.2.2.2.1 hat) fun H' e1 e2 e3 => ?_
    rw [hsl] at e1 ⊢
    refine w H' _ ls cells slots ec es (h_W_put (a := a) hW e2 e3 ha rfl rfl (fun p hp => ?_) (fun p hp => rfl) (fun kd hkd => ?_)) hL (hS_put hS e2 e3 ha)
    · funext i
      exact hu_n (fun h => hp h.1)
    · rw [hk] at hkd
      cases hkd
      refine h_ob_put hf.1 hf.2.1 q4 q2 q3 hap e1 (fun i hi => ?_)
      rw [h_V hi, h_V hi]
      by_cases e : i = j
      · subst e
        rw [if_pos rfl]
        simp [h_fv, hty, md, mr, hu]
      · rw [if_neg e]
        simp [h_fv, md, mr, hu, e]
theorem wp_putFI {idx a c j : Nat} {x : Int32} (hat : h_at k pc = some (.putfield idx, 3)) (hf : h_fl k idx c j) (hty : (hTy c j).isReference = false) (hfin : (hCT c j).2.2.2 = true) (hin2 : (ky k).name = "<init>") (hdecl : (hCT c j).1 = (ky k).cls) (hx : narrow (hTy c j) (.int x) = .int x ∧ fits (hTy c j) (.int x) = true) (hk : mk M a = some (.inl c))
    (kk : Wp X k n0 z0 (pc + 3) L st (mK M, mz M, mk M, hu (md M) a j x, mr M) Q) : Wp X k n0 z0 pc L (.inl x :: .inr (some a) :: st) M Q :=
  by
    refine wp_go ?_ ?_ ?_ kk
    · exact Nat.le_refl _
    · exact Nat.le_refl _
    intro R p e s m args below meth cd Qf H locs ls cells slots C hcs hss ec es hW hL hS w
    have ha := h_W_ne hW hk (fun n h => by cases h)
    have hat1 := hW.2.2.2.1 a _ ha hk
    show W p (xl X) e R s m args below meth cd H locs cells slots Qf (F0 m pc ls (.int x :: .ref (h_ad X a) :: st.map (h_val X)))
    rw [h_ad_p ha]
    have hts := C.2.2.2.2.2.2.2.1
    have hKK := C.2.2.2.2.2.2.2.2.1
    have hc := hCl_at hf.1
    have hap := va_apart (own := (ky k).cls) (D := xD X) hts (hCl_in hf.1) (hTy c) (hCl_ty hf.1) (hCl_nm hf.1) hKK hc
    obtain ⟨r, h1, cell, q1, q2, q3, q4⟩ := hat1
    have hr : r = (hCN c, hCT c, hN c) := Option.some.inj (h1.symm.trans hc)
    subst hr
    obtain ⟨hSl, hfc, kC, hkC, hkind⟩ := hKK.1 c _ hc
    obtain ⟨cf, kf, fi, f, hi, hsl⟩ := hSl j hf.2.1
    have hlay := hts _ (hCl_in hf.1 _ (u_in_lay hf.2.1))
    unfold u_lay at hlay
    rw [if_pos hfin] at hlay
    have hst := (u_facts hfc hkC (u_lays hts (hCl_in hf.1) hf.2.1) hi).1
    have hcf : m.cls = cf := by
      obtain ⟨_, _, c', _, _, _, -, -, hf', -, -, -, hown2, -⟩ := Cond.laysFinal_spec hlay
      have e1 : c' = cf := by have := hi.symm.trans hf'; simp at this; exact this.1.symm
      rw [hdecl] at hown2
      rw [← e1]; exact Option.some.inj (C.2.2.2.2.2.2.1.symm.trans hown2)
    have h6 := u_fits hfc hkC hkind (Or.inr hlay) hi (hCl_ty hf.1 j hf.2.1) hx.1 hx.2
    refine W.putFinK C.1 C.2.1 C.2.2.2.2.2.2.1 (hts _ hf.2.2) hi hst hcf (C.2.2.2.2.2.1.trans hin2) (by rw [q2]; exact h6) q1 q3 (by rw [hsl]; exact k2_hasslot (q4 j hf.2.1)) rfl rfl (h_dec C.2.2.2.2.2.2.2.2.2.2.2.2.1 hat) fun H' e1 e2 e3 => ?_
    rw [hsl] at e1 ⊢
    refine w H' _ ls cells slots ec es (h_W_put (a := a) hW e2 e3 ha rfl rfl (fun p hp => ?_) (fun p hp => rfl) (fun kd hkd => ?_)) hL (hS_put hS e2 e3 ha)
    · funext i
      exact hu_n (fun h => hp h.1)
    · rw [hk] at hkd
      cases hkd
      refine h_ob_put hf.1 hf.2.1 q4 q2 q3 hap e1 (fun i hi => ?_)
      rw [h_V hi, h_V hi]
      by_cases e : i = j
      · subst e
        rw [if_pos rfl]
        simp [h_fv, hty, md, mr, hu]
      · rw [if_neg e]
        simp [h_fv, md, mr, hu, e]
theorem wp_putFR {idx a c j q : Nat} (hat : h_at k pc = some (.putfield idx, 3)) (hf : h_fl k idx c j) (hty : (hTy c j).isReference = true) (hfin : (hCT c j).2.2.2 = true) (hin2 : (ky k).name = "<init>") (hdecl : (hCT c j).1 = (ky k).cls) (hx : ∀ b, narrow (hTy c j) (.ref b) = .ref b ∧ fits (hTy c j) (.ref b) = true) (hk : mk M a = some (.inl c))
    (kk : Wp X k n0 z0 (pc + 3) L st (mK M, mz M, mk M, md M, hu (mr M) a j (some q)) Q) : Wp X k n0 z0 pc L (.inr (some q) :: .inr (some a) :: st) M Q :=
  by
    refine wp_go ?_ ?_ ?_ kk
    · exact Nat.le_refl _
    · exact Nat.le_refl _
    intro R p e s m args below meth cd Qf H locs ls cells slots C hcs hss ec es hW hL hS w
    have ha := h_W_ne hW hk (fun n h => by cases h)
    have hat1 := hW.2.2.2.1 a _ ha hk
    show W p (xl X) e R s m args below meth cd H locs cells slots Qf (F0 m pc ls (.ref (h_ad X q) :: .ref (h_ad X a) :: st.map (h_val X)))
    rw [h_ad_p ha]
    have hts := C.2.2.2.2.2.2.2.1
    have hKK := C.2.2.2.2.2.2.2.2.1
    have hc := hCl_at hf.1
    have hap := va_apart (own := (ky k).cls) (D := xD X) hts (hCl_in hf.1) (hTy c) (hCl_ty hf.1) (hCl_nm hf.1) hKK hc
    obtain ⟨r, h1, cell, q1, q2, q3, q4⟩ := hat1
    have hr : r = (hCN c, hCT c, hN c) := Option.some.inj (h1.symm.trans hc)
    subst hr
    obtain ⟨hSl, hfc, kC, hkC, hkind⟩ := hKK.1 c _ hc
    obtain ⟨cf, kf, fi, f, hi, hsl⟩ := hSl j hf.2.1
    have hlay := hts _ (hCl_in hf.1 _ (u_in_lay hf.2.1))
    unfold u_lay at hlay
    rw [if_pos hfin] at hlay
    have hst := (u_facts hfc hkC (u_lays hts (hCl_in hf.1) hf.2.1) hi).1
    have hcf : m.cls = cf := by
      obtain ⟨_, _, c', _, _, _, -, -, hf', -, -, -, hown2, -⟩ := Cond.laysFinal_spec hlay
      have e1 : c' = cf := by have := hi.symm.trans hf'; simp at this; exact this.1.symm
      rw [hdecl] at hown2
      rw [← e1]; exact Option.some.inj (C.2.2.2.2.2.2.1.symm.trans hown2)
    have h6 := u_fits hfc hkC hkind (Or.inr hlay) hi (hCl_ty hf.1 j hf.2.1) (hx (h_ad X q)).1 (hx (h_ad X q)).2
    refine W.putFinK C.1 C.2.1 C.2.2.2.2.2.2.1 (hts _ hf.2.2) hi hst hcf (C.2.2.2.2.2.1.trans hin2) (by rw [q2]; exact h6) q1 q3 (by rw [hsl]; exact k2_hasslot (q4 j hf.2.1)) rfl rfl (h_dec C.2.2.2.2.2.2.2.2.2.2.2.2.1 hat) fun H' e1 e2 e3 => ?_
    rw [hsl] at e1 ⊢
    refine w H' _ ls cells slots ec es (h_W_put (a := a) hW e2 e3 ha rfl rfl (fun p hp => rfl) (fun p hp => ?_) (fun kd hkd => ?_)) hL (hS_put hS e2 e3 ha)
    · funext i
      exact hu_n (fun h => hp h.1)
    · rw [hk] at hkd
      cases hkd
      refine h_ob_put hf.1 hf.2.1 q4 q2 q3 hap e1 (fun i hi => ?_)
      rw [h_V hi, h_V hi]
      by_cases e : i = j
      · subst e
        rw [if_pos rfl]
        simp [h_fv, hty, md, mr, hu, va_rf]
      · rw [if_neg e]
        simp [h_fv, md, mr, hu, e]
end MEM
end
section
/-! ARRAYS, NEW CELLS -/
section ARR
variable {X : hX} {k : hMI} {n0 z0 pc : Nat} {L : List (Option hV)} {st : List hV} {M : hM} {Q : Option hV → hM → Prop}
theorem h_ix {j n : Nat} (hj : j < n) (hn : n < 2147483648) : vp_in (nI j) n := vp_in_nI hj (by omega)
theorem wp_iald {a j n : Nat} {i : Int32} (hat : h_at k pc = some (.iaload, 1)) (hk : mk M a = some (.inr (.inl (.int, n)))) (hi : i = nI j) (hj : j < n) (hn : n < 2147483648) (kk : Wp X k n0 z0 (pc + 1) L (.inl (md M a j) :: st) M Q) : Wp X k n0 z0 pc L (.inl i :: .inr (some a) :: st) M Q :=
  wp_st (fun R p e s m args below meth cd Qf H locs ls cells slots C _ _ hW hL hS w => by
    subst hi
    have hcl : (nI j).toNatClampNeg = j := nI_clamp (by omega)
    have hin := h_ix hj hn
    have w' : W p (xl X) e R s m args below meth cd H locs cells slots Qf (F0 m (pc + 1) ls (.int (md M a (nI j).toNatClampNeg) :: st.map (h_val X))) := by rw [hcl]; exact w
    show W p (xl X) e R s m args below meth cd H locs cells slots Qf (F0 m pc ls (.int (nI j) :: .ref (h_ad X a) :: st.map (h_val X)))
    by_cases ha : a = 0
    · subst ha
      obtain ⟨h1, h2, h3, -, n', h5, h6⟩ := hW
      rw [hk] at h5
      cases h5
      exact va_sld (A := xF X) (H0 := H) C.1 C.2.1 h6 (by rw [h1]; omega) (by show ¬ (xo X + 1 ≤ xb X); omega) ⟨Nat.le_refl _, fun _ _ _ => rfl, hS.2.2⟩ hin (h_dec C.2.2.2.2.2.2.2.2.2.2.2.2.1 hat) w'
    · have hP := h_P1 (hW.2.2.2.1 a _ ha hk)
      rw [h_ad_p ha]
      exact va_iald C.1 C.2.1 C.2.2.2.2.2.2.2.2.1 hP 0 0 rfl rfl hin (h_dec C.2.2.2.2.2.2.2.2.2.2.2.2.1 hat) w') kk
theorem wp_alen {a n : Nat} (hat : h_at k pc = some (.arraylength, 1)) (hk : mk M 0 = some (.inr (.inl (.int, n)))) (kk : Wp X k n0 z0 (pc + 1) L (.inl (nI n) :: st) M Q) : Wp X k n0 z0 pc L (.inr (some 0) :: st) M Q :=
  wp_st (fun R p e s m args below meth cd Qf H locs ls cells slots C _ _ hW hL hS w => by
    obtain ⟨h1, h2, h3, -, n', h5, h6⟩ := hW
    rw [hk] at h5
    cases h5
    exact va_slen (b := xb X) (A := xF X) (H0 := H) C.1 C.2.1 h6 (by rw [h1]; omega) (by show ¬ (xo X + 1 ≤ xb X); omega) ⟨Nat.le_refl _, fun _ _ _ => rfl, hS.2.2⟩ (h_dec C.2.2.2.2.2.2.2.2.2.2.2.2.1 hat) w) kk
theorem wp_zald {a j n : Nat} {i : Int32} (hat : h_at k pc = some (.baload, 1)) (hk : mk M a = some (.inr (.inl (.boolean, n)))) (hi : i = nI j) (hj : j < n) (hn : n < 2147483648) (kk : Wp X k n0 z0 (pc + 1) L (.inl (md M a j) :: st) M Q) : Wp X k n0 z0 pc L (.inl i :: .inr (some a) :: st) M Q :=
  wp_st (fun R p e s m args below meth cd Qf H locs ls cells slots C _ _ hW hL hS w => by
    subst hi
    have hcl : (nI j).toNatClampNeg = j := nI_clamp (by omega)
    have w' : W p (xl X) e R s m args below meth cd H locs cells slots Qf (F0 m (pc + 1) ls (.int (md M a (nI j).toNatClampNeg) :: st.map (h_val X))) := by rw [hcl]; exact w
    have ha := h_W_ne hW hk (fun n h => by cases h)
    have hP := h_P1 (hW.2.2.2.1 a _ ha hk)
    show W p (xl X) e R s m args below meth cd H locs cells slots Qf (F0 m pc ls (.int (nI j) :: .ref (h_ad X a) :: st.map (h_val X)))
    rw [h_ad_p ha]
    exact va_zald C.1 C.2.1 C.2.2.2.2.2.2.2.2.1 hP 0 1 rfl rfl (h_ix hj hn) (h_dec C.2.2.2.2.2.2.2.2.2.2.2.2.1 hat) w') kk
theorem wp_aald {a j n q t0 : Nat} {C0 : String} {i : Int32} (hat : h_at k pc = some (.aaload, 1)) (hk : mk M a = some (.inr (.inr (.object C0, n)))) (ht : hAT[t0]? = some (.object C0)) (hi : i = nI j) (hj : j < n) (hn : n < 2147483648) (hq : mr M a j = some q) (kk : Wp X k n0 z0 (pc + 1) L (.inr (some q) :: st) M Q) : Wp X k n0 z0 pc L (.inl i :: .inr (some a) :: st) M Q :=
  wp_st (fun R p e s m args below meth cd Qf H locs ls cells slots C _ _ hW hL hS w => by
    subst hi
    have hcl : (nI j).toNatClampNeg = j := nI_clamp (by omega)
    have w' : W p (xl X) e R s m args below meth cd H locs cells slots Qf (F0 m (pc + 1) ls (va_rf ((mr M a (nI j).toNatClampNeg).map (h_ad X)) :: st.map (h_val X))) := by rw [hcl, hq]; exact w
    have ha := h_W_ne hW hk (fun n h => by cases h)
    have hP := h_P1 (hW.2.2.2.1 a _ ha hk)
    show W p (xl X) e R s m args below meth cd H locs cells slots Qf (F0 m pc ls (.int (nI j) :: .ref (h_ad X a) :: st.map (h_val X)))
    rw [h_ad_p ha]
    exact va_aldq (C := C0) C.1 C.2.1 C.2.2.2.2.2.2.2.2.1 hP 0 t0 rfl (by simp [h_tys, ht]) (h_ix hj hn) (h_dec C.2.2.2.2.2.2.2.2.2.2.2.2.1 hat) w') kk
theorem wp_iast {a j n : Nat} {i x : Int32} (hat : h_at k pc = some (.iastore, 1)) (hk : mk M a = some (.inr (.inl (.int, n)))) (ha : a ≠ 0) (hi : i = nI j) (hj : j < n) (hn : n < 2147483648) (kk : Wp X k n0 z0 (pc + 1) L st (mK M, mz M, mk M, hu (md M) a j x, mr M) Q) : Wp X k n0 z0 pc L (.inl x :: .inl i :: .inr (some a) :: st) M Q := by
  refine wp_go ?_ ?_ ?_ kk
  · exact Nat.le_refl _
  · exact Nat.le_refl _
  intro R p e s m args below meth cd Qf H locs ls cells slots C hcs hss ec es hW hL hS w
  subst hi
  have hcl : (nI j).toNatClampNeg = j := nI_clamp (by omega)
  have hin := h_ix hj hn
  have hP := hW.2.2.2.1 a _ ha hk
  show W p (xl X) e R s m args below meth cd H locs cells slots Qf (F0 m pc ls (.int x :: .int (nI j) :: .ref (h_ad X a) :: st.map (h_val X)))
  rw [h_ad_p ha]
  refine W.iast C.1 C.2.1 hP ((C.2.2.2.2.2.2.2.2.1.2 0 _ rfl).1 n (fun j => .int (md M a j))) (fun q => by cases q) (by show ¬ (nI j < 0 ∨ (arrV _ _ _).slots.size ≤ _); rw [arrV_size]; exact hin) rfl rfl (h_dec C.2.2.2.2.2.2.2.2.2.2.2.2.1 hat) fun H1 e1 z oq => ?_
  refine w H1 _ ls cells slots ec es (h_W_put (a := a) hW z oq ha rfl rfl (fun p hp => ?_) (fun p hp => rfl) (fun kd hkd => ?_)) hL (hS_put hS z oq ha)
  · funext i
    exact hu_n (fun h => hp h.1)
  · rw [hk] at hkd
    cases hkd
    show H1[xo X + a]? = some (vp_cell _ _)
    rw [e1]
    show some ((vp_cell _ _).setSlot _ _) = _
    rw [vp_cell_i, vp_cell_i, arrV_store]
    congr 2
    funext q
    rw [hcl]
    by_cases hq : q = j
    · subst hq
      simp [updV, md, mr, hu]
    · simp [updV, md, mr, hu, hq]
theorem wp_zast {a j n : Nat} {i x : Int32} (hat : h_at k pc = some (.bastore, 1)) (hk : mk M a = some (.inr (.inl (.boolean, n)))) (hi : i = nI j) (hj : j < n) (hn : n < 2147483648) (hx : narrow .boolean (.int x) = .int x) (kk : Wp X k n0 z0 (pc + 1) L st (mK M, mz M, mk M, hu (md M) a j x, mr M) Q) : Wp X k n0 z0 pc L (.inl x :: .inl i :: .inr (some a) :: st) M Q := by
  refine wp_go ?_ ?_ ?_ kk
  · exact Nat.le_refl _
  · exact Nat.le_refl _
  intro R p e s m args below meth cd Qf H locs ls cells slots C hcs hss ec es hW hL hS w
  subst hi
  have hcl : (nI j).toNatClampNeg = j := nI_clamp (by omega)
  have hin := h_ix hj hn
  have ha := h_W_ne hW hk (fun n h => by cases h)
  have hP := hW.2.2.2.1 a _ ha hk
  show W p (xl X) e R s m args below meth cd H locs cells slots Qf (F0 m pc ls (.int x :: .int (nI j) :: .ref (h_ad X a) :: st.map (h_val X)))
  rw [h_ad_p ha]
  refine W.zast C.1 C.2.1 hP ((C.2.2.2.2.2.2.2.2.1.2 1 _ rfl).1 n (fun j => .int (md M a j))) (fun q => by cases q) (by show ¬ (nI j < 0 ∨ (arrV _ _ _).slots.size ≤ _); rw [arrV_size]; exact hin) rfl rfl (h_dec C.2.2.2.2.2.2.2.2.2.2.2.2.1 hat) fun H1 e1 z oq => ?_
  refine w H1 _ ls cells slots ec es (h_W_put (a := a) hW z oq ha rfl rfl (fun p hp => ?_) (fun p hp => rfl) (fun kd hkd => ?_)) hL (hS_put hS z oq ha)
  · funext i
    exact hu_n (fun h => hp h.1)
  · rw [hk] at hkd
    cases hkd
    show H1[xo X + a]? = some (vp_cell _ _)
    rw [e1, hx]
    show some ((vp_cell _ _).setSlot _ _) = _
    rw [vp_cell_i, vp_cell_i, arrV_store]
    congr 2
    funext q
    rw [hcl]
    by_cases hq : q = j
    · subst hq
      simp [updV, md, mr, hu]
    · simp [updV, md, mr, hu, hq]
theorem wp_aast {a j n v t0 c : Nat} {i : Int32} (hat : h_at k pc = some (.aastore, 1)) (hk : mk M a = some (.inr (.inr (.object (hCN c), n)))) (hv : mk M v = some (.inl c)) (hc : c < 7) (ht : hAT[t0]? = some (.object (hCN c))) (hi : i = nI j) (hj : j < n) (hn : n < 2147483648) (kk : Wp X k n0 z0 (pc + 1) L st (mK M, mz M, mk M, md M, hu (mr M) a j (some v)) Q) : Wp X k n0 z0 pc L (.inr (some v) :: .inl i :: .inr (some a) :: st) M Q := by
  refine wp_go ?_ ?_ ?_ kk
  · exact Nat.le_refl _
  · exact Nat.le_refl _
  intro R p e s m args below meth cd Qf H locs ls cells slots C hcs hss ec es hW hL hS w
  subst hi
  have hcl : (nI j).toNatClampNeg = j := nI_clamp (by omega)
  have hin := h_ix hj hn
  have ha := h_W_ne hW hk (fun n h => by cases h)
  have hv0 := h_W_ne hW hv (fun n h => by cases h)
  have hP := hW.2.2.2.1 a _ ha hk
  have hPv := hW.2.2.2.1 v _ hv0 hv
  show W p (xl X) e R s m args below meth cd H locs cells slots Qf (F0 m pc ls (.ref (h_ad X v) :: .int (nI j) :: .ref (h_ad X a) :: st.map (h_val X)))
  rw [h_ad_p ha, h_ad_p hv0]
  have hKK := C.2.2.2.2.2.2.2.2.1
  obtain ⟨r', hr', cellV, g1, g2, g3, -⟩ := hPv
  have hcls := (hKK.1 c _ (hCl_at hc)).2
  have htt : (h_tys X)[t0]? = some (xA X (.object (hCN c)), .object (hCN c)) := by simp [h_tys, ht]
  obtain ⟨kA, comp, k1, k2, k3, -⟩ := (hKK.2 t0 _ htt).2
  have hcomp : comp = (xD X).1 c := Option.some.inj (k3.symm.trans hcls.1)
  subst hcomp
  obtain ⟨kC, hkC, -⟩ := hcls.2
  have hlt : (nI j).toNatClampNeg < n := by rw [hcl]; exact hj
  refine W.aast C.1 C.2.1 hP (fun q h => by cases h) (fun h => by cases h) k1 k2 rfl hkC ⟨nI_pos (by omega), by show _ < (arrV _ _ _).slots.size; rw [arrV_size]; exact hlt⟩ g1 (fun q h => by rw [g3] at h; cases h) (by rw [g2]; exact hkC) (by rw [g2]; exact va_assign hcls) rfl rfl (h_dec C.2.2.2.2.2.2.2.2.2.2.2.2.1 hat) fun H1 e1 z oq => ?_
  refine w H1 _ ls cells slots ec es (h_W_put (a := a) hW z oq ha rfl rfl (fun p hp => rfl) (fun p hp => ?_) (fun kd hkd => ?_)) hL (hS_put hS z oq ha)
  · funext i
    exact hu_n (fun h => hp h.1)
  · rw [hk] at hkd
    cases hkd
    show H1[xo X + a]? = some (vp_cell _ _)
    rw [e1]
    show some ((vp_cell _ _).setSlot _ _) = _
    rw [vp_cell_q, vp_cell_q, arrV_store]
    congr 2
    funext q
    rw [hcl]
    by_cases hq : q = j
    · subst hq
      simp [updV, md, mr, hu, va_rf, h_ad_p hv0]
    · simp [updV, md, mr, hu, hq]
/-- memory with one more cell -/
def h_new (M : hM) (kd : hK) (n : Nat) : hM := (mK M + 1, mz M + n, hu1 (mk M) (mK M) (some kd), (fun q i => if q = mK M then 0 else md M q i), (fun q i => if q = mK M then none else mr M q i))
theorem h_W_new {U : State} {H H' : Heap} {kd : hK} {n : Nat} (hW : h_W X M U H) (z : H'.size = H.size + 1) (oq : ∀ q : Nat, q < H.size → H'[q]? = H[q]?) (hn : va_at (xD X) hCl (xo X + mK M, h_cell X (h_new M kd n) (mK M) kd) H') : h_W X (h_new M kd n) U H' := by
  obtain ⟨h1, h2, h3, h4, n', h5, h6⟩ := hW
  have ed : ∀ p, p ≠ mK M → md (h_new M kd n) p = md M p := fun p hp => by
    funext i
    show (if p = mK M then 0 else md M p i) = _
    rw [if_neg hp]
  have er : ∀ p, p ≠ mK M → mr (h_new M kd n) p = mr M p := fun p hp => by
    funext i
    show (if p = mK M then none else mr M p i) = _
    rw [if_neg hp]
  refine ⟨by rw [z, h1]; show _ = xo X + (mK M + 1); omega, by show 1 ≤ mK M + 1; omega, h3, fun p kd' hp hk => ?_, n', ?_, ?_⟩
  · by_cases e : p = mK M
    · subst e
      have hk2 : hu1 (mk M) (mK M) (some kd) (mK M) = some kd' := hk
      rw [hu1_s] at hk2
      cases hk2
      exact hn
    · have hk2 : hu1 (mk M) (mK M) (some kd) p = some kd' := hk
      rw [hu1_n e] at hk2
      have h := h4 p kd' hp hk2
      have hlt := h.lt
      have hc : h_cell X (h_new M kd n) p kd' = h_cell X M p kd' := by
        rcases kd' with c | ⟨ty, n9⟩ | ⟨ty, n9⟩
        · simp only [h_cell, h_fs]
          have hff : h_fv X (h_new M kd n) p c = h_fv X M p c := by
            funext x
            simp only [h_fv, ed p e, er p e]
          rw [hff]
        · simp only [h_cell, ed p e]
        · simp only [h_cell, er p e]
      rw [hc]
      exact h.kept (oq _ hlt)
  · show hu1 (mk M) (mK M) (some kd) 0 = _
    rw [hu1_n (by omega)]
    exact h5
  · rw [ed 0 (by omega)]
    exact h6.kept (oq _ (by rw [h1]; omega))
theorem hS_new {s : State} {H H' : Heap} {locs : List Loc} (h : va_S (xF X) s.heap H locs) (z : H'.size = H.size + 1) (oq : ∀ q : Nat, q < H.size → H'[q]? = H[q]?) : va_S (xF X) s.heap H' locs :=
  ⟨Nat.le_trans h.1 (by omega), fun q h1 h2 => (oq q (Nat.lt_of_lt_of_le h1 h.1)).trans (h.2.1 q h1 h2), h.2.2⟩
def h_cn (k : hMI) (idx c : Nat) : Prop := c < 7 ∧ Cond.classLink (ky k).cls idx (hCN c) ∈ h_tbl ∧ Cond.instantiable (hCN c) (hN c) ∈ h_tbl ∧ Cond.initialized (hCN c) ∈ h_tbl
theorem h_dflt (c : Nat) (X : hX) (M : hM) (n : Nat) : ∀ j, j < hN c → c < 7 → defaultValue (hTy c j) = h_fv X (h_new M (.inl c) n) (mK M) c j := by
  intro j hj hc
  have hr : mr (h_new M (.inl c) n) (mK M) j = none := by show (if mK M = mK M then none else _) = _; rw [if_pos rfl]
  have hd : md (h_new M (.inl c) n) (mK M) j = 0 := by show (if mK M = mK M then (0 : Int32) else _) = _; rw [if_pos rfl]
  simp only [h_fv, hr, hd]
  have hall : ∀ c, c < 7 → ∀ j, j < 26 → j < hN c → defaultValue (hTy c j) = if (hTy c j).isReference = true then Value.null else Value.int 0 := by decide +kernel
  have h26 : j < 26 := by
    have : hN c ≤ 26 := by
      rcases (show c = 0 ∨ c = 1 ∨ c = 2 ∨ c = 3 ∨ c = 4 ∨ c = 5 ∨ c = 6 by omega) with rfl | rfl | rfl | rfl | rfl | rfl | rfl <;> decide
    omega
  exact hall c hc j h26 hj
theorem wp_new {idx c : Nat} (hat : h_at k pc = some (.new idx, 3)) (hf : h_cn k idx c) (kk : Wp X k n0 z0 (pc + 3) L (.inr (some (mK M)) :: st) (h_new M (.inl c) (hN c)) Q) : Wp X k n0 z0 pc L st M Q := by
  refine wp_go ?_ ?_ ?_ kk
  · show mK M ≤ mK M + 1; omega
  · show mz M ≤ mz M + hN c; omega
  intro R p e s m args below meth cd Qf H locs ls cells slots C hcs hss ec es hW hL hS w
  have hts := C.2.2.2.2.2.2.2.1
  have hKn := C.2.2.2.2.2.2.2.2.1.1 c _ (hCl_at hf.1)
  have hcs' : mK M + 1 ≤ n0 + R.cells := hcs
  have hss' : mz M + hN c ≤ z0 + R.slots := hss
  refine W.newcK C.1 C.2.1 C.2.2.2.2.2.2.1 (hts _ hf.2.1) (hts _ hf.2.2.1) (hts _ hf.2.2.2) rfl (h_dec C.2.2.2.2.2.2.2.2.2.2.2.2.1 hat) (by omega) (by omega) hKn.2.1 rfl fun H1 kC hkC e1 z1 o1 => ?_
  have hsz : H.size = xo X + mK M := hW.1
  have hnn : mK M ≠ 0 := by have := hW.2.1; omega
  have hw := w H1 locs ls (cells + 1) (slots + hN c) (by show _ = mK M + 1; omega) (by show _ = mz M + hN c; omega) (h_W_new hW z1 o1 ?_) hL (hS_new hS z1 o1)
  · rw [hsz]
    have hv : h_val X (.inr (some (mK M))) = .ref (xo X + mK M) := by show Value.ref (h_ad X (mK M)) = _; rw [h_ad_p hnn]
    rw [List.map_cons, hv] at hw
    exact hw
  · refine ⟨_, hCl_at hf.1, ?_⟩
    rw [← hsz]
    refine (u_born (hTy c) hts (hCl_in hf.1) hKn hkC e1 (hCl_ty hf.1)).to (fun j hj => ?_)
    rw [h_V hj]
    exact h_dflt c X M (hN c) j hj hf.1
theorem wp_newa {n t0 : Nat} {i : Int32} {aty : ArrayType} {ty : FieldType} (hat : h_at k pc = some (.newarray aty, 2)) (hty : newarray.typeOf aty = ty) (ht : hAT[t0]? = some ty) (hp : ty = .int ∨ ty = .boolean) (harr : Cond.arrayClass ty ∈ h_tbl) (hi : i = nI n) (hn : n < 100000) (kk : Wp X k n0 z0 (pc + 2) L (.inr (some (mK M)) :: st) (h_new M (.inr (.inl (ty, n))) n) Q) : Wp X k n0 z0 pc L (.inl i :: st) M Q := by
  refine wp_go ?_ ?_ ?_ kk
  · show mK M ≤ mK M + 1; omega
  · show mz M ≤ mz M + n; omega
  intro R p e s m args below meth cd Qf H locs ls cells slots C hcs hss ec es hW hL hS w
  have hts := C.2.2.2.2.2.2.2.1
  subst hi
  have hcl : (nI n).toNatClampNeg = n := nI_clamp (by omega)
  have hcs' : mK M + 1 ≤ n0 + R.cells := hcs
  have hss' : mz M + n ≤ z0 + R.slots := hss
  have hcb : componentBytes ty ≤ 8 := by rcases hp with rfl | rfl <;> decide
  refine va_newaK C.1 C.2.1 (by rw [hty]; exact hts _ harr) rfl (h_dec C.2.2.2.2.2.2.2.2.2.2.2.2.1 hat) rfl (nI_pos (by omega)) hcl (by rw [hty]; exact Nat.le_trans (Nat.mul_le_mul (Nat.le_of_lt hn) hcb) (by decide)) (by omega) (by omega) rfl fun H1 cA e1 z1 o1 hAr hNm => ?_
  rw [hty] at e1 hNm
  have hsz : H.size = xo X + mK M := hW.1
  have hnn : mK M ≠ 0 := by have := hW.2.1; omega
  have htt : (h_tys X)[t0]? = some (xA X ty, ty) := by simp [h_tys, ht]
  have hRA := (C.2.2.2.2.2.2.2.2.1.2 t0 _ htt).2
  have hcA : cA = xA X ty := by
    rcases hp with rfl | rfl
    · exact Option.some.inj (hNm.symm.trans hRA)
    · exact Option.some.inj (hNm.symm.trans hRA)
  have hw := w H1 locs ls (cells + 1) (slots + n) (by show _ = mK M + 1; omega) (by show _ = mz M + n; omega) (h_W_new hW z1 o1 ?_) hL (hS_new hS z1 o1)
  · rw [hsz]
    have hv : h_val X (.inr (some (mK M))) = .ref (xo X + mK M) := by show Value.ref (h_ad X (mK M)) = _; rw [h_ad_p hnn]
    rw [List.map_cons, hv] at hw
    exact hw
  · show H1[xo X + mK M]? = some (vp_cell (xA X ty) (n, .inl (md (h_new M (.inr (.inl (ty, n))) n) (mK M))))
    rw [← hsz, e1, hcA, vp_cell_i]
    congr 2
    funext q
    have hd : md (h_new M (.inr (.inl (ty, n))) n) (mK M) q = 0 := by show (if mK M = mK M then (0 : Int32) else _) = _; rw [if_pos rfl]
    rw [hd]
    rcases hp with rfl | rfl <;> rfl
theorem wp_anew {n t0 idx : Nat} {i : Int32} {C0 : String} (hat : h_at k pc = some (.anewarray idx, 3)) (ht : hAT[t0]? = some (.object C0)) (hl : Cond.classLink (ky k).cls idx C0 ∈ h_tbl) (ho : ∀ U, h_ex U → va_AO C0 U) (hi : i = nI n) (hn : n < 100000) (kk : Wp X k n0 z0 (pc + 3) L (.inr (some (mK M)) :: st) (h_new M (.inr (.inr (.object C0, n))) n) Q) : Wp X k n0 z0 pc L (.inl i :: st) M Q := by
  refine wp_go ?_ ?_ ?_ kk
  · show mK M ≤ mK M + 1; omega
  · show mz M ≤ mz M + n; omega
  intro R p e s m args below meth cd Qf H locs ls cells slots C hcs hss ec es hW hL hS w
  have hts := C.2.2.2.2.2.2.2.1
  subst hi
  have hcl : (nI n).toNatClampNeg = n := nI_clamp (by omega)
  have hcs' : mK M + 1 ≤ n0 + R.cells := hcs
  have hss' : mz M + n ≤ z0 + R.slots := hss
  refine W.anew (C := C0) C.1 C.2.1 C.2.2.2.2.2.2.1 (hts _ hl) (ho s C.2.2.2.2.2.2.2.2.2.2.2.2.2).use rfl (h_dec C.2.2.2.2.2.2.2.2.2.2.2.2.1 hat) rfl (nI_pos (by omega)) (by rw [hcl]; omega) (by omega) (by rw [hcl]; omega) fun cA kA comp f1 f2 f3 f4 => ?_
  rw [hcl]
  generalize hH1 : H.push ({ cls := cA, slots := Array.replicate n .null, vm := .none } : Cell) = H1
  have z1 : H1.size = H.size + 1 := by rw [← hH1, Array.size_push]
  have e1 : H1[H.size]? = some (arrV cA n (fun _ => .null)) := by rw [← hH1, Array.getElem?_push_size, ← arrV_new]
  have o1 : ∀ q : Nat, q < H.size → H1[q]? = H[q]? := fun q hq => by rw [← hH1, Array.getElem?_push, if_neg (Nat.ne_of_lt hq)]
  have hsz : H.size = xo X + mK M := hW.1
  have hnn : mK M ≠ 0 := by have := hW.2.1; omega
  have htt : (h_tys X)[t0]? = some (xA X (.object C0), .object C0) := by simp [h_tys, ht]
  obtain ⟨kA', comp', -, -, -, k4⟩ := (C.2.2.2.2.2.2.2.2.1.2 t0 _ htt).2
  have hcA : cA = xA X (.object C0) := Option.some.inj (f1.symm.trans k4)
  have hw := w H1 locs ls (cells + 1) (slots + n) (by show _ = mK M + 1; omega) (by show _ = mz M + n; omega) (h_W_new hW z1 o1 ?_) hL (hS_new hS z1 o1)
  · rw [hsz]
    have hv : h_val X (.inr (some (mK M))) = .ref (xo X + mK M) := by show Value.ref (h_ad X (mK M)) = _; rw [h_ad_p hnn]
    rw [List.map_cons, hv] at hw
    exact hw
  · show H1[xo X + mK M]? = some (vp_cell (xA X (.object C0)) (n, .inr (.inr (.inr (.inr (fun j => (mr (h_new M (.inr (.inr (.object C0, n))) n) (mK M) j).map (h_ad X)))))))
    rw [← hsz, e1, hcA, vp_cell_q]
    congr 2
    funext q
    have hd : mr (h_new M (.inr (.inr (.object C0, n))) n) (mK M) q = none := by show (if mK M = mK M then none else _) = _; rw [if_pos rfl]
    rw [hd]
    rfl
end ARR
end
section
/-! CALLS AND CONTRACTS -/
theorem lw_good : h_tbl.all goodWord = true := List.all_eq_true.mpr (fun w h => (List.mem_filter.mp h).2)
def h_ws (k : hMI) : List Cond := Cond.code (ky k) (kc k) (kml k) (krt k) :: h_tbl
def h_rm (k : hMI) (a b : Nat) : Room := { frames := kfr k, cells := a, slots := b, locals := klo k }
def h_Pc (X : hX) (As : List hV) (M : hM) : Array Value → State → Prop := va_Pc (As.map (h_val X)) (fun U => h_W X M U U.heap ∧ va_K (xD X) hCl (h_tys X) U ∧ h_ex U)
def h_Qc (X : hX) (res : Option hV × hM) : Array Value → State → Outcome → State → Prop := fun _ u oc t => oc = .returned (res.1.map (h_val X)) ∧ h_W X res.2 t t.heap ∧ va_F (xF X) u t
def h_Ct (X : hX) (k : hMI) (As : List hV) (M : hM) (res : Option hV × hM) : Prop := mK M ≤ mK res.2 ∧ mz M ≤ mz res.2 ∧ Met (xl X) (ky k) (h_ws k) (h_rm k (mK res.2 - mK M) (mz res.2 - mz M)) (h_Pc X As M) (h_Qc X res) (mK res.2 - mK M) (mz res.2 - mz M) (xF X)
/-- a call of k with As in memory M returns, with Q of answer and memory -/
def Cl (X : hX) (k : hMI) (As : List hV) (M : hM) (Q : Option hV → hM → Prop) : Prop := ∃ res, h_Ct X k As M res ∧ Q res.1 res.2
theorem h_blind (X : hX) (As : List hV) (M : hM) : FrameBlind (h_Pc X As M) := fun a U g mk h => ⟨h.1, h_W_moved (u := U) (U := U.calling g mk a) (Vm.Alike.refl U.vm) h.2.1, va_K.moved (u := U) (U := U.calling g mk a) (Vm.Alike.refl U.vm) h.2.2.1, h_ex_call h.2.2.2⟩
theorem h_good {k : hMI} (h : Cond.code (ky k) (kc k) (kml k) (krt k) ∈ h_tbl) : GoodIn h_tbl (h_ws k) := fun w hw => by
  have hm : w ∈ h_tbl := by
    rcases List.mem_cons.mp hw with rfl | hw
    · exact h
    · exact hw
  exact ⟨hm, good_of_word (List.all_eq_true.mp lw_good w hm)⟩
def h_nd (k k' : hMI) (n : Nat) : Prop := (ky k').cls ≠ "java/lang/invoke/MethodHandle" ∧ (ky k').cls ≠ "java/lang/invoke/VarHandle" ∧ (parseMethodDescriptor (ky k').desc).map (fun d => d.parameters.length) = some n
def h_mB (k k' : hMI) (n : Nat) : Prop := Cond.initialized (ky k').cls ∈ h_tbl ∧ Cond.code (ky k') (kc k') (kml k') (krt k') ∈ h_tbl ∧ h_nd k k' n ∧ kfr k' + 1 ≤ kfr k ∧ 19 + kml k' + klo k' ≤ klo k
def h_mV (k k' : hMI) (idx c n : Nat) : Prop := h_mB k k' n ∧ c < 7 ∧ Cond.methodLink (ky k).cls idx (ky k') ∈ h_tbl ∧ Cond.instanceMethod (ky k') ∈ h_tbl ∧ Cond.selects (hCN c) (ky k') (ky k') ∈ h_tbl
def h_mS (k k' : hMI) (idx n : Nat) : Prop := h_mB k k' n ∧ Cond.methodLink (ky k).cls idx (ky k') ∈ h_tbl ∧ Cond.static (ky k') ∈ h_tbl
def h_mI (k k' : hMI) (idx n : Nat) : Prop := h_mB k k' n ∧ Cond.methodLink (ky k).cls idx (ky k') ∈ h_tbl ∧ Cond.instanceMethod (ky k') ∈ h_tbl ∧ (ky k').name = "<init>" ∧ krt k' = none
def h_mN (k k' : hMI) (idx n : Nat) (host : String) : Prop := h_mB k k' n ∧ (∀ U, h_ex U → va_Nw (.methodLinkNest (ky k).cls idx (ky k') host) U) ∧ Cond.instanceMethod (ky k') ∈ h_tbl ∧ (ky k').name = "<init>" ∧ krt k' = none
section CALL
variable {X : hX} {k k' : hMI} {n0 z0 pc : Nat} {L : List (Option hV)} {st : List hV} {M : hM} {Q Q1 : Option hV → hM → Prop}
theorem h_cat (st : List hV) : ((st.map (h_val X)).map fun v => v.category).sum = st.length := by
  induction st with
  | nil => rfl
  | cons v st ih =>
    simp only [List.map_cons, List.sum_cons, List.length_cons, h_val_cat, ih]
    omega
/-- behind a call -/
theorem h_back {p : Program} {e : Env} {R : Room} {s : State} {m : MethodId} {args : Array Value} {below : List Frame} {meth : Method} {c : Code} {H : Heap} {locs : List Loc} {cells slots mc ms : Nat} {ls : Array Slot} {st0 rest : List Value} {a : Array Value} {res : Option hV × hM} {Qf : State → Prop}
    (hr : va_Run p (xl X) e R s m args below meth c H locs cells slots mc ms (F0 m pc ls st0) rest (h_Qc X res a) (xF X)) (hS : va_S (xF X) s.heap H locs)
    (kk : ∀ (H1 : Heap) (locs1 : List Loc), h_W X res.2 s H1 → va_S (xF X) s.heap H1 locs1 → W p (xl X) e R s m args below meth c H1 locs1 (cells + mc) (slots + ms) Qf (F0 m (pc + 3) ls ((res.1.map (h_val X)).toList ++ rest))) : W p (xl X) e R s m args below meth c H locs cells slots Qf (F0 m pc ls st0) := by
  intro T hT XX
  obtain ⟨v, st₀, t, T', Lc, h0, X', hL, e1, e2, ⟨hv, hw, hz, hk⟩, stp⟩ := hr T hT XX
  have hv' : v = res.1.map (h_val X) := by injection hv
  subst hv'
  rw [h0] at hz hk
  have hal : s.vm.Alike t.vm := by rw [← e2]; exact X'.warmed.alike
  obtain ⟨t2, a1, b1⟩ := kk T'.heap (locs ++ Lc) (by rw [e1]; exact h_W_moved hal.symm hw)
    ⟨Nat.le_trans hS.1 (by rw [e1]; exact hz), fun q h1 h2 => by rw [e1, hk q (Nat.lt_of_lt_of_le h1 hS.1) h2]; exact hS.2.1 q h1 h2, fun q hq => by
      rcases List.mem_append.mp hq with h | h
      · exact hS.2.2 q h
      · exact hL q h⟩ T' rfl X'
  exact ⟨t2, stp t2 a1, b1⟩
/-- the machine's run of a call: what each kind of call gives -/
def h_Rn (X : hX) (k : hMI) (pc : Nat) (stk : List hV) (st : List hV) (M : hM) (res : Option hV × hM) : Prop :=
  mK M ≤ mK res.2 ∧ mz M ≤ mz res.2 ∧ ∀ (R : Room) (p : Program) (e : Env) (s : State) (m : MethodId) (args : Array Value) (below : List Frame) (meth : Method) (c : Code) (H : Heap) (locs : List Loc) (ls : Array Slot) (cells slots : Nat),
    h_Cx X k R p s m args meth c → cells + (mK res.2 - mK M) ≤ R.cells → slots + (mz res.2 - mz M) ≤ R.slots → h_W X M s H → ls.size = kml k →
    ∃ a, va_Run p (xl X) e R s m args below meth c H locs cells slots (mK res.2 - mK M) (mz res.2 - mz M) (F0 m pc ls (stk.map (h_val X))) (st.map (h_val X)) (h_Qc X res a) (xF X)
theorem wp_run {stk : List hV} {res : Option hV × hM} (hr : h_Rn X k pc stk st M res) (kk : Wp X k n0 z0 (pc + 3) L (res.1.toList ++ st) res.2 Q) : Wp X k n0 z0 pc L stk M Q := by
  obtain ⟨g1, g2, g3⟩ := hr
  refine wp_go ?_ ?_ ?_ kk
  · exact g1
  · exact g2
  intro R p e s m args below meth c Qf H locs ls cells slots C hcs hss ec es hW hL hS w
  obtain ⟨a, hrun⟩ := g3 R p e s m args below meth c H locs ls cells slots C (by omega) (by omega) hW hL.1
  refine h_back hrun hS (fun H1 locs1 hW1 hS1 => ?_)
  have h := w H1 locs1 ls (cells + (mK res.2 - mK M)) (slots + (mz res.2 - mz M)) (by omega) (by omega) hW1 hL hS1
  have e1 : (res.1.map (h_val X)).toList ++ st.map (h_val X) = (res.1.toList ++ st).map (h_val X) := by
    cases res.1 <;> simp
  rw [e1]
  exact h
theorem h_pre {s : State} {R : Room} {p : Program} {m : MethodId} {args : Array Value} {meth : Method} {c : Code} {H : Heap} {As : List hV} (C : h_Cx X k R p s m args meth c) (hW : h_W X M s H) : ∀ U : State, U.heap = H → s.WarmedH U.vm → h_Pc X As M (As.map (h_val X)).toArray U :=
  fun U hU hw => ⟨rfl, by rw [hU]; exact h_W_moved hw.alike hW, va_K.moved hw.alike C.2.2.2.2.2.2.2.2.1, h_ex_warm hw C.2.2.2.2.2.2.2.2.2.2.2.2.2⟩
theorem h_rv {As : List hV} : (As.reverse.map (h_val X)) = (As.map (h_val X)).reverse := by rw [List.map_reverse]
theorem h_cB {s : State} {R : Room} {p : Program} {m : MethodId} {args : Array Value} {meth : Method} {c : Code} {n a b idx : Nat} (C : h_Cx X k R p s m args meth c) (hB : h_mB k k' n) (hl : Cond.methodLink (ky k).cls idx (ky k') ∈ h_tbl) : CallB R s args (ky k).cls idx (ky k') (kc k') (kml k') (krt k') (h_ws k') (h_rm k' a b) a b n := by
  obtain ⟨h1, h2, h3, h4, h5⟩ := hB
  have hfr := C.2.2.2.2.2.2.2.2.2.2.1
  have hlo := C.2.2.2.2.2.2.2.2.2.2.2.1
  exact callB_of n C.2.2.2.2.2.2.2.1 (h_good h2) rfl rfl rfl (C.2.2.2.2.2.2.2.1 _ h1) (C.2.2.2.2.2.2.2.1 _ hl) h3 ⟨by show kfr k' + 1 ≤ _; omega, by show 8 + (kml k' + 11) + klo k' ≤ _; omega⟩
theorem h_runV {As : List hV} {a idx c n : Nat} {res : Option hV × hM} (hat : h_at k pc = some (.invokevirtual idx, 3)) (hm : h_mV k k' idx c n) (hn : As.length = n) (hk : mk M a = some (.inl c)) (hst : st.length ≤ 8) (hc : h_Ct X k' (.inr (some a) :: As) M res) : h_Rn X k pc (As.reverse ++ .inr (some a) :: st) st M res := by
  obtain ⟨g1, g2, g3⟩ := hc
  refine ⟨g1, g2, ?_⟩
  intro R p e s m args below meth cd H locs ls cells slots C hcs hss hW hls
  have hts := C.2.2.2.2.2.2.2.1
  have ha := h_W_ne hW hk (fun n h => by cases h)
  have hP := h_P1 (hW.2.2.2.1 a _ ha hk)
  have hrec := va_recv C.2.2.2.2.2.2.2.2.1 hP (hCl_at hm.2.1) (q0 := 0) rfl
  have hv : h_val X (.inr (some a)) = .ref (xo X + a) := by show Value.ref (h_ad X a) = _; rw [h_ad_p ha]
  refine ⟨_, va_runV (As := As.map (h_val X)) (rest := st.map (h_val X)) (b := xo X + a) (C := hCN c) ⟨C.1, C.2.1, C.2.2.2.1, C.2.2.2.2.2.2.1, hts⟩ g3 ⟨h_cB C hm.1 hm.2.2.1, hts _ hm.2.2.2.1, hts _ hm.2.2.2.2⟩ ⟨h_blind X _ M, hrec, ?_⟩ rfl (by rw [List.length_map]; exact hn) hls ?_ ?_ (h_dec C.2.2.2.2.2.2.2.2.2.2.2.2.1 hat) ⟨hcs, hss⟩⟩
  · intro U hU hw
    have h := h_pre (As := .inr (some a) :: As) C hW U hU hw
    rw [List.map_cons, hv] at h
    exact h
  · show (As.reverse ++ .inr (some a) :: st).map (h_val X) = _
    rw [List.map_append, List.map_cons, hv, h_rv]
  · refine lv_room ?_
    rw [h_cat]; exact hst
theorem h_runS {As : List hV} {idx n : Nat} {res : Option hV × hM} (hat : h_at k pc = some (.invokestatic idx, 3)) (hm : h_mS k k' idx n) (hn : As.length = n) (hst : st.length ≤ 8) (hc : h_Ct X k' As M res) : h_Rn X k pc (As.reverse ++ st) st M res := by
  obtain ⟨g1, g2, g3⟩ := hc
  refine ⟨g1, g2, ?_⟩
  intro R p e s m args below meth cd H locs ls cells slots C hcs hss hW hls
  have hts := C.2.2.2.2.2.2.2.1
  refine ⟨_, va_runS (As := As.map (h_val X)) (rest := st.map (h_val X)) ⟨C.1, C.2.1, C.2.2.2.1, C.2.2.2.2.2.2.1, hts⟩ g3 ⟨h_cB C hm.1 hm.2.1, hts _ hm.2.2⟩ ⟨h_blind X _ M, h_pre C hW⟩ rfl (by rw [List.length_map]; exact hn) hls ?_ ?_ (h_dec C.2.2.2.2.2.2.2.2.2.2.2.2.1 hat) ⟨hcs, hss⟩⟩
  · show (As.reverse ++ st).map (h_val X) = _
    rw [List.map_append, h_rv]
  · refine lv_room ?_
    rw [h_cat]; exact hst
theorem h_runI {As : List hV} {a c idx n : Nat} {res : Option hV × hM} (hat : h_at k pc = some (.invokespecial idx, 3)) (hm : h_mI k k' idx n) (hn : As.length = n) (hk : mk M a = some (.inl c)) (hst : st.length ≤ 8) (hc : h_Ct X k' (.inr (some a) :: As) M res) : h_Rn X k pc (As.reverse ++ .inr (some a) :: st) st M res := by
  obtain ⟨g1, g2, g3⟩ := hc
  refine ⟨g1, g2, ?_⟩
  intro R p e s m args below meth cd H locs ls cells slots C hcs hss hW hls
  have hts := C.2.2.2.2.2.2.2.1
  have ha := h_W_ne hW hk (fun n h => by cases h)
  have hv : h_val X (.inr (some a)) = .ref (xo X + a) := by show Value.ref (h_ad X a) = _; rw [h_ad_p ha]
  have hB := h_cB (a := mK res.2 - mK M) (b := mz res.2 - mz M) C hm.1 hm.2.1
  rw [hm.2.2.2.2] at hB
  refine ⟨_, va_runI (As := As.map (h_val X)) (rest := st.map (h_val X)) (b := xo X + a) ⟨C.1, C.2.1, C.2.2.2.1, C.2.2.2.2.2.2.1, hts⟩ g3 ⟨hB, hm.2.2.2.1, hts _ hm.2.2.1⟩ ⟨h_blind X _ M, ?_⟩ rfl (by rw [List.length_map]; exact hn) hls ?_ ?_ (h_dec C.2.2.2.2.2.2.2.2.2.2.2.2.1 hat) ⟨hcs, hss⟩⟩
  · intro U hU hw
    have h := h_pre (As := .inr (some a) :: As) C hW U hU hw
    rw [List.map_cons, hv] at h
    exact h
  · show (As.reverse ++ .inr (some a) :: st).map (h_val X) = _
    rw [List.map_append, List.map_cons, hv, h_rv]
  · refine lv_room ?_
    rw [h_cat]; exact hst
theorem h_runN {As : List hV} {a c idx n : Nat} {host : String} {res : Option hV × hM} (hat : h_at k pc = some (.invokespecial idx, 3)) (hm : h_mN k k' idx n host) (hn : As.length = n) (hk : mk M a = some (.inl c)) (hst : st.length ≤ 8) (hc : h_Ct X k' (.inr (some a) :: As) M res) : h_Rn X k pc (As.reverse ++ .inr (some a) :: st) st M res := by
  obtain ⟨g1, g2, g3⟩ := hc
  refine ⟨g1, g2, ?_⟩
  intro R p e s m args below meth cd H locs ls cells slots C hcs hss hW hls
  have hts := C.2.2.2.2.2.2.2.1
  have ha := h_W_ne hW hk (fun n h => by cases h)
  have hv : h_val X (.inr (some a)) = .ref (xo X + a) := by show Value.ref (h_ad X a) = _; rw [h_ad_p ha]
  obtain ⟨h1, h2, h3, h4, h5⟩ := hm.1
  have hfr := C.2.2.2.2.2.2.2.2.2.2.1
  have hlo := C.2.2.2.2.2.2.2.2.2.2.2.1
  have hB : va_CN R s args (ky k).cls idx (ky k') host (kc k') (kml k') (krt k') (h_ws k') (h_rm k' (mK res.2 - mK M) (mz res.2 - mz M)) (mK res.2 - mK M) (mz res.2 - mz M) n :=
    va_cnB n hts (h_good h2) rfl rfl rfl (hm.2.1 s C.2.2.2.2.2.2.2.2.2.2.2.2.2) (hts _ h1) h3 ⟨by show kfr k' + 1 ≤ _; omega, by show 8 + (kml k' + 11) + klo k' ≤ _; omega⟩
  rw [hm.2.2.2.2] at hB
  refine ⟨_, va_runIN (As := As.map (h_val X)) (rest := st.map (h_val X)) (b := xo X + a) ⟨C.1, C.2.1, C.2.2.2.1, C.2.2.2.2.2.2.1, hts⟩ g3 ⟨hB, hm.2.2.2.1, hts _ hm.2.2.1⟩ ⟨h_blind X _ M, ?_⟩ rfl (by rw [List.length_map]; exact hn) hls ?_ ?_ (h_dec C.2.2.2.2.2.2.2.2.2.2.2.2.1 hat) ⟨hcs, hss⟩⟩
  · intro U hU hw
    have h := h_pre (As := .inr (some a) :: As) C hW U hU hw
    rw [List.map_cons, hv] at h
    exact h
  · show (As.reverse ++ .inr (some a) :: st).map (h_val X) = _
    rw [List.map_append, List.map_cons, hv, h_rv]
  · refine lv_room ?_
    rw [h_cat]; exact hst
theorem wp_obj {idx a : Nat} (hat : h_at k pc = some (.invokespecial idx, 3)) (hm : Cond.methodLink (ky k).cls idx Lib.objectInit ∈ h_tbl ∧ Cond.instanceMethod Lib.objectInit ∈ h_tbl ∧ Cond.code Lib.objectInit ⟨#[0xb1]⟩ 1 none ∈ h_tbl) (hfr : 1 ≤ kfr k) (hlo : st.length + 12 ≤ klo k) (kk : Wp X k n0 z0 (pc + 3) L st M Q) : Wp X k n0 z0 pc L (.inr (some a) :: st) M Q :=
  wp_st (fun R p e s m args below meth c Qf H locs ls cells slots C _ _ hW hL hS w => by
    have hts := C.2.2.2.2.2.2.2.1
    refine W.objInit C.1 C.2.1 C.2.2.2.2.2.2.1 (hts _ hm.1) (hts _ hm.2.1) (hts _ hm.2.2) rfl (by rw [C.2.2.2.1]; exact hL.1) rfl (h_dec C.2.2.2.2.2.2.2.2.2.2.2.2.1 hat) (Nat.le_trans hfr C.2.2.2.2.2.2.2.2.2.2.1) ?_ w
    have h1 : klo k ≤ R.locals := C.2.2.2.2.2.2.2.2.2.2.2.1
    have h2 : (F0 m pc ls (.ref (h_ad X a) :: st.map (h_val X))).monitorRoom = 0 := rfl
    show 2 * (F0 m pc ls (.ref (h_ad X a) :: st.map (h_val X))).monitorRoom + _ + 12 ≤ R.locals
    rw [h2, h_cat]
    omega) kk
theorem wp_ireturn {v : Int32} (hat : h_at k pc = some (.ireturn, 1)) (ty : FieldType) (hr : krt k = some ty) (hn : narrow ty (.int v) = .int v) (hq : Q (some (.inl v)) M) : Wp X k n0 z0 pc L [.inl v] M Q :=
  ⟨(some (.inl v), M), ⟨Nat.le_refl _, Nat.le_refl _, fun R p e s m args below meth c Qf H locs ls cells slots C _ _ ec es hW hL hS hf => hf pc ls H locs cells slots ec es ⟨h_dec C.2.2.2.2.2.2.2.2.2.2.2.2.1 hat, ty, hr, hn⟩ hW hS⟩, hq⟩
theorem wp_return (hat : h_at k pc = some (.return_, 1)) (hr : krt k = none) (hq : Q none M) : Wp X k n0 z0 pc L [] M Q :=
  ⟨(none, M), ⟨Nat.le_refl _, Nat.le_refl _, fun R p e s m args below meth c Qf H locs ls cells slots C _ _ ec es hW hL hS hf => hf pc ls H locs cells slots ec es ⟨h_dec C.2.2.2.2.2.2.2.2.2.2.2.2.1 hat, hr⟩ hW hS⟩, hq⟩
theorem Wp.mono {Q' : Option hV → hM → Prop} (h : Wp X k n0 z0 pc L st M Q) (hq : ∀ r M', Q r M' → Q' r M') : Wp X k n0 z0 pc L st M Q' := by
  obtain ⟨res, h1, h2⟩ := h
  exact ⟨res, h1, hq _ _ h2⟩
theorem Cl.mono {As : List hV} {Q' : Option hV → hM → Prop} (h : Cl X k As M Q) (hq : ∀ r M', Q r M' → Q' r M') : Cl X k As M Q' := by
  obtain ⟨res, h1, h2⟩ := h
  exact ⟨res, h1, hq _ _ h2⟩
/-- the locals with which a method begins -/
def h_en (k : hMI) (As : List hV) : List (Option hV) := As.map some ++ List.replicate (kml k - As.length) none
theorem lg_one (vs : List Value) (h : ∀ v ∈ vs, v.category = 1) : lg_sl vs = vs.map .val := by
  induction vs with
  | nil => rfl
  | cons v vs ih =>
    have h1 := h v List.mem_cons_self
    have h2 := ih (fun w hw => h w (List.mem_cons_of_mem _ hw))
    simp only [lg_sl, List.flatMap_cons] at h2 ⊢
    rw [h1, h2]
    rfl
theorem h_entry {As : List hV} {n : Nat} (hn : As.length ≤ n) : h_L X ((lg_sl (As.map (h_val X)) ++ List.replicate (n - (lg_sl (As.map (h_val X))).length) Slot.unset).toArray) n (As.map some ++ List.replicate (n - As.length) none) := by
  have hc : lg_sl (As.map (h_val X)) = (As.map (h_val X)).map .val := lg_one _ (fun v hv => by
    obtain ⟨w, -, rfl⟩ := List.mem_map.mp hv
    exact h_val_cat X w)
  have hlen : (lg_sl (As.map (h_val X))).length = As.length := by rw [hc]; simp
  obtain ⟨h1, h2, -⟩ := lv_entry (As.map (h_val X)) (n := n) (by rw [hlen]; exact hn)
  refine ⟨h1, h2, by simp; omega, fun i v hv => ?_⟩
  have hi : i < As.length := by
    rcases Nat.lt_or_ge i As.length with h | h
    · exact h
    · rw [List.getElem?_append_right (by simpa using h)] at hv
      rw [List.getElem?_replicate] at hv
      split at hv
      · cases hv
      · cases hv
  rw [List.getElem?_append_left (by simpa using hi), List.getElem?_map] at hv
  rw [List.getElem?_toArray, hc, List.getElem?_append_left (by simpa using hi), List.getElem?_map, List.getElem?_map]
  cases hA : As[i]? with
  | none => rw [hA] at hv; cases hv
  | some w =>
    rw [hA] at hv
    cases hv
    rfl
/-- a walk of the body gives the contract -/
theorem h_ofWp {As : List hV} (hk : h_ok k) (hp : plainName (ky k).cls = true) (hn : As.length ≤ kml k) (h : Wp X k (mK M) (mz M) 0 (h_en k As) [] M Q) : Cl X k As M Q := by
  obtain ⟨res, ⟨g1, g2, g3⟩, hq⟩ := h
  refine ⟨res, ⟨g1, g2, ?_⟩, hq⟩
  refine Met.ofW (cc := kc k) (maxL := kml k) (ret := krt k) hp rfl ?_
  intro p e s m args below meth c s₁ B hml hv
  obtain ⟨rfl, hW, hK, hE⟩ := hv
  have hts0 := atoms_spec (ws := h_ws k) B.pre
  have hts : ∀ w ∈ h_tbl, w.before (As.map (h_val X)).toArray s = true := fun w hw => hts0 w (List.mem_cons_of_mem _ hw)
  have hown : s.vm.findClass (ky k).cls = some m.cls := findClass_of_methodNamed B.named
  have hsz : s.heap.size = xo X + mK M := hW.1
  have hK1 : 1 ≤ mK M := hW.2.1
  rw [lg_entry_eq]
  have hlocks := B.notSynchronized
  refine g3 (headSpec (h_ws k) (h_rm k (mK res.2 - mK M) (mz res.2 - mz M))).room p e s m _ below meth c _ s.heap [] _ 0 0 ⟨B.exec, B.bytes, B.returns, hml, B.notSynchronized, (name_of_methodNamed B.named B.method).1, hown, hts, hK, by omega, Nat.le_refl _, Nat.le_refl _, hk, hE⟩ ?_ ?_ (by omega) (by omega) hW (h_entry hn) va_S.rf ?_
  · show mK res.2 ≤ mK M + (mK res.2 - mK M); omega
  · show mz res.2 ≤ mz M + (mz res.2 - mz M); omega
  · intro pc' ls' H' locs' cells' slots' ec es hfin hW' hS'
    have e1 : cells' = mK res.2 - mK M := by omega
    have e2 : slots' = mz res.2 - mz M := by omega
    subst e1; subst e2
    have hQ : ∀ t : State, t.heap = H' → s.WarmedH t.vm → h_Qc X res (As.map (h_val X)).toArray s (.returned (res.1.map (h_val X))) t := fun t ht hw => ⟨rfl, by rw [ht]; exact h_W_moved hw.alike hW', hS'.F ht⟩
    obtain ⟨rv, M2⟩ := res
    match rv, hfin, hQ with
    | none, hfin, hQ => exact W.vret B.exec B.bytes (B.returns.trans hfin.2) hQ hS'.2.2 hfin.1
    | some (.inl v), hfin, hQ =>
      obtain ⟨hd, ty, hr, hnr⟩ := hfin
      exact W.zret B.exec B.bytes (B.returns.trans hr) hnr hQ hS'.2.2 hd
end CALL
end
