section
-- ===== PART A: goes FIRST, ahead of the names: the tables' words, and 'selects' of the private methods out of them =====
/-- a private method of a class that the tables say can be made, by its rows of tables_1 -/
def lw_okq (q : MethodName × Nat) : Prop := (q.1.cls ≠ "java/lang/invoke/MethodHandle" ∧ q.1.cls ≠ "java/lang/invoke/VarHandle") ∧ Cond.instantiable q.1.cls q.2 ∈ tables_1 ∧ Cond.privateMethod q.1 ∈ tables_1 ∧ Cond.instanceMethod q.1 ∈ tables_1
theorem lw_p0 : lw_okq (⟨"AccountMachine$Program", "append", "(IIIII)I"⟩, 7) := ⟨⟨by decide +kernel, by decide +kernel⟩, List.mem_of_getElem? (i := 54) (by decide +kernel), List.mem_of_getElem? (i := 192) (by decide +kernel), List.mem_of_getElem? (i := 193) (by decide +kernel)⟩
theorem lw_p1 : lw_okq (⟨"AccountMachine$Program", "clear", "()I"⟩, 7) := ⟨⟨by decide +kernel, by decide +kernel⟩, List.mem_of_getElem? (i := 54) (by decide +kernel), List.mem_of_getElem? (i := 200) (by decide +kernel), List.mem_of_getElem? (i := 201) (by decide +kernel)⟩
theorem lw_p2 : lw_okq (⟨"AccountMachine$Program", "check", "()I"⟩, 7) := ⟨⟨by decide +kernel, by decide +kernel⟩, List.mem_of_getElem? (i := 54) (by decide +kernel), List.mem_of_getElem? (i := 208) (by decide +kernel), List.mem_of_getElem? (i := 209) (by decide +kernel)⟩
theorem lw_p3 : lw_okq (⟨"AccountMachine$Program", "reasonAt", "(I)I"⟩, 7) := ⟨⟨by decide +kernel, by decide +kernel⟩, List.mem_of_getElem? (i := 54) (by decide +kernel), List.mem_of_getElem? (i := 212) (by decide +kernel), List.mem_of_getElem? (i := 213) (by decide +kernel)⟩
theorem lw_p4 : lw_okq (⟨"AccountMachine$Program", "goesOnInside", "(I)Z"⟩, 7) := ⟨⟨by decide +kernel, by decide +kernel⟩, List.mem_of_getElem? (i := 54) (by decide +kernel), List.mem_of_getElem? (i := 219) (by decide +kernel), List.mem_of_getElem? (i := 220) (by decide +kernel)⟩
theorem lw_p5 : lw_okq (⟨"AccountMachine$Program", "isPlace", "(J)Z"⟩, 7) := ⟨⟨by decide +kernel, by decide +kernel⟩, List.mem_of_getElem? (i := 54) (by decide +kernel), List.mem_of_getElem? (i := 223) (by decide +kernel), List.mem_of_getElem? (i := 224) (by decide +kernel)⟩
theorem lw_p6 : lw_okq (⟨"AccountMachine$Order", "reset", "(II)V"⟩, 5) := ⟨⟨by decide +kernel, by decide +kernel⟩, List.mem_of_getElem? (i := 91) (by decide +kernel), List.mem_of_getElem? (i := 233) (by decide +kernel), List.mem_of_getElem? (i := 234) (by decide +kernel)⟩
theorem lw_p7 : lw_okq (⟨"AccountMachine$Order", "addSlot", "(II)Z"⟩, 5) := ⟨⟨by decide +kernel, by decide +kernel⟩, List.mem_of_getElem? (i := 91) (by decide +kernel), List.mem_of_getElem? (i := 244) (by decide +kernel), List.mem_of_getElem? (i := 245) (by decide +kernel)⟩
theorem lw_p8 : lw_okq (⟨"AccountMachine$Ledger", "copyFrom", "(LAccountMachine$Ledger;)V"⟩, 4) := ⟨⟨by decide +kernel, by decide +kernel⟩, List.mem_of_getElem? (i := 20) (by decide +kernel), List.mem_of_getElem? (i := 252) (by decide +kernel), List.mem_of_getElem? (i := 253) (by decide +kernel)⟩
theorem lw_p9 : lw_okq (⟨"AccountMachine", "carryOut", "(LAccountMachine$Order;)I"⟩, 11) := ⟨⟨by decide +kernel, by decide +kernel⟩, List.mem_of_getElem? (i := 10) (by decide +kernel), List.mem_of_getElem? (i := 259) (by decide +kernel), List.mem_of_getElem? (i := 260) (by decide +kernel)⟩
theorem lw_p10 : lw_okq (⟨"AccountMachine", "canRun", "(I)Z"⟩, 11) := ⟨⟨by decide +kernel, by decide +kernel⟩, List.mem_of_getElem? (i := 10) (by decide +kernel), List.mem_of_getElem? (i := 263) (by decide +kernel), List.mem_of_getElem? (i := 264) (by decide +kernel)⟩
theorem lw_p11 : lw_okq (⟨"AccountMachine", "doSystem", "(LAccountMachine$Order;)I"⟩, 11) := ⟨⟨by decide +kernel, by decide +kernel⟩, List.mem_of_getElem? (i := 10) (by decide +kernel), List.mem_of_getElem? (i := 267) (by decide +kernel), List.mem_of_getElem? (i := 268) (by decide +kernel)⟩
theorem lw_p12 : lw_okq (⟨"AccountMachine", "takeUnits", "(I)Z"⟩, 11) := ⟨⟨by decide +kernel, by decide +kernel⟩, List.mem_of_getElem? (i := 10) (by decide +kernel), List.mem_of_getElem? (i := 271) (by decide +kernel), List.mem_of_getElem? (i := 272) (by decide +kernel)⟩
theorem lw_p13 : lw_okq (⟨"AccountMachine", "transfer", "(LAccountMachine$Order;I)I"⟩, 11) := ⟨⟨by decide +kernel, by decide +kernel⟩, List.mem_of_getElem? (i := 10) (by decide +kernel), List.mem_of_getElem? (i := 275) (by decide +kernel), List.mem_of_getElem? (i := 276) (by decide +kernel)⟩
theorem lw_p14 : lw_okq (⟨"AccountMachine$Order", "marksOf", "(I)I"⟩, 5) := ⟨⟨by decide +kernel, by decide +kernel⟩, List.mem_of_getElem? (i := 91) (by decide +kernel), List.mem_of_getElem? (i := 279) (by decide +kernel), List.mem_of_getElem? (i := 280) (by decide +kernel)⟩
theorem lw_p15 : lw_okq (⟨"AccountMachine$Ledger", "isBlank", "(I)Z"⟩, 4) := ⟨⟨by decide +kernel, by decide +kernel⟩, List.mem_of_getElem? (i := 20) (by decide +kernel), List.mem_of_getElem? (i := 283) (by decide +kernel), List.mem_of_getElem? (i := 284) (by decide +kernel)⟩
def lw_privs_1 : List (MethodName × Nat) := [(⟨"AccountMachine$Program", "append", "(IIIII)I"⟩, 7), (⟨"AccountMachine$Program", "clear", "()I"⟩, 7), (⟨"AccountMachine$Program", "check", "()I"⟩, 7), (⟨"AccountMachine$Program", "reasonAt", "(I)I"⟩, 7), (⟨"AccountMachine$Program", "goesOnInside", "(I)Z"⟩, 7), (⟨"AccountMachine$Program", "isPlace", "(J)Z"⟩, 7), (⟨"AccountMachine$Order", "reset", "(II)V"⟩, 5), (⟨"AccountMachine$Order", "addSlot", "(II)Z"⟩, 5), (⟨"AccountMachine$Ledger", "copyFrom", "(LAccountMachine$Ledger;)V"⟩, 4), (⟨"AccountMachine", "carryOut", "(LAccountMachine$Order;)I"⟩, 11), (⟨"AccountMachine", "canRun", "(I)Z"⟩, 11), (⟨"AccountMachine", "doSystem", "(LAccountMachine$Order;)I"⟩, 11), (⟨"AccountMachine", "takeUnits", "(I)Z"⟩, 11), (⟨"AccountMachine", "transfer", "(LAccountMachine$Order;I)I"⟩, 11), (⟨"AccountMachine$Order", "marksOf", "(I)I"⟩, 5), (⟨"AccountMachine$Ledger", "isBlank", "(I)Z"⟩, 4)]
theorem lw_r1 : ∀ q ∈ lw_privs_1, lw_okq q := List.forall_mem_cons.mpr ⟨lw_p0, List.forall_mem_cons.mpr ⟨lw_p1, List.forall_mem_cons.mpr ⟨lw_p2, List.forall_mem_cons.mpr ⟨lw_p3, List.forall_mem_cons.mpr ⟨lw_p4, List.forall_mem_cons.mpr ⟨lw_p5, List.forall_mem_cons.mpr ⟨lw_p6, List.forall_mem_cons.mpr ⟨lw_p7, List.forall_mem_cons.mpr ⟨lw_p8, List.forall_mem_cons.mpr ⟨lw_p9, List.forall_mem_cons.mpr ⟨lw_p10, List.forall_mem_cons.mpr ⟨lw_p11, List.forall_mem_cons.mpr ⟨lw_p12, List.forall_mem_cons.mpr ⟨lw_p13, List.forall_mem_cons.mpr ⟨lw_p14, List.forall_mem_cons.mpr ⟨lw_p15, fun _ h => absurd h List.not_mem_nil⟩⟩⟩⟩⟩⟩⟩⟩⟩⟩⟩⟩⟩⟩⟩⟩
theorem lw_p16 : lw_okq (⟨"AccountMachine", "assign", "(LAccountMachine$Order;I)I"⟩, 11) := ⟨⟨by decide +kernel, by decide +kernel⟩, List.mem_of_getElem? (i := 10) (by decide +kernel), List.mem_of_getElem? (i := 288) (by decide +kernel), List.mem_of_getElem? (i := 289) (by decide +kernel)⟩
theorem lw_p17 : lw_okq (⟨"AccountMachine", "allocate", "(LAccountMachine$Order;I)I"⟩, 11) := ⟨⟨by decide +kernel, by decide +kernel⟩, List.mem_of_getElem? (i := 10) (by decide +kernel), List.mem_of_getElem? (i := 292) (by decide +kernel), List.mem_of_getElem? (i := 293) (by decide +kernel)⟩
theorem lw_p18 : lw_okq (⟨"AccountMachine$Order", "copyFrom", "(LAccountMachine$Order;)V"⟩, 5) := ⟨⟨by decide +kernel, by decide +kernel⟩, List.mem_of_getElem? (i := 91) (by decide +kernel), List.mem_of_getElem? (i := 296) (by decide +kernel), List.mem_of_getElem? (i := 297) (by decide +kernel)⟩
theorem lw_p19 : lw_okq (⟨"AccountMachine$Frame", "begin", "(LAccountMachine$Ledger;)V"⟩, 6) := ⟨⟨by decide +kernel, by decide +kernel⟩, List.mem_of_getElem? (i := 121) (by decide +kernel), List.mem_of_getElem? (i := 302) (by decide +kernel), List.mem_of_getElem? (i := 303) (by decide +kernel)⟩
theorem lw_p20 : lw_okq (⟨"AccountMachine$Order", "mainSlotOf", "(I)I"⟩, 5) := ⟨⟨by decide +kernel, by decide +kernel⟩, List.mem_of_getElem? (i := 91) (by decide +kernel), List.mem_of_getElem? (i := 310) (by decide +kernel), List.mem_of_getElem? (i := 311) (by decide +kernel)⟩
theorem lw_p21 : lw_okq (⟨"AccountMachine$Frame", "seeAccounts", "(LAccountMachine$Ledger;)V"⟩, 6) := ⟨⟨by decide +kernel, by decide +kernel⟩, List.mem_of_getElem? (i := 121) (by decide +kernel), List.mem_of_getElem? (i := 318) (by decide +kernel), List.mem_of_getElem? (i := 319) (by decide +kernel)⟩
theorem lw_p22 : lw_okq (⟨"AccountMachine$Frame", "isMain", "(I)Z"⟩, 6) := ⟨⟨by decide +kernel, by decide +kernel⟩, List.mem_of_getElem? (i := 121) (by decide +kernel), List.mem_of_getElem? (i := 322) (by decide +kernel), List.mem_of_getElem? (i := 323) (by decide +kernel)⟩
theorem lw_p23 : lw_okq (⟨"AccountMachine", "step", "(LAccountMachine$Frame;)I"⟩, 11) := ⟨⟨by decide +kernel, by decide +kernel⟩, List.mem_of_getElem? (i := 10) (by decide +kernel), List.mem_of_getElem? (i := 326) (by decide +kernel), List.mem_of_getElem? (i := 327) (by decide +kernel)⟩
theorem lw_p24 : lw_okq (⟨"AccountMachine$Frame", "reachMemory", "(LAccountMachine$Program;I)I"⟩, 6) := ⟨⟨by decide +kernel, by decide +kernel⟩, List.mem_of_getElem? (i := 121) (by decide +kernel), List.mem_of_getElem? (i := 330) (by decide +kernel), List.mem_of_getElem? (i := 331) (by decide +kernel)⟩
theorem lw_p25 : lw_okq (⟨"AccountMachine$Frame", "indexOf", "(J)I"⟩, 6) := ⟨⟨by decide +kernel, by decide +kernel⟩, List.mem_of_getElem? (i := 121) (by decide +kernel), List.mem_of_getElem? (i := 334) (by decide +kernel), List.mem_of_getElem? (i := 335) (by decide +kernel)⟩
theorem lw_p26 : lw_okq (⟨"AccountMachine$Frame", "mayStore", "(I)Z"⟩, 6) := ⟨⟨by decide +kernel, by decide +kernel⟩, List.mem_of_getElem? (i := 121) (by decide +kernel), List.mem_of_getElem? (i := 340) (by decide +kernel), List.mem_of_getElem? (i := 341) (by decide +kernel)⟩
theorem lw_p27 : lw_okq (⟨"AccountMachine$Frame", "jump", "(LAccountMachine$Program;I)V"⟩, 6) := ⟨⟨by decide +kernel, by decide +kernel⟩, List.mem_of_getElem? (i := 121) (by decide +kernel), List.mem_of_getElem? (i := 345) (by decide +kernel), List.mem_of_getElem? (i := 346) (by decide +kernel)⟩
theorem lw_p28 : lw_okq (⟨"AccountMachine$Frame", "call", "(LAccountMachine$Program;I)I"⟩, 6) := ⟨⟨by decide +kernel, by decide +kernel⟩, List.mem_of_getElem? (i := 121) (by decide +kernel), List.mem_of_getElem? (i := 349) (by decide +kernel), List.mem_of_getElem? (i := 350) (by decide +kernel)⟩
theorem lw_p29 : lw_okq (⟨"AccountMachine", "serve", "(LAccountMachine$Frame;I)I"⟩, 11) := ⟨⟨by decide +kernel, by decide +kernel⟩, List.mem_of_getElem? (i := 10) (by decide +kernel), List.mem_of_getElem? (i := 353) (by decide +kernel), List.mem_of_getElem? (i := 354) (by decide +kernel)⟩
theorem lw_p30 : lw_okq (⟨"AccountMachine", "writeLog", "(J)V"⟩, 11) := ⟨⟨by decide +kernel, by decide +kernel⟩, List.mem_of_getElem? (i := 10) (by decide +kernel), List.mem_of_getElem? (i := 358) (by decide +kernel), List.mem_of_getElem? (i := 359) (by decide +kernel)⟩
theorem lw_p31 : lw_okq (⟨"AccountMachine", "invoke", "(LAccountMachine$Frame;)I"⟩, 11) := ⟨⟨by decide +kernel, by decide +kernel⟩, List.mem_of_getElem? (i := 10) (by decide +kernel), List.mem_of_getElem? (i := 362) (by decide +kernel), List.mem_of_getElem? (i := 363) (by decide +kernel)⟩
def lw_privs_2 : List (MethodName × Nat) := [(⟨"AccountMachine", "assign", "(LAccountMachine$Order;I)I"⟩, 11), (⟨"AccountMachine", "allocate", "(LAccountMachine$Order;I)I"⟩, 11), (⟨"AccountMachine$Order", "copyFrom", "(LAccountMachine$Order;)V"⟩, 5), (⟨"AccountMachine$Frame", "begin", "(LAccountMachine$Ledger;)V"⟩, 6), (⟨"AccountMachine$Order", "mainSlotOf", "(I)I"⟩, 5), (⟨"AccountMachine$Frame", "seeAccounts", "(LAccountMachine$Ledger;)V"⟩, 6), (⟨"AccountMachine$Frame", "isMain", "(I)Z"⟩, 6), (⟨"AccountMachine", "step", "(LAccountMachine$Frame;)I"⟩, 11), (⟨"AccountMachine$Frame", "reachMemory", "(LAccountMachine$Program;I)I"⟩, 6), (⟨"AccountMachine$Frame", "indexOf", "(J)I"⟩, 6), (⟨"AccountMachine$Frame", "mayStore", "(I)Z"⟩, 6), (⟨"AccountMachine$Frame", "jump", "(LAccountMachine$Program;I)V"⟩, 6), (⟨"AccountMachine$Frame", "call", "(LAccountMachine$Program;I)I"⟩, 6), (⟨"AccountMachine", "serve", "(LAccountMachine$Frame;I)I"⟩, 11), (⟨"AccountMachine", "writeLog", "(J)V"⟩, 11), (⟨"AccountMachine", "invoke", "(LAccountMachine$Frame;)I"⟩, 11)]
theorem lw_r2 : ∀ q ∈ lw_privs_2, lw_okq q := List.forall_mem_cons.mpr ⟨lw_p16, List.forall_mem_cons.mpr ⟨lw_p17, List.forall_mem_cons.mpr ⟨lw_p18, List.forall_mem_cons.mpr ⟨lw_p19, List.forall_mem_cons.mpr ⟨lw_p20, List.forall_mem_cons.mpr ⟨lw_p21, List.forall_mem_cons.mpr ⟨lw_p22, List.forall_mem_cons.mpr ⟨lw_p23, List.forall_mem_cons.mpr ⟨lw_p24, List.forall_mem_cons.mpr ⟨lw_p25, List.forall_mem_cons.mpr ⟨lw_p26, List.forall_mem_cons.mpr ⟨lw_p27, List.forall_mem_cons.mpr ⟨lw_p28, List.forall_mem_cons.mpr ⟨lw_p29, List.forall_mem_cons.mpr ⟨lw_p30, List.forall_mem_cons.mpr ⟨lw_p31, fun _ h => absurd h List.not_mem_nil⟩⟩⟩⟩⟩⟩⟩⟩⟩⟩⟩⟩⟩⟩⟩⟩
theorem lw_p32 : lw_okq (⟨"AccountMachine", "refusal", "(LAccountMachine$Frame;I)I"⟩, 11) := ⟨⟨by decide +kernel, by decide +kernel⟩, List.mem_of_getElem? (i := 10) (by decide +kernel), List.mem_of_getElem? (i := 367) (by decide +kernel), List.mem_of_getElem? (i := 368) (by decide +kernel)⟩
theorem lw_p33 : lw_okq (⟨"AccountMachine", "isUnderWay", "(I)Z"⟩, 11) := ⟨⟨by decide +kernel, by decide +kernel⟩, List.mem_of_getElem? (i := 10) (by decide +kernel), List.mem_of_getElem? (i := 389) (by decide +kernel), List.mem_of_getElem? (i := 390) (by decide +kernel)⟩
theorem lw_p34 : lw_okq (⟨"AccountMachine$Frame", "handBack", "(LAccountMachine$Ledger;)I"⟩, 6) := ⟨⟨by decide +kernel, by decide +kernel⟩, List.mem_of_getElem? (i := 121) (by decide +kernel), List.mem_of_getElem? (i := 393) (by decide +kernel), List.mem_of_getElem? (i := 394) (by decide +kernel)⟩
theorem lw_p35 : lw_okq (⟨"AccountMachine$Frame", "faultOf", "(ILAccountMachine$Ledger;)I"⟩, 6) := ⟨⟨by decide +kernel, by decide +kernel⟩, List.mem_of_getElem? (i := 121) (by decide +kernel), List.mem_of_getElem? (i := 397) (by decide +kernel), List.mem_of_getElem? (i := 398) (by decide +kernel)⟩
theorem lw_p36 : lw_okq (⟨"AccountMachine$Frame", "hasData", "(I)Z"⟩, 6) := ⟨⟨by decide +kernel, by decide +kernel⟩, List.mem_of_getElem? (i := 121) (by decide +kernel), List.mem_of_getElem? (i := 403) (by decide +kernel), List.mem_of_getElem? (i := 404) (by decide +kernel)⟩
theorem lw_p37 : lw_okq (⟨"AccountMachine$Frame", "hasNewData", "(IILAccountMachine$Ledger;)Z"⟩, 6) := ⟨⟨by decide +kernel, by decide +kernel⟩, List.mem_of_getElem? (i := 121) (by decide +kernel), List.mem_of_getElem? (i := 408) (by decide +kernel), List.mem_of_getElem? (i := 409) (by decide +kernel)⟩
theorem lw_p38 : lw_okq (⟨"AccountMachine$Frame", "writeAccount", "(ILAccountMachine$Ledger;)V"⟩, 6) := ⟨⟨by decide +kernel, by decide +kernel⟩, List.mem_of_getElem? (i := 121) (by decide +kernel), List.mem_of_getElem? (i := 412) (by decide +kernel), List.mem_of_getElem? (i := 413) (by decide +kernel)⟩
theorem lw_p39 : lw_okq (⟨"AccountMachine$Frame", "resume", "(LAccountMachine$Ledger;)V"⟩, 6) := ⟨⟨by decide +kernel, by decide +kernel⟩, List.mem_of_getElem? (i := 121) (by decide +kernel), List.mem_of_getElem? (i := 419) (by decide +kernel), List.mem_of_getElem? (i := 420) (by decide +kernel)⟩
theorem lw_p40 : lw_okq (⟨"AccountMachine$Frame", "goBack", "()Z"⟩, 6) := ⟨⟨by decide +kernel, by decide +kernel⟩, List.mem_of_getElem? (i := 121) (by decide +kernel), List.mem_of_getElem? (i := 423) (by decide +kernel), List.mem_of_getElem? (i := 424) (by decide +kernel)⟩
theorem lw_p41 : lw_okq (⟨"AccountMachine", "finish", "(LAccountMachine$Frame;)I"⟩, 11) := ⟨⟨by decide +kernel, by decide +kernel⟩, List.mem_of_getElem? (i := 10) (by decide +kernel), List.mem_of_getElem? (i := 427) (by decide +kernel), List.mem_of_getElem? (i := 428) (by decide +kernel)⟩
theorem lw_p42 : lw_okq (⟨"AccountMachine$Frame", "reckon", "(LAccountMachine$Program;I)V"⟩, 6) := ⟨⟨by decide +kernel, by decide +kernel⟩, List.mem_of_getElem? (i := 121) (by decide +kernel), List.mem_of_getElem? (i := 431) (by decide +kernel), List.mem_of_getElem? (i := 432) (by decide +kernel)⟩
theorem lw_p43 : lw_okq (⟨"AccountMachine", "owesRent", "()Z"⟩, 11) := ⟨⟨by decide +kernel, by decide +kernel⟩, List.mem_of_getElem? (i := 10) (by decide +kernel), List.mem_of_getElem? (i := 435) (by decide +kernel), List.mem_of_getElem? (i := 436) (by decide +kernel)⟩
theorem lw_p44 : lw_okq (⟨"AccountMachineModel", "reason", "(II)I"⟩, 28) := ⟨⟨by decide +kernel, by decide +kernel⟩, List.mem_of_getElem? (i := 463) (by decide +kernel), List.mem_of_getElem? (i := 571) (by decide +kernel), List.mem_of_getElem? (i := 572) (by decide +kernel)⟩
theorem lw_p45 : lw_okq (⟨"AccountMachineModel", "add", "(III)V"⟩, 28) := ⟨⟨by decide +kernel, by decide +kernel⟩, List.mem_of_getElem? (i := 463) (by decide +kernel), List.mem_of_getElem? (i := 589) (by decide +kernel), List.mem_of_getElem? (i := 590) (by decide +kernel)⟩
theorem lw_p46 : lw_okq (⟨"AccountMachineModel", "copyAccounts", "(II)V"⟩, 28) := ⟨⟨by decide +kernel, by decide +kernel⟩, List.mem_of_getElem? (i := 463) (by decide +kernel), List.mem_of_getElem? (i := 598) (by decide +kernel), List.mem_of_getElem? (i := 599) (by decide +kernel)⟩
theorem lw_p47 : lw_okq (⟨"AccountMachineModel", "carryOut", "(I)I"⟩, 28) := ⟨⟨by decide +kernel, by decide +kernel⟩, List.mem_of_getElem? (i := 463) (by decide +kernel), List.mem_of_getElem? (i := 602) (by decide +kernel), List.mem_of_getElem? (i := 603) (by decide +kernel)⟩
def lw_privs_3 : List (MethodName × Nat) := [(⟨"AccountMachine", "refusal", "(LAccountMachine$Frame;I)I"⟩, 11), (⟨"AccountMachine", "isUnderWay", "(I)Z"⟩, 11), (⟨"AccountMachine$Frame", "handBack", "(LAccountMachine$Ledger;)I"⟩, 6), (⟨"AccountMachine$Frame", "faultOf", "(ILAccountMachine$Ledger;)I"⟩, 6), (⟨"AccountMachine$Frame", "hasData", "(I)Z"⟩, 6), (⟨"AccountMachine$Frame", "hasNewData", "(IILAccountMachine$Ledger;)Z"⟩, 6), (⟨"AccountMachine$Frame", "writeAccount", "(ILAccountMachine$Ledger;)V"⟩, 6), (⟨"AccountMachine$Frame", "resume", "(LAccountMachine$Ledger;)V"⟩, 6), (⟨"AccountMachine$Frame", "goBack", "()Z"⟩, 6), (⟨"AccountMachine", "finish", "(LAccountMachine$Frame;)I"⟩, 11), (⟨"AccountMachine$Frame", "reckon", "(LAccountMachine$Program;I)V"⟩, 6), (⟨"AccountMachine", "owesRent", "()Z"⟩, 11), (⟨"AccountMachineModel", "reason", "(II)I"⟩, 28), (⟨"AccountMachineModel", "add", "(III)V"⟩, 28), (⟨"AccountMachineModel", "copyAccounts", "(II)V"⟩, 28), (⟨"AccountMachineModel", "carryOut", "(I)I"⟩, 28)]
theorem lw_r3 : ∀ q ∈ lw_privs_3, lw_okq q := List.forall_mem_cons.mpr ⟨lw_p32, List.forall_mem_cons.mpr ⟨lw_p33, List.forall_mem_cons.mpr ⟨lw_p34, List.forall_mem_cons.mpr ⟨lw_p35, List.forall_mem_cons.mpr ⟨lw_p36, List.forall_mem_cons.mpr ⟨lw_p37, List.forall_mem_cons.mpr ⟨lw_p38, List.forall_mem_cons.mpr ⟨lw_p39, List.forall_mem_cons.mpr ⟨lw_p40, List.forall_mem_cons.mpr ⟨lw_p41, List.forall_mem_cons.mpr ⟨lw_p42, List.forall_mem_cons.mpr ⟨lw_p43, List.forall_mem_cons.mpr ⟨lw_p44, List.forall_mem_cons.mpr ⟨lw_p45, List.forall_mem_cons.mpr ⟨lw_p46, List.forall_mem_cons.mpr ⟨lw_p47, fun _ h => absurd h List.not_mem_nil⟩⟩⟩⟩⟩⟩⟩⟩⟩⟩⟩⟩⟩⟩⟩⟩
theorem lw_p48 : lw_okq (⟨"AccountMachineModel", "canRun", "(J)Z"⟩, 28) := ⟨⟨by decide +kernel, by decide +kernel⟩, List.mem_of_getElem? (i := 463) (by decide +kernel), List.mem_of_getElem? (i := 606) (by decide +kernel), List.mem_of_getElem? (i := 607) (by decide +kernel)⟩
theorem lw_p49 : lw_okq (⟨"AccountMachineModel", "system", "(I)I"⟩, 28) := ⟨⟨by decide +kernel, by decide +kernel⟩, List.mem_of_getElem? (i := 463) (by decide +kernel), List.mem_of_getElem? (i := 610) (by decide +kernel), List.mem_of_getElem? (i := 611) (by decide +kernel)⟩
theorem lw_p50 : lw_okq (⟨"AccountMachineModel", "pay", "(I)Z"⟩, 28) := ⟨⟨by decide +kernel, by decide +kernel⟩, List.mem_of_getElem? (i := 463) (by decide +kernel), List.mem_of_getElem? (i := 614) (by decide +kernel), List.mem_of_getElem? (i := 615) (by decide +kernel)⟩
theorem lw_p51 : lw_okq (⟨"AccountMachineModel", "transfer", "(IIII)I"⟩, 28) := ⟨⟨by decide +kernel, by decide +kernel⟩, List.mem_of_getElem? (i := 463) (by decide +kernel), List.mem_of_getElem? (i := 618) (by decide +kernel), List.mem_of_getElem? (i := 619) (by decide +kernel)⟩
theorem lw_p52 : lw_okq (⟨"AccountMachineModel", "signed", "(II)Z"⟩, 28) := ⟨⟨by decide +kernel, by decide +kernel⟩, List.mem_of_getElem? (i := 463) (by decide +kernel), List.mem_of_getElem? (i := 622) (by decide +kernel), List.mem_of_getElem? (i := 623) (by decide +kernel)⟩
theorem lw_p53 : lw_okq (⟨"AccountMachineModel", "marksOf", "(II)I"⟩, 28) := ⟨⟨by decide +kernel, by decide +kernel⟩, List.mem_of_getElem? (i := 463) (by decide +kernel), List.mem_of_getElem? (i := 626) (by decide +kernel), List.mem_of_getElem? (i := 627) (by decide +kernel)⟩
theorem lw_p54 : lw_okq (⟨"AccountMachineModel", "writable", "(II)Z"⟩, 28) := ⟨⟨by decide +kernel, by decide +kernel⟩, List.mem_of_getElem? (i := 463) (by decide +kernel), List.mem_of_getElem? (i := 630) (by decide +kernel), List.mem_of_getElem? (i := 631) (by decide +kernel)⟩
theorem lw_p55 : lw_okq (⟨"AccountMachineModel", "begin", "(I)V"⟩, 28) := ⟨⟨by decide +kernel, by decide +kernel⟩, List.mem_of_getElem? (i := 463) (by decide +kernel), List.mem_of_getElem? (i := 636) (by decide +kernel), List.mem_of_getElem? (i := 637) (by decide +kernel)⟩
theorem lw_p56 : lw_okq (⟨"AccountMachineModel", "mainOf", "(II)I"⟩, 28) := ⟨⟨by decide +kernel, by decide +kernel⟩, List.mem_of_getElem? (i := 463) (by decide +kernel), List.mem_of_getElem? (i := 640) (by decide +kernel), List.mem_of_getElem? (i := 641) (by decide +kernel)⟩
theorem lw_p57 : lw_okq (⟨"AccountMachineModel", "layOut", "(I)V"⟩, 28) := ⟨⟨by decide +kernel, by decide +kernel⟩, List.mem_of_getElem? (i := 463) (by decide +kernel), List.mem_of_getElem? (i := 644) (by decide +kernel), List.mem_of_getElem? (i := 645) (by decide +kernel)⟩
theorem lw_p58 : lw_okq (⟨"AccountMachineModel", "step", "()I"⟩, 28) := ⟨⟨by decide +kernel, by decide +kernel⟩, List.mem_of_getElem? (i := 463) (by decide +kernel), List.mem_of_getElem? (i := 648) (by decide +kernel), List.mem_of_getElem? (i := 649) (by decide +kernel)⟩
theorem lw_p59 : lw_okq (⟨"AccountMachineModel", "serve", "(II)I"⟩, 28) := ⟨⟨by decide +kernel, by decide +kernel⟩, List.mem_of_getElem? (i := 463) (by decide +kernel), List.mem_of_getElem? (i := 652) (by decide +kernel), List.mem_of_getElem? (i := 653) (by decide +kernel)⟩
theorem lw_p60 : lw_okq (⟨"AccountMachineModel", "invoke", "(I)I"⟩, 28) := ⟨⟨by decide +kernel, by decide +kernel⟩, List.mem_of_getElem? (i := 463) (by decide +kernel), List.mem_of_getElem? (i := 656) (by decide +kernel), List.mem_of_getElem? (i := 657) (by decide +kernel)⟩
theorem lw_p61 : lw_okq (⟨"AccountMachineModel", "makeOrder", "(I)I"⟩, 28) := ⟨⟨by decide +kernel, by decide +kernel⟩, List.mem_of_getElem? (i := 463) (by decide +kernel), List.mem_of_getElem? (i := 660) (by decide +kernel), List.mem_of_getElem? (i := 661) (by decide +kernel)⟩
theorem lw_p62 : lw_okq (⟨"AccountMachineModel", "seat", "(IJ)I"⟩, 28) := ⟨⟨by decide +kernel, by decide +kernel⟩, List.mem_of_getElem? (i := 463) (by decide +kernel), List.mem_of_getElem? (i := 664) (by decide +kernel), List.mem_of_getElem? (i := 665) (by decide +kernel)⟩
theorem lw_p63 : lw_okq (⟨"AccountMachineModel", "handBack", "(I)I"⟩, 28) := ⟨⟨by decide +kernel, by decide +kernel⟩, List.mem_of_getElem? (i := 463) (by decide +kernel), List.mem_of_getElem? (i := 668) (by decide +kernel), List.mem_of_getElem? (i := 669) (by decide +kernel)⟩
def lw_privs_4 : List (MethodName × Nat) := [(⟨"AccountMachineModel", "canRun", "(J)Z"⟩, 28), (⟨"AccountMachineModel", "system", "(I)I"⟩, 28), (⟨"AccountMachineModel", "pay", "(I)Z"⟩, 28), (⟨"AccountMachineModel", "transfer", "(IIII)I"⟩, 28), (⟨"AccountMachineModel", "signed", "(II)Z"⟩, 28), (⟨"AccountMachineModel", "marksOf", "(II)I"⟩, 28), (⟨"AccountMachineModel", "writable", "(II)Z"⟩, 28), (⟨"AccountMachineModel", "begin", "(I)V"⟩, 28), (⟨"AccountMachineModel", "mainOf", "(II)I"⟩, 28), (⟨"AccountMachineModel", "layOut", "(I)V"⟩, 28), (⟨"AccountMachineModel", "step", "()I"⟩, 28), (⟨"AccountMachineModel", "serve", "(II)I"⟩, 28), (⟨"AccountMachineModel", "invoke", "(I)I"⟩, 28), (⟨"AccountMachineModel", "makeOrder", "(I)I"⟩, 28), (⟨"AccountMachineModel", "seat", "(IJ)I"⟩, 28), (⟨"AccountMachineModel", "handBack", "(I)I"⟩, 28)]
theorem lw_r4 : ∀ q ∈ lw_privs_4, lw_okq q := List.forall_mem_cons.mpr ⟨lw_p48, List.forall_mem_cons.mpr ⟨lw_p49, List.forall_mem_cons.mpr ⟨lw_p50, List.forall_mem_cons.mpr ⟨lw_p51, List.forall_mem_cons.mpr ⟨lw_p52, List.forall_mem_cons.mpr ⟨lw_p53, List.forall_mem_cons.mpr ⟨lw_p54, List.forall_mem_cons.mpr ⟨lw_p55, List.forall_mem_cons.mpr ⟨lw_p56, List.forall_mem_cons.mpr ⟨lw_p57, List.forall_mem_cons.mpr ⟨lw_p58, List.forall_mem_cons.mpr ⟨lw_p59, List.forall_mem_cons.mpr ⟨lw_p60, List.forall_mem_cons.mpr ⟨lw_p61, List.forall_mem_cons.mpr ⟨lw_p62, List.forall_mem_cons.mpr ⟨lw_p63, fun _ h => absurd h List.not_mem_nil⟩⟩⟩⟩⟩⟩⟩⟩⟩⟩⟩⟩⟩⟩⟩⟩
theorem lw_p64 : lw_okq (⟨"AccountMachineModel", "wrongSlot", "(III)I"⟩, 28) := ⟨⟨by decide +kernel, by decide +kernel⟩, List.mem_of_getElem? (i := 463) (by decide +kernel), List.mem_of_getElem? (i := 672) (by decide +kernel), List.mem_of_getElem? (i := 673) (by decide +kernel)⟩
theorem lw_p65 : lw_okq (⟨"AccountMachineModel", "comeBack", "(I)V"⟩, 28) := ⟨⟨by decide +kernel, by decide +kernel⟩, List.mem_of_getElem? (i := 463) (by decide +kernel), List.mem_of_getElem? (i := 676) (by decide +kernel), List.mem_of_getElem? (i := 677) (by decide +kernel)⟩
theorem lw_p66 : lw_okq (⟨"AccountMachineModel", "end", "(I)I"⟩, 28) := ⟨⟨by decide +kernel, by decide +kernel⟩, List.mem_of_getElem? (i := 463) (by decide +kernel), List.mem_of_getElem? (i := 680) (by decide +kernel), List.mem_of_getElem? (i := 681) (by decide +kernel)⟩
theorem lw_p67 : lw_okq (⟨"AccountMachineModel", "access", "(IZIIJ)I"⟩, 28) := ⟨⟨by decide +kernel, by decide +kernel⟩, List.mem_of_getElem? (i := 463) (by decide +kernel), List.mem_of_getElem? (i := 684) (by decide +kernel), List.mem_of_getElem? (i := 685) (by decide +kernel)⟩
theorem lw_p68 : lw_okq (⟨"AccountMachineModel", "wordAt", "(IJ)I"⟩, 28) := ⟨⟨by decide +kernel, by decide +kernel⟩, List.mem_of_getElem? (i := 463) (by decide +kernel), List.mem_of_getElem? (i := 688) (by decide +kernel), List.mem_of_getElem? (i := 689) (by decide +kernel)⟩
theorem lw_p69 : lw_okq (⟨"AccountMachineModel", "mayStore", "(II)Z"⟩, 28) := ⟨⟨by decide +kernel, by decide +kernel⟩, List.mem_of_getElem? (i := 463) (by decide +kernel), List.mem_of_getElem? (i := 695) (by decide +kernel), List.mem_of_getElem? (i := 696) (by decide +kernel)⟩
theorem lw_p70 : lw_okq (⟨"AccountMachineModel", "owesRent", "()Z"⟩, 28) := ⟨⟨by decide +kernel, by decide +kernel⟩, List.mem_of_getElem? (i := 463) (by decide +kernel), List.mem_of_getElem? (i := 702) (by decide +kernel), List.mem_of_getElem? (i := 703) (by decide +kernel)⟩
def lw_privs_5 : List (MethodName × Nat) := [(⟨"AccountMachineModel", "wrongSlot", "(III)I"⟩, 28), (⟨"AccountMachineModel", "comeBack", "(I)V"⟩, 28), (⟨"AccountMachineModel", "end", "(I)I"⟩, 28), (⟨"AccountMachineModel", "access", "(IZIIJ)I"⟩, 28), (⟨"AccountMachineModel", "wordAt", "(IJ)I"⟩, 28), (⟨"AccountMachineModel", "mayStore", "(II)Z"⟩, 28), (⟨"AccountMachineModel", "owesRent", "()Z"⟩, 28)]
theorem lw_r5 : ∀ q ∈ lw_privs_5, lw_okq q := List.forall_mem_cons.mpr ⟨lw_p64, List.forall_mem_cons.mpr ⟨lw_p65, List.forall_mem_cons.mpr ⟨lw_p66, List.forall_mem_cons.mpr ⟨lw_p67, List.forall_mem_cons.mpr ⟨lw_p68, List.forall_mem_cons.mpr ⟨lw_p69, List.forall_mem_cons.mpr ⟨lw_p70, fun _ h => absurd h List.not_mem_nil⟩⟩⟩⟩⟩⟩⟩
def lw_privs : List (MethodName × Nat) := lw_privs_1 ++ (lw_privs_2 ++ (lw_privs_3 ++ (lw_privs_4 ++ (lw_privs_5))))
def lw_tbl : List Cond := k2_sels lw_privs ++ tables_1
theorem lw_privs_ok : ∀ q ∈ lw_privs, lw_okq q := by
  show ∀ q ∈ lw_privs_1 ++ (lw_privs_2 ++ (lw_privs_3 ++ (lw_privs_4 ++ (lw_privs_5)))), lw_okq q
  exact List.forall_mem_append.mpr ⟨lw_r1, List.forall_mem_append.mpr ⟨lw_r2, List.forall_mem_append.mpr ⟨lw_r3, List.forall_mem_append.mpr ⟨lw_r4, lw_r5⟩⟩⟩⟩
end
section
def na_am : String := "AccountMachine"
def fi_am : u_T := fun k => match k with
  | 0 => ("AccountMachine", "programs", "[LAccountMachine$Program;", true)
  | 1 => ("AccountMachine", "ledger", "LAccountMachine$Ledger;", true)
  | 2 => ("AccountMachine", "before", "LAccountMachine$Ledger;", true)
  | 3 => ("AccountMachine", "orders", "[LAccountMachine$Order;", true)
  | 4 => ("AccountMachine", "orderCount", "I", false)
  | 5 => ("AccountMachine", "frames", "[LAccountMachine$Frame;", true)
  | 6 => ("AccountMachine", "depth", "I", false)
  | 7 => ("AccountMachine", "meter", "I", false)
  | 8 => ("AccountMachine", "logWords", "[J", true)
  | 9 => ("AccountMachine", "logCount", "I", false)
  | _ => ("AccountMachine", "given", "J", false)
def ty_am : Nat → FieldType := fun k => match k with
  | 0 => .array (.object "AccountMachine$Program")
  | 1 => .object "AccountMachine$Ledger"
  | 2 => .object "AccountMachine$Ledger"
  | 3 => .array (.object "AccountMachine$Order")
  | 4 => .int
  | 5 => .array (.object "AccountMachine$Frame")
  | 6 => .int
  | 7 => .int
  | 8 => .array .long
  | 9 => .int
  | _ => .long
theorem ne_am : ∀ a, a < 11 → ∀ b, b < 11 → a ≠ b → (fi_am a).2.1 ≠ (fi_am b).2.1 := by decide +kernel
theorem tk_am : ∀ k, k < 11 → parseFieldDescriptor (fi_am k).2.2.1 = some (ty_am k) := by decide +kernel
def na_le : String := "AccountMachine$Ledger"
def fi_le : u_T := fun k => match k with
  | 0 => ("AccountMachine$Ledger", "balances", "[I", true)
  | 1 => ("AccountMachine$Ledger", "owners", "[I", true)
  | 2 => ("AccountMachine$Ledger", "sizes", "[I", true)
  | _ => ("AccountMachine$Ledger", "words", "[I", true)
def ty_le : Nat → FieldType := fun k => match k with
  | 0 => .array .int
  | 1 => .array .int
  | 2 => .array .int
  | _ => .array .int
theorem ne_le : ∀ a, a < 4 → ∀ b, b < 4 → a ≠ b → (fi_le a).2.1 ≠ (fi_le b).2.1 := by decide +kernel
theorem tk_le : ∀ k, k < 4 → parseFieldDescriptor (fi_le k).2.2.1 = some (ty_le k) := by decide +kernel
def na_od : String := "AccountMachine$Order"
def fi_od : u_T := fun k => match k with
  | 0 => ("AccountMachine$Order", "program", "I", false)
  | 1 => ("AccountMachine$Order", "argument", "I", false)
  | 2 => ("AccountMachine$Order", "count", "I", false)
  | 3 => ("AccountMachine$Order", "accounts", "[I", true)
  | _ => ("AccountMachine$Order", "marks", "[I", true)
def ty_od : Nat → FieldType := fun k => match k with
  | 0 => .int
  | 1 => .int
  | 2 => .int
  | 3 => .array .int
  | _ => .array .int
theorem ne_od : ∀ a, a < 5 → ∀ b, b < 5 → a ≠ b → (fi_od a).2.1 ≠ (fi_od b).2.1 := by decide +kernel
theorem tk_od : ∀ k, k < 5 → parseFieldDescriptor (fi_od k).2.2.1 = some (ty_od k) := by decide +kernel
def na_pr : String := "AccountMachine$Program"
def fi_pr : u_T := fun k => match k with
  | 0 => ("AccountMachine$Program", "kinds", "[I", true)
  | 1 => ("AccountMachine$Program", "targets", "[I", true)
  | 2 => ("AccountMachine$Program", "sources", "[I", true)
  | 3 => ("AccountMachine$Program", "offsets", "[I", true)
  | 4 => ("AccountMachine$Program", "numbers", "[I", true)
  | 5 => ("AccountMachine$Program", "count", "I", false)
  | _ => ("AccountMachine$Program", "sound", "Z", false)
def ty_pr : Nat → FieldType := fun k => match k with
  | 0 => .array .int
  | 1 => .array .int
  | 2 => .array .int
  | 3 => .array .int
  | 4 => .array .int
  | 5 => .int
  | _ => .boolean
theorem ne_pr : ∀ a, a < 7 → ∀ b, b < 7 → a ≠ b → (fi_pr a).2.1 ≠ (fi_pr b).2.1 := by decide +kernel
theorem tk_pr : ∀ k, k < 7 → parseFieldDescriptor (fi_pr k).2.2.1 = some (ty_pr k) := by decide +kernel
def na_fr : String := "AccountMachine$Frame"
def fi_fr : u_T := fun k => match k with
  | 0 => ("AccountMachine$Frame", "order", "LAccountMachine$Order;", true)
  | 1 => ("AccountMachine$Frame", "registers", "[J", true)
  | 2 => ("AccountMachine$Frame", "memory", "[J", true)
  | 3 => ("AccountMachine$Frame", "remembered", "[I", true)
  | 4 => ("AccountMachine$Frame", "rememberedCount", "I", false)
  | _ => ("AccountMachine$Frame", "place", "I", false)
def ty_fr : Nat → FieldType := fun k => match k with
  | 0 => .object "AccountMachine$Order"
  | 1 => .array .long
  | 2 => .array .long
  | 3 => .array .int
  | 4 => .int
  | _ => .int
theorem ne_fr : ∀ a, a < 6 → ∀ b, b < 6 → a ≠ b → (fi_fr a).2.1 ≠ (fi_fr b).2.1 := by decide +kernel
theorem tk_fr : ∀ k, k < 6 → parseFieldDescriptor (fi_fr k).2.2.1 = some (ty_fr k) := by decide +kernel
def na_mo : String := "AccountMachineModel"
def fi_mo : u_T := fun k => match k with
  | 0 => ("AccountMachineModel", "balances", "[I", true)
  | 1 => ("AccountMachineModel", "owners", "[I", true)
  | 2 => ("AccountMachineModel", "sizes", "[I", true)
  | 3 => ("AccountMachineModel", "words", "[I", true)
  | 4 => ("AccountMachineModel", "length", "[I", true)
  | 5 => ("AccountMachineModel", "loaded", "[Z", true)
  | 6 => ("AccountMachineModel", "kinds", "[I", true)
  | 7 => ("AccountMachineModel", "lefts", "[I", true)
  | 8 => ("AccountMachineModel", "rights", "[I", true)
  | 9 => ("AccountMachineModel", "offsets", "[I", true)
  | 10 => ("AccountMachineModel", "numbers", "[I", true)
  | 11 => ("AccountMachineModel", "orders", "I", false)
  | 12 => ("AccountMachineModel", "program", "[I", true)
  | 13 => ("AccountMachineModel", "argument", "[I", true)
  | 14 => ("AccountMachineModel", "slots", "[I", true)
  | 15 => ("AccountMachineModel", "slotAccount", "[I", true)
  | 16 => ("AccountMachineModel", "slotMarks", "[I", true)
  | 17 => ("AccountMachineModel", "depth", "I", false)
  | 18 => ("AccountMachineModel", "place", "[I", true)
  | 19 => ("AccountMachineModel", "registers", "[J", true)
  | 20 => ("AccountMachineModel", "remembered", "[I", true)
  | 21 => ("AccountMachineModel", "calls", "[I", true)
  | 22 => ("AccountMachineModel", "stack", "[J", true)
  | 23 => ("AccountMachineModel", "seen", "[J", true)
  | 24 => ("AccountMachineModel", "meter", "I", false)
  | 25 => ("AccountMachineModel", "given", "J", false)
  | 26 => ("AccountMachineModel", "log", "[J", true)
  | _ => ("AccountMachineModel", "written", "I", false)
def ty_mo : Nat → FieldType := fun k => match k with
  | 0 => .array .int
  | 1 => .array .int
  | 2 => .array .int
  | 3 => .array .int
  | 4 => .array .int
  | 5 => .array .boolean
  | 6 => .array .int
  | 7 => .array .int
  | 8 => .array .int
  | 9 => .array .int
  | 10 => .array .int
  | 11 => .int
  | 12 => .array .int
  | 13 => .array .int
  | 14 => .array .int
  | 15 => .array .int
  | 16 => .array .int
  | 17 => .int
  | 18 => .array .int
  | 19 => .array .long
  | 20 => .array .int
  | 21 => .array .int
  | 22 => .array .long
  | 23 => .array .long
  | 24 => .int
  | 25 => .long
  | 26 => .array .long
  | _ => .int
theorem ne_mo : ∀ a, a < 28 → ∀ b, b < 28 → a ≠ b → (fi_mo a).2.1 ≠ (fi_mo b).2.1 := by decide +kernel
theorem tk_mo : ∀ k, k < 28 → parseFieldDescriptor (fi_mo k).2.2.1 = some (ty_mo k) := by decide +kernel
abbrev gw_cl : List vw_C := [(na_am, fi_am, 11), (na_le, fi_le, 4), (na_od, fi_od, 5), (na_pr, fi_pr, 7), (na_fr, fi_fr, 6), (na_mo, fi_mo, 28)]
def yy_fr_begin : MethodName := ⟨"AccountMachine$Frame", "begin", "(LAccountMachine$Ledger;)V"⟩
abbrev by_fr_begin : ByteArray := prog_2_method_2_code
def yy_fr_baseOf : MethodName := ⟨"AccountMachine$Frame", "baseOf", "(I)I"⟩
abbrev by_fr_baseOf : ByteArray := prog_2_method_3_code
def yy_fr_isMain : MethodName := ⟨"AccountMachine$Frame", "isMain", "(I)Z"⟩
abbrev by_fr_isMain : ByteArray := prog_2_method_4_code
def yy_fr_seeAccounts : MethodName := ⟨"AccountMachine$Frame", "seeAccounts", "(LAccountMachine$Ledger;)V"⟩
abbrev by_fr_seeAccounts : ByteArray := prog_2_method_5_code
def yy_fr_resume : MethodName := ⟨"AccountMachine$Frame", "resume", "(LAccountMachine$Ledger;)V"⟩
abbrev by_fr_resume : ByteArray := prog_2_method_6_code
def yy_fr_reckon : MethodName := ⟨"AccountMachine$Frame", "reckon", "(LAccountMachine$Program;I)V"⟩
abbrev by_fr_reckon : ByteArray := prog_2_method_7_code
def yy_fr_reachMemory : MethodName := ⟨"AccountMachine$Frame", "reachMemory", "(LAccountMachine$Program;I)I"⟩
abbrev by_fr_reachMemory : ByteArray := prog_2_method_8_code
def yy_fr_indexOf : MethodName := ⟨"AccountMachine$Frame", "indexOf", "(J)I"⟩
abbrev by_fr_indexOf : ByteArray := prog_2_method_9_code
def yy_fr_mayStore : MethodName := ⟨"AccountMachine$Frame", "mayStore", "(I)Z"⟩
abbrev by_fr_mayStore : ByteArray := prog_2_method_10_code
def yy_fr_jump : MethodName := ⟨"AccountMachine$Frame", "jump", "(LAccountMachine$Program;I)V"⟩
abbrev by_fr_jump : ByteArray := prog_2_method_11_code
def yy_fr_call : MethodName := ⟨"AccountMachine$Frame", "call", "(LAccountMachine$Program;I)I"⟩
abbrev by_fr_call : ByteArray := prog_2_method_12_code
def yy_fr_goBack : MethodName := ⟨"AccountMachine$Frame", "goBack", "()Z"⟩
abbrev by_fr_goBack : ByteArray := prog_2_method_13_code
def yy_fr_handBack : MethodName := ⟨"AccountMachine$Frame", "handBack", "(LAccountMachine$Ledger;)I"⟩
abbrev by_fr_handBack : ByteArray := prog_2_method_14_code
def yy_fr_faultOf : MethodName := ⟨"AccountMachine$Frame", "faultOf", "(ILAccountMachine$Ledger;)I"⟩
abbrev by_fr_faultOf : ByteArray := prog_2_method_15_code
def yy_fr_hasData : MethodName := ⟨"AccountMachine$Frame", "hasData", "(I)Z"⟩
abbrev by_fr_hasData : ByteArray := prog_2_method_16_code
def yy_fr_hasNewData : MethodName := ⟨"AccountMachine$Frame", "hasNewData", "(IILAccountMachine$Ledger;)Z"⟩
abbrev by_fr_hasNewData : ByteArray := prog_2_method_17_code
def yy_fr_writeAccount : MethodName := ⟨"AccountMachine$Frame", "writeAccount", "(ILAccountMachine$Ledger;)V"⟩
abbrev by_fr_writeAccount : ByteArray := prog_2_method_18_code
def yy_le_copyFrom : MethodName := ⟨"AccountMachine$Ledger", "copyFrom", "(LAccountMachine$Ledger;)V"⟩
abbrev by_le_copyFrom : ByteArray := prog_3_method_2_code
def yy_le_isBlank : MethodName := ⟨"AccountMachine$Ledger", "isBlank", "(I)Z"⟩
abbrev by_le_isBlank : ByteArray := prog_3_method_3_code
def yy_od_reset : MethodName := ⟨"AccountMachine$Order", "reset", "(II)V"⟩
abbrev by_od_reset : ByteArray := prog_4_method_2_code
def yy_od_addSlot : MethodName := ⟨"AccountMachine$Order", "addSlot", "(II)Z"⟩
abbrev by_od_addSlot : ByteArray := prog_4_method_3_code
def yy_od_copyFrom : MethodName := ⟨"AccountMachine$Order", "copyFrom", "(LAccountMachine$Order;)V"⟩
abbrev by_od_copyFrom : ByteArray := prog_4_method_4_code
def yy_od_mainSlotOf : MethodName := ⟨"AccountMachine$Order", "mainSlotOf", "(I)I"⟩
abbrev by_od_mainSlotOf : ByteArray := prog_4_method_5_code
def yy_od_marksOf : MethodName := ⟨"AccountMachine$Order", "marksOf", "(I)I"⟩
abbrev by_od_marksOf : ByteArray := prog_4_method_6_code
def yy_pr_append : MethodName := ⟨"AccountMachine$Program", "append", "(IIIII)I"⟩
abbrev by_pr_append : ByteArray := prog_5_method_2_code
def yy_pr_clear : MethodName := ⟨"AccountMachine$Program", "clear", "()I"⟩
abbrev by_pr_clear : ByteArray := prog_5_method_3_code
def yy_pr_check : MethodName := ⟨"AccountMachine$Program", "check", "()I"⟩
abbrev by_pr_check : ByteArray := prog_5_method_4_code
def yy_pr_reasonAt : MethodName := ⟨"AccountMachine$Program", "reasonAt", "(I)I"⟩
abbrev by_pr_reasonAt : ByteArray := prog_5_method_5_code
def yy_pr_isRegister : MethodName := ⟨"AccountMachine$Program", "isRegister", "(I)Z"⟩
abbrev by_pr_isRegister : ByteArray := prog_5_method_6_code
def yy_pr_goesOnInside : MethodName := ⟨"AccountMachine$Program", "goesOnInside", "(I)Z"⟩
abbrev by_pr_goesOnInside : ByteArray := prog_5_method_7_code
def yy_pr_isPlace : MethodName := ⟨"AccountMachine$Program", "isPlace", "(J)Z"⟩
abbrev by_pr_isPlace : ByteArray := prog_5_method_8_code
def yy_am_code : MethodName := ⟨"AccountMachine", "code", "(IIIIII)I"⟩
abbrev by_am_code : ByteArray := prog_1_method_2_code
def yy_am_wipe : MethodName := ⟨"AccountMachine", "wipe", "(I)I"⟩
abbrev by_am_wipe : ByteArray := prog_1_method_3_code
def yy_am_load : MethodName := ⟨"AccountMachine", "load", "(I)I"⟩
abbrev by_am_load : ByteArray := prog_1_method_4_code
def yy_am_order : MethodName := ⟨"AccountMachine", "order", "(II)I"⟩
abbrev by_am_order : ByteArray := prog_1_method_5_code
def yy_am_slot : MethodName := ⟨"AccountMachine", "slot", "(II)Z"⟩
abbrev by_am_slot : ByteArray := prog_1_method_6_code
def yy_am_run : MethodName := ⟨"AccountMachine", "run", "(I)I"⟩
abbrev by_am_run : ByteArray := prog_1_method_7_code
def yy_am_units : MethodName := ⟨"AccountMachine", "units", "()I"⟩
abbrev by_am_units : ByteArray := prog_1_method_8_code
def yy_am_result : MethodName := ⟨"AccountMachine", "result", "()J"⟩
abbrev by_am_result : ByteArray := prog_1_method_9_code
def yy_am_log : MethodName := ⟨"AccountMachine", "log", "(I)J"⟩
abbrev by_am_log : ByteArray := prog_1_method_10_code
def yy_am_logged : MethodName := ⟨"AccountMachine", "logged", "()I"⟩
abbrev by_am_logged : ByteArray := prog_1_method_11_code
def yy_am_account : MethodName := ⟨"AccountMachine", "account", "(II)I"⟩
abbrev by_am_account : ByteArray := prog_1_method_12_code
def yy_am_data : MethodName := ⟨"AccountMachine", "data", "(II)I"⟩
abbrev by_am_data : ByteArray := prog_1_method_13_code
def yy_am_hasCode : MethodName := ⟨"AccountMachine", "hasCode", "(I)Z"⟩
abbrev by_am_hasCode : ByteArray := prog_1_method_14_code
def yy_am_isAccount : MethodName := ⟨"AccountMachine", "isAccount", "(I)Z"⟩
abbrev by_am_isAccount : ByteArray := prog_1_method_15_code
def yy_am_canRun : MethodName := ⟨"AccountMachine", "canRun", "(I)Z"⟩
abbrev by_am_canRun : ByteArray := prog_1_method_16_code
def yy_am_takeUnits : MethodName := ⟨"AccountMachine", "takeUnits", "(I)Z"⟩
abbrev by_am_takeUnits : ByteArray := prog_1_method_17_code
def yy_am_owesRent : MethodName := ⟨"AccountMachine", "owesRent", "()Z"⟩
abbrev by_am_owesRent : ByteArray := prog_1_method_18_code
def yy_am_carryOut : MethodName := ⟨"AccountMachine", "carryOut", "(LAccountMachine$Order;)I"⟩
abbrev by_am_carryOut : ByteArray := prog_1_method_19_code
def yy_am_step : MethodName := ⟨"AccountMachine", "step", "(LAccountMachine$Frame;)I"⟩
abbrev by_am_step : ByteArray := prog_1_method_20_code
def yy_am_finish : MethodName := ⟨"AccountMachine", "finish", "(LAccountMachine$Frame;)I"⟩
abbrev by_am_finish : ByteArray := prog_1_method_21_code
def yy_am_serve : MethodName := ⟨"AccountMachine", "serve", "(LAccountMachine$Frame;I)I"⟩
abbrev by_am_serve : ByteArray := prog_1_method_22_code
def yy_am_writeLog : MethodName := ⟨"AccountMachine", "writeLog", "(J)V"⟩
abbrev by_am_writeLog : ByteArray := prog_1_method_23_code
def yy_am_seatOf : MethodName := ⟨"AccountMachine", "seatOf", "(IJ)I"⟩
abbrev by_am_seatOf : ByteArray := prog_1_method_24_code
def yy_am_invoke : MethodName := ⟨"AccountMachine", "invoke", "(LAccountMachine$Frame;)I"⟩
abbrev by_am_invoke : ByteArray := prog_1_method_25_code
def yy_am_refusal : MethodName := ⟨"AccountMachine", "refusal", "(LAccountMachine$Frame;I)I"⟩
abbrev by_am_refusal : ByteArray := prog_1_method_26_code
def yy_am_exceedsRights : MethodName := ⟨"AccountMachine", "exceedsRights", "(LAccountMachine$Frame;II)Z"⟩
abbrev by_am_exceedsRights : ByteArray := prog_1_method_27_code
def yy_am_isUnderWay : MethodName := ⟨"AccountMachine", "isUnderWay", "(I)Z"⟩
abbrev by_am_isUnderWay : ByteArray := prog_1_method_28_code
def yy_am_fillOrder : MethodName := ⟨"AccountMachine", "fillOrder", "(LAccountMachine$Order;LAccountMachine$Frame;)V"⟩
abbrev by_am_fillOrder : ByteArray := prog_1_method_29_code
def yy_am_askedCount : MethodName := ⟨"AccountMachine", "askedCount", "(J)I"⟩
abbrev by_am_askedCount : ByteArray := prog_1_method_30_code
def yy_am_askedSlot : MethodName := ⟨"AccountMachine", "askedSlot", "(JI)I"⟩
abbrev by_am_askedSlot : ByteArray := prog_1_method_31_code
def yy_am_askedMarks : MethodName := ⟨"AccountMachine", "askedMarks", "(JI)I"⟩
abbrev by_am_askedMarks : ByteArray := prog_1_method_32_code
def yy_am_doSystem : MethodName := ⟨"AccountMachine", "doSystem", "(LAccountMachine$Order;)I"⟩
abbrev by_am_doSystem : ByteArray := prog_1_method_33_code
def yy_am_transfer : MethodName := ⟨"AccountMachine", "transfer", "(LAccountMachine$Order;I)I"⟩
abbrev by_am_transfer : ByteArray := prog_1_method_34_code
def yy_am_assign : MethodName := ⟨"AccountMachine", "assign", "(LAccountMachine$Order;I)I"⟩
abbrev by_am_assign : ByteArray := prog_1_method_35_code
def yy_am_allocate : MethodName := ⟨"AccountMachine", "allocate", "(LAccountMachine$Order;I)I"⟩
abbrev by_am_allocate : ByteArray := prog_1_method_36_code
def yy_mo_in : MethodName := ⟨"AccountMachineModel", "in", "(JJJ)Z"⟩
abbrev by_mo_in : ByteArray := prog_7_method_2_code
def yy_mo_code : MethodName := ⟨"AccountMachineModel", "code", "(IIIIII)I"⟩
abbrev by_mo_code : ByteArray := prog_7_method_3_code
def yy_mo_wipe : MethodName := ⟨"AccountMachineModel", "wipe", "(I)I"⟩
abbrev by_mo_wipe : ByteArray := prog_7_method_4_code
def yy_mo_reason : MethodName := ⟨"AccountMachineModel", "reason", "(II)I"⟩
abbrev by_mo_reason : ByteArray := prog_7_method_5_code
def yy_mo_load : MethodName := ⟨"AccountMachineModel", "load", "(I)I"⟩
abbrev by_mo_load : ByteArray := prog_7_method_6_code
def yy_mo_canRun : MethodName := ⟨"AccountMachineModel", "canRun", "(J)Z"⟩
abbrev by_mo_canRun : ByteArray := prog_7_method_7_code
def yy_mo_order : MethodName := ⟨"AccountMachineModel", "order", "(II)I"⟩
abbrev by_mo_order : ByteArray := prog_7_method_8_code
def yy_mo_slot : MethodName := ⟨"AccountMachineModel", "slot", "(II)Z"⟩
abbrev by_mo_slot : ByteArray := prog_7_method_9_code
def yy_mo_add : MethodName := ⟨"AccountMachineModel", "add", "(III)V"⟩
abbrev by_mo_add : ByteArray := prog_7_method_10_code
def yy_mo_marksOf : MethodName := ⟨"AccountMachineModel", "marksOf", "(II)I"⟩
abbrev by_mo_marksOf : ByteArray := prog_7_method_11_code
def yy_mo_signed : MethodName := ⟨"AccountMachineModel", "signed", "(II)Z"⟩
abbrev by_mo_signed : ByteArray := prog_7_method_12_code
def yy_mo_writable : MethodName := ⟨"AccountMachineModel", "writable", "(II)Z"⟩
abbrev by_mo_writable : ByteArray := prog_7_method_13_code
def yy_mo_mainOf : MethodName := ⟨"AccountMachineModel", "mainOf", "(II)I"⟩
abbrev by_mo_mainOf : ByteArray := prog_7_method_14_code
def yy_mo_layOut : MethodName := ⟨"AccountMachineModel", "layOut", "(I)V"⟩
abbrev by_mo_layOut : ByteArray := prog_7_method_15_code
def yy_mo_begin : MethodName := ⟨"AccountMachineModel", "begin", "(I)V"⟩
abbrev by_mo_begin : ByteArray := prog_7_method_16_code
def yy_mo_wordAt : MethodName := ⟨"AccountMachineModel", "wordAt", "(IJ)I"⟩
abbrev by_mo_wordAt : ByteArray := prog_7_method_17_code
def yy_mo_mayStore : MethodName := ⟨"AccountMachineModel", "mayStore", "(II)Z"⟩
abbrev by_mo_mayStore : ByteArray := prog_7_method_18_code
def yy_mo_handBack : MethodName := ⟨"AccountMachineModel", "handBack", "(I)I"⟩
abbrev by_mo_handBack : ByteArray := prog_7_method_19_code
def yy_mo_wrongSlot : MethodName := ⟨"AccountMachineModel", "wrongSlot", "(III)I"⟩
abbrev by_mo_wrongSlot : ByteArray := prog_7_method_20_code
def yy_mo_pay : MethodName := ⟨"AccountMachineModel", "pay", "(I)Z"⟩
abbrev by_mo_pay : ByteArray := prog_7_method_21_code
def yy_mo_step : MethodName := ⟨"AccountMachineModel", "step", "()I"⟩
abbrev by_mo_step : ByteArray := prog_7_method_22_code
def yy_mo_reckon : MethodName := ⟨"AccountMachineModel", "reckon", "(IJJI)J"⟩
abbrev by_mo_reckon : ByteArray := prog_7_method_23_code
def yy_mo_access : MethodName := ⟨"AccountMachineModel", "access", "(IZIIJ)I"⟩
abbrev by_mo_access : ByteArray := prog_7_method_24_code
def yy_mo_end : MethodName := ⟨"AccountMachineModel", "end", "(I)I"⟩
abbrev by_mo_end : ByteArray := prog_7_method_25_code
def yy_mo_comeBack : MethodName := ⟨"AccountMachineModel", "comeBack", "(I)V"⟩
abbrev by_mo_comeBack : ByteArray := prog_7_method_26_code
def yy_mo_serve : MethodName := ⟨"AccountMachineModel", "serve", "(II)I"⟩
abbrev by_mo_serve : ByteArray := prog_7_method_27_code
def yy_mo_seat : MethodName := ⟨"AccountMachineModel", "seat", "(IJ)I"⟩
abbrev by_mo_seat : ByteArray := prog_7_method_28_code
def yy_mo_makeOrder : MethodName := ⟨"AccountMachineModel", "makeOrder", "(I)I"⟩
abbrev by_mo_makeOrder : ByteArray := prog_7_method_29_code
def yy_mo_invoke : MethodName := ⟨"AccountMachineModel", "invoke", "(I)I"⟩
abbrev by_mo_invoke : ByteArray := prog_7_method_30_code
def yy_mo_system : MethodName := ⟨"AccountMachineModel", "system", "(I)I"⟩
abbrev by_mo_system : ByteArray := prog_7_method_31_code
def yy_mo_transfer : MethodName := ⟨"AccountMachineModel", "transfer", "(IIII)I"⟩
abbrev by_mo_transfer : ByteArray := prog_7_method_32_code
def yy_mo_copyAccounts : MethodName := ⟨"AccountMachineModel", "copyAccounts", "(II)V"⟩
abbrev by_mo_copyAccounts : ByteArray := prog_7_method_33_code
def yy_mo_carryOut : MethodName := ⟨"AccountMachineModel", "carryOut", "(I)I"⟩
abbrev by_mo_carryOut : ByteArray := prog_7_method_34_code
def yy_mo_owesRent : MethodName := ⟨"AccountMachineModel", "owesRent", "()Z"⟩
abbrev by_mo_owesRent : ByteArray := prog_7_method_35_code
def yy_mo_run : MethodName := ⟨"AccountMachineModel", "run", "(I)I"⟩
abbrev by_mo_run : ByteArray := prog_7_method_36_code
def yy_mo_units : MethodName := ⟨"AccountMachineModel", "units", "()I"⟩
abbrev by_mo_units : ByteArray := prog_7_method_37_code
def yy_mo_result : MethodName := ⟨"AccountMachineModel", "result", "()J"⟩
abbrev by_mo_result : ByteArray := prog_7_method_38_code
def yy_mo_log : MethodName := ⟨"AccountMachineModel", "log", "(I)J"⟩
abbrev by_mo_log : ByteArray := prog_7_method_39_code
def yy_mo_logged : MethodName := ⟨"AccountMachineModel", "logged", "()I"⟩
abbrev by_mo_logged : ByteArray := prog_7_method_40_code
def yy_mo_account : MethodName := ⟨"AccountMachineModel", "account", "(II)I"⟩
abbrev by_mo_account : ByteArray := prog_7_method_41_code
def yy_mo_data : MethodName := ⟨"AccountMachineModel", "data", "(II)I"⟩
abbrev by_mo_data : ByteArray := prog_7_method_42_code
def yy_ar_fillL : MethodName := ⟨"java/util/Arrays", "fill", "([JJ)V"⟩
abbrev by_ar_fillL : ByteArray := prog_9_method_101_code

def gw_isNest (w : Cond) : Bool := match w with
  | .fieldLinkNest .. => true
  | .methodLinkNest .. => true
  | _ => false
/-- the tables' words that a callee may be handed, and those of nest mates -/
def gw_w : List Cond := lw_tbl.filter goodWord
def gw_nest : List Cond := tables_1.filter gw_isNest
theorem gw_nest_ok : gw_nest.all gw_isNest = true := List.all_eq_true.mpr (fun _ h => (List.mem_filter.mp h).2)
theorem gw_good : ∀ w ∈ gw_w, (w.onTables && w.keeps) = true ∨ ∃ ty, w = .arrayClass ty := fun _ h => good_of_word (List.mem_filter.mp h).2
theorem gw_mem {w : Cond} {i : Nat} (h : tables_1[i]? = some w) (hg : goodWord w = true) : w ∈ gw_w := List.mem_filter.mpr ⟨List.mem_append_right _ (List.mem_of_getElem? h), hg⟩
theorem gw_memS {w : Cond} {i : Nat} (h : (k2_sels lw_privs)[i]? = some w) (hg : goodWord w = true) : w ∈ gw_w := List.mem_filter.mpr ⟨List.mem_append_left _ (List.mem_of_getElem? h), hg⟩
theorem gw_memN {w : Cond} {i : Nat} (h : tables_1[i]? = some w) (hg : gw_isNest w = true) : w ∈ gw_nest := List.mem_filter.mpr ⟨List.mem_of_getElem? h, hg⟩
theorem gw_gAll {x : Cond} {ws : List Cond} (h : ∀ w ∈ ws, w ∈ gw_w) : GoodIn (x :: gw_w) ws := fun w hw => ⟨List.mem_cons_of_mem _ (h w hw), gw_good w (h w hw)⟩
theorem gw_gN {x w0 : Cond} (h : w0 ∈ gw_w) : GoodIn (x :: gw_w) (w0 :: gw_w) := gw_gAll (fun w hw => by
  rcases List.mem_cons.mp hw with h1 | h1
  · rw [h1]; exact h
  · exact h1)
theorem gw_gV {x w0 : Cond} {own Cn : String} {idx : Nat} {y : MethodName} (h1 : Cond.methodLink own idx y ∈ gw_w) (h2 : Cond.instanceMethod y ∈ gw_w) (h3 : Cond.selects Cn y y ∈ gw_w) (h4 : Cond.initialized Cn ∈ gw_w) (h5 : w0 ∈ gw_w) : GoodIn (x :: gw_w) (wsV own idx Cn y (w0 :: gw_w)) := gw_gAll (fun w hw => by
  simp only [wsV, List.mem_append, List.mem_cons, List.not_mem_nil, or_false] at hw
  rcases hw with (h | h | h | h) | h | h
  · rw [h]; exact h1
  · rw [h]; exact h2
  · rw [h]; exact h3
  · rw [h]; exact h4
  · rw [h]; exact h5
  · exact h)
theorem gw_gS {x w0 : Cond} {own : String} {idx : Nat} {y : MethodName} (h1 : Cond.methodLink own idx y ∈ gw_w) (h2 : Cond.static y ∈ gw_w) (h4 : Cond.initialized own ∈ gw_w) (h5 : w0 ∈ gw_w) : GoodIn (x :: gw_w) (wsS own idx y (w0 :: gw_w)) := gw_gAll (fun w hw => by
  simp only [wsS, List.mem_append, List.mem_cons, List.not_mem_nil, or_false] at hw
  rcases hw with (h | h | h) | h | h
  · rw [h]; exact h1
  · rw [h]; exact h2
  · rw [h]; exact h4
  · rw [h]; exact h5
  · exact h)
theorem gw_gT {x w0 : Cond} {own : String} {idx : Nat} {y : MethodName} (h1 : Cond.methodLink own idx y ∈ gw_w) (h2 : Cond.static y ∈ gw_w) (h4 : Cond.initialized y.cls ∈ gw_w) (h5 : w0 ∈ gw_w) : GoodIn (x :: gw_w) (va_wsS own idx y (w0 :: gw_w)) := gw_gAll (fun w hw => by
  simp only [va_wsS, List.mem_append, List.mem_cons, List.not_mem_nil, or_false] at hw
  rcases hw with (h | h | h) | h | h
  · rw [h]; exact h1
  · rw [h]; exact h2
  · rw [h]; exact h4
  · rw [h]; exact h5
  · exact h)

theorem kw_0 : Cond.fieldLink "AccountMachine$Order" 18 "AccountMachine$Order" "count" "I" ∈ gw_w := gw_mem (i := 102) (by decide +kernel) (by decide)
theorem kw_1 : Cond.fieldLink "AccountMachine$Order" 21 "AccountMachine$Order" "accounts" "[I" ∈ gw_w := gw_mem (i := 105) (by decide +kernel) (by decide)
theorem kw_2 : Cond.fieldLink "AccountMachine$Order" 25 "AccountMachine$Order" "marks" "[I" ∈ gw_w := gw_mem (i := 108) (by decide +kernel) (by decide)
theorem kw_3 : Cond.fieldLink "AccountMachine$Frame" 22 "AccountMachine$Frame" "memory" "[J" ∈ gw_w := gw_mem (i := 132) (by decide +kernel) (by decide)
theorem kw_4 : Cond.fieldLink "AccountMachine$Frame" 12 "AccountMachine$Frame" "order" "LAccountMachine$Order;" ∈ gw_w := gw_mem (i := 128) (by decide +kernel) (by decide)
theorem kw_5 : Cond.code yy_fr_baseOf by_fr_baseOf 1 (some .int) ∈ gw_w := gw_mem (i := 315) (by decide +kernel) (by decide)
theorem kw_6 : Cond.methodLink "AccountMachine$Frame" 57 yy_fr_baseOf ∈ gw_w := gw_mem (i := 313) (by decide +kernel) (by decide)
theorem kw_7 : Cond.static yy_fr_baseOf ∈ gw_w := gw_mem (i := 314) (by decide +kernel) (by decide)
theorem kw_8 : Cond.initialized "AccountMachine$Frame" ∈ gw_w := gw_mem (i := 6) (by decide +kernel) (by decide)
theorem kw_9 : Cond.code yy_fr_isMain by_fr_isMain 2 (some .boolean) ∈ gw_w := gw_mem (i := 324) (by decide +kernel) (by decide)
theorem kw_10 : Cond.methodLink "AccountMachine$Frame" 67 yy_fr_isMain ∈ gw_w := gw_mem (i := 321) (by decide +kernel) (by decide)
theorem kw_11 : Cond.instanceMethod yy_fr_isMain ∈ gw_w := gw_mem (i := 323) (by decide +kernel) (by decide)
theorem kw_12 : Cond.selects "AccountMachine$Frame" yy_fr_isMain yy_fr_isMain ∈ gw_w := gw_memS (i := 22) (by decide +kernel) (by decide)
theorem kw_13 : Cond.code yy_od_marksOf by_od_marksOf 4 (some .int) ∈ gw_w := gw_mem (i := 281) (by decide +kernel) (by decide)
theorem kw_14 : Cond.initialized "AccountMachine$Order" ∈ gw_w := gw_mem (i := 5) (by decide +kernel) (by decide)
theorem kw_15 : Cond.instanceMethod yy_od_marksOf ∈ gw_w := gw_mem (i := 280) (by decide +kernel) (by decide)
theorem kw_16 : Cond.selects "AccountMachine$Order" yy_od_marksOf yy_od_marksOf ∈ gw_w := gw_memS (i := 14) (by decide +kernel) (by decide)
theorem kw_17 : Cond.code yy_fr_seeAccounts by_fr_seeAccounts 6 none ∈ gw_w := gw_mem (i := 320) (by decide +kernel) (by decide)
theorem kw_18 : Cond.methodLink "AccountMachine$Frame" 63 yy_fr_seeAccounts ∈ gw_w := gw_mem (i := 317) (by decide +kernel) (by decide)
theorem kw_19 : Cond.instanceMethod yy_fr_seeAccounts ∈ gw_w := gw_mem (i := 319) (by decide +kernel) (by decide)
theorem kw_20 : Cond.selects "AccountMachine$Frame" yy_fr_seeAccounts yy_fr_seeAccounts ∈ gw_w := gw_memS (i := 21) (by decide +kernel) (by decide)
theorem kw_21 : Cond.code yy_od_mainSlotOf by_od_mainSlotOf 3 (some .int) ∈ gw_w := gw_mem (i := 312) (by decide +kernel) (by decide)
theorem kw_22 : Cond.instanceMethod yy_od_mainSlotOf ∈ gw_w := gw_mem (i := 311) (by decide +kernel) (by decide)
theorem kw_23 : Cond.selects "AccountMachine$Order" yy_od_mainSlotOf yy_od_mainSlotOf ∈ gw_w := gw_memS (i := 20) (by decide +kernel) (by decide)
theorem kw_24 : Cond.code yy_ar_fillL by_ar_fillL 5 none ∈ gw_w := gw_mem (i := 307) (by decide +kernel) (by decide)
theorem kw_25 : Cond.methodLink "AccountMachine$Frame" 36 yy_ar_fillL ∈ gw_w := gw_mem (i := 305) (by decide +kernel) (by decide)
theorem kw_26 : Cond.static yy_ar_fillL ∈ gw_w := gw_mem (i := 306) (by decide +kernel) (by decide)
theorem kw_27 : Cond.initialized "java/util/Arrays" ∈ gw_w := gw_mem (i := 3) (by decide +kernel) (by decide)
theorem kw_28 : Cond.fieldLink "AccountMachine$Frame" 18 "AccountMachine$Frame" "registers" "[J" ∈ gw_w := gw_mem (i := 130) (by decide +kernel) (by decide)
theorem kw_29 : Cond.constantLong "AccountMachine$Frame" 42 (2000 : Int64) ∈ gw_w := gw_mem (i := 308) (by decide +kernel) (by decide)
theorem kw_30 : Cond.fieldLink "AccountMachine$Frame" 29 "AccountMachine$Frame" "rememberedCount" "I" ∈ gw_w := gw_mem (i := 134) (by decide +kernel) (by decide)
theorem kw_31 : Cond.fieldLink "AccountMachine$Frame" 33 "AccountMachine$Frame" "place" "I" ∈ gw_w := gw_mem (i := 135) (by decide +kernel) (by decide)
theorem kw_32 : Cond.constantLong "AccountMachine$Frame" 109 (1000 : Int64) ∈ gw_w := gw_mem (i := 337) (by decide +kernel) (by decide)
theorem kw_33 : Cond.constantLong "AccountMachine$Frame" 111 (1016 : Int64) ∈ gw_w := gw_mem (i := 338) (by decide +kernel) (by decide)
theorem kw_34 : Cond.constantLong "AccountMachine$Frame" 113 (5 : Int64) ∈ gw_w := gw_mem (i := 343) (by decide +kernel) (by decide)
theorem kw_35 : Cond.code yy_fr_indexOf by_fr_indexOf 3 (some .int) ∈ gw_w := gw_mem (i := 336) (by decide +kernel) (by decide)
theorem kw_36 : Cond.methodLink "AccountMachine$Frame" 102 yy_fr_indexOf ∈ gw_w := gw_mem (i := 333) (by decide +kernel) (by decide)
theorem kw_37 : Cond.instanceMethod yy_fr_indexOf ∈ gw_w := gw_mem (i := 335) (by decide +kernel) (by decide)
theorem kw_38 : Cond.selects "AccountMachine$Frame" yy_fr_indexOf yy_fr_indexOf ∈ gw_w := gw_memS (i := 25) (by decide +kernel) (by decide)
theorem kw_39 : Cond.code yy_fr_mayStore by_fr_mayStore 5 (some .boolean) ∈ gw_w := gw_mem (i := 342) (by decide +kernel) (by decide)
theorem kw_40 : Cond.methodLink "AccountMachine$Frame" 106 yy_fr_mayStore ∈ gw_w := gw_mem (i := 339) (by decide +kernel) (by decide)
theorem kw_41 : Cond.instanceMethod yy_fr_mayStore ∈ gw_w := gw_mem (i := 341) (by decide +kernel) (by decide)
theorem kw_42 : Cond.selects "AccountMachine$Frame" yy_fr_mayStore yy_fr_mayStore ∈ gw_w := gw_memS (i := 26) (by decide +kernel) (by decide)
theorem kw_43 : Cond.fieldLink "AccountMachine$Frame" 25 "AccountMachine$Frame" "remembered" "[I" ∈ gw_w := gw_mem (i := 133) (by decide +kernel) (by decide)
theorem kw_44 : Cond.code yy_fr_hasNewData by_fr_hasNewData 5 (some .boolean) ∈ gw_w := gw_mem (i := 410) (by decide +kernel) (by decide)
theorem kw_45 : Cond.methodLink "AccountMachine$Frame" 135 yy_fr_hasNewData ∈ gw_w := gw_mem (i := 407) (by decide +kernel) (by decide)
theorem kw_46 : Cond.instanceMethod yy_fr_hasNewData ∈ gw_w := gw_mem (i := 409) (by decide +kernel) (by decide)
theorem kw_47 : Cond.selects "AccountMachine$Frame" yy_fr_hasNewData yy_fr_hasNewData ∈ gw_w := gw_memS (i := 37) (by decide +kernel) (by decide)
theorem kw_48 : Cond.constantLong "AccountMachine$Frame" 133 (1000000 : Int64) ∈ gw_w := gw_mem (i := 406) (by decide +kernel) (by decide)
theorem kw_49 : Cond.constantLong "AccountMachine$Frame" 128 (4 : Int64) ∈ gw_w := gw_mem (i := 401) (by decide +kernel) (by decide)
theorem kw_50 : Cond.code yy_fr_hasData by_fr_hasData 3 (some .boolean) ∈ gw_w := gw_mem (i := 405) (by decide +kernel) (by decide)
theorem kw_51 : Cond.methodLink "AccountMachine$Frame" 130 yy_fr_hasData ∈ gw_w := gw_mem (i := 402) (by decide +kernel) (by decide)
theorem kw_52 : Cond.instanceMethod yy_fr_hasData ∈ gw_w := gw_mem (i := 404) (by decide +kernel) (by decide)
theorem kw_53 : Cond.selects "AccountMachine$Frame" yy_fr_hasData yy_fr_hasData ∈ gw_w := gw_memS (i := 36) (by decide +kernel) (by decide)
theorem kw_54 : Cond.constantLong "AccountMachine$Frame" 123 (2 : Int64) ∈ gw_w := gw_mem (i := 400) (by decide +kernel) (by decide)
theorem kw_55 : Cond.code yy_fr_writeAccount by_fr_writeAccount 6 none ∈ gw_w := gw_mem (i := 414) (by decide +kernel) (by decide)
theorem kw_56 : Cond.methodLink "AccountMachine$Frame" 119 yy_fr_writeAccount ∈ gw_w := gw_mem (i := 411) (by decide +kernel) (by decide)
theorem kw_57 : Cond.instanceMethod yy_fr_writeAccount ∈ gw_w := gw_mem (i := 413) (by decide +kernel) (by decide)
theorem kw_58 : Cond.selects "AccountMachine$Frame" yy_fr_writeAccount yy_fr_writeAccount ∈ gw_w := gw_memS (i := 38) (by decide +kernel) (by decide)
theorem kw_59 : Cond.code yy_fr_faultOf by_fr_faultOf 11 (some .int) ∈ gw_w := gw_mem (i := 399) (by decide +kernel) (by decide)
theorem kw_60 : Cond.methodLink "AccountMachine$Frame" 115 yy_fr_faultOf ∈ gw_w := gw_mem (i := 396) (by decide +kernel) (by decide)
theorem kw_61 : Cond.instanceMethod yy_fr_faultOf ∈ gw_w := gw_mem (i := 398) (by decide +kernel) (by decide)
theorem kw_62 : Cond.selects "AccountMachine$Frame" yy_fr_faultOf yy_fr_faultOf ∈ gw_w := gw_memS (i := 35) (by decide +kernel) (by decide)
theorem kw_63 : Cond.fieldLink "AccountMachine$Ledger" 9 "AccountMachine$Ledger" "balances" "[I" ∈ gw_w := gw_mem (i := 28) (by decide +kernel) (by decide)
theorem kw_64 : Cond.methodLink "AccountMachine$Ledger" 30 arraycopyName ∈ gw_w := gw_mem (i := 255) (by decide +kernel) (by decide)
theorem kw_65 : Cond.native arraycopyName ∈ gw_w := gw_mem (i := 257) (by decide +kernel) (by decide)
theorem kw_66 : Cond.static arraycopyName ∈ gw_w := gw_mem (i := 256) (by decide +kernel) (by decide)
theorem kw_67 : Cond.initialized "java/lang/System" ∈ gw_w := gw_mem (i := 8) (by decide +kernel) (by decide)
theorem kw_68 : Cond.fieldLink "AccountMachine$Ledger" 15 "AccountMachine$Ledger" "owners" "[I" ∈ gw_w := gw_mem (i := 31) (by decide +kernel) (by decide)
theorem kw_69 : Cond.fieldLink "AccountMachine$Ledger" 18 "AccountMachine$Ledger" "sizes" "[I" ∈ gw_w := gw_mem (i := 34) (by decide +kernel) (by decide)
theorem kw_70 : Cond.fieldLink "AccountMachine$Ledger" 21 "AccountMachine$Ledger" "words" "[I" ∈ gw_w := gw_mem (i := 37) (by decide +kernel) (by decide)
theorem kw_71 : Cond.fieldLink "AccountMachine$Order" 9 "AccountMachine$Order" "program" "I" ∈ gw_w := gw_mem (i := 96) (by decide +kernel) (by decide)
theorem kw_72 : Cond.fieldLink "AccountMachine$Order" 15 "AccountMachine$Order" "argument" "I" ∈ gw_w := gw_mem (i := 99) (by decide +kernel) (by decide)
theorem kw_73 : Cond.code yy_od_addSlot by_od_addSlot 3 (some .boolean) ∈ gw_w := gw_mem (i := 246) (by decide +kernel) (by decide)
theorem kw_74 : Cond.methodLink "AccountMachine$Order" 32 yy_od_addSlot ∈ gw_w := gw_mem (i := 300) (by decide +kernel) (by decide)
theorem kw_75 : Cond.instanceMethod yy_od_addSlot ∈ gw_w := gw_mem (i := 245) (by decide +kernel) (by decide)
theorem kw_76 : Cond.selects "AccountMachine$Order" yy_od_addSlot yy_od_addSlot ∈ gw_w := gw_memS (i := 7) (by decide +kernel) (by decide)
theorem kw_77 : Cond.code yy_od_reset by_od_reset 3 none ∈ gw_w := gw_mem (i := 235) (by decide +kernel) (by decide)
theorem kw_78 : Cond.methodLink "AccountMachine$Order" 28 yy_od_reset ∈ gw_w := gw_mem (i := 299) (by decide +kernel) (by decide)
theorem kw_79 : Cond.instanceMethod yy_od_reset ∈ gw_w := gw_mem (i := 234) (by decide +kernel) (by decide)
theorem kw_80 : Cond.selects "AccountMachine$Order" yy_od_reset yy_od_reset ∈ gw_w := gw_memS (i := 6) (by decide +kernel) (by decide)
theorem kw_81 : Cond.fieldLink "AccountMachine$Program" 9 "AccountMachine$Program" "kinds" "[I" ∈ gw_w := gw_mem (i := 59) (by decide +kernel) (by decide)
theorem kw_82 : Cond.fieldLink "AccountMachine$Program" 27 "AccountMachine$Program" "count" "I" ∈ gw_w := gw_mem (i := 71) (by decide +kernel) (by decide)
theorem kw_83 : Cond.fieldLink "AccountMachine$Program" 15 "AccountMachine$Program" "targets" "[I" ∈ gw_w := gw_mem (i := 62) (by decide +kernel) (by decide)
theorem kw_84 : Cond.fieldLink "AccountMachine$Program" 18 "AccountMachine$Program" "sources" "[I" ∈ gw_w := gw_mem (i := 64) (by decide +kernel) (by decide)
theorem kw_85 : Cond.fieldLink "AccountMachine$Program" 21 "AccountMachine$Program" "offsets" "[I" ∈ gw_w := gw_mem (i := 66) (by decide +kernel) (by decide)
theorem kw_86 : Cond.fieldLink "AccountMachine$Program" 24 "AccountMachine$Program" "numbers" "[I" ∈ gw_w := gw_mem (i := 68) (by decide +kernel) (by decide)
theorem kw_87 : Cond.fieldLink "AccountMachine$Program" 31 "AccountMachine$Program" "sound" "Z" ∈ gw_w := gw_mem (i := 73) (by decide +kernel) (by decide)
theorem kw_88 : Cond.code yy_pr_isPlace by_pr_isPlace 3 (some .boolean) ∈ gw_w := gw_mem (i := 225) (by decide +kernel) (by decide)
theorem kw_89 : Cond.methodLink "AccountMachine$Program" 49 yy_pr_isPlace ∈ gw_w := gw_mem (i := 222) (by decide +kernel) (by decide)
theorem kw_90 : Cond.instanceMethod yy_pr_isPlace ∈ gw_w := gw_mem (i := 224) (by decide +kernel) (by decide)
theorem kw_91 : Cond.selects "AccountMachine$Program" yy_pr_isPlace yy_pr_isPlace ∈ gw_w := gw_memS (i := 5) (by decide +kernel) (by decide)
theorem kw_92 : Cond.initialized "AccountMachine$Program" ∈ gw_w := gw_mem (i := 4) (by decide +kernel) (by decide)
theorem kw_93 : Cond.code yy_pr_isRegister by_pr_isRegister 1 (some .boolean) ∈ gw_w := gw_mem (i := 217) (by decide +kernel) (by decide)
theorem kw_94 : Cond.methodLink "AccountMachine$Program" 39 yy_pr_isRegister ∈ gw_w := gw_mem (i := 215) (by decide +kernel) (by decide)
theorem kw_95 : Cond.static yy_pr_isRegister ∈ gw_w := gw_mem (i := 216) (by decide +kernel) (by decide)
theorem kw_96 : Cond.code yy_pr_goesOnInside by_pr_goesOnInside 5 (some .boolean) ∈ gw_w := gw_mem (i := 221) (by decide +kernel) (by decide)
theorem kw_97 : Cond.methodLink "AccountMachine$Program" 43 yy_pr_goesOnInside ∈ gw_w := gw_mem (i := 218) (by decide +kernel) (by decide)
theorem kw_98 : Cond.instanceMethod yy_pr_goesOnInside ∈ gw_w := gw_mem (i := 220) (by decide +kernel) (by decide)
theorem kw_99 : Cond.selects "AccountMachine$Program" yy_pr_goesOnInside yy_pr_goesOnInside ∈ gw_w := gw_memS (i := 4) (by decide +kernel) (by decide)
theorem kw_100 : Cond.code yy_pr_reasonAt by_pr_reasonAt 4 (some .int) ∈ gw_w := gw_mem (i := 214) (by decide +kernel) (by decide)
theorem kw_101 : Cond.methodLink "AccountMachine$Program" 35 yy_pr_reasonAt ∈ gw_w := gw_mem (i := 211) (by decide +kernel) (by decide)
theorem kw_102 : Cond.instanceMethod yy_pr_reasonAt ∈ gw_w := gw_mem (i := 213) (by decide +kernel) (by decide)
theorem kw_103 : Cond.selects "AccountMachine$Program" yy_pr_reasonAt yy_pr_reasonAt ∈ gw_w := gw_memS (i := 3) (by decide +kernel) (by decide)
theorem kw_104 : Cond.code yy_am_hasCode by_am_hasCode 1 (some .boolean) ∈ gw_w := gw_mem (i := 190) (by decide +kernel) (by decide)
theorem kw_105 : Cond.methodLink "AccountMachine" 61 yy_am_hasCode ∈ gw_w := gw_mem (i := 188) (by decide +kernel) (by decide)
theorem kw_106 : Cond.static yy_am_hasCode ∈ gw_w := gw_mem (i := 189) (by decide +kernel) (by decide)
theorem kw_107 : Cond.initialized "AccountMachine" ∈ gw_w := gw_mem (i := 1) (by decide +kernel) (by decide)
theorem kw_108 : Cond.fieldLink "AccountMachine" 11 "AccountMachine" "programs" "[LAccountMachine$Program;" ∈ gw_w := gw_mem (i := 150) (by decide +kernel) (by decide)
theorem kw_109 : Cond.code yy_pr_append by_pr_append 6 (some .int) ∈ gw_w := gw_mem (i := 194) (by decide +kernel) (by decide)
theorem kw_110 : Cond.instanceMethod yy_pr_append ∈ gw_w := gw_mem (i := 193) (by decide +kernel) (by decide)
theorem kw_111 : Cond.selects "AccountMachine$Program" yy_pr_append yy_pr_append ∈ gw_w := gw_memS (i := 0) (by decide +kernel) (by decide)
theorem kw_112 : Cond.code yy_pr_clear by_pr_clear 2 (some .int) ∈ gw_w := gw_mem (i := 202) (by decide +kernel) (by decide)
theorem kw_113 : Cond.instanceMethod yy_pr_clear ∈ gw_w := gw_mem (i := 201) (by decide +kernel) (by decide)
theorem kw_114 : Cond.selects "AccountMachine$Program" yy_pr_clear yy_pr_clear ∈ gw_w := gw_memS (i := 1) (by decide +kernel) (by decide)
theorem kw_115 : Cond.code yy_pr_check by_pr_check 3 (some .int) ∈ gw_w := gw_mem (i := 210) (by decide +kernel) (by decide)
theorem kw_116 : Cond.instanceMethod yy_pr_check ∈ gw_w := gw_mem (i := 209) (by decide +kernel) (by decide)
theorem kw_117 : Cond.selects "AccountMachine$Program" yy_pr_check yy_pr_check ∈ gw_w := gw_memS (i := 2) (by decide +kernel) (by decide)
theorem kw_118 : Cond.fieldLink "AccountMachine" 31 "AccountMachine" "orderCount" "I" ∈ gw_w := gw_mem (i := 154) (by decide +kernel) (by decide)
theorem kw_119 : Cond.fieldLink "AccountMachine" 27 "AccountMachine" "orders" "[LAccountMachine$Order;" ∈ gw_w := gw_mem (i := 153) (by decide +kernel) (by decide)
theorem kw_120 : Cond.code yy_am_isAccount by_am_isAccount 1 (some .boolean) ∈ gw_w := gw_mem (i := 242) (by decide +kernel) (by decide)
theorem kw_121 : Cond.methodLink "AccountMachine" 83 yy_am_isAccount ∈ gw_w := gw_mem (i := 240) (by decide +kernel) (by decide)
theorem kw_122 : Cond.static yy_am_isAccount ∈ gw_w := gw_mem (i := 241) (by decide +kernel) (by decide)
theorem kw_123 : Cond.fieldLink "AccountMachine" 44 "AccountMachine" "meter" "I" ∈ gw_w := gw_mem (i := 157) (by decide +kernel) (by decide)
theorem kw_124 : Cond.fieldLink "AccountMachine" 18 "AccountMachine" "ledger" "LAccountMachine$Ledger;" ∈ gw_w := gw_mem (i := 151) (by decide +kernel) (by decide)
theorem kw_125 : Cond.code yy_le_isBlank by_le_isBlank 2 (some .boolean) ∈ gw_w := gw_mem (i := 285) (by decide +kernel) (by decide)
theorem kw_126 : Cond.initialized "AccountMachine$Ledger" ∈ gw_w := gw_mem (i := 2) (by decide +kernel) (by decide)
theorem kw_127 : Cond.instanceMethod yy_le_isBlank ∈ gw_w := gw_mem (i := 284) (by decide +kernel) (by decide)
theorem kw_128 : Cond.selects "AccountMachine$Ledger" yy_le_isBlank yy_le_isBlank ∈ gw_w := gw_memS (i := 15) (by decide +kernel) (by decide)
theorem kw_129 : Cond.constant "AccountMachine" 262 (1000000 : Int32) ∈ gw_w := gw_mem (i := 286) (by decide +kernel) (by decide)
theorem kw_130 : Cond.code yy_am_takeUnits by_am_takeUnits 3 (some .boolean) ∈ gw_w := gw_mem (i := 273) (by decide +kernel) (by decide)
theorem kw_131 : Cond.methodLink "AccountMachine" 149 yy_am_takeUnits ∈ gw_w := gw_mem (i := 270) (by decide +kernel) (by decide)
theorem kw_132 : Cond.instanceMethod yy_am_takeUnits ∈ gw_w := gw_mem (i := 272) (by decide +kernel) (by decide)
theorem kw_133 : Cond.selects "AccountMachine" yy_am_takeUnits yy_am_takeUnits ∈ gw_w := gw_memS (i := 12) (by decide +kernel) (by decide)
theorem kw_134 : Cond.code yy_am_transfer by_am_transfer 5 (some .int) ∈ gw_w := gw_mem (i := 277) (by decide +kernel) (by decide)
theorem kw_135 : Cond.methodLink "AccountMachine" 249 yy_am_transfer ∈ gw_w := gw_mem (i := 274) (by decide +kernel) (by decide)
theorem kw_136 : Cond.instanceMethod yy_am_transfer ∈ gw_w := gw_mem (i := 276) (by decide +kernel) (by decide)
theorem kw_137 : Cond.selects "AccountMachine" yy_am_transfer yy_am_transfer ∈ gw_w := gw_memS (i := 13) (by decide +kernel) (by decide)
theorem kw_138 : Cond.code yy_am_assign by_am_assign 4 (some .int) ∈ gw_w := gw_mem (i := 290) (by decide +kernel) (by decide)
theorem kw_139 : Cond.methodLink "AccountMachine" 253 yy_am_assign ∈ gw_w := gw_mem (i := 287) (by decide +kernel) (by decide)
theorem kw_140 : Cond.instanceMethod yy_am_assign ∈ gw_w := gw_mem (i := 289) (by decide +kernel) (by decide)
theorem kw_141 : Cond.selects "AccountMachine" yy_am_assign yy_am_assign ∈ gw_w := gw_memS (i := 16) (by decide +kernel) (by decide)
theorem kw_142 : Cond.code yy_am_allocate by_am_allocate 4 (some .int) ∈ gw_w := gw_mem (i := 294) (by decide +kernel) (by decide)
theorem kw_143 : Cond.methodLink "AccountMachine" 256 yy_am_allocate ∈ gw_w := gw_mem (i := 291) (by decide +kernel) (by decide)
theorem kw_144 : Cond.instanceMethod yy_am_allocate ∈ gw_w := gw_mem (i := 293) (by decide +kernel) (by decide)
theorem kw_145 : Cond.selects "AccountMachine" yy_am_allocate yy_am_allocate ∈ gw_w := gw_memS (i := 17) (by decide +kernel) (by decide)
theorem kw_146 : Cond.fieldLink "AccountMachine" 51 "AccountMachine" "logCount" "I" ∈ gw_w := gw_mem (i := 159) (by decide +kernel) (by decide)
theorem kw_147 : Cond.fieldLink "AccountMachine" 47 "AccountMachine" "logWords" "[J" ∈ gw_w := gw_mem (i := 158) (by decide +kernel) (by decide)
theorem kw_148 : Cond.constantLong "AccountMachine" 242 (16 : Int64) ∈ gw_w := gw_mem (i := 373) (by decide +kernel) (by decide)
theorem kw_149 : Cond.constantLong "AccountMachine" 244 (3 : Int64) ∈ gw_w := gw_mem (i := 377) (by decide +kernel) (by decide)
theorem kw_150 : Cond.constantLong "AccountMachine" 209 (7 : Int64) ∈ gw_w := gw_mem (i := 387) (by decide +kernel) (by decide)
theorem kw_151 : Cond.code yy_am_seatOf by_am_seatOf 3 (some .int) ∈ gw_w := gw_mem (i := 386) (by decide +kernel) (by decide)
theorem kw_152 : Cond.methodLink "AccountMachine" 205 yy_am_seatOf ∈ gw_w := gw_mem (i := 384) (by decide +kernel) (by decide)
theorem kw_153 : Cond.static yy_am_seatOf ∈ gw_w := gw_mem (i := 385) (by decide +kernel) (by decide)
theorem kw_154 : Cond.fieldLink "AccountMachine" 41 "AccountMachine" "depth" "I" ∈ gw_w := gw_mem (i := 156) (by decide +kernel) (by decide)
theorem kw_155 : Cond.fieldLink "AccountMachine" 37 "AccountMachine" "frames" "[LAccountMachine$Frame;" ∈ gw_w := gw_mem (i := 155) (by decide +kernel) (by decide)
theorem kw_156 : Cond.code yy_am_isUnderWay by_am_isUnderWay 3 (some .boolean) ∈ gw_w := gw_mem (i := 391) (by decide +kernel) (by decide)
theorem kw_157 : Cond.methodLink "AccountMachine" 235 yy_am_isUnderWay ∈ gw_w := gw_mem (i := 388) (by decide +kernel) (by decide)
theorem kw_158 : Cond.instanceMethod yy_am_isUnderWay ∈ gw_w := gw_mem (i := 390) (by decide +kernel) (by decide)
theorem kw_159 : Cond.selects "AccountMachine" yy_am_isUnderWay yy_am_isUnderWay ∈ gw_w := gw_memS (i := 33) (by decide +kernel) (by decide)
theorem kw_160 : Cond.code yy_am_askedSlot by_am_askedSlot 3 (some .int) ∈ gw_w := gw_mem (i := 376) (by decide +kernel) (by decide)
theorem kw_161 : Cond.methodLink "AccountMachine" 224 yy_am_askedSlot ∈ gw_w := gw_mem (i := 374) (by decide +kernel) (by decide)
theorem kw_162 : Cond.static yy_am_askedSlot ∈ gw_w := gw_mem (i := 375) (by decide +kernel) (by decide)
theorem kw_163 : Cond.code yy_am_askedMarks by_am_askedMarks 3 (some .int) ∈ gw_w := gw_mem (i := 380) (by decide +kernel) (by decide)
theorem kw_164 : Cond.methodLink "AccountMachine" 228 yy_am_askedMarks ∈ gw_w := gw_mem (i := 378) (by decide +kernel) (by decide)
theorem kw_165 : Cond.static yy_am_askedMarks ∈ gw_w := gw_mem (i := 379) (by decide +kernel) (by decide)
theorem kw_166 : Cond.code yy_am_exceedsRights by_am_exceedsRights 5 (some .boolean) ∈ gw_w := gw_mem (i := 383) (by decide +kernel) (by decide)
theorem kw_167 : Cond.methodLink "AccountMachine" 231 yy_am_exceedsRights ∈ gw_w := gw_mem (i := 381) (by decide +kernel) (by decide)
theorem kw_168 : Cond.static yy_am_exceedsRights ∈ gw_w := gw_mem (i := 382) (by decide +kernel) (by decide)
theorem kw_169 : Cond.code yy_am_askedCount by_am_askedCount 3 (some .int) ∈ gw_w := gw_mem (i := 372) (by decide +kernel) (by decide)
theorem kw_170 : Cond.methodLink "AccountMachine" 220 yy_am_askedCount ∈ gw_w := gw_mem (i := 370) (by decide +kernel) (by decide)
theorem kw_171 : Cond.static yy_am_askedCount ∈ gw_w := gw_mem (i := 371) (by decide +kernel) (by decide)
theorem kw_172 : Cond.code yy_am_fillOrder by_am_fillOrder 6 none ∈ gw_w := gw_mem (i := 417) (by decide +kernel) (by decide)
theorem kw_173 : Cond.methodLink "AccountMachine" 216 yy_am_fillOrder ∈ gw_w := gw_mem (i := 415) (by decide +kernel) (by decide)
theorem kw_174 : Cond.static yy_am_fillOrder ∈ gw_w := gw_mem (i := 416) (by decide +kernel) (by decide)
theorem kw_175 : Cond.code yy_fr_begin by_fr_begin 5 none ∈ gw_w := gw_mem (i := 304) (by decide +kernel) (by decide)
theorem kw_176 : Cond.instanceMethod yy_fr_begin ∈ gw_w := gw_mem (i := 303) (by decide +kernel) (by decide)
theorem kw_177 : Cond.selects "AccountMachine$Frame" yy_fr_begin yy_fr_begin ∈ gw_w := gw_memS (i := 19) (by decide +kernel) (by decide)
theorem kw_178 : Cond.code yy_am_doSystem by_am_doSystem 3 (some .int) ∈ gw_w := gw_mem (i := 269) (by decide +kernel) (by decide)
theorem kw_179 : Cond.methodLink "AccountMachine" 132 yy_am_doSystem ∈ gw_w := gw_mem (i := 266) (by decide +kernel) (by decide)
theorem kw_180 : Cond.instanceMethod yy_am_doSystem ∈ gw_w := gw_mem (i := 268) (by decide +kernel) (by decide)
theorem kw_181 : Cond.selects "AccountMachine" yy_am_doSystem yy_am_doSystem ∈ gw_w := gw_memS (i := 11) (by decide +kernel) (by decide)
theorem kw_182 : Cond.code yy_fr_resume by_fr_resume 2 none ∈ gw_w := gw_mem (i := 421) (by decide +kernel) (by decide)
theorem kw_183 : Cond.instanceMethod yy_fr_resume ∈ gw_w := gw_mem (i := 420) (by decide +kernel) (by decide)
theorem kw_184 : Cond.selects "AccountMachine$Frame" yy_fr_resume yy_fr_resume ∈ gw_w := gw_memS (i := 39) (by decide +kernel) (by decide)
theorem kw_185 : Cond.constantLong "AccountMachine" 211 (4 : Int64) ∈ gw_w := gw_mem (i := 365) (by decide +kernel) (by decide)
theorem kw_186 : Cond.code yy_am_canRun by_am_canRun 2 (some .boolean) ∈ gw_w := gw_mem (i := 265) (by decide +kernel) (by decide)
theorem kw_187 : Cond.methodLink "AccountMachine" 129 yy_am_canRun ∈ gw_w := gw_mem (i := 262) (by decide +kernel) (by decide)
theorem kw_188 : Cond.instanceMethod yy_am_canRun ∈ gw_w := gw_mem (i := 264) (by decide +kernel) (by decide)
theorem kw_189 : Cond.selects "AccountMachine" yy_am_canRun yy_am_canRun ∈ gw_w := gw_memS (i := 10) (by decide +kernel) (by decide)
theorem kw_190 : Cond.code yy_am_refusal by_am_refusal 7 (some .int) ∈ gw_w := gw_mem (i := 369) (by decide +kernel) (by decide)
theorem kw_191 : Cond.methodLink "AccountMachine" 213 yy_am_refusal ∈ gw_w := gw_mem (i := 366) (by decide +kernel) (by decide)
theorem kw_192 : Cond.instanceMethod yy_am_refusal ∈ gw_w := gw_mem (i := 368) (by decide +kernel) (by decide)
theorem kw_193 : Cond.selects "AccountMachine" yy_am_refusal yy_am_refusal ∈ gw_w := gw_memS (i := 32) (by decide +kernel) (by decide)
theorem kw_194 : Cond.code yy_fr_handBack by_fr_handBack 6 (some .int) ∈ gw_w := gw_mem (i := 395) (by decide +kernel) (by decide)
theorem kw_195 : Cond.instanceMethod yy_fr_handBack ∈ gw_w := gw_mem (i := 394) (by decide +kernel) (by decide)
theorem kw_196 : Cond.selects "AccountMachine$Frame" yy_fr_handBack yy_fr_handBack ∈ gw_w := gw_memS (i := 34) (by decide +kernel) (by decide)
theorem kw_197 : Cond.fieldLink "AccountMachine" 195 "AccountMachine" "SERVICE_UNITS" "[I" ∈ gw_w := gw_mem (i := 356) (by decide +kernel) (by decide)
theorem kw_198 : Cond.code yy_am_writeLog by_am_writeLog 3 none ∈ gw_w := gw_mem (i := 360) (by decide +kernel) (by decide)
theorem kw_199 : Cond.methodLink "AccountMachine" 198 yy_am_writeLog ∈ gw_w := gw_mem (i := 357) (by decide +kernel) (by decide)
theorem kw_200 : Cond.instanceMethod yy_am_writeLog ∈ gw_w := gw_mem (i := 359) (by decide +kernel) (by decide)
theorem kw_201 : Cond.selects "AccountMachine" yy_am_writeLog yy_am_writeLog ∈ gw_w := gw_memS (i := 30) (by decide +kernel) (by decide)
theorem kw_202 : Cond.code yy_am_invoke by_am_invoke 6 (some .int) ∈ gw_w := gw_mem (i := 364) (by decide +kernel) (by decide)
theorem kw_203 : Cond.methodLink "AccountMachine" 202 yy_am_invoke ∈ gw_w := gw_mem (i := 361) (by decide +kernel) (by decide)
theorem kw_204 : Cond.instanceMethod yy_am_invoke ∈ gw_w := gw_mem (i := 363) (by decide +kernel) (by decide)
theorem kw_205 : Cond.selects "AccountMachine" yy_am_invoke yy_am_invoke ∈ gw_w := gw_memS (i := 31) (by decide +kernel) (by decide)
theorem kw_206 : Cond.fieldLink "AccountMachine" 54 "AccountMachine" "given" "J" ∈ gw_w := gw_mem (i := 160) (by decide +kernel) (by decide)
theorem kw_207 : Cond.code yy_fr_jump by_fr_jump 6 none ∈ gw_w := gw_mem (i := 347) (by decide +kernel) (by decide)
theorem kw_208 : Cond.instanceMethod yy_fr_jump ∈ gw_w := gw_mem (i := 346) (by decide +kernel) (by decide)
theorem kw_209 : Cond.selects "AccountMachine$Frame" yy_fr_jump yy_fr_jump ∈ gw_w := gw_memS (i := 27) (by decide +kernel) (by decide)
theorem kw_210 : Cond.code yy_fr_reachMemory by_fr_reachMemory 7 (some .int) ∈ gw_w := gw_mem (i := 332) (by decide +kernel) (by decide)
theorem kw_211 : Cond.instanceMethod yy_fr_reachMemory ∈ gw_w := gw_mem (i := 331) (by decide +kernel) (by decide)
theorem kw_212 : Cond.selects "AccountMachine$Frame" yy_fr_reachMemory yy_fr_reachMemory ∈ gw_w := gw_memS (i := 24) (by decide +kernel) (by decide)
theorem kw_213 : Cond.code yy_fr_call by_fr_call 3 (some .int) ∈ gw_w := gw_mem (i := 351) (by decide +kernel) (by decide)
theorem kw_214 : Cond.instanceMethod yy_fr_call ∈ gw_w := gw_mem (i := 350) (by decide +kernel) (by decide)
theorem kw_215 : Cond.selects "AccountMachine$Frame" yy_fr_call yy_fr_call ∈ gw_w := gw_memS (i := 28) (by decide +kernel) (by decide)
theorem kw_216 : Cond.code yy_am_serve by_am_serve 3 (some .int) ∈ gw_w := gw_mem (i := 355) (by decide +kernel) (by decide)
theorem kw_217 : Cond.methodLink "AccountMachine" 172 yy_am_serve ∈ gw_w := gw_mem (i := 352) (by decide +kernel) (by decide)
theorem kw_218 : Cond.instanceMethod yy_am_serve ∈ gw_w := gw_mem (i := 354) (by decide +kernel) (by decide)
theorem kw_219 : Cond.selects "AccountMachine" yy_am_serve yy_am_serve ∈ gw_w := gw_memS (i := 29) (by decide +kernel) (by decide)
theorem kw_220 : Cond.code yy_fr_goBack by_fr_goBack 1 (some .boolean) ∈ gw_w := gw_mem (i := 425) (by decide +kernel) (by decide)
theorem kw_221 : Cond.instanceMethod yy_fr_goBack ∈ gw_w := gw_mem (i := 424) (by decide +kernel) (by decide)
theorem kw_222 : Cond.selects "AccountMachine$Frame" yy_fr_goBack yy_fr_goBack ∈ gw_w := gw_memS (i := 40) (by decide +kernel) (by decide)
theorem kw_223 : Cond.code yy_am_finish by_am_finish 3 (some .int) ∈ gw_w := gw_mem (i := 429) (by decide +kernel) (by decide)
theorem kw_224 : Cond.methodLink "AccountMachine" 179 yy_am_finish ∈ gw_w := gw_mem (i := 426) (by decide +kernel) (by decide)
theorem kw_225 : Cond.instanceMethod yy_am_finish ∈ gw_w := gw_mem (i := 428) (by decide +kernel) (by decide)
theorem kw_226 : Cond.selects "AccountMachine" yy_am_finish yy_am_finish ∈ gw_w := gw_memS (i := 41) (by decide +kernel) (by decide)
theorem kw_227 : Cond.code yy_fr_reckon by_fr_reckon 6 none ∈ gw_w := gw_mem (i := 433) (by decide +kernel) (by decide)
theorem kw_228 : Cond.instanceMethod yy_fr_reckon ∈ gw_w := gw_mem (i := 432) (by decide +kernel) (by decide)
theorem kw_229 : Cond.selects "AccountMachine$Frame" yy_fr_reckon yy_fr_reckon ∈ gw_w := gw_memS (i := 42) (by decide +kernel) (by decide)
theorem kw_230 : Cond.code yy_am_step by_am_step 4 (some .int) ∈ gw_w := gw_mem (i := 328) (by decide +kernel) (by decide)
theorem kw_231 : Cond.methodLink "AccountMachine" 145 yy_am_step ∈ gw_w := gw_mem (i := 325) (by decide +kernel) (by decide)
theorem kw_232 : Cond.instanceMethod yy_am_step ∈ gw_w := gw_mem (i := 327) (by decide +kernel) (by decide)
theorem kw_233 : Cond.selects "AccountMachine" yy_am_step yy_am_step ∈ gw_w := gw_memS (i := 23) (by decide +kernel) (by decide)
theorem kw_234 : Cond.code yy_od_copyFrom by_od_copyFrom 3 none ∈ gw_w := gw_mem (i := 298) (by decide +kernel) (by decide)
theorem kw_235 : Cond.instanceMethod yy_od_copyFrom ∈ gw_w := gw_mem (i := 297) (by decide +kernel) (by decide)
theorem kw_236 : Cond.selects "AccountMachine$Order" yy_od_copyFrom yy_od_copyFrom ∈ gw_w := gw_memS (i := 18) (by decide +kernel) (by decide)
theorem kw_237 : Cond.fieldLink "AccountMachine" 22 "AccountMachine" "before" "LAccountMachine$Ledger;" ∈ gw_w := gw_mem (i := 152) (by decide +kernel) (by decide)
theorem kw_238 : Cond.code yy_le_copyFrom by_le_copyFrom 2 none ∈ gw_w := gw_mem (i := 254) (by decide +kernel) (by decide)
theorem kw_239 : Cond.instanceMethod yy_le_copyFrom ∈ gw_w := gw_mem (i := 253) (by decide +kernel) (by decide)
theorem kw_240 : Cond.selects "AccountMachine$Ledger" yy_le_copyFrom yy_le_copyFrom ∈ gw_w := gw_memS (i := 8) (by decide +kernel) (by decide)
theorem kw_241 : Cond.code yy_am_owesRent by_am_owesRent 6 (some .boolean) ∈ gw_w := gw_mem (i := 437) (by decide +kernel) (by decide)
theorem kw_242 : Cond.methodLink "AccountMachine" 98 yy_am_owesRent ∈ gw_w := gw_mem (i := 434) (by decide +kernel) (by decide)
theorem kw_243 : Cond.instanceMethod yy_am_owesRent ∈ gw_w := gw_mem (i := 436) (by decide +kernel) (by decide)
theorem kw_244 : Cond.selects "AccountMachine" yy_am_owesRent yy_am_owesRent ∈ gw_w := gw_memS (i := 43) (by decide +kernel) (by decide)
theorem kw_245 : Cond.code yy_am_carryOut by_am_carryOut 4 (some .int) ∈ gw_w := gw_mem (i := 261) (by decide +kernel) (by decide)
theorem kw_246 : Cond.methodLink "AccountMachine" 94 yy_am_carryOut ∈ gw_w := gw_mem (i := 258) (by decide +kernel) (by decide)
theorem kw_247 : Cond.instanceMethod yy_am_carryOut ∈ gw_w := gw_mem (i := 260) (by decide +kernel) (by decide)
theorem kw_248 : Cond.selects "AccountMachine" yy_am_carryOut yy_am_carryOut ∈ gw_w := gw_memS (i := 9) (by decide +kernel) (by decide)
theorem kw_249 : Cond.constantLong "AccountMachineModel" 81 (3 : Int64) ∈ gw_w := gw_mem (i := 558) (by decide +kernel) (by decide)
theorem kw_250 : Cond.code yy_mo_in by_mo_in 6 (some .boolean) ∈ gw_w := gw_mem (i := 561) (by decide +kernel) (by decide)
theorem kw_251 : Cond.methodLink "AccountMachineModel" 83 yy_mo_in ∈ gw_w := gw_mem (i := 559) (by decide +kernel) (by decide)
theorem kw_252 : Cond.static yy_mo_in ∈ gw_w := gw_mem (i := 560) (by decide +kernel) (by decide)
theorem kw_253 : Cond.initialized "AccountMachineModel" ∈ gw_w := gw_mem (i := 7) (by decide +kernel) (by decide)
theorem kw_254 : Cond.fieldLink "AccountMachineModel" 22 "AccountMachineModel" "length" "[I" ∈ gw_w := gw_mem (i := 472) (by decide +kernel) (by decide)
theorem kw_255 : Cond.fieldLink "AccountMachineModel" 29 "AccountMachineModel" "kinds" "[I" ∈ gw_w := gw_mem (i := 474) (by decide +kernel) (by decide)
theorem kw_256 : Cond.fieldLink "AccountMachineModel" 32 "AccountMachineModel" "lefts" "[I" ∈ gw_w := gw_mem (i := 475) (by decide +kernel) (by decide)
theorem kw_257 : Cond.fieldLink "AccountMachineModel" 35 "AccountMachineModel" "rights" "[I" ∈ gw_w := gw_mem (i := 476) (by decide +kernel) (by decide)
theorem kw_258 : Cond.fieldLink "AccountMachineModel" 38 "AccountMachineModel" "offsets" "[I" ∈ gw_w := gw_mem (i := 477) (by decide +kernel) (by decide)
theorem kw_259 : Cond.fieldLink "AccountMachineModel" 41 "AccountMachineModel" "numbers" "[I" ∈ gw_w := gw_mem (i := 478) (by decide +kernel) (by decide)
theorem kw_260 : Cond.fieldLink "AccountMachineModel" 25 "AccountMachineModel" "loaded" "[Z" ∈ gw_w := gw_mem (i := 473) (by decide +kernel) (by decide)
theorem kw_261 : Cond.constantLong "AccountMachineModel" 95 (63 : Int64) ∈ gw_w := gw_mem (i := 578) (by decide +kernel) (by decide)
theorem kw_262 : Cond.constantLong "AccountMachineModel" 87 (15 : Int64) ∈ gw_w := gw_mem (i := 574) (by decide +kernel) (by decide)
theorem kw_263 : Cond.constantLong "AccountMachineModel" 89 (9 : Int64) ∈ gw_w := gw_mem (i := 575) (by decide +kernel) (by decide)
theorem kw_264 : Cond.constantLong "AccountMachineModel" 91 (10 : Int64) ∈ gw_w := gw_mem (i := 576) (by decide +kernel) (by decide)
theorem kw_265 : Cond.constantLong "AccountMachineModel" 93 (13 : Int64) ∈ gw_w := gw_mem (i := 577) (by decide +kernel) (by decide)
theorem kw_266 : Cond.code yy_mo_reason by_mo_reason 7 (some .int) ∈ gw_w := gw_mem (i := 573) (by decide +kernel) (by decide)
theorem kw_267 : Cond.methodLink "AccountMachineModel" 97 yy_mo_reason ∈ gw_w := gw_mem (i := 570) (by decide +kernel) (by decide)
theorem kw_268 : Cond.instanceMethod yy_mo_reason ∈ gw_w := gw_mem (i := 572) (by decide +kernel) (by decide)
theorem kw_269 : Cond.selects "AccountMachineModel" yy_mo_reason yy_mo_reason ∈ gw_w := gw_memS (i := 44) (by decide +kernel) (by decide)
theorem kw_270 : Cond.fieldLink "AccountMachineModel" 101 "AccountMachineModel" "orders" "I" ∈ gw_w := gw_mem (i := 479) (by decide +kernel) (by decide)
theorem kw_271 : Cond.fieldLink "AccountMachineModel" 44 "AccountMachineModel" "program" "[I" ∈ gw_w := gw_mem (i := 480) (by decide +kernel) (by decide)
theorem kw_272 : Cond.fieldLink "AccountMachineModel" 47 "AccountMachineModel" "argument" "[I" ∈ gw_w := gw_mem (i := 481) (by decide +kernel) (by decide)
theorem kw_273 : Cond.fieldLink "AccountMachineModel" 50 "AccountMachineModel" "slots" "[I" ∈ gw_w := gw_mem (i := 482) (by decide +kernel) (by decide)
theorem kw_274 : Cond.fieldLink "AccountMachineModel" 53 "AccountMachineModel" "slotAccount" "[I" ∈ gw_w := gw_mem (i := 483) (by decide +kernel) (by decide)
theorem kw_275 : Cond.fieldLink "AccountMachineModel" 56 "AccountMachineModel" "slotMarks" "[I" ∈ gw_w := gw_mem (i := 484) (by decide +kernel) (by decide)
theorem kw_276 : Cond.constantLong "AccountMachineModel" 105 (7 : Int64) ∈ gw_w := gw_mem (i := 587) (by decide +kernel) (by decide)
theorem kw_277 : Cond.code yy_mo_add by_mo_add 4 none ∈ gw_w := gw_mem (i := 591) (by decide +kernel) (by decide)
theorem kw_278 : Cond.methodLink "AccountMachineModel" 107 yy_mo_add ∈ gw_w := gw_mem (i := 588) (by decide +kernel) (by decide)
theorem kw_279 : Cond.instanceMethod yy_mo_add ∈ gw_w := gw_mem (i := 590) (by decide +kernel) (by decide)
theorem kw_280 : Cond.selects "AccountMachineModel" yy_mo_add yy_mo_add ∈ gw_w := gw_memS (i := 45) (by decide +kernel) (by decide)
theorem kw_281 : Cond.code yy_mo_marksOf by_mo_marksOf 5 (some .int) ∈ gw_w := gw_mem (i := 628) (by decide +kernel) (by decide)
theorem kw_282 : Cond.methodLink "AccountMachineModel" 111 yy_mo_marksOf ∈ gw_w := gw_mem (i := 625) (by decide +kernel) (by decide)
theorem kw_283 : Cond.instanceMethod yy_mo_marksOf ∈ gw_w := gw_mem (i := 627) (by decide +kernel) (by decide)
theorem kw_284 : Cond.selects "AccountMachineModel" yy_mo_marksOf yy_mo_marksOf ∈ gw_w := gw_memS (i := 53) (by decide +kernel) (by decide)
theorem kw_285 : Cond.fieldLink "AccountMachineModel" 75 "AccountMachineModel" "seen" "[J" ∈ gw_w := gw_mem (i := 491) (by decide +kernel) (by decide)
theorem kw_286 : Cond.fieldLink "AccountMachineModel" 16 "AccountMachineModel" "sizes" "[I" ∈ gw_w := gw_mem (i := 470) (by decide +kernel) (by decide)
theorem kw_287 : Cond.fieldLink "AccountMachineModel" 19 "AccountMachineModel" "words" "[I" ∈ gw_w := gw_mem (i := 471) (by decide +kernel) (by decide)
theorem kw_288 : Cond.code yy_mo_mainOf by_mo_mainOf 5 (some .int) ∈ gw_w := gw_mem (i := 642) (by decide +kernel) (by decide)
theorem kw_289 : Cond.methodLink "AccountMachineModel" 114 yy_mo_mainOf ∈ gw_w := gw_mem (i := 639) (by decide +kernel) (by decide)
theorem kw_290 : Cond.instanceMethod yy_mo_mainOf ∈ gw_w := gw_mem (i := 641) (by decide +kernel) (by decide)
theorem kw_291 : Cond.selects "AccountMachineModel" yy_mo_mainOf yy_mo_mainOf ∈ gw_w := gw_memS (i := 56) (by decide +kernel) (by decide)
theorem kw_292 : Cond.fieldLink "AccountMachineModel" 13 "AccountMachineModel" "owners" "[I" ∈ gw_w := gw_mem (i := 469) (by decide +kernel) (by decide)
theorem kw_293 : Cond.fieldLink "AccountMachineModel" 7 "AccountMachineModel" "balances" "[I" ∈ gw_w := gw_mem (i := 468) (by decide +kernel) (by decide)
theorem kw_294 : Cond.code yy_mo_layOut by_mo_layOut 7 none ∈ gw_w := gw_mem (i := 646) (by decide +kernel) (by decide)
theorem kw_295 : Cond.methodLink "AccountMachineModel" 119 yy_mo_layOut ∈ gw_w := gw_mem (i := 643) (by decide +kernel) (by decide)
theorem kw_296 : Cond.instanceMethod yy_mo_layOut ∈ gw_w := gw_mem (i := 645) (by decide +kernel) (by decide)
theorem kw_297 : Cond.selects "AccountMachineModel" yy_mo_layOut yy_mo_layOut ∈ gw_w := gw_memS (i := 57) (by decide +kernel) (by decide)
theorem kw_298 : Cond.fieldLink "AccountMachineModel" 72 "AccountMachineModel" "stack" "[J" ∈ gw_w := gw_mem (i := 490) (by decide +kernel) (by decide)
theorem kw_299 : Cond.fieldLink "AccountMachineModel" 62 "AccountMachineModel" "registers" "[J" ∈ gw_w := gw_mem (i := 487) (by decide +kernel) (by decide)
theorem kw_300 : Cond.constantLong "AccountMachineModel" 117 (2000 : Int64) ∈ gw_w := gw_mem (i := 596) (by decide +kernel) (by decide)
theorem kw_301 : Cond.fieldLink "AccountMachineModel" 59 "AccountMachineModel" "place" "[I" ∈ gw_w := gw_mem (i := 486) (by decide +kernel) (by decide)
theorem kw_302 : Cond.fieldLink "AccountMachineModel" 69 "AccountMachineModel" "calls" "[I" ∈ gw_w := gw_mem (i := 489) (by decide +kernel) (by decide)
theorem kw_303 : Cond.constantLong "AccountMachineModel" 123 (2039 : Int64) ∈ gw_w := gw_mem (i := 691) (by decide +kernel) (by decide)
theorem kw_304 : Cond.constantLong "AccountMachineModel" 125 (4 : Int64) ∈ gw_w := gw_mem (i := 634) (by decide +kernel) (by decide)
theorem kw_305 : Cond.constantLong "AccountMachineModel" 135 (1000000 : Int64) ∈ gw_w := gw_mem (i := 633) (by decide +kernel) (by decide)
theorem kw_306 : Cond.code yy_mo_writable by_mo_writable 3 (some .boolean) ∈ gw_w := gw_mem (i := 632) (by decide +kernel) (by decide)
theorem kw_307 : Cond.methodLink "AccountMachineModel" 131 yy_mo_writable ∈ gw_w := gw_mem (i := 629) (by decide +kernel) (by decide)
theorem kw_308 : Cond.instanceMethod yy_mo_writable ∈ gw_w := gw_mem (i := 631) (by decide +kernel) (by decide)
theorem kw_309 : Cond.selects "AccountMachineModel" yy_mo_writable yy_mo_writable ∈ gw_w := gw_memS (i := 54) (by decide +kernel) (by decide)
theorem kw_310 : Cond.code yy_mo_wrongSlot by_mo_wrongSlot 11 (some .int) ∈ gw_w := gw_mem (i := 674) (by decide +kernel) (by decide)
theorem kw_311 : Cond.methodLink "AccountMachineModel" 127 yy_mo_wrongSlot ∈ gw_w := gw_mem (i := 671) (by decide +kernel) (by decide)
theorem kw_312 : Cond.instanceMethod yy_mo_wrongSlot ∈ gw_w := gw_mem (i := 673) (by decide +kernel) (by decide)
theorem kw_313 : Cond.selects "AccountMachineModel" yy_mo_wrongSlot yy_mo_wrongSlot ∈ gw_w := gw_memS (i := 64) (by decide +kernel) (by decide)
theorem kw_314 : Cond.fieldLink "AccountMachineModel" 137 "AccountMachineModel" "meter" "I" ∈ gw_w := gw_mem (i := 492) (by decide +kernel) (by decide)
theorem kw_315 : Cond.code yy_mo_signed by_mo_signed 3 (some .boolean) ∈ gw_w := gw_mem (i := 624) (by decide +kernel) (by decide)
theorem kw_316 : Cond.methodLink "AccountMachineModel" 192 yy_mo_signed ∈ gw_w := gw_mem (i := 621) (by decide +kernel) (by decide)
theorem kw_317 : Cond.instanceMethod yy_mo_signed ∈ gw_w := gw_mem (i := 623) (by decide +kernel) (by decide)
theorem kw_318 : Cond.selects "AccountMachineModel" yy_mo_signed yy_mo_signed ∈ gw_w := gw_memS (i := 52) (by decide +kernel) (by decide)
theorem kw_319 : Cond.code yy_mo_seat by_mo_seat 4 (some .int) ∈ gw_w := gw_mem (i := 666) (by decide +kernel) (by decide)
theorem kw_320 : Cond.methodLink "AccountMachineModel" 189 yy_mo_seat ∈ gw_w := gw_mem (i := 663) (by decide +kernel) (by decide)
theorem kw_321 : Cond.instanceMethod yy_mo_seat ∈ gw_w := gw_mem (i := 665) (by decide +kernel) (by decide)
theorem kw_322 : Cond.selects "AccountMachineModel" yy_mo_seat yy_mo_seat ∈ gw_w := gw_memS (i := 62) (by decide +kernel) (by decide)
theorem kw_323 : Cond.code yy_mo_pay by_mo_pay 3 (some .boolean) ∈ gw_w := gw_mem (i := 616) (by decide +kernel) (by decide)
theorem kw_324 : Cond.methodLink "AccountMachineModel" 143 yy_mo_pay ∈ gw_w := gw_mem (i := 613) (by decide +kernel) (by decide)
theorem kw_325 : Cond.instanceMethod yy_mo_pay ∈ gw_w := gw_mem (i := 615) (by decide +kernel) (by decide)
theorem kw_326 : Cond.selects "AccountMachineModel" yy_mo_pay yy_mo_pay ∈ gw_w := gw_memS (i := 50) (by decide +kernel) (by decide)
theorem kw_327 : Cond.code yy_mo_transfer by_mo_transfer 5 (some .int) ∈ gw_w := gw_mem (i := 620) (by decide +kernel) (by decide)
theorem kw_328 : Cond.methodLink "AccountMachineModel" 208 yy_mo_transfer ∈ gw_w := gw_mem (i := 617) (by decide +kernel) (by decide)
theorem kw_329 : Cond.instanceMethod yy_mo_transfer ∈ gw_w := gw_mem (i := 619) (by decide +kernel) (by decide)
theorem kw_330 : Cond.selects "AccountMachineModel" yy_mo_transfer yy_mo_transfer ∈ gw_w := gw_memS (i := 51) (by decide +kernel) (by decide)
theorem kw_331 : Cond.code yy_mo_handBack by_mo_handBack 9 (some .int) ∈ gw_w := gw_mem (i := 670) (by decide +kernel) (by decide)
theorem kw_332 : Cond.methodLink "AccountMachineModel" 173 yy_mo_handBack ∈ gw_w := gw_mem (i := 667) (by decide +kernel) (by decide)
theorem kw_333 : Cond.instanceMethod yy_mo_handBack ∈ gw_w := gw_mem (i := 669) (by decide +kernel) (by decide)
theorem kw_334 : Cond.selects "AccountMachineModel" yy_mo_handBack yy_mo_handBack ∈ gw_w := gw_memS (i := 63) (by decide +kernel) (by decide)
theorem kw_335 : Cond.code yy_mo_system by_mo_system 7 (some .int) ∈ gw_w := gw_mem (i := 612) (by decide +kernel) (by decide)
theorem kw_336 : Cond.methodLink "AccountMachineModel" 205 yy_mo_system ∈ gw_w := gw_mem (i := 609) (by decide +kernel) (by decide)
theorem kw_337 : Cond.instanceMethod yy_mo_system ∈ gw_w := gw_mem (i := 611) (by decide +kernel) (by decide)
theorem kw_338 : Cond.selects "AccountMachineModel" yy_mo_system yy_mo_system ∈ gw_w := gw_memS (i := 49) (by decide +kernel) (by decide)
theorem kw_339 : Cond.code yy_mo_comeBack by_mo_comeBack 2 none ∈ gw_w := gw_mem (i := 678) (by decide +kernel) (by decide)
theorem kw_340 : Cond.methodLink "AccountMachineModel" 176 yy_mo_comeBack ∈ gw_w := gw_mem (i := 675) (by decide +kernel) (by decide)
theorem kw_341 : Cond.instanceMethod yy_mo_comeBack ∈ gw_w := gw_mem (i := 677) (by decide +kernel) (by decide)
theorem kw_342 : Cond.selects "AccountMachineModel" yy_mo_comeBack yy_mo_comeBack ∈ gw_w := gw_memS (i := 65) (by decide +kernel) (by decide)
theorem kw_343 : Cond.fieldLink "AccountMachineModel" 140 "AccountMachineModel" "depth" "I" ∈ gw_w := gw_mem (i := 485) (by decide +kernel) (by decide)
theorem kw_344 : Cond.code yy_mo_begin by_mo_begin 6 none ∈ gw_w := gw_mem (i := 638) (by decide +kernel) (by decide)
theorem kw_345 : Cond.methodLink "AccountMachineModel" 202 yy_mo_begin ∈ gw_w := gw_mem (i := 635) (by decide +kernel) (by decide)
theorem kw_346 : Cond.instanceMethod yy_mo_begin ∈ gw_w := gw_mem (i := 637) (by decide +kernel) (by decide)
theorem kw_347 : Cond.selects "AccountMachineModel" yy_mo_begin yy_mo_begin ∈ gw_w := gw_memS (i := 55) (by decide +kernel) (by decide)
theorem kw_348 : Cond.code yy_mo_makeOrder by_mo_makeOrder 10 (some .int) ∈ gw_w := gw_mem (i := 662) (by decide +kernel) (by decide)
theorem kw_349 : Cond.methodLink "AccountMachineModel" 199 yy_mo_makeOrder ∈ gw_w := gw_mem (i := 659) (by decide +kernel) (by decide)
theorem kw_350 : Cond.instanceMethod yy_mo_makeOrder ∈ gw_w := gw_mem (i := 661) (by decide +kernel) (by decide)
theorem kw_351 : Cond.selects "AccountMachineModel" yy_mo_makeOrder yy_mo_makeOrder ∈ gw_w := gw_memS (i := 61) (by decide +kernel) (by decide)
theorem kw_352 : Cond.code yy_mo_canRun by_mo_canRun 3 (some .boolean) ∈ gw_w := gw_mem (i := 608) (by decide +kernel) (by decide)
theorem kw_353 : Cond.methodLink "AccountMachineModel" 195 yy_mo_canRun ∈ gw_w := gw_mem (i := 605) (by decide +kernel) (by decide)
theorem kw_354 : Cond.instanceMethod yy_mo_canRun ∈ gw_w := gw_mem (i := 607) (by decide +kernel) (by decide)
theorem kw_355 : Cond.selects "AccountMachineModel" yy_mo_canRun yy_mo_canRun ∈ gw_w := gw_memS (i := 48) (by decide +kernel) (by decide)
theorem kw_356 : Cond.fieldLink "AccountMachineModel" 185 "AccountMachineModel" "given" "J" ∈ gw_w := gw_mem (i := 493) (by decide +kernel) (by decide)
theorem kw_357 : Cond.fieldLink "AccountMachineModel" 182 "AccountMachineModel" "written" "I" ∈ gw_w := gw_mem (i := 495) (by decide +kernel) (by decide)
theorem kw_358 : Cond.fieldLink "AccountMachineModel" 78 "AccountMachineModel" "log" "[J" ∈ gw_w := gw_mem (i := 494) (by decide +kernel) (by decide)
theorem kw_359 : Cond.code yy_mo_invoke by_mo_invoke 8 (some .int) ∈ gw_w := gw_mem (i := 658) (by decide +kernel) (by decide)
theorem kw_360 : Cond.methodLink "AccountMachineModel" 179 yy_mo_invoke ∈ gw_w := gw_mem (i := 655) (by decide +kernel) (by decide)
theorem kw_361 : Cond.instanceMethod yy_mo_invoke ∈ gw_w := gw_mem (i := 657) (by decide +kernel) (by decide)
theorem kw_362 : Cond.selects "AccountMachineModel" yy_mo_invoke yy_mo_invoke ∈ gw_w := gw_memS (i := 60) (by decide +kernel) (by decide)
theorem kw_363 : Cond.fieldLink "AccountMachineModel" 66 "AccountMachineModel" "remembered" "[I" ∈ gw_w := gw_mem (i := 488) (by decide +kernel) (by decide)
theorem kw_364 : Cond.code yy_mo_mayStore by_mo_mayStore 5 (some .boolean) ∈ gw_w := gw_mem (i := 697) (by decide +kernel) (by decide)
theorem kw_365 : Cond.methodLink "AccountMachineModel" 170 yy_mo_mayStore ∈ gw_w := gw_mem (i := 694) (by decide +kernel) (by decide)
theorem kw_366 : Cond.instanceMethod yy_mo_mayStore ∈ gw_w := gw_mem (i := 696) (by decide +kernel) (by decide)
theorem kw_367 : Cond.selects "AccountMachineModel" yy_mo_mayStore yy_mo_mayStore ∈ gw_w := gw_memS (i := 69) (by decide +kernel) (by decide)
theorem kw_368 : Cond.code yy_mo_wordAt by_mo_wordAt 5 (some .int) ∈ gw_w := gw_mem (i := 690) (by decide +kernel) (by decide)
theorem kw_369 : Cond.methodLink "AccountMachineModel" 162 yy_mo_wordAt ∈ gw_w := gw_mem (i := 687) (by decide +kernel) (by decide)
theorem kw_370 : Cond.instanceMethod yy_mo_wordAt ∈ gw_w := gw_mem (i := 689) (by decide +kernel) (by decide)
theorem kw_371 : Cond.selects "AccountMachineModel" yy_mo_wordAt yy_mo_wordAt ∈ gw_w := gw_memS (i := 68) (by decide +kernel) (by decide)
theorem kw_372 : Cond.constantLong "AccountMachineModel" 166 (1000 : Int64) ∈ gw_w := gw_mem (i := 692) (by decide +kernel) (by decide)
theorem kw_373 : Cond.constantLong "AccountMachineModel" 168 (1015 : Int64) ∈ gw_w := gw_mem (i := 693) (by decide +kernel) (by decide)
theorem kw_374 : Cond.code yy_mo_reckon by_mo_reckon 6 (some .long) ∈ gw_w := gw_mem (i := 700) (by decide +kernel) (by decide)
theorem kw_375 : Cond.methodLink "AccountMachineModel" 158 yy_mo_reckon ∈ gw_w := gw_mem (i := 698) (by decide +kernel) (by decide)
theorem kw_376 : Cond.static yy_mo_reckon ∈ gw_w := gw_mem (i := 699) (by decide +kernel) (by decide)
theorem kw_377 : Cond.code yy_mo_access by_mo_access 12 (some .int) ∈ gw_w := gw_mem (i := 686) (by decide +kernel) (by decide)
theorem kw_378 : Cond.methodLink "AccountMachineModel" 154 yy_mo_access ∈ gw_w := gw_mem (i := 683) (by decide +kernel) (by decide)
theorem kw_379 : Cond.instanceMethod yy_mo_access ∈ gw_w := gw_mem (i := 685) (by decide +kernel) (by decide)
theorem kw_380 : Cond.selects "AccountMachineModel" yy_mo_access yy_mo_access ∈ gw_w := gw_memS (i := 67) (by decide +kernel) (by decide)
theorem kw_381 : Cond.code yy_mo_end by_mo_end 3 (some .int) ∈ gw_w := gw_mem (i := 682) (by decide +kernel) (by decide)
theorem kw_382 : Cond.methodLink "AccountMachineModel" 150 yy_mo_end ∈ gw_w := gw_mem (i := 679) (by decide +kernel) (by decide)
theorem kw_383 : Cond.instanceMethod yy_mo_end ∈ gw_w := gw_mem (i := 681) (by decide +kernel) (by decide)
theorem kw_384 : Cond.selects "AccountMachineModel" yy_mo_end yy_mo_end ∈ gw_w := gw_memS (i := 66) (by decide +kernel) (by decide)
theorem kw_385 : Cond.code yy_mo_serve by_mo_serve 5 (some .int) ∈ gw_w := gw_mem (i := 654) (by decide +kernel) (by decide)
theorem kw_386 : Cond.methodLink "AccountMachineModel" 147 yy_mo_serve ∈ gw_w := gw_mem (i := 651) (by decide +kernel) (by decide)
theorem kw_387 : Cond.instanceMethod yy_mo_serve ∈ gw_w := gw_mem (i := 653) (by decide +kernel) (by decide)
theorem kw_388 : Cond.selects "AccountMachineModel" yy_mo_serve yy_mo_serve ∈ gw_w := gw_memS (i := 59) (by decide +kernel) (by decide)
theorem kw_389 : Cond.code yy_mo_step by_mo_step 10 (some .int) ∈ gw_w := gw_mem (i := 650) (by decide +kernel) (by decide)
theorem kw_390 : Cond.methodLink "AccountMachineModel" 212 yy_mo_step ∈ gw_w := gw_mem (i := 647) (by decide +kernel) (by decide)
theorem kw_391 : Cond.instanceMethod yy_mo_step ∈ gw_w := gw_mem (i := 649) (by decide +kernel) (by decide)
theorem kw_392 : Cond.selects "AccountMachineModel" yy_mo_step yy_mo_step ∈ gw_w := gw_memS (i := 58) (by decide +kernel) (by decide)
theorem kw_393 : Cond.code yy_mo_copyAccounts by_mo_copyAccounts 5 none ∈ gw_w := gw_mem (i := 600) (by decide +kernel) (by decide)
theorem kw_394 : Cond.methodLink "AccountMachineModel" 216 yy_mo_copyAccounts ∈ gw_w := gw_mem (i := 597) (by decide +kernel) (by decide)
theorem kw_395 : Cond.instanceMethod yy_mo_copyAccounts ∈ gw_w := gw_mem (i := 599) (by decide +kernel) (by decide)
theorem kw_396 : Cond.selects "AccountMachineModel" yy_mo_copyAccounts yy_mo_copyAccounts ∈ gw_w := gw_memS (i := 46) (by decide +kernel) (by decide)
theorem kw_397 : Cond.code yy_mo_owesRent by_mo_owesRent 5 (some .boolean) ∈ gw_w := gw_mem (i := 704) (by decide +kernel) (by decide)
theorem kw_398 : Cond.methodLink "AccountMachineModel" 223 yy_mo_owesRent ∈ gw_w := gw_mem (i := 701) (by decide +kernel) (by decide)
theorem kw_399 : Cond.instanceMethod yy_mo_owesRent ∈ gw_w := gw_mem (i := 703) (by decide +kernel) (by decide)
theorem kw_400 : Cond.selects "AccountMachineModel" yy_mo_owesRent yy_mo_owesRent ∈ gw_w := gw_memS (i := 70) (by decide +kernel) (by decide)
theorem kw_401 : Cond.code yy_mo_carryOut by_mo_carryOut 3 (some .int) ∈ gw_w := gw_mem (i := 604) (by decide +kernel) (by decide)
theorem kw_402 : Cond.methodLink "AccountMachineModel" 220 yy_mo_carryOut ∈ gw_w := gw_mem (i := 601) (by decide +kernel) (by decide)
theorem kw_403 : Cond.instanceMethod yy_mo_carryOut ∈ gw_w := gw_mem (i := 603) (by decide +kernel) (by decide)
theorem kw_404 : Cond.selects "AccountMachineModel" yy_mo_carryOut yy_mo_carryOut ∈ gw_w := gw_memS (i := 47) (by decide +kernel) (by decide)
theorem kw_405 : Cond.laysFinal "AccountMachine" "AccountMachine" "programs" "[LAccountMachine$Program;" ∈ gw_w := gw_mem (i := 161) (by decide +kernel) (by decide)
theorem kw_406 : Cond.laysFinal "AccountMachine" "AccountMachine" "ledger" "LAccountMachine$Ledger;" ∈ gw_w := gw_mem (i := 163) (by decide +kernel) (by decide)
theorem kw_407 : Cond.laysFinal "AccountMachine" "AccountMachine" "before" "LAccountMachine$Ledger;" ∈ gw_w := gw_mem (i := 165) (by decide +kernel) (by decide)
theorem kw_408 : Cond.laysFinal "AccountMachine" "AccountMachine" "orders" "[LAccountMachine$Order;" ∈ gw_w := gw_mem (i := 167) (by decide +kernel) (by decide)
theorem kw_409 : Cond.lays "AccountMachine" "AccountMachine" "orderCount" "I" ∈ gw_w := gw_mem (i := 169) (by decide +kernel) (by decide)
theorem kw_410 : Cond.laysFinal "AccountMachine" "AccountMachine" "frames" "[LAccountMachine$Frame;" ∈ gw_w := gw_mem (i := 171) (by decide +kernel) (by decide)
theorem kw_411 : Cond.lays "AccountMachine" "AccountMachine" "depth" "I" ∈ gw_w := gw_mem (i := 173) (by decide +kernel) (by decide)
theorem kw_412 : Cond.lays "AccountMachine" "AccountMachine" "meter" "I" ∈ gw_w := gw_mem (i := 175) (by decide +kernel) (by decide)
theorem kw_413 : Cond.laysFinal "AccountMachine" "AccountMachine" "logWords" "[J" ∈ gw_w := gw_mem (i := 177) (by decide +kernel) (by decide)
theorem kw_414 : Cond.lays "AccountMachine" "AccountMachine" "logCount" "I" ∈ gw_w := gw_mem (i := 179) (by decide +kernel) (by decide)
theorem kw_415 : Cond.lays "AccountMachine" "AccountMachine" "given" "J" ∈ gw_w := gw_mem (i := 181) (by decide +kernel) (by decide)
theorem kw_416 : Cond.laysFinal "AccountMachine$Ledger" "AccountMachine$Ledger" "balances" "[I" ∈ gw_w := gw_mem (i := 40) (by decide +kernel) (by decide)
theorem kw_417 : Cond.laysFinal "AccountMachine$Ledger" "AccountMachine$Ledger" "owners" "[I" ∈ gw_w := gw_mem (i := 42) (by decide +kernel) (by decide)
theorem kw_418 : Cond.laysFinal "AccountMachine$Ledger" "AccountMachine$Ledger" "sizes" "[I" ∈ gw_w := gw_mem (i := 44) (by decide +kernel) (by decide)
theorem kw_419 : Cond.laysFinal "AccountMachine$Ledger" "AccountMachine$Ledger" "words" "[I" ∈ gw_w := gw_mem (i := 46) (by decide +kernel) (by decide)
theorem kw_420 : Cond.lays "AccountMachine$Order" "AccountMachine$Order" "program" "I" ∈ gw_w := gw_mem (i := 110) (by decide +kernel) (by decide)
theorem kw_421 : Cond.lays "AccountMachine$Order" "AccountMachine$Order" "argument" "I" ∈ gw_w := gw_mem (i := 112) (by decide +kernel) (by decide)
theorem kw_422 : Cond.lays "AccountMachine$Order" "AccountMachine$Order" "count" "I" ∈ gw_w := gw_mem (i := 114) (by decide +kernel) (by decide)
theorem kw_423 : Cond.laysFinal "AccountMachine$Order" "AccountMachine$Order" "accounts" "[I" ∈ gw_w := gw_mem (i := 116) (by decide +kernel) (by decide)
theorem kw_424 : Cond.laysFinal "AccountMachine$Order" "AccountMachine$Order" "marks" "[I" ∈ gw_w := gw_mem (i := 118) (by decide +kernel) (by decide)
theorem kw_425 : Cond.laysFinal "AccountMachine$Program" "AccountMachine$Program" "kinds" "[I" ∈ gw_w := gw_mem (i := 75) (by decide +kernel) (by decide)
theorem kw_426 : Cond.laysFinal "AccountMachine$Program" "AccountMachine$Program" "targets" "[I" ∈ gw_w := gw_mem (i := 77) (by decide +kernel) (by decide)
theorem kw_427 : Cond.laysFinal "AccountMachine$Program" "AccountMachine$Program" "sources" "[I" ∈ gw_w := gw_mem (i := 79) (by decide +kernel) (by decide)
theorem kw_428 : Cond.laysFinal "AccountMachine$Program" "AccountMachine$Program" "offsets" "[I" ∈ gw_w := gw_mem (i := 81) (by decide +kernel) (by decide)
theorem kw_429 : Cond.laysFinal "AccountMachine$Program" "AccountMachine$Program" "numbers" "[I" ∈ gw_w := gw_mem (i := 83) (by decide +kernel) (by decide)
theorem kw_430 : Cond.lays "AccountMachine$Program" "AccountMachine$Program" "count" "I" ∈ gw_w := gw_mem (i := 85) (by decide +kernel) (by decide)
theorem kw_431 : Cond.lays "AccountMachine$Program" "AccountMachine$Program" "sound" "Z" ∈ gw_w := gw_mem (i := 87) (by decide +kernel) (by decide)
theorem kw_432 : Cond.laysFinal "AccountMachine$Frame" "AccountMachine$Frame" "order" "LAccountMachine$Order;" ∈ gw_w := gw_mem (i := 137) (by decide +kernel) (by decide)
theorem kw_433 : Cond.laysFinal "AccountMachine$Frame" "AccountMachine$Frame" "registers" "[J" ∈ gw_w := gw_mem (i := 139) (by decide +kernel) (by decide)
theorem kw_434 : Cond.laysFinal "AccountMachine$Frame" "AccountMachine$Frame" "memory" "[J" ∈ gw_w := gw_mem (i := 141) (by decide +kernel) (by decide)
theorem kw_435 : Cond.laysFinal "AccountMachine$Frame" "AccountMachine$Frame" "remembered" "[I" ∈ gw_w := gw_mem (i := 143) (by decide +kernel) (by decide)
theorem kw_436 : Cond.lays "AccountMachine$Frame" "AccountMachine$Frame" "rememberedCount" "I" ∈ gw_w := gw_mem (i := 145) (by decide +kernel) (by decide)
theorem kw_437 : Cond.lays "AccountMachine$Frame" "AccountMachine$Frame" "place" "I" ∈ gw_w := gw_mem (i := 147) (by decide +kernel) (by decide)
theorem kw_438 : Cond.laysFinal "AccountMachineModel" "AccountMachineModel" "balances" "[I" ∈ gw_w := gw_mem (i := 496) (by decide +kernel) (by decide)
theorem kw_439 : Cond.laysFinal "AccountMachineModel" "AccountMachineModel" "owners" "[I" ∈ gw_w := gw_mem (i := 498) (by decide +kernel) (by decide)
theorem kw_440 : Cond.laysFinal "AccountMachineModel" "AccountMachineModel" "sizes" "[I" ∈ gw_w := gw_mem (i := 500) (by decide +kernel) (by decide)
theorem kw_441 : Cond.laysFinal "AccountMachineModel" "AccountMachineModel" "words" "[I" ∈ gw_w := gw_mem (i := 502) (by decide +kernel) (by decide)
theorem kw_442 : Cond.laysFinal "AccountMachineModel" "AccountMachineModel" "length" "[I" ∈ gw_w := gw_mem (i := 504) (by decide +kernel) (by decide)
theorem kw_443 : Cond.laysFinal "AccountMachineModel" "AccountMachineModel" "loaded" "[Z" ∈ gw_w := gw_mem (i := 506) (by decide +kernel) (by decide)
theorem kw_444 : Cond.laysFinal "AccountMachineModel" "AccountMachineModel" "kinds" "[I" ∈ gw_w := gw_mem (i := 508) (by decide +kernel) (by decide)
theorem kw_445 : Cond.laysFinal "AccountMachineModel" "AccountMachineModel" "lefts" "[I" ∈ gw_w := gw_mem (i := 510) (by decide +kernel) (by decide)
theorem kw_446 : Cond.laysFinal "AccountMachineModel" "AccountMachineModel" "rights" "[I" ∈ gw_w := gw_mem (i := 512) (by decide +kernel) (by decide)
theorem kw_447 : Cond.laysFinal "AccountMachineModel" "AccountMachineModel" "offsets" "[I" ∈ gw_w := gw_mem (i := 514) (by decide +kernel) (by decide)
theorem kw_448 : Cond.laysFinal "AccountMachineModel" "AccountMachineModel" "numbers" "[I" ∈ gw_w := gw_mem (i := 516) (by decide +kernel) (by decide)
theorem kw_449 : Cond.lays "AccountMachineModel" "AccountMachineModel" "orders" "I" ∈ gw_w := gw_mem (i := 518) (by decide +kernel) (by decide)
theorem kw_450 : Cond.laysFinal "AccountMachineModel" "AccountMachineModel" "program" "[I" ∈ gw_w := gw_mem (i := 520) (by decide +kernel) (by decide)
theorem kw_451 : Cond.laysFinal "AccountMachineModel" "AccountMachineModel" "argument" "[I" ∈ gw_w := gw_mem (i := 522) (by decide +kernel) (by decide)
theorem kw_452 : Cond.laysFinal "AccountMachineModel" "AccountMachineModel" "slots" "[I" ∈ gw_w := gw_mem (i := 524) (by decide +kernel) (by decide)
theorem kw_453 : Cond.laysFinal "AccountMachineModel" "AccountMachineModel" "slotAccount" "[I" ∈ gw_w := gw_mem (i := 526) (by decide +kernel) (by decide)
theorem kw_454 : Cond.laysFinal "AccountMachineModel" "AccountMachineModel" "slotMarks" "[I" ∈ gw_w := gw_mem (i := 528) (by decide +kernel) (by decide)
theorem kw_455 : Cond.lays "AccountMachineModel" "AccountMachineModel" "depth" "I" ∈ gw_w := gw_mem (i := 530) (by decide +kernel) (by decide)
theorem kw_456 : Cond.laysFinal "AccountMachineModel" "AccountMachineModel" "place" "[I" ∈ gw_w := gw_mem (i := 532) (by decide +kernel) (by decide)
theorem kw_457 : Cond.laysFinal "AccountMachineModel" "AccountMachineModel" "registers" "[J" ∈ gw_w := gw_mem (i := 534) (by decide +kernel) (by decide)
theorem kw_458 : Cond.laysFinal "AccountMachineModel" "AccountMachineModel" "remembered" "[I" ∈ gw_w := gw_mem (i := 536) (by decide +kernel) (by decide)
theorem kw_459 : Cond.laysFinal "AccountMachineModel" "AccountMachineModel" "calls" "[I" ∈ gw_w := gw_mem (i := 538) (by decide +kernel) (by decide)
theorem kw_460 : Cond.laysFinal "AccountMachineModel" "AccountMachineModel" "stack" "[J" ∈ gw_w := gw_mem (i := 540) (by decide +kernel) (by decide)
theorem kw_461 : Cond.laysFinal "AccountMachineModel" "AccountMachineModel" "seen" "[J" ∈ gw_w := gw_mem (i := 542) (by decide +kernel) (by decide)
theorem kw_462 : Cond.lays "AccountMachineModel" "AccountMachineModel" "meter" "I" ∈ gw_w := gw_mem (i := 544) (by decide +kernel) (by decide)
theorem kw_463 : Cond.lays "AccountMachineModel" "AccountMachineModel" "given" "J" ∈ gw_w := gw_mem (i := 546) (by decide +kernel) (by decide)
theorem kw_464 : Cond.laysFinal "AccountMachineModel" "AccountMachineModel" "log" "[J" ∈ gw_w := gw_mem (i := 548) (by decide +kernel) (by decide)
theorem kw_465 : Cond.lays "AccountMachineModel" "AccountMachineModel" "written" "I" ∈ gw_w := gw_mem (i := 550) (by decide +kernel) (by decide)
theorem kn_0 : Cond.fieldLinkNest "AccountMachine$Frame" 82 "AccountMachine$Ledger" "words" "[I" "AccountMachine" ∈ gw_nest := gw_memN (i := 38) (by decide +kernel) (by decide)
theorem kn_1 : Cond.fieldLinkNest "AccountMachine$Frame" 44 "AccountMachine$Order" "count" "I" "AccountMachine" ∈ gw_nest := gw_memN (i := 103) (by decide +kernel) (by decide)
theorem kn_2 : Cond.fieldLinkNest "AccountMachine$Frame" 50 "AccountMachine$Order" "accounts" "[I" "AccountMachine" ∈ gw_nest := gw_memN (i := 106) (by decide +kernel) (by decide)
theorem kn_3 : Cond.fieldLinkNest "AccountMachine$Frame" 71 "AccountMachine$Ledger" "owners" "[I" "AccountMachine" ∈ gw_nest := gw_memN (i := 32) (by decide +kernel) (by decide)
theorem kn_4 : Cond.fieldLinkNest "AccountMachine$Frame" 76 "AccountMachine$Ledger" "balances" "[I" "AccountMachine" ∈ gw_nest := gw_memN (i := 29) (by decide +kernel) (by decide)
theorem kn_5 : Cond.fieldLinkNest "AccountMachine$Frame" 79 "AccountMachine$Ledger" "sizes" "[I" "AccountMachine" ∈ gw_nest := gw_memN (i := 35) (by decide +kernel) (by decide)
theorem kn_6 : Cond.methodLinkNest "AccountMachine$Frame" 60 yy_od_marksOf "AccountMachine" ∈ gw_nest := gw_memN (i := 316) (by decide +kernel) (by decide)
theorem kn_7 : Cond.methodLinkNest "AccountMachine$Frame" 53 yy_od_mainSlotOf "AccountMachine" ∈ gw_nest := gw_memN (i := 309) (by decide +kernel) (by decide)
theorem kn_8 : Cond.fieldLinkNest "AccountMachine$Frame" 47 "AccountMachine$Order" "argument" "I" "AccountMachine" ∈ gw_nest := gw_memN (i := 100) (by decide +kernel) (by decide)
theorem kn_9 : Cond.fieldLinkNest "AccountMachine$Frame" 85 "AccountMachine$Program" "targets" "[I" "AccountMachine" ∈ gw_nest := gw_memN (i := 63) (by decide +kernel) (by decide)
theorem kn_10 : Cond.fieldLinkNest "AccountMachine$Frame" 90 "AccountMachine$Program" "sources" "[I" "AccountMachine" ∈ gw_nest := gw_memN (i := 65) (by decide +kernel) (by decide)
theorem kn_11 : Cond.fieldLinkNest "AccountMachine$Frame" 93 "AccountMachine$Program" "numbers" "[I" "AccountMachine" ∈ gw_nest := gw_memN (i := 69) (by decide +kernel) (by decide)
theorem kn_12 : Cond.fieldLinkNest "AccountMachine$Frame" 96 "AccountMachine$Program" "kinds" "[I" "AccountMachine" ∈ gw_nest := gw_memN (i := 60) (by decide +kernel) (by decide)
theorem kn_13 : Cond.fieldLinkNest "AccountMachine$Frame" 99 "AccountMachine$Program" "offsets" "[I" "AccountMachine" ∈ gw_nest := gw_memN (i := 67) (by decide +kernel) (by decide)
theorem kn_14 : Cond.fieldLinkNest "AccountMachine$Frame" 125 "AccountMachine$Order" "program" "I" "AccountMachine" ∈ gw_nest := gw_memN (i := 97) (by decide +kernel) (by decide)
theorem kn_15 : Cond.fieldLinkNest "AccountMachine$Program" 46 "AccountMachine" "SERVICE_UNITS" "[I" "AccountMachine" ∈ gw_nest := gw_memN (i := 226) (by decide +kernel) (by decide)
theorem kn_16 : Cond.fieldLinkNest "AccountMachine" 65 "AccountMachine$Program" "count" "I" "AccountMachine" ∈ gw_nest := gw_memN (i := 72) (by decide +kernel) (by decide)
theorem kn_17 : Cond.methodLinkNest "AccountMachine" 68 yy_pr_append "AccountMachine" ∈ gw_nest := gw_memN (i := 191) (by decide +kernel) (by decide)
theorem kn_18 : Cond.methodLinkNest "AccountMachine" 72 yy_pr_clear "AccountMachine" ∈ gw_nest := gw_memN (i := 199) (by decide +kernel) (by decide)
theorem kn_19 : Cond.methodLinkNest "AccountMachine" 76 yy_pr_check "AccountMachine" ∈ gw_nest := gw_memN (i := 207) (by decide +kernel) (by decide)
theorem kn_20 : Cond.methodLinkNest "AccountMachine" 79 yy_od_reset "AccountMachine" ∈ gw_nest := gw_memN (i := 232) (by decide +kernel) (by decide)
theorem kn_21 : Cond.methodLinkNest "AccountMachine" 86 yy_od_addSlot "AccountMachine" ∈ gw_nest := gw_memN (i := 243) (by decide +kernel) (by decide)
theorem kn_22 : Cond.fieldLinkNest "AccountMachine" 115 "AccountMachine$Program" "sound" "Z" "AccountMachine" ∈ gw_nest := gw_memN (i := 74) (by decide +kernel) (by decide)
theorem kn_23 : Cond.fieldLinkNest "AccountMachine" 119 "AccountMachine$Order" "count" "I" "AccountMachine" ∈ gw_nest := gw_memN (i := 104) (by decide +kernel) (by decide)
theorem kn_24 : Cond.fieldLinkNest "AccountMachine" 120 "AccountMachine$Order" "accounts" "[I" "AccountMachine" ∈ gw_nest := gw_memN (i := 107) (by decide +kernel) (by decide)
theorem kn_25 : Cond.methodLinkNest "AccountMachine" 238 yy_od_marksOf "AccountMachine" ∈ gw_nest := gw_memN (i := 278) (by decide +kernel) (by decide)
theorem kn_26 : Cond.methodLinkNest "AccountMachine" 259 yy_le_isBlank "AccountMachine" ∈ gw_nest := gw_memN (i := 282) (by decide +kernel) (by decide)
theorem kn_27 : Cond.fieldLinkNest "AccountMachine" 102 "AccountMachine$Ledger" "balances" "[I" "AccountMachine" ∈ gw_nest := gw_memN (i := 30) (by decide +kernel) (by decide)
theorem kn_28 : Cond.fieldLinkNest "AccountMachine" 106 "AccountMachine$Ledger" "owners" "[I" "AccountMachine" ∈ gw_nest := gw_memN (i := 33) (by decide +kernel) (by decide)
theorem kn_29 : Cond.fieldLinkNest "AccountMachine" 109 "AccountMachine$Ledger" "sizes" "[I" "AccountMachine" ∈ gw_nest := gw_memN (i := 36) (by decide +kernel) (by decide)
theorem kn_30 : Cond.fieldLinkNest "AccountMachine" 246 "AccountMachine$Order" "argument" "I" "AccountMachine" ∈ gw_nest := gw_memN (i := 101) (by decide +kernel) (by decide)
theorem kn_31 : Cond.fieldLinkNest "AccountMachine" 135 "AccountMachine$Frame" "order" "LAccountMachine$Order;" "AccountMachine" ∈ gw_nest := gw_memN (i := 129) (by decide +kernel) (by decide)
theorem kn_32 : Cond.fieldLinkNest "AccountMachine" 126 "AccountMachine$Order" "program" "I" "AccountMachine" ∈ gw_nest := gw_memN (i := 98) (by decide +kernel) (by decide)
theorem kn_33 : Cond.fieldLinkNest "AccountMachine" 185 "AccountMachine$Frame" "registers" "[J" "AccountMachine" ∈ gw_nest := gw_memN (i := 131) (by decide +kernel) (by decide)
theorem kn_34 : Cond.methodLinkNest "AccountMachine" 142 yy_fr_begin "AccountMachine" ∈ gw_nest := gw_memN (i := 301) (by decide +kernel) (by decide)
theorem kn_35 : Cond.methodLinkNest "AccountMachine" 192 yy_fr_resume "AccountMachine" ∈ gw_nest := gw_memN (i := 418) (by decide +kernel) (by decide)
theorem kn_36 : Cond.methodLinkNest "AccountMachine" 188 yy_fr_handBack "AccountMachine" ∈ gw_nest := gw_memN (i := 392) (by decide +kernel) (by decide)
theorem kn_37 : Cond.methodLinkNest "AccountMachine" 162 yy_fr_jump "AccountMachine" ∈ gw_nest := gw_memN (i := 344) (by decide +kernel) (by decide)
theorem kn_38 : Cond.methodLinkNest "AccountMachine" 158 yy_fr_reachMemory "AccountMachine" ∈ gw_nest := gw_memN (i := 329) (by decide +kernel) (by decide)
theorem kn_39 : Cond.fieldLinkNest "AccountMachine" 152 "AccountMachine$Frame" "place" "I" "AccountMachine" ∈ gw_nest := gw_memN (i := 136) (by decide +kernel) (by decide)
theorem kn_40 : Cond.fieldLinkNest "AccountMachine" 155 "AccountMachine$Program" "kinds" "[I" "AccountMachine" ∈ gw_nest := gw_memN (i := 61) (by decide +kernel) (by decide)
theorem kn_41 : Cond.methodLinkNest "AccountMachine" 166 yy_fr_call "AccountMachine" ∈ gw_nest := gw_memN (i := 348) (by decide +kernel) (by decide)
theorem kn_42 : Cond.fieldLinkNest "AccountMachine" 169 "AccountMachine$Program" "numbers" "[I" "AccountMachine" ∈ gw_nest := gw_memN (i := 70) (by decide +kernel) (by decide)
theorem kn_43 : Cond.methodLinkNest "AccountMachine" 176 yy_fr_goBack "AccountMachine" ∈ gw_nest := gw_memN (i := 422) (by decide +kernel) (by decide)
theorem kn_44 : Cond.methodLinkNest "AccountMachine" 182 yy_fr_reckon "AccountMachine" ∈ gw_nest := gw_memN (i := 430) (by decide +kernel) (by decide)
theorem kn_45 : Cond.methodLinkNest "AccountMachine" 139 yy_od_copyFrom "AccountMachine" ∈ gw_nest := gw_memN (i := 295) (by decide +kernel) (by decide)
theorem kn_46 : Cond.fieldLinkNest "AccountMachine" 123 "AccountMachine$Order" "marks" "[I" "AccountMachine" ∈ gw_nest := gw_memN (i := 109) (by decide +kernel) (by decide)
theorem kn_47 : Cond.methodLinkNest "AccountMachine" 90 yy_le_copyFrom "AccountMachine" ∈ gw_nest := gw_memN (i := 251) (by decide +kernel) (by decide)
theorem kn_48 : Cond.fieldLinkNest "AccountMachine" 112 "AccountMachine$Ledger" "words" "[I" "AccountMachine" ∈ gw_nest := gw_memN (i := 39) (by decide +kernel) (by decide)
theorem la_am : ∀ w ∈ u_ws na_am fi_am 11, w ∈ gw_w := by
  intro w hw
  have h : w ∈ ([Cond.laysFinal "AccountMachine" "AccountMachine" "programs" "[LAccountMachine$Program;", Cond.laysFinal "AccountMachine" "AccountMachine" "ledger" "LAccountMachine$Ledger;", Cond.laysFinal "AccountMachine" "AccountMachine" "before" "LAccountMachine$Ledger;", Cond.laysFinal "AccountMachine" "AccountMachine" "orders" "[LAccountMachine$Order;", Cond.lays "AccountMachine" "AccountMachine" "orderCount" "I", Cond.laysFinal "AccountMachine" "AccountMachine" "frames" "[LAccountMachine$Frame;", Cond.lays "AccountMachine" "AccountMachine" "depth" "I", Cond.lays "AccountMachine" "AccountMachine" "meter" "I", Cond.laysFinal "AccountMachine" "AccountMachine" "logWords" "[J", Cond.lays "AccountMachine" "AccountMachine" "logCount" "I", Cond.lays "AccountMachine" "AccountMachine" "given" "J"] : List Cond) := hw
  simp only [List.mem_cons, List.not_mem_nil, or_false] at h
  rcases h with rfl | rfl | rfl | rfl | rfl | rfl | rfl | rfl | rfl | rfl | rfl
  · exact kw_405
  · exact kw_406
  · exact kw_407
  · exact kw_408
  · exact kw_409
  · exact kw_410
  · exact kw_411
  · exact kw_412
  · exact kw_413
  · exact kw_414
  · exact kw_415
theorem la_le : ∀ w ∈ u_ws na_le fi_le 4, w ∈ gw_w := by
  intro w hw
  have h : w ∈ ([Cond.laysFinal "AccountMachine$Ledger" "AccountMachine$Ledger" "balances" "[I", Cond.laysFinal "AccountMachine$Ledger" "AccountMachine$Ledger" "owners" "[I", Cond.laysFinal "AccountMachine$Ledger" "AccountMachine$Ledger" "sizes" "[I", Cond.laysFinal "AccountMachine$Ledger" "AccountMachine$Ledger" "words" "[I"] : List Cond) := hw
  simp only [List.mem_cons, List.not_mem_nil, or_false] at h
  rcases h with rfl | rfl | rfl | rfl
  · exact kw_416
  · exact kw_417
  · exact kw_418
  · exact kw_419
theorem la_od : ∀ w ∈ u_ws na_od fi_od 5, w ∈ gw_w := by
  intro w hw
  have h : w ∈ ([Cond.lays "AccountMachine$Order" "AccountMachine$Order" "program" "I", Cond.lays "AccountMachine$Order" "AccountMachine$Order" "argument" "I", Cond.lays "AccountMachine$Order" "AccountMachine$Order" "count" "I", Cond.laysFinal "AccountMachine$Order" "AccountMachine$Order" "accounts" "[I", Cond.laysFinal "AccountMachine$Order" "AccountMachine$Order" "marks" "[I"] : List Cond) := hw
  simp only [List.mem_cons, List.not_mem_nil, or_false] at h
  rcases h with rfl | rfl | rfl | rfl | rfl
  · exact kw_420
  · exact kw_421
  · exact kw_422
  · exact kw_423
  · exact kw_424
theorem la_pr : ∀ w ∈ u_ws na_pr fi_pr 7, w ∈ gw_w := by
  intro w hw
  have h : w ∈ ([Cond.laysFinal "AccountMachine$Program" "AccountMachine$Program" "kinds" "[I", Cond.laysFinal "AccountMachine$Program" "AccountMachine$Program" "targets" "[I", Cond.laysFinal "AccountMachine$Program" "AccountMachine$Program" "sources" "[I", Cond.laysFinal "AccountMachine$Program" "AccountMachine$Program" "offsets" "[I", Cond.laysFinal "AccountMachine$Program" "AccountMachine$Program" "numbers" "[I", Cond.lays "AccountMachine$Program" "AccountMachine$Program" "count" "I", Cond.lays "AccountMachine$Program" "AccountMachine$Program" "sound" "Z"] : List Cond) := hw
  simp only [List.mem_cons, List.not_mem_nil, or_false] at h
  rcases h with rfl | rfl | rfl | rfl | rfl | rfl | rfl
  · exact kw_425
  · exact kw_426
  · exact kw_427
  · exact kw_428
  · exact kw_429
  · exact kw_430
  · exact kw_431
theorem la_fr : ∀ w ∈ u_ws na_fr fi_fr 6, w ∈ gw_w := by
  intro w hw
  have h : w ∈ ([Cond.laysFinal "AccountMachine$Frame" "AccountMachine$Frame" "order" "LAccountMachine$Order;", Cond.laysFinal "AccountMachine$Frame" "AccountMachine$Frame" "registers" "[J", Cond.laysFinal "AccountMachine$Frame" "AccountMachine$Frame" "memory" "[J", Cond.laysFinal "AccountMachine$Frame" "AccountMachine$Frame" "remembered" "[I", Cond.lays "AccountMachine$Frame" "AccountMachine$Frame" "rememberedCount" "I", Cond.lays "AccountMachine$Frame" "AccountMachine$Frame" "place" "I"] : List Cond) := hw
  simp only [List.mem_cons, List.not_mem_nil, or_false] at h
  rcases h with rfl | rfl | rfl | rfl | rfl | rfl
  · exact kw_432
  · exact kw_433
  · exact kw_434
  · exact kw_435
  · exact kw_436
  · exact kw_437
theorem la_mo : ∀ w ∈ u_ws na_mo fi_mo 28, w ∈ gw_w := by
  intro w hw
  have h : w ∈ ([Cond.laysFinal "AccountMachineModel" "AccountMachineModel" "balances" "[I", Cond.laysFinal "AccountMachineModel" "AccountMachineModel" "owners" "[I", Cond.laysFinal "AccountMachineModel" "AccountMachineModel" "sizes" "[I", Cond.laysFinal "AccountMachineModel" "AccountMachineModel" "words" "[I", Cond.laysFinal "AccountMachineModel" "AccountMachineModel" "length" "[I", Cond.laysFinal "AccountMachineModel" "AccountMachineModel" "loaded" "[Z", Cond.laysFinal "AccountMachineModel" "AccountMachineModel" "kinds" "[I", Cond.laysFinal "AccountMachineModel" "AccountMachineModel" "lefts" "[I", Cond.laysFinal "AccountMachineModel" "AccountMachineModel" "rights" "[I", Cond.laysFinal "AccountMachineModel" "AccountMachineModel" "offsets" "[I", Cond.laysFinal "AccountMachineModel" "AccountMachineModel" "numbers" "[I", Cond.lays "AccountMachineModel" "AccountMachineModel" "orders" "I", Cond.laysFinal "AccountMachineModel" "AccountMachineModel" "program" "[I", Cond.laysFinal "AccountMachineModel" "AccountMachineModel" "argument" "[I", Cond.laysFinal "AccountMachineModel" "AccountMachineModel" "slots" "[I", Cond.laysFinal "AccountMachineModel" "AccountMachineModel" "slotAccount" "[I", Cond.laysFinal "AccountMachineModel" "AccountMachineModel" "slotMarks" "[I", Cond.lays "AccountMachineModel" "AccountMachineModel" "depth" "I", Cond.laysFinal "AccountMachineModel" "AccountMachineModel" "place" "[I", Cond.laysFinal "AccountMachineModel" "AccountMachineModel" "registers" "[J", Cond.laysFinal "AccountMachineModel" "AccountMachineModel" "remembered" "[I", Cond.laysFinal "AccountMachineModel" "AccountMachineModel" "calls" "[I", Cond.laysFinal "AccountMachineModel" "AccountMachineModel" "stack" "[J", Cond.laysFinal "AccountMachineModel" "AccountMachineModel" "seen" "[J", Cond.lays "AccountMachineModel" "AccountMachineModel" "meter" "I", Cond.lays "AccountMachineModel" "AccountMachineModel" "given" "J", Cond.laysFinal "AccountMachineModel" "AccountMachineModel" "log" "[J", Cond.lays "AccountMachineModel" "AccountMachineModel" "written" "I"] : List Cond) := hw
  simp only [List.mem_cons, List.not_mem_nil, or_false] at h
  rcases h with rfl | rfl | rfl | rfl | rfl | rfl | rfl | rfl | rfl | rfl | rfl | rfl | rfl | rfl | rfl | rfl | rfl | rfl | rfl | rfl | rfl | rfl | rfl | rfl | rfl | rfl | rfl | rfl
  · exact kw_438
  · exact kw_439
  · exact kw_440
  · exact kw_441
  · exact kw_442
  · exact kw_443
  · exact kw_444
  · exact kw_445
  · exact kw_446
  · exact kw_447
  · exact kw_448
  · exact kw_449
  · exact kw_450
  · exact kw_451
  · exact kw_452
  · exact kw_453
  · exact kw_454
  · exact kw_455
  · exact kw_456
  · exact kw_457
  · exact kw_458
  · exact kw_459
  · exact kw_460
  · exact kw_461
  · exact kw_462
  · exact kw_463
  · exact kw_464
  · exact kw_465
end
section

/-- a memory: ints and longs by cell and place -/
abbrev gw_M : Type := (Nat → Nat → Int32) × (Nat → Nat → Int64)
def gw_sI (M : gw_M) (k j : Nat) (x : Int32) : gw_M := (fun a => if a = k then upd (M.1 k) j x else M.1 a, M.2)
def gw_sL (M : gw_M) (k j : Nat) (x : Int64) : gw_M := (M.1, fun a => if a = k then vp_updL (M.2 k) j x else M.2 a)
def gw_cp (M : gw_M) (k0 k1 sp dp n : Nat) : gw_M := (fun a => if a = k1 then va_cpy (M.1 k0) (M.1 k1) sp dp n else M.1 a, M.2)
/-- the pieces that the methods' functions are made of -/
def gw_lt {α β : Type} (x : α) (f : α → Option β) : Option β := f x
def gw_gu {β : Type} (g : Bool) (a : Option β) : Option β := match g with
  | true => a
  | false => none
def gw_bd {ρ β : Type} (o : Option (ρ × gw_M)) (f : ρ → gw_M → Option β) : Option β := match o with
  | none => none
  | some z => f z.1 z.2
def gw_in (i : Int32) (n : Nat) : Bool := decide (¬ (i < 0 ∨ n ≤ i.toNatClampNeg))
def gw_zi (x : Int32) : Bool := decide (¬ x = 0)
def gw_zj (x : Int64) : Bool := decide (¬ x = 0)
def gw_bz (x : Int32) : Bool := decide (x = 0 ∨ x = 1)
theorem gw_ly {α β : Type} {x y : α} {f : α → Option β} {z : β} (h : y = x) (hF : gw_lt x f = some z) : f y = some z := by
  subst h
  exact hF
theorem gw_gd {β : Type} {g : Bool} {a : Option β} {z : β} (hF : gw_gu g a = some z) : g = true ∧ a = some z := by
  cases g with
  | true => exact ⟨rfl, hF⟩
  | false => cases hF
theorem gw_be {ρ β : Type} {o : Option (ρ × gw_M)} {f : ρ → gw_M → Option β} {z : β} (hF : gw_bd o f = some z) : ∃ (r : ρ) (M : gw_M), o = some (r, M) ∧ f r M = some z := by
  cases o with
  | none => cases hF
  | some w => exact ⟨w.1, w.2, rfl, hF⟩
theorem gw_et {β : Type} {c : Prop} [Decidable c] {a b : Option β} {z : β} (h : c) (hF : (if c then a else b) = some z) : a = some z := by
  rw [if_pos h] at hF
  exact hF
theorem gw_ef {β : Type} {c : Prop} [Decidable c] {a b : Option β} {z : β} (h : ¬ c) (hF : (if c then a else b) = some z) : b = some z := by
  rw [if_neg h] at hF
  exact hF
theorem gw_vp {i : Int32} {n : Nat} (h : gw_in i n = true) : vp_in i n := (of_decide_eq_true h : ¬ (i < 0 ∨ n ≤ i.toNatClampNeg))
theorem gw_vj {i : Int32} {n j : Nat} (h : vp_in i n) (hj : i.toNatClampNeg = j) : j < n := by
  subst hj
  exact Nat.not_le.mp fun q => h (Or.inr q)
theorem gw_nz {x : Int32} (h : gw_zi x = true) : ¬ x = 0 := of_decide_eq_true h
theorem gw_nzj {x : Int64} (h : gw_zj x = true) : ¬ x = 0 := of_decide_eq_true h
theorem gw_bn {x : Int32} (h : gw_bz x = true) : narrow .boolean (.int x) = .int x := by
  rcases (of_decide_eq_true h : x = 0 ∨ x = 1) with rfl | rfl <;> decide
theorem gw_ne {x c : Int32} {n : Int} (hc : c.toInt = n) (h : ¬ x = c) : x.toInt ≠ n := fun q => h (Int32.toInt_inj.mp (q.trans hc.symm))
/-- SERVICE_UNITS -/
def gw_un : Nat → Int32
  | 0 => 1
  | 1 => 5
  | 2 => 1
  | _ => 3
/-- the cells of the system, in the order in which they are made: kind and length (0 ints, 1 longs, 2 .. 6 AccountMachine, Ledger, Order, Program, Frame, 7 .. 9 arrays of Programs, Orders, Frames) -/
def gc_k (k : Nat) : Nat × Nat :=
  if k < 15 then [(2, 0), (7, 4), (3, 0), (0, 8), (0, 8), (0, 8), (0, 32), (3, 0), (0, 8), (0, 8), (0, 8), (0, 32), (8, 3), (9, 4), (1, 30)].getD k (99, 0)
  else if k < 39 then [(5, 0), (0, 32), (0, 32), (0, 32), (0, 32), (0, 32)].getD ((k - 15) % 6) (99, 0)
  else if k < 48 then [(4, 0), (0, 4), (0, 4)].getD ((k - 39) % 3) (99, 0)
  else if k < 76 then [(6, 0), (4, 0), (0, 4), (0, 4), (1, 10), (1, 56), (0, 4)].getD ((k - 48) % 7) (99, 0)
  else (99, 0)
/-- the cells of the reference: 10 booleans, 11 the object -/
def gr_k (k : Nat) : Nat × Nat := [(11, 0), (0, 16), (0, 16), (0, 16), (0, 64), (0, 3), (10, 3), (0, 96), (0, 96), (0, 96), (0, 96), (0, 96), (0, 9), (0, 9), (0, 9), (0, 36), (0, 36), (0, 5), (1, 50), (0, 20), (0, 5), (1, 80), (1, 200), (1, 30)].getD k (99, 0)
theorem gc_lt {k a b : Nat} (h : gc_k k = (a, b)) (ha : a < 99) : k < 76 := by
  rcases Nat.lt_or_ge k 76 with h1 | h1
  · exact h1
  · unfold gc_k at h
    rw [if_neg (by omega), if_neg (by omega), if_neg (by omega), if_neg (by omega)] at h
    cases h
    omega
theorem gr_lt {k a b : Nat} (h : gr_k k = (a, b)) (ha : a < 99) : k < 24 := by
  rcases Nat.lt_or_ge k 24 with h1 | h1
  · exact h1
  · unfold gr_k at h
    rw [List.getD_eq_getElem?_getD, List.getElem?_eq_none (by simpa using h1)] at h
    cases h
    omega
theorem gq_am_programs {o : Nat} (h : gc_k o = (2, 0)) : gc_k (o + 1) = (7, 4) := (by decide +kernel : ∀ o, o < 76 → gc_k o = (2, 0) → gc_k (o + 1) = (7, 4)) o (gc_lt h (by decide)) h
theorem gq_am_ledger {o : Nat} (h : gc_k o = (2, 0)) : gc_k (o + 2) = (3, 0) := (by decide +kernel : ∀ o, o < 76 → gc_k o = (2, 0) → gc_k (o + 2) = (3, 0)) o (gc_lt h (by decide)) h
theorem gq_am_before {o : Nat} (h : gc_k o = (2, 0)) : gc_k (o + 7) = (3, 0) := (by decide +kernel : ∀ o, o < 76 → gc_k o = (2, 0) → gc_k (o + 7) = (3, 0)) o (gc_lt h (by decide)) h
theorem gq_am_orders {o : Nat} (h : gc_k o = (2, 0)) : gc_k (o + 12) = (8, 3) := (by decide +kernel : ∀ o, o < 76 → gc_k o = (2, 0) → gc_k (o + 12) = (8, 3)) o (gc_lt h (by decide)) h
theorem gq_am_frames {o : Nat} (h : gc_k o = (2, 0)) : gc_k (o + 13) = (9, 4) := (by decide +kernel : ∀ o, o < 76 → gc_k o = (2, 0) → gc_k (o + 13) = (9, 4)) o (gc_lt h (by decide)) h
theorem gq_am_logWords {o : Nat} (h : gc_k o = (2, 0)) : gc_k (o + 14) = (1, 30) := (by decide +kernel : ∀ o, o < 76 → gc_k o = (2, 0) → gc_k (o + 14) = (1, 30)) o (gc_lt h (by decide)) h
theorem gq_le_balances {o : Nat} (h : gc_k o = (3, 0)) : gc_k (o + 1) = (0, 8) := (by decide +kernel : ∀ o, o < 76 → gc_k o = (3, 0) → gc_k (o + 1) = (0, 8)) o (gc_lt h (by decide)) h
theorem gq_le_owners {o : Nat} (h : gc_k o = (3, 0)) : gc_k (o + 2) = (0, 8) := (by decide +kernel : ∀ o, o < 76 → gc_k o = (3, 0) → gc_k (o + 2) = (0, 8)) o (gc_lt h (by decide)) h
theorem gq_le_sizes {o : Nat} (h : gc_k o = (3, 0)) : gc_k (o + 3) = (0, 8) := (by decide +kernel : ∀ o, o < 76 → gc_k o = (3, 0) → gc_k (o + 3) = (0, 8)) o (gc_lt h (by decide)) h
theorem gq_le_words {o : Nat} (h : gc_k o = (3, 0)) : gc_k (o + 4) = (0, 32) := (by decide +kernel : ∀ o, o < 76 → gc_k o = (3, 0) → gc_k (o + 4) = (0, 32)) o (gc_lt h (by decide)) h
theorem gq_od_accounts {o : Nat} (h : gc_k o = (4, 0)) : gc_k (o + 1) = (0, 4) := (by decide +kernel : ∀ o, o < 76 → gc_k o = (4, 0) → gc_k (o + 1) = (0, 4)) o (gc_lt h (by decide)) h
theorem gq_od_marks {o : Nat} (h : gc_k o = (4, 0)) : gc_k (o + 2) = (0, 4) := (by decide +kernel : ∀ o, o < 76 → gc_k o = (4, 0) → gc_k (o + 2) = (0, 4)) o (gc_lt h (by decide)) h
theorem gq_pr_kinds {o : Nat} (h : gc_k o = (5, 0)) : gc_k (o + 1) = (0, 32) := (by decide +kernel : ∀ o, o < 76 → gc_k o = (5, 0) → gc_k (o + 1) = (0, 32)) o (gc_lt h (by decide)) h
theorem gq_pr_targets {o : Nat} (h : gc_k o = (5, 0)) : gc_k (o + 2) = (0, 32) := (by decide +kernel : ∀ o, o < 76 → gc_k o = (5, 0) → gc_k (o + 2) = (0, 32)) o (gc_lt h (by decide)) h
theorem gq_pr_sources {o : Nat} (h : gc_k o = (5, 0)) : gc_k (o + 3) = (0, 32) := (by decide +kernel : ∀ o, o < 76 → gc_k o = (5, 0) → gc_k (o + 3) = (0, 32)) o (gc_lt h (by decide)) h
theorem gq_pr_offsets {o : Nat} (h : gc_k o = (5, 0)) : gc_k (o + 4) = (0, 32) := (by decide +kernel : ∀ o, o < 76 → gc_k o = (5, 0) → gc_k (o + 4) = (0, 32)) o (gc_lt h (by decide)) h
theorem gq_pr_numbers {o : Nat} (h : gc_k o = (5, 0)) : gc_k (o + 5) = (0, 32) := (by decide +kernel : ∀ o, o < 76 → gc_k o = (5, 0) → gc_k (o + 5) = (0, 32)) o (gc_lt h (by decide)) h
theorem gq_fr_order {o : Nat} (h : gc_k o = (6, 0)) : gc_k (o + 1) = (4, 0) := (by decide +kernel : ∀ o, o < 76 → gc_k o = (6, 0) → gc_k (o + 1) = (4, 0)) o (gc_lt h (by decide)) h
theorem gq_fr_registers {o : Nat} (h : gc_k o = (6, 0)) : gc_k (o + 4) = (1, 10) := (by decide +kernel : ∀ o, o < 76 → gc_k o = (6, 0) → gc_k (o + 4) = (1, 10)) o (gc_lt h (by decide)) h
theorem gq_fr_memory {o : Nat} (h : gc_k o = (6, 0)) : gc_k (o + 5) = (1, 56) := (by decide +kernel : ∀ o, o < 76 → gc_k o = (6, 0) → gc_k (o + 5) = (1, 56)) o (gc_lt h (by decide)) h
theorem gq_fr_remembered {o : Nat} (h : gc_k o = (6, 0)) : gc_k (o + 6) = (0, 4) := (by decide +kernel : ∀ o, o < 76 → gc_k o = (6, 0) → gc_k (o + 6) = (0, 4)) o (gc_lt h (by decide)) h
theorem gq_mo_balances {o : Nat} (h : gr_k o = (11, 0)) : gr_k (o + 1) = (0, 16) := (by decide +kernel : ∀ o, o < 24 → gr_k o = (11, 0) → gr_k (o + 1) = (0, 16)) o (gr_lt h (by decide)) h
theorem gq_mo_owners {o : Nat} (h : gr_k o = (11, 0)) : gr_k (o + 2) = (0, 16) := (by decide +kernel : ∀ o, o < 24 → gr_k o = (11, 0) → gr_k (o + 2) = (0, 16)) o (gr_lt h (by decide)) h
theorem gq_mo_sizes {o : Nat} (h : gr_k o = (11, 0)) : gr_k (o + 3) = (0, 16) := (by decide +kernel : ∀ o, o < 24 → gr_k o = (11, 0) → gr_k (o + 3) = (0, 16)) o (gr_lt h (by decide)) h
theorem gq_mo_words {o : Nat} (h : gr_k o = (11, 0)) : gr_k (o + 4) = (0, 64) := (by decide +kernel : ∀ o, o < 24 → gr_k o = (11, 0) → gr_k (o + 4) = (0, 64)) o (gr_lt h (by decide)) h
theorem gq_mo_length {o : Nat} (h : gr_k o = (11, 0)) : gr_k (o + 5) = (0, 3) := (by decide +kernel : ∀ o, o < 24 → gr_k o = (11, 0) → gr_k (o + 5) = (0, 3)) o (gr_lt h (by decide)) h
theorem gq_mo_loaded {o : Nat} (h : gr_k o = (11, 0)) : gr_k (o + 6) = (10, 3) := (by decide +kernel : ∀ o, o < 24 → gr_k o = (11, 0) → gr_k (o + 6) = (10, 3)) o (gr_lt h (by decide)) h
theorem gq_mo_kinds {o : Nat} (h : gr_k o = (11, 0)) : gr_k (o + 7) = (0, 96) := (by decide +kernel : ∀ o, o < 24 → gr_k o = (11, 0) → gr_k (o + 7) = (0, 96)) o (gr_lt h (by decide)) h
theorem gq_mo_lefts {o : Nat} (h : gr_k o = (11, 0)) : gr_k (o + 8) = (0, 96) := (by decide +kernel : ∀ o, o < 24 → gr_k o = (11, 0) → gr_k (o + 8) = (0, 96)) o (gr_lt h (by decide)) h
theorem gq_mo_rights {o : Nat} (h : gr_k o = (11, 0)) : gr_k (o + 9) = (0, 96) := (by decide +kernel : ∀ o, o < 24 → gr_k o = (11, 0) → gr_k (o + 9) = (0, 96)) o (gr_lt h (by decide)) h
theorem gq_mo_offsets {o : Nat} (h : gr_k o = (11, 0)) : gr_k (o + 10) = (0, 96) := (by decide +kernel : ∀ o, o < 24 → gr_k o = (11, 0) → gr_k (o + 10) = (0, 96)) o (gr_lt h (by decide)) h
theorem gq_mo_numbers {o : Nat} (h : gr_k o = (11, 0)) : gr_k (o + 11) = (0, 96) := (by decide +kernel : ∀ o, o < 24 → gr_k o = (11, 0) → gr_k (o + 11) = (0, 96)) o (gr_lt h (by decide)) h
theorem gq_mo_program {o : Nat} (h : gr_k o = (11, 0)) : gr_k (o + 12) = (0, 9) := (by decide +kernel : ∀ o, o < 24 → gr_k o = (11, 0) → gr_k (o + 12) = (0, 9)) o (gr_lt h (by decide)) h
theorem gq_mo_argument {o : Nat} (h : gr_k o = (11, 0)) : gr_k (o + 13) = (0, 9) := (by decide +kernel : ∀ o, o < 24 → gr_k o = (11, 0) → gr_k (o + 13) = (0, 9)) o (gr_lt h (by decide)) h
theorem gq_mo_slots {o : Nat} (h : gr_k o = (11, 0)) : gr_k (o + 14) = (0, 9) := (by decide +kernel : ∀ o, o < 24 → gr_k o = (11, 0) → gr_k (o + 14) = (0, 9)) o (gr_lt h (by decide)) h
theorem gq_mo_slotAccount {o : Nat} (h : gr_k o = (11, 0)) : gr_k (o + 15) = (0, 36) := (by decide +kernel : ∀ o, o < 24 → gr_k o = (11, 0) → gr_k (o + 15) = (0, 36)) o (gr_lt h (by decide)) h
theorem gq_mo_slotMarks {o : Nat} (h : gr_k o = (11, 0)) : gr_k (o + 16) = (0, 36) := (by decide +kernel : ∀ o, o < 24 → gr_k o = (11, 0) → gr_k (o + 16) = (0, 36)) o (gr_lt h (by decide)) h
theorem gq_mo_place {o : Nat} (h : gr_k o = (11, 0)) : gr_k (o + 17) = (0, 5) := (by decide +kernel : ∀ o, o < 24 → gr_k o = (11, 0) → gr_k (o + 17) = (0, 5)) o (gr_lt h (by decide)) h
theorem gq_mo_registers {o : Nat} (h : gr_k o = (11, 0)) : gr_k (o + 18) = (1, 50) := (by decide +kernel : ∀ o, o < 24 → gr_k o = (11, 0) → gr_k (o + 18) = (1, 50)) o (gr_lt h (by decide)) h
theorem gq_mo_remembered {o : Nat} (h : gr_k o = (11, 0)) : gr_k (o + 19) = (0, 20) := (by decide +kernel : ∀ o, o < 24 → gr_k o = (11, 0) → gr_k (o + 19) = (0, 20)) o (gr_lt h (by decide)) h
theorem gq_mo_calls {o : Nat} (h : gr_k o = (11, 0)) : gr_k (o + 20) = (0, 5) := (by decide +kernel : ∀ o, o < 24 → gr_k o = (11, 0) → gr_k (o + 20) = (0, 5)) o (gr_lt h (by decide)) h
theorem gq_mo_stack {o : Nat} (h : gr_k o = (11, 0)) : gr_k (o + 21) = (1, 80) := (by decide +kernel : ∀ o, o < 24 → gr_k o = (11, 0) → gr_k (o + 21) = (1, 80)) o (gr_lt h (by decide)) h
theorem gq_mo_seen {o : Nat} (h : gr_k o = (11, 0)) : gr_k (o + 22) = (1, 200) := (by decide +kernel : ∀ o, o < 24 → gr_k o = (11, 0) → gr_k (o + 22) = (1, 200)) o (gr_lt h (by decide)) h
theorem gq_mo_log {o : Nat} (h : gr_k o = (11, 0)) : gr_k (o + 23) = (1, 30) := (by decide +kernel : ∀ o, o < 24 → gr_k o = (11, 0) → gr_k (o + 23) = (1, 30)) o (gr_lt h (by decide)) h
theorem gq_arr7 {o j : Nat} (h : gc_k o = (7, 4)) (hj : j < 4) : gc_k (o + 14 + 6 * j) = (5, 0) := (by decide +kernel : ∀ o, o < 76 → gc_k o = (7, 4) → ∀ j, j < 4 → gc_k (o + 14 + 6 * j) = (5, 0)) o (gc_lt h (by decide)) h j hj
theorem gq_arr8 {o j : Nat} (h : gc_k o = (8, 3)) (hj : j < 3) : gc_k (o + 27 + 3 * j) = (4, 0) := (by decide +kernel : ∀ o, o < 76 → gc_k o = (8, 3) → ∀ j, j < 3 → gc_k (o + 27 + 3 * j) = (4, 0)) o (gc_lt h (by decide)) h j hj
theorem gq_arr9 {o j : Nat} (h : gc_k o = (9, 4)) (hj : j < 4) : gc_k (o + 35 + 7 * j) = (6, 0) := (by decide +kernel : ∀ o, o < 76 → gc_k o = (9, 4) → ∀ j, j < 4 → gc_k (o + 35 + 7 * j) = (6, 0)) o (gc_lt h (by decide)) h j hj
/-- X: the classes' numbers and slots, the cells' addresses, the array classes (ints, longs, booleans, Programs, Orders, Frames), where SERVICE_UNITS lies -/
abbrev gw_X : Type := va_G × (Nat → Nat) × (Nat → ClassId) × Nat
abbrev gc_a (X : gw_X) (k : Nat) : Nat := X.2.1 k
abbrev gr_a (X : gw_X) (k : Nat) : Nat := X.2.1 (76 + k)
abbrev gw_tys (X : gw_X) : List (ClassId × FieldType) := [(X.2.2.1 0, .int), (X.2.2.1 1, .long), (X.2.2.1 2, .boolean), (X.2.2.1 3, .object "AccountMachine$Program"), (X.2.2.1 4, .object "AccountMachine$Order"), (X.2.2.1 5, .object "AccountMachine$Frame")]
/-- what the system's cell k holds -/
def gc_e (X : gw_X) (M : gw_M) (k : Nat) (q : Nat × Nat) : va_E := match q.1 with
  | 0 => .inl (X.2.2.1 0, q.2, .inl (M.1 k))
  | 1 => .inl (X.2.2.1 1, q.2, .inr (.inl (M.2 k)))
  | 2 => .inr (0, [.ref (gc_a X (k + 1)), .ref (gc_a X (k + 2)), .ref (gc_a X (k + 7)), .ref (gc_a X (k + 12)), .int (M.1 k 4), .ref (gc_a X (k + 13)), .int (M.1 k 6), .int (M.1 k 7), .ref (gc_a X (k + 14)), .int (M.1 k 9), .long (M.2 k 10)])
  | 3 => .inr (1, [.ref (gc_a X (k + 1)), .ref (gc_a X (k + 2)), .ref (gc_a X (k + 3)), .ref (gc_a X (k + 4))])
  | 4 => .inr (2, [.int (M.1 k 0), .int (M.1 k 1), .int (M.1 k 2), .ref (gc_a X (k + 1)), .ref (gc_a X (k + 2))])
  | 5 => .inr (3, [.ref (gc_a X (k + 1)), .ref (gc_a X (k + 2)), .ref (gc_a X (k + 3)), .ref (gc_a X (k + 4)), .ref (gc_a X (k + 5)), .int (M.1 k 5), .int (M.1 k 6)])
  | 6 => .inr (4, [.ref (gc_a X (k + 1)), .ref (gc_a X (k + 4)), .ref (gc_a X (k + 5)), .ref (gc_a X (k + 6)), .int (M.1 k 4), .int (M.1 k 5)])
  | 7 => .inl (X.2.2.1 3, 4, .inr (.inr (.inr (.inr (fun i => if i < 4 then some (gc_a X (k + 14 + 6 * i)) else none)))))
  | 8 => .inl (X.2.2.1 4, 3, .inr (.inr (.inr (.inr (fun i => if i < 3 then some (gc_a X (k + 27 + 3 * i)) else none)))))
  | 9 => .inl (X.2.2.1 5, 4, .inr (.inr (.inr (.inr (fun i => if i < 4 then some (gc_a X (k + 35 + 7 * i)) else none)))))
  | _ => .inr (99, [])
def gr_e (X : gw_X) (M : gw_M) (k : Nat) (q : Nat × Nat) : va_E := match q.1 with
  | 0 => .inl (X.2.2.1 0, q.2, .inl (M.1 k))
  | 1 => .inl (X.2.2.1 1, q.2, .inr (.inl (M.2 k)))
  | 10 => .inl (X.2.2.1 2, q.2, .inl (M.1 k))
  | 11 => .inr (5, [.ref (gr_a X (k + 1)), .ref (gr_a X (k + 2)), .ref (gr_a X (k + 3)), .ref (gr_a X (k + 4)), .ref (gr_a X (k + 5)), .ref (gr_a X (k + 6)), .ref (gr_a X (k + 7)), .ref (gr_a X (k + 8)), .ref (gr_a X (k + 9)), .ref (gr_a X (k + 10)), .ref (gr_a X (k + 11)), .int (M.1 k 11), .ref (gr_a X (k + 12)), .ref (gr_a X (k + 13)), .ref (gr_a X (k + 14)), .ref (gr_a X (k + 15)), .ref (gr_a X (k + 16)), .int (M.1 k 17), .ref (gr_a X (k + 17)), .ref (gr_a X (k + 18)), .ref (gr_a X (k + 19)), .ref (gr_a X (k + 20)), .ref (gr_a X (k + 21)), .ref (gr_a X (k + 22)), .int (M.1 k 24), .long (M.2 k 25), .ref (gr_a X (k + 23)), .int (M.1 k 27)])
  | _ => .inr (99, [])
def gw_E (X : gw_X) (C R : gw_M) (k : Nat) : va_E := if k < 76 then gc_e X C k (gc_k k) else gr_e X R (k - 76) (gr_k (k - 76))
def gw_W (ad : Nat → Nat) (E : Nat → va_E) (n : Nat) : va_W := (List.range n).map (fun k => (ad k, E k))
theorem gw_W_at {ad : Nat → Nat} {E : Nat → va_E} {n k : Nat} (h : k < n) : (gw_W ad E n)[k]? = some (ad k, E k) := by
  simp [gw_W, h]
theorem gw_W_set {ad : Nat → Nat} {E E1 : Nat → va_E} {n k : Nat} {x : va_E} (h : k < n) (hk : E1 k = x) (hn : ∀ i, i ≠ k → E1 i = E i) : (gw_W ad E n).set k (ad k, x) = gw_W ad E1 n := by
  apply List.ext_getElem?
  intro i
  by_cases hi : i = k
  · subst hi
    rw [List.getElem?_set_self (by simpa [gw_W] using h), gw_W_at h, hk]
  · rw [List.getElem?_set_ne (Ne.symm hi)]
    by_cases hl : i < n
    · rw [gw_W_at hl, gw_W_at hl, hn i hi]
    · rw [List.getElem?_eq_none (by simpa [gw_W] using hl), List.getElem?_eq_none (by simpa [gw_W] using hl)]
theorem gc_e_congr {X : gw_X} {M M1 : gw_M} {k : Nat} {q : Nat × Nat} (h1 : M1.1 k = M.1 k) (h2 : M1.2 k = M.2 k) : gc_e X M1 k q = gc_e X M k q := by
  unfold gc_e
  rw [h1, h2]
theorem gr_e_congr {X : gw_X} {M M1 : gw_M} {k : Nat} {q : Nat × Nat} (h1 : M1.1 k = M.1 k) (h2 : M1.2 k = M.2 k) : gr_e X M1 k q = gr_e X M k q := by
  unfold gr_e
  rw [h1, h2]
theorem gw_E_c {X : gw_X} {C R : gw_M} {k : Nat} (h : k < 76) : gw_E X C R k = gc_e X C k (gc_k k) := if_pos h
theorem gw_E_r {X : gw_X} {C R : gw_M} {k : Nat} : gw_E X C R (76 + k) = gr_e X R k (gr_k k) := by
  unfold gw_E
  rw [if_neg (by omega), Nat.add_sub_cancel_left]
/-- a memory that differs at one cell -/
theorem gw_E_setC {X : gw_X} {C C1 R : gw_M} {k : Nat} (h1 : ∀ i, i ≠ k → C1.1 i = C.1 i) (h2 : ∀ i, i ≠ k → C1.2 i = C.2 i) : ∀ i, i ≠ k → gw_E X C1 R i = gw_E X C R i := by
  intro i hi
  unfold gw_E
  rw [gc_e_congr (h1 i hi) (h2 i hi)]
theorem gw_E_setR {X : gw_X} {C R R1 : gw_M} {k : Nat} (h1 : ∀ i, i ≠ k → R1.1 i = R.1 i) (h2 : ∀ i, i ≠ k → R1.2 i = R.2 i) : ∀ i, i ≠ 76 + k → gw_E X C R1 i = gw_E X C R i := by
  intro i hi
  unfold gw_E
  by_cases h : i < 76
  · rw [if_pos h, if_pos h]
  · rw [gr_e_congr (h1 (i - 76) (by omega)) (h2 (i - 76) (by omega))]
theorem gw_sI_1 {M : gw_M} {k j : Nat} {x : Int32} : ∀ i, i ≠ k → (gw_sI M k j x).1 i = M.1 i := fun i h => if_neg h
theorem gw_sI_2 {M : gw_M} {k j : Nat} {x : Int32} : ∀ i, i ≠ k → (gw_sI M k j x).2 i = M.2 i := fun _ _ => rfl
theorem gw_sI_k {M : gw_M} {k j : Nat} {x : Int32} : (gw_sI M k j x).1 k = upd (M.1 k) j x := if_pos rfl
theorem gw_sL_1 {M : gw_M} {k j : Nat} {x : Int64} : ∀ i, i ≠ k → (gw_sL M k j x).1 i = M.1 i := fun _ _ => rfl
theorem gw_sL_2 {M : gw_M} {k j : Nat} {x : Int64} : ∀ i, i ≠ k → (gw_sL M k j x).2 i = M.2 i := fun i h => if_neg h
theorem gw_sL_k {M : gw_M} {k j : Nat} {x : Int64} : (gw_sL M k j x).2 k = vp_updL (M.2 k) j x := if_pos rfl
theorem gw_cp_1 {M : gw_M} {k0 k sp dp n : Nat} : ∀ i, i ≠ k → (gw_cp M k0 k sp dp n).1 i = M.1 i := fun i h => if_neg h
theorem gw_cp_2 {M : gw_M} {k0 k sp dp n : Nat} : ∀ i, i ≠ k → (gw_cp M k0 k sp dp n).2 i = M.2 i := fun _ _ => rfl
theorem gw_cp_k {M : gw_M} {k0 k sp dp n : Nat} : (gw_cp M k0 k sp dp n).1 k = va_cpy (M.1 k0) (M.1 k) sp dp n := if_pos rfl

theorem gc_E0 {X : gw_X} {M Y : gw_M} {k : Nat} {n : Nat} (h : gc_k k = (0, n)) : gw_E X M Y k = .inl (X.2.2.1 0, n, .inl (M.1 k)) := by
  rw [gw_E_c (gc_lt h (by decide)), h]
  rfl
theorem gc_at0 {X : gw_X} {M Y : gw_M} {k : Nat} {n : Nat} (h : gc_k k = (0, n)) : (gw_W X.2.1 (gw_E X M Y) 100)[k]? = some (X.2.1 k, .inl (X.2.2.1 0, n, .inl (M.1 k))) := by
  rw [gw_W_at (Nat.lt_trans (gc_lt h (by decide)) (by decide)), gc_E0 h]
theorem gc_E1 {X : gw_X} {M Y : gw_M} {k : Nat} {n : Nat} (h : gc_k k = (1, n)) : gw_E X M Y k = .inl (X.2.2.1 1, n, .inr (.inl (M.2 k))) := by
  rw [gw_E_c (gc_lt h (by decide)), h]
  rfl
theorem gc_at1 {X : gw_X} {M Y : gw_M} {k : Nat} {n : Nat} (h : gc_k k = (1, n)) : (gw_W X.2.1 (gw_E X M Y) 100)[k]? = some (X.2.1 k, .inl (X.2.2.1 1, n, .inr (.inl (M.2 k)))) := by
  rw [gw_W_at (Nat.lt_trans (gc_lt h (by decide)) (by decide)), gc_E1 h]
theorem gc_E2 {X : gw_X} {M Y : gw_M} {k : Nat} (h : gc_k k = (2, 0)) : gw_E X M Y k = .inr (0, [.ref (gc_a X (k + 1)), .ref (gc_a X (k + 2)), .ref (gc_a X (k + 7)), .ref (gc_a X (k + 12)), .int (M.1 k 4), .ref (gc_a X (k + 13)), .int (M.1 k 6), .int (M.1 k 7), .ref (gc_a X (k + 14)), .int (M.1 k 9), .long (M.2 k 10)]) := by
  rw [gw_E_c (gc_lt h (by decide)), h]
  rfl
theorem gc_at2 {X : gw_X} {M Y : gw_M} {k : Nat} (h : gc_k k = (2, 0)) : (gw_W X.2.1 (gw_E X M Y) 100)[k]? = some (X.2.1 k, .inr (0, [.ref (gc_a X (k + 1)), .ref (gc_a X (k + 2)), .ref (gc_a X (k + 7)), .ref (gc_a X (k + 12)), .int (M.1 k 4), .ref (gc_a X (k + 13)), .int (M.1 k 6), .int (M.1 k 7), .ref (gc_a X (k + 14)), .int (M.1 k 9), .long (M.2 k 10)])) := by
  rw [gw_W_at (Nat.lt_trans (gc_lt h (by decide)) (by decide)), gc_E2 h]
theorem gc_E3 {X : gw_X} {M Y : gw_M} {k : Nat} (h : gc_k k = (3, 0)) : gw_E X M Y k = .inr (1, [.ref (gc_a X (k + 1)), .ref (gc_a X (k + 2)), .ref (gc_a X (k + 3)), .ref (gc_a X (k + 4))]) := by
  rw [gw_E_c (gc_lt h (by decide)), h]
  rfl
theorem gc_at3 {X : gw_X} {M Y : gw_M} {k : Nat} (h : gc_k k = (3, 0)) : (gw_W X.2.1 (gw_E X M Y) 100)[k]? = some (X.2.1 k, .inr (1, [.ref (gc_a X (k + 1)), .ref (gc_a X (k + 2)), .ref (gc_a X (k + 3)), .ref (gc_a X (k + 4))])) := by
  rw [gw_W_at (Nat.lt_trans (gc_lt h (by decide)) (by decide)), gc_E3 h]
theorem gc_E4 {X : gw_X} {M Y : gw_M} {k : Nat} (h : gc_k k = (4, 0)) : gw_E X M Y k = .inr (2, [.int (M.1 k 0), .int (M.1 k 1), .int (M.1 k 2), .ref (gc_a X (k + 1)), .ref (gc_a X (k + 2))]) := by
  rw [gw_E_c (gc_lt h (by decide)), h]
  rfl
theorem gc_at4 {X : gw_X} {M Y : gw_M} {k : Nat} (h : gc_k k = (4, 0)) : (gw_W X.2.1 (gw_E X M Y) 100)[k]? = some (X.2.1 k, .inr (2, [.int (M.1 k 0), .int (M.1 k 1), .int (M.1 k 2), .ref (gc_a X (k + 1)), .ref (gc_a X (k + 2))])) := by
  rw [gw_W_at (Nat.lt_trans (gc_lt h (by decide)) (by decide)), gc_E4 h]
theorem gc_E5 {X : gw_X} {M Y : gw_M} {k : Nat} (h : gc_k k = (5, 0)) : gw_E X M Y k = .inr (3, [.ref (gc_a X (k + 1)), .ref (gc_a X (k + 2)), .ref (gc_a X (k + 3)), .ref (gc_a X (k + 4)), .ref (gc_a X (k + 5)), .int (M.1 k 5), .int (M.1 k 6)]) := by
  rw [gw_E_c (gc_lt h (by decide)), h]
  rfl
theorem gc_at5 {X : gw_X} {M Y : gw_M} {k : Nat} (h : gc_k k = (5, 0)) : (gw_W X.2.1 (gw_E X M Y) 100)[k]? = some (X.2.1 k, .inr (3, [.ref (gc_a X (k + 1)), .ref (gc_a X (k + 2)), .ref (gc_a X (k + 3)), .ref (gc_a X (k + 4)), .ref (gc_a X (k + 5)), .int (M.1 k 5), .int (M.1 k 6)])) := by
  rw [gw_W_at (Nat.lt_trans (gc_lt h (by decide)) (by decide)), gc_E5 h]
theorem gc_E6 {X : gw_X} {M Y : gw_M} {k : Nat} (h : gc_k k = (6, 0)) : gw_E X M Y k = .inr (4, [.ref (gc_a X (k + 1)), .ref (gc_a X (k + 4)), .ref (gc_a X (k + 5)), .ref (gc_a X (k + 6)), .int (M.1 k 4), .int (M.1 k 5)]) := by
  rw [gw_E_c (gc_lt h (by decide)), h]
  rfl
theorem gc_at6 {X : gw_X} {M Y : gw_M} {k : Nat} (h : gc_k k = (6, 0)) : (gw_W X.2.1 (gw_E X M Y) 100)[k]? = some (X.2.1 k, .inr (4, [.ref (gc_a X (k + 1)), .ref (gc_a X (k + 4)), .ref (gc_a X (k + 5)), .ref (gc_a X (k + 6)), .int (M.1 k 4), .int (M.1 k 5)])) := by
  rw [gw_W_at (Nat.lt_trans (gc_lt h (by decide)) (by decide)), gc_E6 h]
theorem gc_E7 {X : gw_X} {M Y : gw_M} {k : Nat} (h : gc_k k = (7, 4)) : gw_E X M Y k = .inl (X.2.2.1 3, 4, .inr (.inr (.inr (.inr (fun i => if i < 4 then some (gc_a X (k + 14 + 6 * i)) else none))))) := by
  rw [gw_E_c (gc_lt h (by decide)), h]
  rfl
theorem gc_at7 {X : gw_X} {M Y : gw_M} {k : Nat} (h : gc_k k = (7, 4)) : (gw_W X.2.1 (gw_E X M Y) 100)[k]? = some (X.2.1 k, .inl (X.2.2.1 3, 4, .inr (.inr (.inr (.inr (fun i => if i < 4 then some (gc_a X (k + 14 + 6 * i)) else none)))))) := by
  rw [gw_W_at (Nat.lt_trans (gc_lt h (by decide)) (by decide)), gc_E7 h]
theorem gc_E8 {X : gw_X} {M Y : gw_M} {k : Nat} (h : gc_k k = (8, 3)) : gw_E X M Y k = .inl (X.2.2.1 4, 3, .inr (.inr (.inr (.inr (fun i => if i < 3 then some (gc_a X (k + 27 + 3 * i)) else none))))) := by
  rw [gw_E_c (gc_lt h (by decide)), h]
  rfl
theorem gc_at8 {X : gw_X} {M Y : gw_M} {k : Nat} (h : gc_k k = (8, 3)) : (gw_W X.2.1 (gw_E X M Y) 100)[k]? = some (X.2.1 k, .inl (X.2.2.1 4, 3, .inr (.inr (.inr (.inr (fun i => if i < 3 then some (gc_a X (k + 27 + 3 * i)) else none)))))) := by
  rw [gw_W_at (Nat.lt_trans (gc_lt h (by decide)) (by decide)), gc_E8 h]
theorem gc_E9 {X : gw_X} {M Y : gw_M} {k : Nat} (h : gc_k k = (9, 4)) : gw_E X M Y k = .inl (X.2.2.1 5, 4, .inr (.inr (.inr (.inr (fun i => if i < 4 then some (gc_a X (k + 35 + 7 * i)) else none))))) := by
  rw [gw_E_c (gc_lt h (by decide)), h]
  rfl
theorem gc_at9 {X : gw_X} {M Y : gw_M} {k : Nat} (h : gc_k k = (9, 4)) : (gw_W X.2.1 (gw_E X M Y) 100)[k]? = some (X.2.1 k, .inl (X.2.2.1 5, 4, .inr (.inr (.inr (.inr (fun i => if i < 4 then some (gc_a X (k + 35 + 7 * i)) else none)))))) := by
  rw [gw_W_at (Nat.lt_trans (gc_lt h (by decide)) (by decide)), gc_E9 h]
theorem gr_E0 {X : gw_X} {M Y : gw_M} {k : Nat} {n : Nat} (h : gr_k k = (0, n)) : gw_E X Y M (76 + k) = .inl (X.2.2.1 0, n, .inl (M.1 k)) := by
  rw [gw_E_r, h]
  rfl
theorem gr_at0 {X : gw_X} {M Y : gw_M} {k : Nat} {n : Nat} (h : gr_k k = (0, n)) : (gw_W X.2.1 (gw_E X Y M) 100)[(76 + k)]? = some (X.2.1 (76 + k), .inl (X.2.2.1 0, n, .inl (M.1 k))) := by
  rw [gw_W_at ((by have := gr_lt h (by decide); omega)), gr_E0 h]
theorem gr_E1 {X : gw_X} {M Y : gw_M} {k : Nat} {n : Nat} (h : gr_k k = (1, n)) : gw_E X Y M (76 + k) = .inl (X.2.2.1 1, n, .inr (.inl (M.2 k))) := by
  rw [gw_E_r, h]
  rfl
theorem gr_at1 {X : gw_X} {M Y : gw_M} {k : Nat} {n : Nat} (h : gr_k k = (1, n)) : (gw_W X.2.1 (gw_E X Y M) 100)[(76 + k)]? = some (X.2.1 (76 + k), .inl (X.2.2.1 1, n, .inr (.inl (M.2 k)))) := by
  rw [gw_W_at ((by have := gr_lt h (by decide); omega)), gr_E1 h]
theorem gr_E10 {X : gw_X} {M Y : gw_M} {k : Nat} {n : Nat} (h : gr_k k = (10, n)) : gw_E X Y M (76 + k) = .inl (X.2.2.1 2, n, .inl (M.1 k)) := by
  rw [gw_E_r, h]
  rfl
theorem gr_at10 {X : gw_X} {M Y : gw_M} {k : Nat} {n : Nat} (h : gr_k k = (10, n)) : (gw_W X.2.1 (gw_E X Y M) 100)[(76 + k)]? = some (X.2.1 (76 + k), .inl (X.2.2.1 2, n, .inl (M.1 k))) := by
  rw [gw_W_at ((by have := gr_lt h (by decide); omega)), gr_E10 h]
theorem gr_E11 {X : gw_X} {M Y : gw_M} {k : Nat} (h : gr_k k = (11, 0)) : gw_E X Y M (76 + k) = .inr (5, [.ref (gr_a X (k + 1)), .ref (gr_a X (k + 2)), .ref (gr_a X (k + 3)), .ref (gr_a X (k + 4)), .ref (gr_a X (k + 5)), .ref (gr_a X (k + 6)), .ref (gr_a X (k + 7)), .ref (gr_a X (k + 8)), .ref (gr_a X (k + 9)), .ref (gr_a X (k + 10)), .ref (gr_a X (k + 11)), .int (M.1 k 11), .ref (gr_a X (k + 12)), .ref (gr_a X (k + 13)), .ref (gr_a X (k + 14)), .ref (gr_a X (k + 15)), .ref (gr_a X (k + 16)), .int (M.1 k 17), .ref (gr_a X (k + 17)), .ref (gr_a X (k + 18)), .ref (gr_a X (k + 19)), .ref (gr_a X (k + 20)), .ref (gr_a X (k + 21)), .ref (gr_a X (k + 22)), .int (M.1 k 24), .long (M.2 k 25), .ref (gr_a X (k + 23)), .int (M.1 k 27)]) := by
  rw [gw_E_r, h]
  rfl
theorem gr_at11 {X : gw_X} {M Y : gw_M} {k : Nat} (h : gr_k k = (11, 0)) : (gw_W X.2.1 (gw_E X Y M) 100)[(76 + k)]? = some (X.2.1 (76 + k), .inr (5, [.ref (gr_a X (k + 1)), .ref (gr_a X (k + 2)), .ref (gr_a X (k + 3)), .ref (gr_a X (k + 4)), .ref (gr_a X (k + 5)), .ref (gr_a X (k + 6)), .ref (gr_a X (k + 7)), .ref (gr_a X (k + 8)), .ref (gr_a X (k + 9)), .ref (gr_a X (k + 10)), .ref (gr_a X (k + 11)), .int (M.1 k 11), .ref (gr_a X (k + 12)), .ref (gr_a X (k + 13)), .ref (gr_a X (k + 14)), .ref (gr_a X (k + 15)), .ref (gr_a X (k + 16)), .int (M.1 k 17), .ref (gr_a X (k + 17)), .ref (gr_a X (k + 18)), .ref (gr_a X (k + 19)), .ref (gr_a X (k + 20)), .ref (gr_a X (k + 21)), .ref (gr_a X (k + 22)), .int (M.1 k 24), .long (M.2 k 25), .ref (gr_a X (k + 23)), .int (M.1 k 27)])) := by
  rw [gw_W_at ((by have := gr_lt h (by decide); omega)), gr_E11 h]
def gw_A (X : gw_X) : Nat → Prop := fun q => ∃ k, k < 100 ∧ q = X.2.1 k
/-- what holds of the tables through a method -/
def gw_K (X : gw_X) (s : State) : Prop := va_K X.1 gw_cl (gw_tys X) s ∧ (∀ w ∈ gw_nest, va_Nw w s) ∧ va_Z "AccountMachine" "SERVICE_UNITS" "[I" (.ref X.2.2.2) (gw_A X) s s.heap ∧ va_T .int X.2.2.2 4 (fun j => .int (gw_un j)) (gw_A X) s s.heap
/-- what holds of the heap: the cells, apart, and nothing else has changed since the method began -/
def gw_G (X : gw_X) (E : Nat → va_E) (s : State) (H : Heap) (locs : List Loc) : Prop := va_P X.1 gw_cl (gw_W X.2.1 E 100) H ∧ va_D (gw_A X) (gw_W X.2.1 E 100) ∧ va_S (gw_A X) s.heap H locs
def gw_B (X : gw_X) (E : Nat → va_E) (U : State) : Prop := gw_K X U ∧ va_P X.1 gw_cl (gw_W X.2.1 E 100) U.heap ∧ va_D (gw_A X) (gw_W X.2.1 E 100)
def gw_R (X : gw_X) (E : Nat → va_E) (t : State) : Prop := va_P X.1 gw_cl (gw_W X.2.1 E 100) t.heap ∧ va_D (gw_A X) (gw_W X.2.1 E 100)
abbrev gw_Qi (X : gw_X) (EF : gw_M → Nat → va_E) (z : Int32 × gw_M) : Array Value → State → Outcome → State → Prop := va_Qi (fun (r : Int32) (M : gw_M) => some (r, M) = some z) (fun M t => gw_R X (EF M) t) (gw_A X)
abbrev gw_Ql (X : gw_X) (EF : gw_M → Nat → va_E) (z : Int64 × gw_M) : Array Value → State → Outcome → State → Prop := va_Ql (fun (r : Int64) (M : gw_M) => some (r, M) = some z) (fun M t => gw_R X (EF M) t) (gw_A X)
abbrev gw_Qv (X : gw_X) (EF : gw_M → Nat → va_E) (z : Unit × gw_M) : Array Value → State → Outcome → State → Prop := va_Qv (fun (M : gw_M) => some ((), M) = some z) (fun M t => gw_R X (EF M) t) (gw_A X)
def gw_C (ws : List Cond) (bytes : ByteArray) (nL : Nat) (ret : Option FieldType) (own : String) (X : gw_X) (p : Program) (s : State) (m : MethodId) (args : Array Value) (meth : Method) (c : Code) : Prop :=
  p.tables.exec = Jvm.exec ∧ c.code = bytes ∧ c.maxLocals = nL ∧ s.vm.findClass own = some m.cls ∧ (∀ w ∈ ws, w.before args s = true) ∧ meth.sig.returnType = ret ∧ meth.locks = false ∧ gw_K X s
theorem gw_start {X : gw_X} {E : Nat → va_E} {s : State} (h : gw_B X E s) : gw_G X E s s.heap [] := ⟨h.2.1, h.2.2, va_S.rf⟩
theorem gw_ctx {p : Program} {l : Launch} {y : MethodName} {ws : List Cond} {rm : Room} {cc : ByteArray} {n : Nat} {ret : Option FieldType} {e : Env} {s : State} {m : MethodId} {args : Array Value} {below : List Frame} {meth : Method} {c : Code} {s₁ : State} {own : String} {X : gw_X} {E : Nat → va_E} (B : BodyLoose p l y (headSpec ws rm) cc n ret e s m args below meth c s₁) (hml : c.maxLocals = n) (ho : y.cls = own) (hB : gw_B X E s) : gw_C ws cc n ret own X p s m args meth c :=
  ⟨B.exec, B.bytes, hml, by rw [← ho]; exact findClass_of_methodNamed B.named, atoms_spec (ws := ws) B.pre, B.returns, B.notSynchronized, hB.1⟩
theorem gw_Nw_warm {w : Cond} {s U : State} (hw : w ∈ gw_nest) (hW : s.WarmedH U.vm) (h : va_Nw w s) : va_Nw w U := by
  have hk : gw_isNest w = true := (List.all_eq_true.mp gw_nest_ok) w hw
  cases w <;> first | exact va_Nw.warmF hW h | exact va_Nw.warmM hW h | cases hk
theorem gw_Nw_on {w : Cond} (hw : w ∈ gw_nest) : w.onTables = true := by
  have hk : gw_isNest w = true := (List.all_eq_true.mp gw_nest_ok) w hw
  cases w <;> first | rfl | cases hk
theorem gw_nw {X : gw_X} {s : State} {args : Array Value} {w : Cond} (hK : gw_K X s) (hw : w ∈ gw_nest) : w.before args s = true := va_Nw.use (gw_Nw_on hw) (hK.2.1 w hw)
theorem gw_blind {X : gw_X} {E : Nat → va_E} {av : List Value} : FrameBlind (va_Pc av (gw_B X E)) := fun a U g mk q =>
  ⟨q.1, ⟨va_K.moved (u := U) (U := U.calling g mk a) (Vm.Alike.refl U.vm) q.2.1.1, fun w hw => va_Nw.same (u := U) (U := U.calling g mk a) (gw_Nw_on hw) rfl (q.2.1.2.1 w hw), va_Z.moved (u := U) (U := U.calling g mk a) (Vm.Alike.refl U.vm) q.2.1.2.2.1, va_T.moved (u := U) (U := U.calling g mk a) (Vm.Alike.refl U.vm) q.2.1.2.2.2⟩, q.2.2⟩
theorem gw_pre {X : gw_X} {E : Nat → va_E} {s : State} {H : Heap} {locs : List Loc} {av : List Value} (hK : gw_K X s) (G : gw_G X E s H locs) : ∀ U : State, U.heap = H → s.WarmedH U.vm → va_Pc av (gw_B X E) av.toArray U := by
  intro U hU hW
  refine ⟨rfl, ⟨va_K.moved hW.alike hK.1, fun w hw => gw_Nw_warm hw hW (hK.2.1 w hw), ?_, ?_⟩, by rw [hU]; exact G.1, G.2.1⟩
  · rw [hU]
    exact va_Z.moved hW.alike (hK.2.2.1.kept (fun a h1 h2 => G.2.2.2.1 a h1 h2))
  · rw [hU]
    exact va_T.moved hW.alike (hK.2.2.2.kept (fun a h1 h2 => G.2.2.2.1 a h1 h2))
theorem gw_endi {X : gw_X} {EF : gw_M → Nat → va_E} {z : Int32 × gw_M} {r : Int32} {M : gw_M} {s t : State} {H : Heap} {locs : List Loc} {a : Array Value} (G : gw_G X (EF M) s H locs) (ht : t.heap = H) (hF : some (r, M) = some z) : gw_Qi X EF z a s (.returned (some (.int r))) t := ⟨⟨r, M, rfl, hF, by rw [ht]; exact G.1, G.2.1⟩, G.2.2.F ht⟩
theorem gw_endl {X : gw_X} {EF : gw_M → Nat → va_E} {z : Int64 × gw_M} {r : Int64} {M : gw_M} {s t : State} {H : Heap} {locs : List Loc} {a : Array Value} (G : gw_G X (EF M) s H locs) (ht : t.heap = H) (hF : some (r, M) = some z) : gw_Ql X EF z a s (.returned (some (.long r))) t := ⟨⟨r, M, rfl, hF, by rw [ht]; exact G.1, G.2.1⟩, G.2.2.F ht⟩
theorem gw_endv {X : gw_X} {EF : gw_M → Nat → va_E} {z : Unit × gw_M} {M : gw_M} {s t : State} {H : Heap} {locs : List Loc} {a : Array Value} (G : gw_G X (EF M) s H locs) (ht : t.heap = H) (hF : some ((), M) = some z) : gw_Qv X EF z a s (.returned none) t := ⟨⟨M, rfl, hF, by rw [ht]; exact G.1, G.2.1⟩, G.2.2.F ht⟩
end
section
section GWROWS
variable {p : Program} {l : Launch} {e : Env} {R : Room} {s : State} {m : MethodId} {args : Array Value} {below : List Frame} {meth : Method} {c : Code} {H : Heap} {locs : List Loc} {cells slots : Nat} {Q : State → Prop} {cc : ByteArray} {pc : Nat} {ls : Array Slot} {rest : List Value} {X : gw_X} {M Y : gw_M}
theorem gw_ci {EF : gw_M → Nat → va_E} {E : Nat → va_E} {r : Int32} {M1 : gw_M} {a : Array Value} {st0 : List Value} (G : gw_G X E s H locs) (hr : va_Run p l e R s m args below meth c H locs cells slots 0 0 (F0 m pc ls st0) rest (gw_Qi X EF (r, M1) a) (gw_A X)) (kk : ∀ (H1 : Heap) (locs1 : List Loc), gw_G X (EF M1) s H1 locs1 → W p l e R s m args below meth c H1 locs1 cells slots Q (F0 m (pc + 3) ls (.int r :: rest))) : W p l e R s m args below meth c H locs cells slots Q (F0 m pc ls st0) :=
  va_calli hr G.2.2 (fun _ _ h => h) (fun _ h => h) (fun r' u t H1 locs1 ht _ hp hB _ _ hS => by
    cases hp
    exact kk H1 locs1 ⟨by rw [← ht]; exact hB.1, hB.2, hS⟩)
theorem gw_cl_ {EF : gw_M → Nat → va_E} {E : Nat → va_E} {r : Int64} {M1 : gw_M} {a : Array Value} {st0 : List Value} (G : gw_G X E s H locs) (hr : va_Run p l e R s m args below meth c H locs cells slots 0 0 (F0 m pc ls st0) rest (gw_Ql X EF (r, M1) a) (gw_A X)) (kk : ∀ (H1 : Heap) (locs1 : List Loc), gw_G X (EF M1) s H1 locs1 → W p l e R s m args below meth c H1 locs1 cells slots Q (F0 m (pc + 3) ls (.long r :: rest))) : W p l e R s m args below meth c H locs cells slots Q (F0 m pc ls st0) :=
  va_calll hr G.2.2 (fun _ _ h => h) (fun _ h => h) (fun r' u t H1 locs1 ht _ hp hB _ _ hS => by
    cases hp
    exact kk H1 locs1 ⟨by rw [← ht]; exact hB.1, hB.2, hS⟩)
theorem gw_cv {EF : gw_M → Nat → va_E} {E : Nat → va_E} {r : Unit} {M1 : gw_M} {a : Array Value} {st0 : List Value} (G : gw_G X E s H locs) (hr : va_Run p l e R s m args below meth c H locs cells slots 0 0 (F0 m pc ls st0) rest (gw_Qv X EF (r, M1) a) (gw_A X)) (kk : ∀ (H1 : Heap) (locs1 : List Loc), gw_G X (EF M1) s H1 locs1 → W p l e R s m args below meth c H1 locs1 cells slots Q (F0 m (pc + 3) ls rest)) : W p l e R s m args below meth c H locs cells slots Q (F0 m pc ls st0) :=
  va_callv hr G.2.2 (fun _ _ h => h) (fun _ h => h) (fun u t H1 locs1 ht _ hp hB _ _ hS => by
    cases hp
    exact kk H1 locs1 ⟨by rw [← ht]; exact hB.1, hB.2, hS⟩)
theorem gw_topa {q : Nat × Nat} {a : Nat} (h : gc_k a = q) (kk : ∀ x : Nat, x = a → gc_k x = q → W p l e R s m args below meth c H locs cells slots Q (F0 m pc ls (.ref (gc_a X x) :: rest))) : W p l e R s m args below meth c H locs cells slots Q (F0 m pc ls (.ref (gc_a X a) :: rest)) := kk a rfl h
theorem gw_gets (hx : p.tables.exec = Jvm.exec) (hb : c.code = cc) {own : String} {index : Nat} {E : Nat → va_E} (hown : s.vm.findClass own = some m.cls) (hlink : (Cond.fieldLink own index "AccountMachine" "SERVICE_UNITS" "[I").before args s = true) (hK : gw_K X s) (G : gw_G X E s H locs) (hdg : decode cc pc = .ok (.getstatic index, 3)) (kk : W p l e R s m args below meth c H locs cells slots Q (F0 m (pc + 3) ls (.ref X.2.2.2 :: rest))) : W p l e R s m args below meth c H locs cells slots Q (F0 m pc ls rest) :=
  va_gets hx hb hK.2.2.1 G.2.2 hown hlink (fun _ h => h) hdg kk
theorem gw_getsN (hx : p.tables.exec = Jvm.exec) (hb : c.code = cc) {own host : String} {index : Nat} {E : Nat → va_E} (hown : s.vm.findClass own = some m.cls) (hlink : (Cond.fieldLinkNest own index "AccountMachine" "SERVICE_UNITS" "[I" host).before args s = true) (hK : gw_K X s) (G : gw_G X E s H locs) (hdg : decode cc pc = .ok (.getstatic index, 3)) (kk : W p l e R s m args below meth c H locs cells slots Q (F0 m (pc + 3) ls (.ref X.2.2.2 :: rest))) : W p l e R s m args below meth c H locs cells slots Q (F0 m pc ls rest) :=
  va_getsN hx hb hK.2.2.1 G.2.2 hown hlink (fun _ h => h) hdg kk
theorem gw_ti (hx : p.tables.exec = Jvm.exec) (hb : c.code = cc) {E : Nat → va_E} (hK : gw_K X s) (G : gw_G X E s H locs) {i : Int32} (hin : vp_in i 4) {j : Nat} (hj : i.toNatClampNeg = j) (hdg : decode cc pc = .ok (.iaload, 1)) (kk : W p l e R s m args below meth c H locs cells slots Q (F0 m (pc + 1) ls (.int (gw_un j) :: rest))) : W p l e R s m args below meth c H locs cells slots Q (F0 m pc ls (.int i :: .ref X.2.2.2 :: rest)) := by
  subst hj
  exact va_ti hx hb hK.2.2.2 G.2.2 hin rfl hdg kk
theorem gw_tlen (hx : p.tables.exec = Jvm.exec) (hb : c.code = cc) {E : Nat → va_E} (hK : gw_K X s) (G : gw_G X E s H locs) (hdg : decode cc pc = .ok (.arraylength, 1)) (kk : W p l e R s m args below meth c H locs cells slots Q (F0 m (pc + 1) ls (.int (4 : Int32) :: rest))) : W p l e R s m args below meth c H locs cells slots Q (F0 m pc ls (.ref X.2.2.2 :: rest)) := va_tlen hx hb hK.2.2.2 G.2.2 (by decide) hdg kk
theorem gc_iald (hx : p.tables.exec = Jvm.exec) (hb : c.code = cc) (hK : gw_K X s) (G : gw_G X (gw_E X M Y) s H locs) {k n : Nat} (hk : gc_k k = (0, n)) {i : Int32} (hin : vp_in i n) {j : Nat} (hj : i.toNatClampNeg = j) (hdg : decode cc pc = .ok (.iaload, 1)) (kk : W p l e R s m args below meth c H locs cells slots Q (F0 m (pc + 1) ls (.int (M.1 k j) :: rest))) : W p l e R s m args below meth c H locs cells slots Q (F0 m pc ls (.int i :: .ref (gc_a X k) :: rest)) := by
  subst hj
  exact va_iald hx hb hK.1 G.1 k 0 (gc_at0 hk) rfl hin hdg kk
theorem gc_lald (hx : p.tables.exec = Jvm.exec) (hb : c.code = cc) (hK : gw_K X s) (G : gw_G X (gw_E X M Y) s H locs) {k n : Nat} (hk : gc_k k = (1, n)) {i : Int32} (hin : vp_in i n) {j : Nat} (hj : i.toNatClampNeg = j) (hdg : decode cc pc = .ok (.laload, 1)) (kk : W p l e R s m args below meth c H locs cells slots Q (F0 m (pc + 1) ls (.long (M.2 k j) :: rest))) : W p l e R s m args below meth c H locs cells slots Q (F0 m pc ls (.int i :: .ref (gc_a X k) :: rest)) := by
  subst hj
  exact va_lald hx hb hK.1 G.1 k 1 (gc_at1 hk) rfl hin hdg kk
theorem gc_iast (hx : p.tables.exec = Jvm.exec) (hb : c.code = cc) (hK : gw_K X s) (G : gw_G X (gw_E X M Y) s H locs) {k n : Nat} (hk : gc_k k = (0, n)) {i : Int32} {x : Int32} (hin : vp_in i n) {j : Nat} (hj : i.toNatClampNeg = j) (hdg : decode cc pc = .ok (.iastore, 1)) (kk : ∀ (M1 : gw_M) (H1 : Heap) (locs1 : List Loc), M1 = gw_sI M k j x → gw_G X (gw_E X M1 Y) s H1 locs1 → W p l e R s m args below meth c H1 locs1 cells slots Q (F0 m (pc + 1) ls rest)) : W p l e R s m args below meth c H locs cells slots Q (F0 m pc ls (.int x :: .int i :: .ref (gc_a X k) :: rest)) := by
  subst hj
  have hset := gw_W_set (ad := X.2.1) (n := 100) (E := gw_E X M Y) (E1 := gw_E X (gw_sI M k i.toNatClampNeg x) Y) (Nat.lt_trans (gc_lt hk (by decide)) (by decide)) (gc_E0 hk) (gw_E_setC gw_sI_1 gw_sI_2)
  rw [gw_sI_k] at hset
  exact va_iast hx hb hK.1 G.1 G.2.1 G.2.2 k 0 (gc_at0 hk) rfl hin hdg (fun H1 locs1 hP hD hS => kk _ H1 locs1 rfl ⟨by rw [← hset]; exact hP, by rw [← hset]; exact hD, hS⟩)
theorem gc_last (hx : p.tables.exec = Jvm.exec) (hb : c.code = cc) (hK : gw_K X s) (G : gw_G X (gw_E X M Y) s H locs) {k n : Nat} (hk : gc_k k = (1, n)) {i : Int32} {x : Int64} (hin : vp_in i n) {j : Nat} (hj : i.toNatClampNeg = j) (hdg : decode cc pc = .ok (.lastore, 1)) (kk : ∀ (M1 : gw_M) (H1 : Heap) (locs1 : List Loc), M1 = gw_sL M k j x → gw_G X (gw_E X M1 Y) s H1 locs1 → W p l e R s m args below meth c H1 locs1 cells slots Q (F0 m (pc + 1) ls rest)) : W p l e R s m args below meth c H locs cells slots Q (F0 m pc ls (.long x :: .int i :: .ref (gc_a X k) :: rest)) := by
  subst hj
  have hset := gw_W_set (ad := X.2.1) (n := 100) (E := gw_E X M Y) (E1 := gw_E X (gw_sL M k i.toNatClampNeg x) Y) (Nat.lt_trans (gc_lt hk (by decide)) (by decide)) (gc_E1 hk) (gw_E_setC gw_sL_1 gw_sL_2)
  rw [gw_sL_k] at hset
  exact va_last hx hb hK.1 G.1 G.2.1 G.2.2 k 1 (gc_at1 hk) rfl hin hdg (fun H1 locs1 hP hD hS => kk _ H1 locs1 rfl ⟨by rw [← hset]; exact hP, by rw [← hset]; exact hD, hS⟩)
theorem gc_alen0 (hx : p.tables.exec = Jvm.exec) (hb : c.code = cc) (hK : gw_K X s) (G : gw_G X (gw_E X M Y) s H locs) {k n : Nat} (hk : gc_k k = (0, n)) (hdg : decode cc pc = .ok (.arraylength, 1)) (kk : W p l e R s m args below meth c H locs cells slots Q (F0 m (pc + 1) ls (.int (Int32.ofNat n) :: rest))) : W p l e R s m args below meth c H locs cells slots Q (F0 m pc ls (.ref (gc_a X k) :: rest)) := va_alen hx hb hK.1 G.1 k 0 (gc_at0 hk) rfl rfl hdg kk
theorem gc_alen1 (hx : p.tables.exec = Jvm.exec) (hb : c.code = cc) (hK : gw_K X s) (G : gw_G X (gw_E X M Y) s H locs) {k n : Nat} (hk : gc_k k = (1, n)) (hdg : decode cc pc = .ok (.arraylength, 1)) (kk : W p l e R s m args below meth c H locs cells slots Q (F0 m (pc + 1) ls (.int (Int32.ofNat n) :: rest))) : W p l e R s m args below meth c H locs cells slots Q (F0 m pc ls (.ref (gc_a X k) :: rest)) := va_alen hx hb hK.1 G.1 k 1 (gc_at1 hk) rfl rfl hdg kk
theorem gr_iald (hx : p.tables.exec = Jvm.exec) (hb : c.code = cc) (hK : gw_K X s) (G : gw_G X (gw_E X Y M) s H locs) {k n : Nat} (hk : gr_k k = (0, n)) {i : Int32} (hin : vp_in i n) {j : Nat} (hj : i.toNatClampNeg = j) (hdg : decode cc pc = .ok (.iaload, 1)) (kk : W p l e R s m args below meth c H locs cells slots Q (F0 m (pc + 1) ls (.int (M.1 k j) :: rest))) : W p l e R s m args below meth c H locs cells slots Q (F0 m pc ls (.int i :: .ref (gr_a X k) :: rest)) := by
  subst hj
  exact va_iald hx hb hK.1 G.1 (76 + k) 0 (gr_at0 hk) rfl hin hdg kk
theorem gr_lald (hx : p.tables.exec = Jvm.exec) (hb : c.code = cc) (hK : gw_K X s) (G : gw_G X (gw_E X Y M) s H locs) {k n : Nat} (hk : gr_k k = (1, n)) {i : Int32} (hin : vp_in i n) {j : Nat} (hj : i.toNatClampNeg = j) (hdg : decode cc pc = .ok (.laload, 1)) (kk : W p l e R s m args below meth c H locs cells slots Q (F0 m (pc + 1) ls (.long (M.2 k j) :: rest))) : W p l e R s m args below meth c H locs cells slots Q (F0 m pc ls (.int i :: .ref (gr_a X k) :: rest)) := by
  subst hj
  exact va_lald hx hb hK.1 G.1 (76 + k) 1 (gr_at1 hk) rfl hin hdg kk
theorem gr_zald (hx : p.tables.exec = Jvm.exec) (hb : c.code = cc) (hK : gw_K X s) (G : gw_G X (gw_E X Y M) s H locs) {k n : Nat} (hk : gr_k k = (10, n)) {i : Int32} (hin : vp_in i n) {j : Nat} (hj : i.toNatClampNeg = j) (hdg : decode cc pc = .ok (.baload, 1)) (kk : W p l e R s m args below meth c H locs cells slots Q (F0 m (pc + 1) ls (.int (M.1 k j) :: rest))) : W p l e R s m args below meth c H locs cells slots Q (F0 m pc ls (.int i :: .ref (gr_a X k) :: rest)) := by
  subst hj
  exact va_zald hx hb hK.1 G.1 (76 + k) 2 (gr_at10 hk) rfl hin hdg kk
theorem gr_iast (hx : p.tables.exec = Jvm.exec) (hb : c.code = cc) (hK : gw_K X s) (G : gw_G X (gw_E X Y M) s H locs) {k n : Nat} (hk : gr_k k = (0, n)) {i : Int32} {x : Int32} (hin : vp_in i n) {j : Nat} (hj : i.toNatClampNeg = j) (hdg : decode cc pc = .ok (.iastore, 1)) (kk : ∀ (M1 : gw_M) (H1 : Heap) (locs1 : List Loc), M1 = gw_sI M k j x → gw_G X (gw_E X Y M1) s H1 locs1 → W p l e R s m args below meth c H1 locs1 cells slots Q (F0 m (pc + 1) ls rest)) : W p l e R s m args below meth c H locs cells slots Q (F0 m pc ls (.int x :: .int i :: .ref (gr_a X k) :: rest)) := by
  subst hj
  have hset := gw_W_set (ad := X.2.1) (n := 100) (E := gw_E X Y M) (E1 := gw_E X Y (gw_sI M k i.toNatClampNeg x)) ((by have := gr_lt hk (by decide); omega)) (gr_E0 hk) (gw_E_setR gw_sI_1 gw_sI_2)
  rw [gw_sI_k] at hset
  exact va_iast hx hb hK.1 G.1 G.2.1 G.2.2 (76 + k) 0 (gr_at0 hk) rfl hin hdg (fun H1 locs1 hP hD hS => kk _ H1 locs1 rfl ⟨by rw [← hset]; exact hP, by rw [← hset]; exact hD, hS⟩)
theorem gr_last (hx : p.tables.exec = Jvm.exec) (hb : c.code = cc) (hK : gw_K X s) (G : gw_G X (gw_E X Y M) s H locs) {k n : Nat} (hk : gr_k k = (1, n)) {i : Int32} {x : Int64} (hin : vp_in i n) {j : Nat} (hj : i.toNatClampNeg = j) (hdg : decode cc pc = .ok (.lastore, 1)) (kk : ∀ (M1 : gw_M) (H1 : Heap) (locs1 : List Loc), M1 = gw_sL M k j x → gw_G X (gw_E X Y M1) s H1 locs1 → W p l e R s m args below meth c H1 locs1 cells slots Q (F0 m (pc + 1) ls rest)) : W p l e R s m args below meth c H locs cells slots Q (F0 m pc ls (.long x :: .int i :: .ref (gr_a X k) :: rest)) := by
  subst hj
  have hset := gw_W_set (ad := X.2.1) (n := 100) (E := gw_E X Y M) (E1 := gw_E X Y (gw_sL M k i.toNatClampNeg x)) ((by have := gr_lt hk (by decide); omega)) (gr_E1 hk) (gw_E_setR gw_sL_1 gw_sL_2)
  rw [gw_sL_k] at hset
  exact va_last hx hb hK.1 G.1 G.2.1 G.2.2 (76 + k) 1 (gr_at1 hk) rfl hin hdg (fun H1 locs1 hP hD hS => kk _ H1 locs1 rfl ⟨by rw [← hset]; exact hP, by rw [← hset]; exact hD, hS⟩)
theorem gr_zast (hx : p.tables.exec = Jvm.exec) (hb : c.code = cc) (hK : gw_K X s) (G : gw_G X (gw_E X Y M) s H locs) {k n : Nat} (hk : gr_k k = (10, n)) {i : Int32} {x : Int32} (hin : vp_in i n) {j : Nat} (hj : i.toNatClampNeg = j) (hdg : decode cc pc = .ok (.bastore, 1)) (kk : ∀ (M1 : gw_M) (H1 : Heap) (locs1 : List Loc), M1 = gw_sI M k j (vp_nar .boolean x) → gw_G X (gw_E X Y M1) s H1 locs1 → W p l e R s m args below meth c H1 locs1 cells slots Q (F0 m (pc + 1) ls rest)) : W p l e R s m args below meth c H locs cells slots Q (F0 m pc ls (.int x :: .int i :: .ref (gr_a X k) :: rest)) := by
  subst hj
  have hset := gw_W_set (ad := X.2.1) (n := 100) (E := gw_E X Y M) (E1 := gw_E X Y (gw_sI M k i.toNatClampNeg (vp_nar .boolean x))) ((by have := gr_lt hk (by decide); omega)) (gr_E10 hk) (gw_E_setR gw_sI_1 gw_sI_2)
  rw [gw_sI_k] at hset
  exact va_zast hx hb hK.1 G.1 G.2.1 G.2.2 (76 + k) 2 (gr_at10 hk) rfl hin hdg (fun H1 locs1 hP hD hS => kk _ H1 locs1 rfl ⟨by rw [← hset]; exact hP, by rw [← hset]; exact hD, hS⟩)
theorem gr_alen0 (hx : p.tables.exec = Jvm.exec) (hb : c.code = cc) (hK : gw_K X s) (G : gw_G X (gw_E X Y M) s H locs) {k n : Nat} (hk : gr_k k = (0, n)) (hdg : decode cc pc = .ok (.arraylength, 1)) (kk : W p l e R s m args below meth c H locs cells slots Q (F0 m (pc + 1) ls (.int (Int32.ofNat n) :: rest))) : W p l e R s m args below meth c H locs cells slots Q (F0 m pc ls (.ref (gr_a X k) :: rest)) := va_alen hx hb hK.1 G.1 (76 + k) 0 (gr_at0 hk) rfl rfl hdg kk
theorem gr_alen1 (hx : p.tables.exec = Jvm.exec) (hb : c.code = cc) (hK : gw_K X s) (G : gw_G X (gw_E X Y M) s H locs) {k n : Nat} (hk : gr_k k = (1, n)) (hdg : decode cc pc = .ok (.arraylength, 1)) (kk : W p l e R s m args below meth c H locs cells slots Q (F0 m (pc + 1) ls (.int (Int32.ofNat n) :: rest))) : W p l e R s m args below meth c H locs cells slots Q (F0 m pc ls (.ref (gr_a X k) :: rest)) := va_alen hx hb hK.1 G.1 (76 + k) 1 (gr_at1 hk) rfl rfl hdg kk
theorem gc_aald7 (hx : p.tables.exec = Jvm.exec) (hb : c.code = cc) (hK : gw_K X s) (G : gw_G X (gw_E X M Y) s H locs) {k : Nat} (hk : gc_k k = (7, 4)) {i : Int32} (hin : vp_in i 4) {j : Nat} (hj : i.toNatClampNeg = j) (hdg : decode cc pc = .ok (.aaload, 1)) (kk : W p l e R s m args below meth c H locs cells slots Q (F0 m (pc + 1) ls (.ref (gc_a X (k + 14 + 6 * j)) :: rest))) : W p l e R s m args below meth c H locs cells slots Q (F0 m pc ls (.int i :: .ref (gc_a X k) :: rest)) := by
  have hlt := gw_vj hin hj
  subst hj
  refine va_aldq hx hb hK.1 G.1 k 3 (gc_at7 hk) rfl hin hdg ?_
  rw [if_pos hlt]
  exact kk
theorem gc_aald8 (hx : p.tables.exec = Jvm.exec) (hb : c.code = cc) (hK : gw_K X s) (G : gw_G X (gw_E X M Y) s H locs) {k : Nat} (hk : gc_k k = (8, 3)) {i : Int32} (hin : vp_in i 3) {j : Nat} (hj : i.toNatClampNeg = j) (hdg : decode cc pc = .ok (.aaload, 1)) (kk : W p l e R s m args below meth c H locs cells slots Q (F0 m (pc + 1) ls (.ref (gc_a X (k + 27 + 3 * j)) :: rest))) : W p l e R s m args below meth c H locs cells slots Q (F0 m pc ls (.int i :: .ref (gc_a X k) :: rest)) := by
  have hlt := gw_vj hin hj
  subst hj
  refine va_aldq hx hb hK.1 G.1 k 4 (gc_at8 hk) rfl hin hdg ?_
  rw [if_pos hlt]
  exact kk
theorem gc_aald9 (hx : p.tables.exec = Jvm.exec) (hb : c.code = cc) (hK : gw_K X s) (G : gw_G X (gw_E X M Y) s H locs) {k : Nat} (hk : gc_k k = (9, 4)) {i : Int32} (hin : vp_in i 4) {j : Nat} (hj : i.toNatClampNeg = j) (hdg : decode cc pc = .ok (.aaload, 1)) (kk : W p l e R s m args below meth c H locs cells slots Q (F0 m (pc + 1) ls (.ref (gc_a X (k + 35 + 7 * j)) :: rest))) : W p l e R s m args below meth c H locs cells slots Q (F0 m pc ls (.int i :: .ref (gc_a X k) :: rest)) := by
  have hlt := gw_vj hin hj
  subst hj
  refine va_aldq hx hb hK.1 G.1 k 5 (gc_at9 hk) rfl hin hdg ?_
  rw [if_pos hlt]
  exact kk
theorem gc_copy (hx : p.tables.exec = Jvm.exec) (hb : c.code = cc) (hml : c.maxLocals = ls.size) {own : String} {index : Nat} (hown : s.vm.findClass own = some m.cls) (hlink : (Cond.methodLink own index arraycopyName).before args s = true) (hnat : (Cond.native arraycopyName).before args s = true) (hstat : (Cond.static arraycopyName).before args s = true) (hini : (Cond.initialized "java/lang/System").before args s = true) (hK : gw_K X s) (G : gw_G X (gw_E X M Y) s H locs) {k0 k1 n0 n1 : Nat} (hk0 : gc_k k0 = (0, n0)) (hk1 : gc_k k1 = (0, n1)) {sp dp n : Int32} (h1 : ¬ sp < 0) (h2 : ¬ dp < 0) (h3 : ¬ n < 0) (h4 : sp.toNatClampNeg + n.toNatClampNeg ≤ n0) (h5 : dp.toNatClampNeg + n.toNatClampNeg ≤ n1)
    (hframes : 1 ≤ R.frames) (hlocals : (rest.map fun v => v.category).sum + (nativeFrameWords "java/lang/System" "arraycopy" 5 + 11) ≤ R.locals) (hdg : decode cc pc = .ok (.invokestatic index, 3)) (kk : ∀ (M1 : gw_M) (H1 : Heap) (locs1 : List Loc), M1 = gw_cp M k0 k1 sp.toNatClampNeg dp.toNatClampNeg n.toNatClampNeg → gw_G X (gw_E X M1 Y) s H1 locs1 → W p l e R s m args below meth c H1 locs1 cells slots Q (F0 m (pc + 3) ls rest)) : W p l e R s m args below meth c H locs cells slots Q (F0 m pc ls (.int n :: .int dp :: .ref (gc_a X k1) :: .int sp :: .ref (gc_a X k0) :: rest)) := by
  have hset := gw_W_set (ad := X.2.1) (n := 100) (E := gw_E X M Y) (E1 := gw_E X (gw_cp M k0 k1 sp.toNatClampNeg dp.toNatClampNeg n.toNatClampNeg) Y) (Nat.lt_trans (gc_lt hk1 (by decide)) (by decide)) (gc_E0 hk1) (gw_E_setC gw_cp_1 gw_cp_2)
  rw [gw_cp_k] at hset
  exact va_copyi hx hb hml hown hlink hnat hstat hini hK.1 G.1 G.2.1 G.2.2 k0 k1 0 0 (gc_at0 hk0) (gc_at0 hk1) rfl rfl rfl h1 h2 h3 h4 h5 (fun _ _ => rfl) hframes hlocals hdg (fun H1 locs1 hP hD hS => kk _ H1 locs1 rfl ⟨by rw [← hset]; exact hP, by rw [← hset]; exact hD, hS⟩)
theorem gw_recv_am (hK : gw_K X s) (G : gw_G X (gw_E X M Y) s H locs) {o : Nat} (ho : gc_k o = (2, 0)) : ∃ cell : Cell, H[gc_a X o]? = some cell ∧ cell.vm.isStatics = false ∧ s.vm.findClass na_am = some cell.cls := va_recv (q := (na_am, fi_am, 11)) hK.1 G.1 rfl (gc_at2 ho)
theorem gf_am_programs (hx : p.tables.exec = Jvm.exec) (hb : c.code = cc) (hg : ∀ w ∈ gw_w, w.before args s = true) {own : String} (hown : s.vm.findClass own = some m.cls) {index : Nat} (hlink : (Cond.fieldLink own index "AccountMachine" "programs" "[LAccountMachine$Program;").before args s = true) (hK : gw_K X s) (G : gw_G X (gw_E X M Y) s H locs) {o : Nat} (ho : gc_k o = (2, 0)) (hdg : decode cc pc = .ok (.getfield index, 3)) (kk : W p l e R s m args below meth c H locs cells slots Q (F0 m (pc + 3) ls (.ref (gc_a X (o + 1)) :: rest))) : W p l e R s m args below meth c H locs cells slots Q (F0 m pc ls (.ref (gc_a X o) :: rest)) :=
  va_get (D := X.1) (ci := 0) (C := na_am) (T := fi_am) (N := 11) hx hb hg la_am hown hK.1 G.1 o (gc_at2 ho) rfl 0 (by decide) hlink (fun _ h => h) rfl hdg kk
theorem gn_am_programs (hx : p.tables.exec = Jvm.exec) (hb : c.code = cc) (hg : ∀ w ∈ gw_w, w.before args s = true) {own host : String} (hown : s.vm.findClass own = some m.cls) {index : Nat} (hlink : (Cond.fieldLinkNest own index "AccountMachine" "programs" "[LAccountMachine$Program;" host).before args s = true) (hK : gw_K X s) (G : gw_G X (gw_E X M Y) s H locs) {o : Nat} (ho : gc_k o = (2, 0)) (hdg : decode cc pc = .ok (.getfield index, 3)) (kk : W p l e R s m args below meth c H locs cells slots Q (F0 m (pc + 3) ls (.ref (gc_a X (o + 1)) :: rest))) : W p l e R s m args below meth c H locs cells slots Q (F0 m pc ls (.ref (gc_a X o) :: rest)) :=
  va_getN (D := X.1) (ci := 0) (C := na_am) (T := fi_am) (N := 11) hx hb hg la_am hown hK.1 G.1 o (gc_at2 ho) rfl 0 (by decide) hlink (fun _ h => h) rfl hdg kk
theorem gf_am_ledger (hx : p.tables.exec = Jvm.exec) (hb : c.code = cc) (hg : ∀ w ∈ gw_w, w.before args s = true) {own : String} (hown : s.vm.findClass own = some m.cls) {index : Nat} (hlink : (Cond.fieldLink own index "AccountMachine" "ledger" "LAccountMachine$Ledger;").before args s = true) (hK : gw_K X s) (G : gw_G X (gw_E X M Y) s H locs) {o : Nat} (ho : gc_k o = (2, 0)) (hdg : decode cc pc = .ok (.getfield index, 3)) (kk : W p l e R s m args below meth c H locs cells slots Q (F0 m (pc + 3) ls (.ref (gc_a X (o + 2)) :: rest))) : W p l e R s m args below meth c H locs cells slots Q (F0 m pc ls (.ref (gc_a X o) :: rest)) :=
  va_get (D := X.1) (ci := 0) (C := na_am) (T := fi_am) (N := 11) hx hb hg la_am hown hK.1 G.1 o (gc_at2 ho) rfl 1 (by decide) hlink (fun _ h => h) rfl hdg kk
theorem gn_am_ledger (hx : p.tables.exec = Jvm.exec) (hb : c.code = cc) (hg : ∀ w ∈ gw_w, w.before args s = true) {own host : String} (hown : s.vm.findClass own = some m.cls) {index : Nat} (hlink : (Cond.fieldLinkNest own index "AccountMachine" "ledger" "LAccountMachine$Ledger;" host).before args s = true) (hK : gw_K X s) (G : gw_G X (gw_E X M Y) s H locs) {o : Nat} (ho : gc_k o = (2, 0)) (hdg : decode cc pc = .ok (.getfield index, 3)) (kk : W p l e R s m args below meth c H locs cells slots Q (F0 m (pc + 3) ls (.ref (gc_a X (o + 2)) :: rest))) : W p l e R s m args below meth c H locs cells slots Q (F0 m pc ls (.ref (gc_a X o) :: rest)) :=
  va_getN (D := X.1) (ci := 0) (C := na_am) (T := fi_am) (N := 11) hx hb hg la_am hown hK.1 G.1 o (gc_at2 ho) rfl 1 (by decide) hlink (fun _ h => h) rfl hdg kk
theorem gf_am_before (hx : p.tables.exec = Jvm.exec) (hb : c.code = cc) (hg : ∀ w ∈ gw_w, w.before args s = true) {own : String} (hown : s.vm.findClass own = some m.cls) {index : Nat} (hlink : (Cond.fieldLink own index "AccountMachine" "before" "LAccountMachine$Ledger;").before args s = true) (hK : gw_K X s) (G : gw_G X (gw_E X M Y) s H locs) {o : Nat} (ho : gc_k o = (2, 0)) (hdg : decode cc pc = .ok (.getfield index, 3)) (kk : W p l e R s m args below meth c H locs cells slots Q (F0 m (pc + 3) ls (.ref (gc_a X (o + 7)) :: rest))) : W p l e R s m args below meth c H locs cells slots Q (F0 m pc ls (.ref (gc_a X o) :: rest)) :=
  va_get (D := X.1) (ci := 0) (C := na_am) (T := fi_am) (N := 11) hx hb hg la_am hown hK.1 G.1 o (gc_at2 ho) rfl 2 (by decide) hlink (fun _ h => h) rfl hdg kk
theorem gn_am_before (hx : p.tables.exec = Jvm.exec) (hb : c.code = cc) (hg : ∀ w ∈ gw_w, w.before args s = true) {own host : String} (hown : s.vm.findClass own = some m.cls) {index : Nat} (hlink : (Cond.fieldLinkNest own index "AccountMachine" "before" "LAccountMachine$Ledger;" host).before args s = true) (hK : gw_K X s) (G : gw_G X (gw_E X M Y) s H locs) {o : Nat} (ho : gc_k o = (2, 0)) (hdg : decode cc pc = .ok (.getfield index, 3)) (kk : W p l e R s m args below meth c H locs cells slots Q (F0 m (pc + 3) ls (.ref (gc_a X (o + 7)) :: rest))) : W p l e R s m args below meth c H locs cells slots Q (F0 m pc ls (.ref (gc_a X o) :: rest)) :=
  va_getN (D := X.1) (ci := 0) (C := na_am) (T := fi_am) (N := 11) hx hb hg la_am hown hK.1 G.1 o (gc_at2 ho) rfl 2 (by decide) hlink (fun _ h => h) rfl hdg kk
theorem gf_am_orders (hx : p.tables.exec = Jvm.exec) (hb : c.code = cc) (hg : ∀ w ∈ gw_w, w.before args s = true) {own : String} (hown : s.vm.findClass own = some m.cls) {index : Nat} (hlink : (Cond.fieldLink own index "AccountMachine" "orders" "[LAccountMachine$Order;").before args s = true) (hK : gw_K X s) (G : gw_G X (gw_E X M Y) s H locs) {o : Nat} (ho : gc_k o = (2, 0)) (hdg : decode cc pc = .ok (.getfield index, 3)) (kk : W p l e R s m args below meth c H locs cells slots Q (F0 m (pc + 3) ls (.ref (gc_a X (o + 12)) :: rest))) : W p l e R s m args below meth c H locs cells slots Q (F0 m pc ls (.ref (gc_a X o) :: rest)) :=
  va_get (D := X.1) (ci := 0) (C := na_am) (T := fi_am) (N := 11) hx hb hg la_am hown hK.1 G.1 o (gc_at2 ho) rfl 3 (by decide) hlink (fun _ h => h) rfl hdg kk
theorem gn_am_orders (hx : p.tables.exec = Jvm.exec) (hb : c.code = cc) (hg : ∀ w ∈ gw_w, w.before args s = true) {own host : String} (hown : s.vm.findClass own = some m.cls) {index : Nat} (hlink : (Cond.fieldLinkNest own index "AccountMachine" "orders" "[LAccountMachine$Order;" host).before args s = true) (hK : gw_K X s) (G : gw_G X (gw_E X M Y) s H locs) {o : Nat} (ho : gc_k o = (2, 0)) (hdg : decode cc pc = .ok (.getfield index, 3)) (kk : W p l e R s m args below meth c H locs cells slots Q (F0 m (pc + 3) ls (.ref (gc_a X (o + 12)) :: rest))) : W p l e R s m args below meth c H locs cells slots Q (F0 m pc ls (.ref (gc_a X o) :: rest)) :=
  va_getN (D := X.1) (ci := 0) (C := na_am) (T := fi_am) (N := 11) hx hb hg la_am hown hK.1 G.1 o (gc_at2 ho) rfl 3 (by decide) hlink (fun _ h => h) rfl hdg kk
theorem gf_am_orderCount (hx : p.tables.exec = Jvm.exec) (hb : c.code = cc) (hg : ∀ w ∈ gw_w, w.before args s = true) {own : String} (hown : s.vm.findClass own = some m.cls) {index : Nat} (hlink : (Cond.fieldLink own index "AccountMachine" "orderCount" "I").before args s = true) (hK : gw_K X s) (G : gw_G X (gw_E X M Y) s H locs) {o : Nat} (ho : gc_k o = (2, 0)) (hdg : decode cc pc = .ok (.getfield index, 3)) (kk : W p l e R s m args below meth c H locs cells slots Q (F0 m (pc + 3) ls (.int (M.1 o 4) :: rest))) : W p l e R s m args below meth c H locs cells slots Q (F0 m pc ls (.ref (gc_a X o) :: rest)) :=
  va_get (D := X.1) (ci := 0) (C := na_am) (T := fi_am) (N := 11) hx hb hg la_am hown hK.1 G.1 o (gc_at2 ho) rfl 4 (by decide) hlink (fun _ h => h) rfl hdg kk
theorem gn_am_orderCount (hx : p.tables.exec = Jvm.exec) (hb : c.code = cc) (hg : ∀ w ∈ gw_w, w.before args s = true) {own host : String} (hown : s.vm.findClass own = some m.cls) {index : Nat} (hlink : (Cond.fieldLinkNest own index "AccountMachine" "orderCount" "I" host).before args s = true) (hK : gw_K X s) (G : gw_G X (gw_E X M Y) s H locs) {o : Nat} (ho : gc_k o = (2, 0)) (hdg : decode cc pc = .ok (.getfield index, 3)) (kk : W p l e R s m args below meth c H locs cells slots Q (F0 m (pc + 3) ls (.int (M.1 o 4) :: rest))) : W p l e R s m args below meth c H locs cells slots Q (F0 m pc ls (.ref (gc_a X o) :: rest)) :=
  va_getN (D := X.1) (ci := 0) (C := na_am) (T := fi_am) (N := 11) hx hb hg la_am hown hK.1 G.1 o (gc_at2 ho) rfl 4 (by decide) hlink (fun _ h => h) rfl hdg kk
theorem gp_am_orderCount (hx : p.tables.exec = Jvm.exec) (hb : c.code = cc) (hg : ∀ w ∈ gw_w, w.before args s = true) {own : String} (hown : s.vm.findClass own = some m.cls) {index : Nat} (hlink : (Cond.fieldLink own index "AccountMachine" "orderCount" "I").before args s = true) (hK : gw_K X s) (G : gw_G X (gw_E X M Y) s H locs) {o : Nat} (ho : gc_k o = (2, 0)) {x : Int32} (hdg : decode cc pc = .ok (.putfield index, 3)) (kk : ∀ (M1 : gw_M) (H1 : Heap) (locs1 : List Loc), M1 = gw_sI M o 4 x → gw_G X (gw_E X M1 Y) s H1 locs1 → W p l e R s m args below meth c H1 locs1 cells slots Q (F0 m (pc + 3) ls rest)) : W p l e R s m args below meth c H locs cells slots Q (F0 m pc ls (.int x :: .ref (gc_a X o) :: rest)) := by
  have hset := gw_W_set (ad := X.2.1) (n := 100) (E := gw_E X M Y) (E1 := gw_E X (gw_sI M o 4 x) Y) (Nat.lt_trans (gc_lt ho (by decide)) (by decide)) (gc_E2 ho) (gw_E_setC gw_sI_1 gw_sI_2)
  rw [gw_sI_k] at hset
  exact va_put (D := X.1) (ci := 0) (ty := .int) (C := na_am) (T := fi_am) (N := 11) hx hb hg la_am ty_am tk_am ne_am hown hK.1 G.1 G.2.1 G.2.2 o (gc_at2 ho) rfl 4 (by decide) hlink (fun _ h => h) rfl (by decide +kernel) rfl rfl (Nat.le_of_ble_eq_true rfl) hdg (fun H1 locs1 hP hD hS => kk _ H1 locs1 rfl ⟨by rw [← hset]; exact hP, by rw [← hset]; exact hD, hS⟩)
theorem gm_am_orderCount (hx : p.tables.exec = Jvm.exec) (hb : c.code = cc) (hg : ∀ w ∈ gw_w, w.before args s = true) {own host : String} (hown : s.vm.findClass own = some m.cls) {index : Nat} (hlink : (Cond.fieldLinkNest own index "AccountMachine" "orderCount" "I" host).before args s = true) (hK : gw_K X s) (G : gw_G X (gw_E X M Y) s H locs) {o : Nat} (ho : gc_k o = (2, 0)) {x : Int32} (hdg : decode cc pc = .ok (.putfield index, 3)) (kk : ∀ (M1 : gw_M) (H1 : Heap) (locs1 : List Loc), M1 = gw_sI M o 4 x → gw_G X (gw_E X M1 Y) s H1 locs1 → W p l e R s m args below meth c H1 locs1 cells slots Q (F0 m (pc + 3) ls rest)) : W p l e R s m args below meth c H locs cells slots Q (F0 m pc ls (.int x :: .ref (gc_a X o) :: rest)) := by
  have hset := gw_W_set (ad := X.2.1) (n := 100) (E := gw_E X M Y) (E1 := gw_E X (gw_sI M o 4 x) Y) (Nat.lt_trans (gc_lt ho (by decide)) (by decide)) (gc_E2 ho) (gw_E_setC gw_sI_1 gw_sI_2)
  rw [gw_sI_k] at hset
  exact va_putN (D := X.1) (ci := 0) (ty := .int) (C := na_am) (T := fi_am) (N := 11) hx hb hg la_am ty_am tk_am ne_am hown hK.1 G.1 G.2.1 G.2.2 o (gc_at2 ho) rfl 4 (by decide) hlink (fun _ h => h) rfl (by decide +kernel) rfl rfl (Nat.le_of_ble_eq_true rfl) hdg (fun H1 locs1 hP hD hS => kk _ H1 locs1 rfl ⟨by rw [← hset]; exact hP, by rw [← hset]; exact hD, hS⟩)
theorem gf_am_frames (hx : p.tables.exec = Jvm.exec) (hb : c.code = cc) (hg : ∀ w ∈ gw_w, w.before args s = true) {own : String} (hown : s.vm.findClass own = some m.cls) {index : Nat} (hlink : (Cond.fieldLink own index "AccountMachine" "frames" "[LAccountMachine$Frame;").before args s = true) (hK : gw_K X s) (G : gw_G X (gw_E X M Y) s H locs) {o : Nat} (ho : gc_k o = (2, 0)) (hdg : decode cc pc = .ok (.getfield index, 3)) (kk : W p l e R s m args below meth c H locs cells slots Q (F0 m (pc + 3) ls (.ref (gc_a X (o + 13)) :: rest))) : W p l e R s m args below meth c H locs cells slots Q (F0 m pc ls (.ref (gc_a X o) :: rest)) :=
  va_get (D := X.1) (ci := 0) (C := na_am) (T := fi_am) (N := 11) hx hb hg la_am hown hK.1 G.1 o (gc_at2 ho) rfl 5 (by decide) hlink (fun _ h => h) rfl hdg kk
theorem gn_am_frames (hx : p.tables.exec = Jvm.exec) (hb : c.code = cc) (hg : ∀ w ∈ gw_w, w.before args s = true) {own host : String} (hown : s.vm.findClass own = some m.cls) {index : Nat} (hlink : (Cond.fieldLinkNest own index "AccountMachine" "frames" "[LAccountMachine$Frame;" host).before args s = true) (hK : gw_K X s) (G : gw_G X (gw_E X M Y) s H locs) {o : Nat} (ho : gc_k o = (2, 0)) (hdg : decode cc pc = .ok (.getfield index, 3)) (kk : W p l e R s m args below meth c H locs cells slots Q (F0 m (pc + 3) ls (.ref (gc_a X (o + 13)) :: rest))) : W p l e R s m args below meth c H locs cells slots Q (F0 m pc ls (.ref (gc_a X o) :: rest)) :=
  va_getN (D := X.1) (ci := 0) (C := na_am) (T := fi_am) (N := 11) hx hb hg la_am hown hK.1 G.1 o (gc_at2 ho) rfl 5 (by decide) hlink (fun _ h => h) rfl hdg kk
theorem gf_am_depth (hx : p.tables.exec = Jvm.exec) (hb : c.code = cc) (hg : ∀ w ∈ gw_w, w.before args s = true) {own : String} (hown : s.vm.findClass own = some m.cls) {index : Nat} (hlink : (Cond.fieldLink own index "AccountMachine" "depth" "I").before args s = true) (hK : gw_K X s) (G : gw_G X (gw_E X M Y) s H locs) {o : Nat} (ho : gc_k o = (2, 0)) (hdg : decode cc pc = .ok (.getfield index, 3)) (kk : W p l e R s m args below meth c H locs cells slots Q (F0 m (pc + 3) ls (.int (M.1 o 6) :: rest))) : W p l e R s m args below meth c H locs cells slots Q (F0 m pc ls (.ref (gc_a X o) :: rest)) :=
  va_get (D := X.1) (ci := 0) (C := na_am) (T := fi_am) (N := 11) hx hb hg la_am hown hK.1 G.1 o (gc_at2 ho) rfl 6 (by decide) hlink (fun _ h => h) rfl hdg kk
theorem gn_am_depth (hx : p.tables.exec = Jvm.exec) (hb : c.code = cc) (hg : ∀ w ∈ gw_w, w.before args s = true) {own host : String} (hown : s.vm.findClass own = some m.cls) {index : Nat} (hlink : (Cond.fieldLinkNest own index "AccountMachine" "depth" "I" host).before args s = true) (hK : gw_K X s) (G : gw_G X (gw_E X M Y) s H locs) {o : Nat} (ho : gc_k o = (2, 0)) (hdg : decode cc pc = .ok (.getfield index, 3)) (kk : W p l e R s m args below meth c H locs cells slots Q (F0 m (pc + 3) ls (.int (M.1 o 6) :: rest))) : W p l e R s m args below meth c H locs cells slots Q (F0 m pc ls (.ref (gc_a X o) :: rest)) :=
  va_getN (D := X.1) (ci := 0) (C := na_am) (T := fi_am) (N := 11) hx hb hg la_am hown hK.1 G.1 o (gc_at2 ho) rfl 6 (by decide) hlink (fun _ h => h) rfl hdg kk
theorem gp_am_depth (hx : p.tables.exec = Jvm.exec) (hb : c.code = cc) (hg : ∀ w ∈ gw_w, w.before args s = true) {own : String} (hown : s.vm.findClass own = some m.cls) {index : Nat} (hlink : (Cond.fieldLink own index "AccountMachine" "depth" "I").before args s = true) (hK : gw_K X s) (G : gw_G X (gw_E X M Y) s H locs) {o : Nat} (ho : gc_k o = (2, 0)) {x : Int32} (hdg : decode cc pc = .ok (.putfield index, 3)) (kk : ∀ (M1 : gw_M) (H1 : Heap) (locs1 : List Loc), M1 = gw_sI M o 6 x → gw_G X (gw_E X M1 Y) s H1 locs1 → W p l e R s m args below meth c H1 locs1 cells slots Q (F0 m (pc + 3) ls rest)) : W p l e R s m args below meth c H locs cells slots Q (F0 m pc ls (.int x :: .ref (gc_a X o) :: rest)) := by
  have hset := gw_W_set (ad := X.2.1) (n := 100) (E := gw_E X M Y) (E1 := gw_E X (gw_sI M o 6 x) Y) (Nat.lt_trans (gc_lt ho (by decide)) (by decide)) (gc_E2 ho) (gw_E_setC gw_sI_1 gw_sI_2)
  rw [gw_sI_k] at hset
  exact va_put (D := X.1) (ci := 0) (ty := .int) (C := na_am) (T := fi_am) (N := 11) hx hb hg la_am ty_am tk_am ne_am hown hK.1 G.1 G.2.1 G.2.2 o (gc_at2 ho) rfl 6 (by decide) hlink (fun _ h => h) rfl (by decide +kernel) rfl rfl (Nat.le_of_ble_eq_true rfl) hdg (fun H1 locs1 hP hD hS => kk _ H1 locs1 rfl ⟨by rw [← hset]; exact hP, by rw [← hset]; exact hD, hS⟩)
theorem gm_am_depth (hx : p.tables.exec = Jvm.exec) (hb : c.code = cc) (hg : ∀ w ∈ gw_w, w.before args s = true) {own host : String} (hown : s.vm.findClass own = some m.cls) {index : Nat} (hlink : (Cond.fieldLinkNest own index "AccountMachine" "depth" "I" host).before args s = true) (hK : gw_K X s) (G : gw_G X (gw_E X M Y) s H locs) {o : Nat} (ho : gc_k o = (2, 0)) {x : Int32} (hdg : decode cc pc = .ok (.putfield index, 3)) (kk : ∀ (M1 : gw_M) (H1 : Heap) (locs1 : List Loc), M1 = gw_sI M o 6 x → gw_G X (gw_E X M1 Y) s H1 locs1 → W p l e R s m args below meth c H1 locs1 cells slots Q (F0 m (pc + 3) ls rest)) : W p l e R s m args below meth c H locs cells slots Q (F0 m pc ls (.int x :: .ref (gc_a X o) :: rest)) := by
  have hset := gw_W_set (ad := X.2.1) (n := 100) (E := gw_E X M Y) (E1 := gw_E X (gw_sI M o 6 x) Y) (Nat.lt_trans (gc_lt ho (by decide)) (by decide)) (gc_E2 ho) (gw_E_setC gw_sI_1 gw_sI_2)
  rw [gw_sI_k] at hset
  exact va_putN (D := X.1) (ci := 0) (ty := .int) (C := na_am) (T := fi_am) (N := 11) hx hb hg la_am ty_am tk_am ne_am hown hK.1 G.1 G.2.1 G.2.2 o (gc_at2 ho) rfl 6 (by decide) hlink (fun _ h => h) rfl (by decide +kernel) rfl rfl (Nat.le_of_ble_eq_true rfl) hdg (fun H1 locs1 hP hD hS => kk _ H1 locs1 rfl ⟨by rw [← hset]; exact hP, by rw [← hset]; exact hD, hS⟩)
theorem gf_am_meter (hx : p.tables.exec = Jvm.exec) (hb : c.code = cc) (hg : ∀ w ∈ gw_w, w.before args s = true) {own : String} (hown : s.vm.findClass own = some m.cls) {index : Nat} (hlink : (Cond.fieldLink own index "AccountMachine" "meter" "I").before args s = true) (hK : gw_K X s) (G : gw_G X (gw_E X M Y) s H locs) {o : Nat} (ho : gc_k o = (2, 0)) (hdg : decode cc pc = .ok (.getfield index, 3)) (kk : W p l e R s m args below meth c H locs cells slots Q (F0 m (pc + 3) ls (.int (M.1 o 7) :: rest))) : W p l e R s m args below meth c H locs cells slots Q (F0 m pc ls (.ref (gc_a X o) :: rest)) :=
  va_get (D := X.1) (ci := 0) (C := na_am) (T := fi_am) (N := 11) hx hb hg la_am hown hK.1 G.1 o (gc_at2 ho) rfl 7 (by decide) hlink (fun _ h => h) rfl hdg kk
theorem gn_am_meter (hx : p.tables.exec = Jvm.exec) (hb : c.code = cc) (hg : ∀ w ∈ gw_w, w.before args s = true) {own host : String} (hown : s.vm.findClass own = some m.cls) {index : Nat} (hlink : (Cond.fieldLinkNest own index "AccountMachine" "meter" "I" host).before args s = true) (hK : gw_K X s) (G : gw_G X (gw_E X M Y) s H locs) {o : Nat} (ho : gc_k o = (2, 0)) (hdg : decode cc pc = .ok (.getfield index, 3)) (kk : W p l e R s m args below meth c H locs cells slots Q (F0 m (pc + 3) ls (.int (M.1 o 7) :: rest))) : W p l e R s m args below meth c H locs cells slots Q (F0 m pc ls (.ref (gc_a X o) :: rest)) :=
  va_getN (D := X.1) (ci := 0) (C := na_am) (T := fi_am) (N := 11) hx hb hg la_am hown hK.1 G.1 o (gc_at2 ho) rfl 7 (by decide) hlink (fun _ h => h) rfl hdg kk
theorem gp_am_meter (hx : p.tables.exec = Jvm.exec) (hb : c.code = cc) (hg : ∀ w ∈ gw_w, w.before args s = true) {own : String} (hown : s.vm.findClass own = some m.cls) {index : Nat} (hlink : (Cond.fieldLink own index "AccountMachine" "meter" "I").before args s = true) (hK : gw_K X s) (G : gw_G X (gw_E X M Y) s H locs) {o : Nat} (ho : gc_k o = (2, 0)) {x : Int32} (hdg : decode cc pc = .ok (.putfield index, 3)) (kk : ∀ (M1 : gw_M) (H1 : Heap) (locs1 : List Loc), M1 = gw_sI M o 7 x → gw_G X (gw_E X M1 Y) s H1 locs1 → W p l e R s m args below meth c H1 locs1 cells slots Q (F0 m (pc + 3) ls rest)) : W p l e R s m args below meth c H locs cells slots Q (F0 m pc ls (.int x :: .ref (gc_a X o) :: rest)) := by
  have hset := gw_W_set (ad := X.2.1) (n := 100) (E := gw_E X M Y) (E1 := gw_E X (gw_sI M o 7 x) Y) (Nat.lt_trans (gc_lt ho (by decide)) (by decide)) (gc_E2 ho) (gw_E_setC gw_sI_1 gw_sI_2)
  rw [gw_sI_k] at hset
  exact va_put (D := X.1) (ci := 0) (ty := .int) (C := na_am) (T := fi_am) (N := 11) hx hb hg la_am ty_am tk_am ne_am hown hK.1 G.1 G.2.1 G.2.2 o (gc_at2 ho) rfl 7 (by decide) hlink (fun _ h => h) rfl (by decide +kernel) rfl rfl (Nat.le_of_ble_eq_true rfl) hdg (fun H1 locs1 hP hD hS => kk _ H1 locs1 rfl ⟨by rw [← hset]; exact hP, by rw [← hset]; exact hD, hS⟩)
theorem gm_am_meter (hx : p.tables.exec = Jvm.exec) (hb : c.code = cc) (hg : ∀ w ∈ gw_w, w.before args s = true) {own host : String} (hown : s.vm.findClass own = some m.cls) {index : Nat} (hlink : (Cond.fieldLinkNest own index "AccountMachine" "meter" "I" host).before args s = true) (hK : gw_K X s) (G : gw_G X (gw_E X M Y) s H locs) {o : Nat} (ho : gc_k o = (2, 0)) {x : Int32} (hdg : decode cc pc = .ok (.putfield index, 3)) (kk : ∀ (M1 : gw_M) (H1 : Heap) (locs1 : List Loc), M1 = gw_sI M o 7 x → gw_G X (gw_E X M1 Y) s H1 locs1 → W p l e R s m args below meth c H1 locs1 cells slots Q (F0 m (pc + 3) ls rest)) : W p l e R s m args below meth c H locs cells slots Q (F0 m pc ls (.int x :: .ref (gc_a X o) :: rest)) := by
  have hset := gw_W_set (ad := X.2.1) (n := 100) (E := gw_E X M Y) (E1 := gw_E X (gw_sI M o 7 x) Y) (Nat.lt_trans (gc_lt ho (by decide)) (by decide)) (gc_E2 ho) (gw_E_setC gw_sI_1 gw_sI_2)
  rw [gw_sI_k] at hset
  exact va_putN (D := X.1) (ci := 0) (ty := .int) (C := na_am) (T := fi_am) (N := 11) hx hb hg la_am ty_am tk_am ne_am hown hK.1 G.1 G.2.1 G.2.2 o (gc_at2 ho) rfl 7 (by decide) hlink (fun _ h => h) rfl (by decide +kernel) rfl rfl (Nat.le_of_ble_eq_true rfl) hdg (fun H1 locs1 hP hD hS => kk _ H1 locs1 rfl ⟨by rw [← hset]; exact hP, by rw [← hset]; exact hD, hS⟩)
theorem gf_am_logWords (hx : p.tables.exec = Jvm.exec) (hb : c.code = cc) (hg : ∀ w ∈ gw_w, w.before args s = true) {own : String} (hown : s.vm.findClass own = some m.cls) {index : Nat} (hlink : (Cond.fieldLink own index "AccountMachine" "logWords" "[J").before args s = true) (hK : gw_K X s) (G : gw_G X (gw_E X M Y) s H locs) {o : Nat} (ho : gc_k o = (2, 0)) (hdg : decode cc pc = .ok (.getfield index, 3)) (kk : W p l e R s m args below meth c H locs cells slots Q (F0 m (pc + 3) ls (.ref (gc_a X (o + 14)) :: rest))) : W p l e R s m args below meth c H locs cells slots Q (F0 m pc ls (.ref (gc_a X o) :: rest)) :=
  va_get (D := X.1) (ci := 0) (C := na_am) (T := fi_am) (N := 11) hx hb hg la_am hown hK.1 G.1 o (gc_at2 ho) rfl 8 (by decide) hlink (fun _ h => h) rfl hdg kk
theorem gn_am_logWords (hx : p.tables.exec = Jvm.exec) (hb : c.code = cc) (hg : ∀ w ∈ gw_w, w.before args s = true) {own host : String} (hown : s.vm.findClass own = some m.cls) {index : Nat} (hlink : (Cond.fieldLinkNest own index "AccountMachine" "logWords" "[J" host).before args s = true) (hK : gw_K X s) (G : gw_G X (gw_E X M Y) s H locs) {o : Nat} (ho : gc_k o = (2, 0)) (hdg : decode cc pc = .ok (.getfield index, 3)) (kk : W p l e R s m args below meth c H locs cells slots Q (F0 m (pc + 3) ls (.ref (gc_a X (o + 14)) :: rest))) : W p l e R s m args below meth c H locs cells slots Q (F0 m pc ls (.ref (gc_a X o) :: rest)) :=
  va_getN (D := X.1) (ci := 0) (C := na_am) (T := fi_am) (N := 11) hx hb hg la_am hown hK.1 G.1 o (gc_at2 ho) rfl 8 (by decide) hlink (fun _ h => h) rfl hdg kk
theorem gf_am_logCount (hx : p.tables.exec = Jvm.exec) (hb : c.code = cc) (hg : ∀ w ∈ gw_w, w.before args s = true) {own : String} (hown : s.vm.findClass own = some m.cls) {index : Nat} (hlink : (Cond.fieldLink own index "AccountMachine" "logCount" "I").before args s = true) (hK : gw_K X s) (G : gw_G X (gw_E X M Y) s H locs) {o : Nat} (ho : gc_k o = (2, 0)) (hdg : decode cc pc = .ok (.getfield index, 3)) (kk : W p l e R s m args below meth c H locs cells slots Q (F0 m (pc + 3) ls (.int (M.1 o 9) :: rest))) : W p l e R s m args below meth c H locs cells slots Q (F0 m pc ls (.ref (gc_a X o) :: rest)) :=
  va_get (D := X.1) (ci := 0) (C := na_am) (T := fi_am) (N := 11) hx hb hg la_am hown hK.1 G.1 o (gc_at2 ho) rfl 9 (by decide) hlink (fun _ h => h) rfl hdg kk
theorem gn_am_logCount (hx : p.tables.exec = Jvm.exec) (hb : c.code = cc) (hg : ∀ w ∈ gw_w, w.before args s = true) {own host : String} (hown : s.vm.findClass own = some m.cls) {index : Nat} (hlink : (Cond.fieldLinkNest own index "AccountMachine" "logCount" "I" host).before args s = true) (hK : gw_K X s) (G : gw_G X (gw_E X M Y) s H locs) {o : Nat} (ho : gc_k o = (2, 0)) (hdg : decode cc pc = .ok (.getfield index, 3)) (kk : W p l e R s m args below meth c H locs cells slots Q (F0 m (pc + 3) ls (.int (M.1 o 9) :: rest))) : W p l e R s m args below meth c H locs cells slots Q (F0 m pc ls (.ref (gc_a X o) :: rest)) :=
  va_getN (D := X.1) (ci := 0) (C := na_am) (T := fi_am) (N := 11) hx hb hg la_am hown hK.1 G.1 o (gc_at2 ho) rfl 9 (by decide) hlink (fun _ h => h) rfl hdg kk
theorem gp_am_logCount (hx : p.tables.exec = Jvm.exec) (hb : c.code = cc) (hg : ∀ w ∈ gw_w, w.before args s = true) {own : String} (hown : s.vm.findClass own = some m.cls) {index : Nat} (hlink : (Cond.fieldLink own index "AccountMachine" "logCount" "I").before args s = true) (hK : gw_K X s) (G : gw_G X (gw_E X M Y) s H locs) {o : Nat} (ho : gc_k o = (2, 0)) {x : Int32} (hdg : decode cc pc = .ok (.putfield index, 3)) (kk : ∀ (M1 : gw_M) (H1 : Heap) (locs1 : List Loc), M1 = gw_sI M o 9 x → gw_G X (gw_E X M1 Y) s H1 locs1 → W p l e R s m args below meth c H1 locs1 cells slots Q (F0 m (pc + 3) ls rest)) : W p l e R s m args below meth c H locs cells slots Q (F0 m pc ls (.int x :: .ref (gc_a X o) :: rest)) := by
  have hset := gw_W_set (ad := X.2.1) (n := 100) (E := gw_E X M Y) (E1 := gw_E X (gw_sI M o 9 x) Y) (Nat.lt_trans (gc_lt ho (by decide)) (by decide)) (gc_E2 ho) (gw_E_setC gw_sI_1 gw_sI_2)
  rw [gw_sI_k] at hset
  exact va_put (D := X.1) (ci := 0) (ty := .int) (C := na_am) (T := fi_am) (N := 11) hx hb hg la_am ty_am tk_am ne_am hown hK.1 G.1 G.2.1 G.2.2 o (gc_at2 ho) rfl 9 (by decide) hlink (fun _ h => h) rfl (by decide +kernel) rfl rfl (Nat.le_of_ble_eq_true rfl) hdg (fun H1 locs1 hP hD hS => kk _ H1 locs1 rfl ⟨by rw [← hset]; exact hP, by rw [← hset]; exact hD, hS⟩)
theorem gm_am_logCount (hx : p.tables.exec = Jvm.exec) (hb : c.code = cc) (hg : ∀ w ∈ gw_w, w.before args s = true) {own host : String} (hown : s.vm.findClass own = some m.cls) {index : Nat} (hlink : (Cond.fieldLinkNest own index "AccountMachine" "logCount" "I" host).before args s = true) (hK : gw_K X s) (G : gw_G X (gw_E X M Y) s H locs) {o : Nat} (ho : gc_k o = (2, 0)) {x : Int32} (hdg : decode cc pc = .ok (.putfield index, 3)) (kk : ∀ (M1 : gw_M) (H1 : Heap) (locs1 : List Loc), M1 = gw_sI M o 9 x → gw_G X (gw_E X M1 Y) s H1 locs1 → W p l e R s m args below meth c H1 locs1 cells slots Q (F0 m (pc + 3) ls rest)) : W p l e R s m args below meth c H locs cells slots Q (F0 m pc ls (.int x :: .ref (gc_a X o) :: rest)) := by
  have hset := gw_W_set (ad := X.2.1) (n := 100) (E := gw_E X M Y) (E1 := gw_E X (gw_sI M o 9 x) Y) (Nat.lt_trans (gc_lt ho (by decide)) (by decide)) (gc_E2 ho) (gw_E_setC gw_sI_1 gw_sI_2)
  rw [gw_sI_k] at hset
  exact va_putN (D := X.1) (ci := 0) (ty := .int) (C := na_am) (T := fi_am) (N := 11) hx hb hg la_am ty_am tk_am ne_am hown hK.1 G.1 G.2.1 G.2.2 o (gc_at2 ho) rfl 9 (by decide) hlink (fun _ h => h) rfl (by decide +kernel) rfl rfl (Nat.le_of_ble_eq_true rfl) hdg (fun H1 locs1 hP hD hS => kk _ H1 locs1 rfl ⟨by rw [← hset]; exact hP, by rw [← hset]; exact hD, hS⟩)
theorem gf_am_given (hx : p.tables.exec = Jvm.exec) (hb : c.code = cc) (hg : ∀ w ∈ gw_w, w.before args s = true) {own : String} (hown : s.vm.findClass own = some m.cls) {index : Nat} (hlink : (Cond.fieldLink own index "AccountMachine" "given" "J").before args s = true) (hK : gw_K X s) (G : gw_G X (gw_E X M Y) s H locs) {o : Nat} (ho : gc_k o = (2, 0)) (hdg : decode cc pc = .ok (.getfield index, 3)) (kk : W p l e R s m args below meth c H locs cells slots Q (F0 m (pc + 3) ls (.long (M.2 o 10) :: rest))) : W p l e R s m args below meth c H locs cells slots Q (F0 m pc ls (.ref (gc_a X o) :: rest)) :=
  va_get (D := X.1) (ci := 0) (C := na_am) (T := fi_am) (N := 11) hx hb hg la_am hown hK.1 G.1 o (gc_at2 ho) rfl 10 (by decide) hlink (fun _ h => h) rfl hdg kk
theorem gn_am_given (hx : p.tables.exec = Jvm.exec) (hb : c.code = cc) (hg : ∀ w ∈ gw_w, w.before args s = true) {own host : String} (hown : s.vm.findClass own = some m.cls) {index : Nat} (hlink : (Cond.fieldLinkNest own index "AccountMachine" "given" "J" host).before args s = true) (hK : gw_K X s) (G : gw_G X (gw_E X M Y) s H locs) {o : Nat} (ho : gc_k o = (2, 0)) (hdg : decode cc pc = .ok (.getfield index, 3)) (kk : W p l e R s m args below meth c H locs cells slots Q (F0 m (pc + 3) ls (.long (M.2 o 10) :: rest))) : W p l e R s m args below meth c H locs cells slots Q (F0 m pc ls (.ref (gc_a X o) :: rest)) :=
  va_getN (D := X.1) (ci := 0) (C := na_am) (T := fi_am) (N := 11) hx hb hg la_am hown hK.1 G.1 o (gc_at2 ho) rfl 10 (by decide) hlink (fun _ h => h) rfl hdg kk
theorem gp_am_given (hx : p.tables.exec = Jvm.exec) (hb : c.code = cc) (hg : ∀ w ∈ gw_w, w.before args s = true) {own : String} (hown : s.vm.findClass own = some m.cls) {index : Nat} (hlink : (Cond.fieldLink own index "AccountMachine" "given" "J").before args s = true) (hK : gw_K X s) (G : gw_G X (gw_E X M Y) s H locs) {o : Nat} (ho : gc_k o = (2, 0)) {x : Int64} (hdg : decode cc pc = .ok (.putfield index, 3)) (kk : ∀ (M1 : gw_M) (H1 : Heap) (locs1 : List Loc), M1 = gw_sL M o 10 x → gw_G X (gw_E X M1 Y) s H1 locs1 → W p l e R s m args below meth c H1 locs1 cells slots Q (F0 m (pc + 3) ls rest)) : W p l e R s m args below meth c H locs cells slots Q (F0 m pc ls (.long x :: .ref (gc_a X o) :: rest)) := by
  have hset := gw_W_set (ad := X.2.1) (n := 100) (E := gw_E X M Y) (E1 := gw_E X (gw_sL M o 10 x) Y) (Nat.lt_trans (gc_lt ho (by decide)) (by decide)) (gc_E2 ho) (gw_E_setC gw_sL_1 gw_sL_2)
  rw [gw_sL_k] at hset
  exact va_put (D := X.1) (ci := 0) (ty := .long) (C := na_am) (T := fi_am) (N := 11) hx hb hg la_am ty_am tk_am ne_am hown hK.1 G.1 G.2.1 G.2.2 o (gc_at2 ho) rfl 10 (by decide) hlink (fun _ h => h) rfl (by decide +kernel) rfl rfl (Nat.le_of_ble_eq_true rfl) hdg (fun H1 locs1 hP hD hS => kk _ H1 locs1 rfl ⟨by rw [← hset]; exact hP, by rw [← hset]; exact hD, hS⟩)
theorem gm_am_given (hx : p.tables.exec = Jvm.exec) (hb : c.code = cc) (hg : ∀ w ∈ gw_w, w.before args s = true) {own host : String} (hown : s.vm.findClass own = some m.cls) {index : Nat} (hlink : (Cond.fieldLinkNest own index "AccountMachine" "given" "J" host).before args s = true) (hK : gw_K X s) (G : gw_G X (gw_E X M Y) s H locs) {o : Nat} (ho : gc_k o = (2, 0)) {x : Int64} (hdg : decode cc pc = .ok (.putfield index, 3)) (kk : ∀ (M1 : gw_M) (H1 : Heap) (locs1 : List Loc), M1 = gw_sL M o 10 x → gw_G X (gw_E X M1 Y) s H1 locs1 → W p l e R s m args below meth c H1 locs1 cells slots Q (F0 m (pc + 3) ls rest)) : W p l e R s m args below meth c H locs cells slots Q (F0 m pc ls (.long x :: .ref (gc_a X o) :: rest)) := by
  have hset := gw_W_set (ad := X.2.1) (n := 100) (E := gw_E X M Y) (E1 := gw_E X (gw_sL M o 10 x) Y) (Nat.lt_trans (gc_lt ho (by decide)) (by decide)) (gc_E2 ho) (gw_E_setC gw_sL_1 gw_sL_2)
  rw [gw_sL_k] at hset
  exact va_putN (D := X.1) (ci := 0) (ty := .long) (C := na_am) (T := fi_am) (N := 11) hx hb hg la_am ty_am tk_am ne_am hown hK.1 G.1 G.2.1 G.2.2 o (gc_at2 ho) rfl 10 (by decide) hlink (fun _ h => h) rfl (by decide +kernel) rfl rfl (Nat.le_of_ble_eq_true rfl) hdg (fun H1 locs1 hP hD hS => kk _ H1 locs1 rfl ⟨by rw [← hset]; exact hP, by rw [← hset]; exact hD, hS⟩)
theorem gw_recv_le (hK : gw_K X s) (G : gw_G X (gw_E X M Y) s H locs) {o : Nat} (ho : gc_k o = (3, 0)) : ∃ cell : Cell, H[gc_a X o]? = some cell ∧ cell.vm.isStatics = false ∧ s.vm.findClass na_le = some cell.cls := va_recv (q := (na_le, fi_le, 4)) hK.1 G.1 rfl (gc_at3 ho)
theorem gf_le_balances (hx : p.tables.exec = Jvm.exec) (hb : c.code = cc) (hg : ∀ w ∈ gw_w, w.before args s = true) {own : String} (hown : s.vm.findClass own = some m.cls) {index : Nat} (hlink : (Cond.fieldLink own index "AccountMachine$Ledger" "balances" "[I").before args s = true) (hK : gw_K X s) (G : gw_G X (gw_E X M Y) s H locs) {o : Nat} (ho : gc_k o = (3, 0)) (hdg : decode cc pc = .ok (.getfield index, 3)) (kk : W p l e R s m args below meth c H locs cells slots Q (F0 m (pc + 3) ls (.ref (gc_a X (o + 1)) :: rest))) : W p l e R s m args below meth c H locs cells slots Q (F0 m pc ls (.ref (gc_a X o) :: rest)) :=
  va_get (D := X.1) (ci := 1) (C := na_le) (T := fi_le) (N := 4) hx hb hg la_le hown hK.1 G.1 o (gc_at3 ho) rfl 0 (by decide) hlink (fun _ h => h) rfl hdg kk
theorem gn_le_balances (hx : p.tables.exec = Jvm.exec) (hb : c.code = cc) (hg : ∀ w ∈ gw_w, w.before args s = true) {own host : String} (hown : s.vm.findClass own = some m.cls) {index : Nat} (hlink : (Cond.fieldLinkNest own index "AccountMachine$Ledger" "balances" "[I" host).before args s = true) (hK : gw_K X s) (G : gw_G X (gw_E X M Y) s H locs) {o : Nat} (ho : gc_k o = (3, 0)) (hdg : decode cc pc = .ok (.getfield index, 3)) (kk : W p l e R s m args below meth c H locs cells slots Q (F0 m (pc + 3) ls (.ref (gc_a X (o + 1)) :: rest))) : W p l e R s m args below meth c H locs cells slots Q (F0 m pc ls (.ref (gc_a X o) :: rest)) :=
  va_getN (D := X.1) (ci := 1) (C := na_le) (T := fi_le) (N := 4) hx hb hg la_le hown hK.1 G.1 o (gc_at3 ho) rfl 0 (by decide) hlink (fun _ h => h) rfl hdg kk
theorem gf_le_owners (hx : p.tables.exec = Jvm.exec) (hb : c.code = cc) (hg : ∀ w ∈ gw_w, w.before args s = true) {own : String} (hown : s.vm.findClass own = some m.cls) {index : Nat} (hlink : (Cond.fieldLink own index "AccountMachine$Ledger" "owners" "[I").before args s = true) (hK : gw_K X s) (G : gw_G X (gw_E X M Y) s H locs) {o : Nat} (ho : gc_k o = (3, 0)) (hdg : decode cc pc = .ok (.getfield index, 3)) (kk : W p l e R s m args below meth c H locs cells slots Q (F0 m (pc + 3) ls (.ref (gc_a X (o + 2)) :: rest))) : W p l e R s m args below meth c H locs cells slots Q (F0 m pc ls (.ref (gc_a X o) :: rest)) :=
  va_get (D := X.1) (ci := 1) (C := na_le) (T := fi_le) (N := 4) hx hb hg la_le hown hK.1 G.1 o (gc_at3 ho) rfl 1 (by decide) hlink (fun _ h => h) rfl hdg kk
theorem gn_le_owners (hx : p.tables.exec = Jvm.exec) (hb : c.code = cc) (hg : ∀ w ∈ gw_w, w.before args s = true) {own host : String} (hown : s.vm.findClass own = some m.cls) {index : Nat} (hlink : (Cond.fieldLinkNest own index "AccountMachine$Ledger" "owners" "[I" host).before args s = true) (hK : gw_K X s) (G : gw_G X (gw_E X M Y) s H locs) {o : Nat} (ho : gc_k o = (3, 0)) (hdg : decode cc pc = .ok (.getfield index, 3)) (kk : W p l e R s m args below meth c H locs cells slots Q (F0 m (pc + 3) ls (.ref (gc_a X (o + 2)) :: rest))) : W p l e R s m args below meth c H locs cells slots Q (F0 m pc ls (.ref (gc_a X o) :: rest)) :=
  va_getN (D := X.1) (ci := 1) (C := na_le) (T := fi_le) (N := 4) hx hb hg la_le hown hK.1 G.1 o (gc_at3 ho) rfl 1 (by decide) hlink (fun _ h => h) rfl hdg kk
theorem gf_le_sizes (hx : p.tables.exec = Jvm.exec) (hb : c.code = cc) (hg : ∀ w ∈ gw_w, w.before args s = true) {own : String} (hown : s.vm.findClass own = some m.cls) {index : Nat} (hlink : (Cond.fieldLink own index "AccountMachine$Ledger" "sizes" "[I").before args s = true) (hK : gw_K X s) (G : gw_G X (gw_E X M Y) s H locs) {o : Nat} (ho : gc_k o = (3, 0)) (hdg : decode cc pc = .ok (.getfield index, 3)) (kk : W p l e R s m args below meth c H locs cells slots Q (F0 m (pc + 3) ls (.ref (gc_a X (o + 3)) :: rest))) : W p l e R s m args below meth c H locs cells slots Q (F0 m pc ls (.ref (gc_a X o) :: rest)) :=
  va_get (D := X.1) (ci := 1) (C := na_le) (T := fi_le) (N := 4) hx hb hg la_le hown hK.1 G.1 o (gc_at3 ho) rfl 2 (by decide) hlink (fun _ h => h) rfl hdg kk
theorem gn_le_sizes (hx : p.tables.exec = Jvm.exec) (hb : c.code = cc) (hg : ∀ w ∈ gw_w, w.before args s = true) {own host : String} (hown : s.vm.findClass own = some m.cls) {index : Nat} (hlink : (Cond.fieldLinkNest own index "AccountMachine$Ledger" "sizes" "[I" host).before args s = true) (hK : gw_K X s) (G : gw_G X (gw_E X M Y) s H locs) {o : Nat} (ho : gc_k o = (3, 0)) (hdg : decode cc pc = .ok (.getfield index, 3)) (kk : W p l e R s m args below meth c H locs cells slots Q (F0 m (pc + 3) ls (.ref (gc_a X (o + 3)) :: rest))) : W p l e R s m args below meth c H locs cells slots Q (F0 m pc ls (.ref (gc_a X o) :: rest)) :=
  va_getN (D := X.1) (ci := 1) (C := na_le) (T := fi_le) (N := 4) hx hb hg la_le hown hK.1 G.1 o (gc_at3 ho) rfl 2 (by decide) hlink (fun _ h => h) rfl hdg kk
theorem gf_le_words (hx : p.tables.exec = Jvm.exec) (hb : c.code = cc) (hg : ∀ w ∈ gw_w, w.before args s = true) {own : String} (hown : s.vm.findClass own = some m.cls) {index : Nat} (hlink : (Cond.fieldLink own index "AccountMachine$Ledger" "words" "[I").before args s = true) (hK : gw_K X s) (G : gw_G X (gw_E X M Y) s H locs) {o : Nat} (ho : gc_k o = (3, 0)) (hdg : decode cc pc = .ok (.getfield index, 3)) (kk : W p l e R s m args below meth c H locs cells slots Q (F0 m (pc + 3) ls (.ref (gc_a X (o + 4)) :: rest))) : W p l e R s m args below meth c H locs cells slots Q (F0 m pc ls (.ref (gc_a X o) :: rest)) :=
  va_get (D := X.1) (ci := 1) (C := na_le) (T := fi_le) (N := 4) hx hb hg la_le hown hK.1 G.1 o (gc_at3 ho) rfl 3 (by decide) hlink (fun _ h => h) rfl hdg kk
theorem gn_le_words (hx : p.tables.exec = Jvm.exec) (hb : c.code = cc) (hg : ∀ w ∈ gw_w, w.before args s = true) {own host : String} (hown : s.vm.findClass own = some m.cls) {index : Nat} (hlink : (Cond.fieldLinkNest own index "AccountMachine$Ledger" "words" "[I" host).before args s = true) (hK : gw_K X s) (G : gw_G X (gw_E X M Y) s H locs) {o : Nat} (ho : gc_k o = (3, 0)) (hdg : decode cc pc = .ok (.getfield index, 3)) (kk : W p l e R s m args below meth c H locs cells slots Q (F0 m (pc + 3) ls (.ref (gc_a X (o + 4)) :: rest))) : W p l e R s m args below meth c H locs cells slots Q (F0 m pc ls (.ref (gc_a X o) :: rest)) :=
  va_getN (D := X.1) (ci := 1) (C := na_le) (T := fi_le) (N := 4) hx hb hg la_le hown hK.1 G.1 o (gc_at3 ho) rfl 3 (by decide) hlink (fun _ h => h) rfl hdg kk
theorem gw_recv_od (hK : gw_K X s) (G : gw_G X (gw_E X M Y) s H locs) {o : Nat} (ho : gc_k o = (4, 0)) : ∃ cell : Cell, H[gc_a X o]? = some cell ∧ cell.vm.isStatics = false ∧ s.vm.findClass na_od = some cell.cls := va_recv (q := (na_od, fi_od, 5)) hK.1 G.1 rfl (gc_at4 ho)
theorem gf_od_program (hx : p.tables.exec = Jvm.exec) (hb : c.code = cc) (hg : ∀ w ∈ gw_w, w.before args s = true) {own : String} (hown : s.vm.findClass own = some m.cls) {index : Nat} (hlink : (Cond.fieldLink own index "AccountMachine$Order" "program" "I").before args s = true) (hK : gw_K X s) (G : gw_G X (gw_E X M Y) s H locs) {o : Nat} (ho : gc_k o = (4, 0)) (hdg : decode cc pc = .ok (.getfield index, 3)) (kk : W p l e R s m args below meth c H locs cells slots Q (F0 m (pc + 3) ls (.int (M.1 o 0) :: rest))) : W p l e R s m args below meth c H locs cells slots Q (F0 m pc ls (.ref (gc_a X o) :: rest)) :=
  va_get (D := X.1) (ci := 2) (C := na_od) (T := fi_od) (N := 5) hx hb hg la_od hown hK.1 G.1 o (gc_at4 ho) rfl 0 (by decide) hlink (fun _ h => h) rfl hdg kk
theorem gn_od_program (hx : p.tables.exec = Jvm.exec) (hb : c.code = cc) (hg : ∀ w ∈ gw_w, w.before args s = true) {own host : String} (hown : s.vm.findClass own = some m.cls) {index : Nat} (hlink : (Cond.fieldLinkNest own index "AccountMachine$Order" "program" "I" host).before args s = true) (hK : gw_K X s) (G : gw_G X (gw_E X M Y) s H locs) {o : Nat} (ho : gc_k o = (4, 0)) (hdg : decode cc pc = .ok (.getfield index, 3)) (kk : W p l e R s m args below meth c H locs cells slots Q (F0 m (pc + 3) ls (.int (M.1 o 0) :: rest))) : W p l e R s m args below meth c H locs cells slots Q (F0 m pc ls (.ref (gc_a X o) :: rest)) :=
  va_getN (D := X.1) (ci := 2) (C := na_od) (T := fi_od) (N := 5) hx hb hg la_od hown hK.1 G.1 o (gc_at4 ho) rfl 0 (by decide) hlink (fun _ h => h) rfl hdg kk
theorem gp_od_program (hx : p.tables.exec = Jvm.exec) (hb : c.code = cc) (hg : ∀ w ∈ gw_w, w.before args s = true) {own : String} (hown : s.vm.findClass own = some m.cls) {index : Nat} (hlink : (Cond.fieldLink own index "AccountMachine$Order" "program" "I").before args s = true) (hK : gw_K X s) (G : gw_G X (gw_E X M Y) s H locs) {o : Nat} (ho : gc_k o = (4, 0)) {x : Int32} (hdg : decode cc pc = .ok (.putfield index, 3)) (kk : ∀ (M1 : gw_M) (H1 : Heap) (locs1 : List Loc), M1 = gw_sI M o 0 x → gw_G X (gw_E X M1 Y) s H1 locs1 → W p l e R s m args below meth c H1 locs1 cells slots Q (F0 m (pc + 3) ls rest)) : W p l e R s m args below meth c H locs cells slots Q (F0 m pc ls (.int x :: .ref (gc_a X o) :: rest)) := by
  have hset := gw_W_set (ad := X.2.1) (n := 100) (E := gw_E X M Y) (E1 := gw_E X (gw_sI M o 0 x) Y) (Nat.lt_trans (gc_lt ho (by decide)) (by decide)) (gc_E4 ho) (gw_E_setC gw_sI_1 gw_sI_2)
  rw [gw_sI_k] at hset
  exact va_put (D := X.1) (ci := 2) (ty := .int) (C := na_od) (T := fi_od) (N := 5) hx hb hg la_od ty_od tk_od ne_od hown hK.1 G.1 G.2.1 G.2.2 o (gc_at4 ho) rfl 0 (by decide) hlink (fun _ h => h) rfl (by decide +kernel) rfl rfl (Nat.le_of_ble_eq_true rfl) hdg (fun H1 locs1 hP hD hS => kk _ H1 locs1 rfl ⟨by rw [← hset]; exact hP, by rw [← hset]; exact hD, hS⟩)
theorem gm_od_program (hx : p.tables.exec = Jvm.exec) (hb : c.code = cc) (hg : ∀ w ∈ gw_w, w.before args s = true) {own host : String} (hown : s.vm.findClass own = some m.cls) {index : Nat} (hlink : (Cond.fieldLinkNest own index "AccountMachine$Order" "program" "I" host).before args s = true) (hK : gw_K X s) (G : gw_G X (gw_E X M Y) s H locs) {o : Nat} (ho : gc_k o = (4, 0)) {x : Int32} (hdg : decode cc pc = .ok (.putfield index, 3)) (kk : ∀ (M1 : gw_M) (H1 : Heap) (locs1 : List Loc), M1 = gw_sI M o 0 x → gw_G X (gw_E X M1 Y) s H1 locs1 → W p l e R s m args below meth c H1 locs1 cells slots Q (F0 m (pc + 3) ls rest)) : W p l e R s m args below meth c H locs cells slots Q (F0 m pc ls (.int x :: .ref (gc_a X o) :: rest)) := by
  have hset := gw_W_set (ad := X.2.1) (n := 100) (E := gw_E X M Y) (E1 := gw_E X (gw_sI M o 0 x) Y) (Nat.lt_trans (gc_lt ho (by decide)) (by decide)) (gc_E4 ho) (gw_E_setC gw_sI_1 gw_sI_2)
  rw [gw_sI_k] at hset
  exact va_putN (D := X.1) (ci := 2) (ty := .int) (C := na_od) (T := fi_od) (N := 5) hx hb hg la_od ty_od tk_od ne_od hown hK.1 G.1 G.2.1 G.2.2 o (gc_at4 ho) rfl 0 (by decide) hlink (fun _ h => h) rfl (by decide +kernel) rfl rfl (Nat.le_of_ble_eq_true rfl) hdg (fun H1 locs1 hP hD hS => kk _ H1 locs1 rfl ⟨by rw [← hset]; exact hP, by rw [← hset]; exact hD, hS⟩)
theorem gf_od_argument (hx : p.tables.exec = Jvm.exec) (hb : c.code = cc) (hg : ∀ w ∈ gw_w, w.before args s = true) {own : String} (hown : s.vm.findClass own = some m.cls) {index : Nat} (hlink : (Cond.fieldLink own index "AccountMachine$Order" "argument" "I").before args s = true) (hK : gw_K X s) (G : gw_G X (gw_E X M Y) s H locs) {o : Nat} (ho : gc_k o = (4, 0)) (hdg : decode cc pc = .ok (.getfield index, 3)) (kk : W p l e R s m args below meth c H locs cells slots Q (F0 m (pc + 3) ls (.int (M.1 o 1) :: rest))) : W p l e R s m args below meth c H locs cells slots Q (F0 m pc ls (.ref (gc_a X o) :: rest)) :=
  va_get (D := X.1) (ci := 2) (C := na_od) (T := fi_od) (N := 5) hx hb hg la_od hown hK.1 G.1 o (gc_at4 ho) rfl 1 (by decide) hlink (fun _ h => h) rfl hdg kk
theorem gn_od_argument (hx : p.tables.exec = Jvm.exec) (hb : c.code = cc) (hg : ∀ w ∈ gw_w, w.before args s = true) {own host : String} (hown : s.vm.findClass own = some m.cls) {index : Nat} (hlink : (Cond.fieldLinkNest own index "AccountMachine$Order" "argument" "I" host).before args s = true) (hK : gw_K X s) (G : gw_G X (gw_E X M Y) s H locs) {o : Nat} (ho : gc_k o = (4, 0)) (hdg : decode cc pc = .ok (.getfield index, 3)) (kk : W p l e R s m args below meth c H locs cells slots Q (F0 m (pc + 3) ls (.int (M.1 o 1) :: rest))) : W p l e R s m args below meth c H locs cells slots Q (F0 m pc ls (.ref (gc_a X o) :: rest)) :=
  va_getN (D := X.1) (ci := 2) (C := na_od) (T := fi_od) (N := 5) hx hb hg la_od hown hK.1 G.1 o (gc_at4 ho) rfl 1 (by decide) hlink (fun _ h => h) rfl hdg kk
theorem gp_od_argument (hx : p.tables.exec = Jvm.exec) (hb : c.code = cc) (hg : ∀ w ∈ gw_w, w.before args s = true) {own : String} (hown : s.vm.findClass own = some m.cls) {index : Nat} (hlink : (Cond.fieldLink own index "AccountMachine$Order" "argument" "I").before args s = true) (hK : gw_K X s) (G : gw_G X (gw_E X M Y) s H locs) {o : Nat} (ho : gc_k o = (4, 0)) {x : Int32} (hdg : decode cc pc = .ok (.putfield index, 3)) (kk : ∀ (M1 : gw_M) (H1 : Heap) (locs1 : List Loc), M1 = gw_sI M o 1 x → gw_G X (gw_E X M1 Y) s H1 locs1 → W p l e R s m args below meth c H1 locs1 cells slots Q (F0 m (pc + 3) ls rest)) : W p l e R s m args below meth c H locs cells slots Q (F0 m pc ls (.int x :: .ref (gc_a X o) :: rest)) := by
  have hset := gw_W_set (ad := X.2.1) (n := 100) (E := gw_E X M Y) (E1 := gw_E X (gw_sI M o 1 x) Y) (Nat.lt_trans (gc_lt ho (by decide)) (by decide)) (gc_E4 ho) (gw_E_setC gw_sI_1 gw_sI_2)
  rw [gw_sI_k] at hset
  exact va_put (D := X.1) (ci := 2) (ty := .int) (C := na_od) (T := fi_od) (N := 5) hx hb hg la_od ty_od tk_od ne_od hown hK.1 G.1 G.2.1 G.2.2 o (gc_at4 ho) rfl 1 (by decide) hlink (fun _ h => h) rfl (by decide +kernel) rfl rfl (Nat.le_of_ble_eq_true rfl) hdg (fun H1 locs1 hP hD hS => kk _ H1 locs1 rfl ⟨by rw [← hset]; exact hP, by rw [← hset]; exact hD, hS⟩)
theorem gm_od_argument (hx : p.tables.exec = Jvm.exec) (hb : c.code = cc) (hg : ∀ w ∈ gw_w, w.before args s = true) {own host : String} (hown : s.vm.findClass own = some m.cls) {index : Nat} (hlink : (Cond.fieldLinkNest own index "AccountMachine$Order" "argument" "I" host).before args s = true) (hK : gw_K X s) (G : gw_G X (gw_E X M Y) s H locs) {o : Nat} (ho : gc_k o = (4, 0)) {x : Int32} (hdg : decode cc pc = .ok (.putfield index, 3)) (kk : ∀ (M1 : gw_M) (H1 : Heap) (locs1 : List Loc), M1 = gw_sI M o 1 x → gw_G X (gw_E X M1 Y) s H1 locs1 → W p l e R s m args below meth c H1 locs1 cells slots Q (F0 m (pc + 3) ls rest)) : W p l e R s m args below meth c H locs cells slots Q (F0 m pc ls (.int x :: .ref (gc_a X o) :: rest)) := by
  have hset := gw_W_set (ad := X.2.1) (n := 100) (E := gw_E X M Y) (E1 := gw_E X (gw_sI M o 1 x) Y) (Nat.lt_trans (gc_lt ho (by decide)) (by decide)) (gc_E4 ho) (gw_E_setC gw_sI_1 gw_sI_2)
  rw [gw_sI_k] at hset
  exact va_putN (D := X.1) (ci := 2) (ty := .int) (C := na_od) (T := fi_od) (N := 5) hx hb hg la_od ty_od tk_od ne_od hown hK.1 G.1 G.2.1 G.2.2 o (gc_at4 ho) rfl 1 (by decide) hlink (fun _ h => h) rfl (by decide +kernel) rfl rfl (Nat.le_of_ble_eq_true rfl) hdg (fun H1 locs1 hP hD hS => kk _ H1 locs1 rfl ⟨by rw [← hset]; exact hP, by rw [← hset]; exact hD, hS⟩)
theorem gf_od_count (hx : p.tables.exec = Jvm.exec) (hb : c.code = cc) (hg : ∀ w ∈ gw_w, w.before args s = true) {own : String} (hown : s.vm.findClass own = some m.cls) {index : Nat} (hlink : (Cond.fieldLink own index "AccountMachine$Order" "count" "I").before args s = true) (hK : gw_K X s) (G : gw_G X (gw_E X M Y) s H locs) {o : Nat} (ho : gc_k o = (4, 0)) (hdg : decode cc pc = .ok (.getfield index, 3)) (kk : W p l e R s m args below meth c H locs cells slots Q (F0 m (pc + 3) ls (.int (M.1 o 2) :: rest))) : W p l e R s m args below meth c H locs cells slots Q (F0 m pc ls (.ref (gc_a X o) :: rest)) :=
  va_get (D := X.1) (ci := 2) (C := na_od) (T := fi_od) (N := 5) hx hb hg la_od hown hK.1 G.1 o (gc_at4 ho) rfl 2 (by decide) hlink (fun _ h => h) rfl hdg kk
theorem gn_od_count (hx : p.tables.exec = Jvm.exec) (hb : c.code = cc) (hg : ∀ w ∈ gw_w, w.before args s = true) {own host : String} (hown : s.vm.findClass own = some m.cls) {index : Nat} (hlink : (Cond.fieldLinkNest own index "AccountMachine$Order" "count" "I" host).before args s = true) (hK : gw_K X s) (G : gw_G X (gw_E X M Y) s H locs) {o : Nat} (ho : gc_k o = (4, 0)) (hdg : decode cc pc = .ok (.getfield index, 3)) (kk : W p l e R s m args below meth c H locs cells slots Q (F0 m (pc + 3) ls (.int (M.1 o 2) :: rest))) : W p l e R s m args below meth c H locs cells slots Q (F0 m pc ls (.ref (gc_a X o) :: rest)) :=
  va_getN (D := X.1) (ci := 2) (C := na_od) (T := fi_od) (N := 5) hx hb hg la_od hown hK.1 G.1 o (gc_at4 ho) rfl 2 (by decide) hlink (fun _ h => h) rfl hdg kk
theorem gp_od_count (hx : p.tables.exec = Jvm.exec) (hb : c.code = cc) (hg : ∀ w ∈ gw_w, w.before args s = true) {own : String} (hown : s.vm.findClass own = some m.cls) {index : Nat} (hlink : (Cond.fieldLink own index "AccountMachine$Order" "count" "I").before args s = true) (hK : gw_K X s) (G : gw_G X (gw_E X M Y) s H locs) {o : Nat} (ho : gc_k o = (4, 0)) {x : Int32} (hdg : decode cc pc = .ok (.putfield index, 3)) (kk : ∀ (M1 : gw_M) (H1 : Heap) (locs1 : List Loc), M1 = gw_sI M o 2 x → gw_G X (gw_E X M1 Y) s H1 locs1 → W p l e R s m args below meth c H1 locs1 cells slots Q (F0 m (pc + 3) ls rest)) : W p l e R s m args below meth c H locs cells slots Q (F0 m pc ls (.int x :: .ref (gc_a X o) :: rest)) := by
  have hset := gw_W_set (ad := X.2.1) (n := 100) (E := gw_E X M Y) (E1 := gw_E X (gw_sI M o 2 x) Y) (Nat.lt_trans (gc_lt ho (by decide)) (by decide)) (gc_E4 ho) (gw_E_setC gw_sI_1 gw_sI_2)
  rw [gw_sI_k] at hset
  exact va_put (D := X.1) (ci := 2) (ty := .int) (C := na_od) (T := fi_od) (N := 5) hx hb hg la_od ty_od tk_od ne_od hown hK.1 G.1 G.2.1 G.2.2 o (gc_at4 ho) rfl 2 (by decide) hlink (fun _ h => h) rfl (by decide +kernel) rfl rfl (Nat.le_of_ble_eq_true rfl) hdg (fun H1 locs1 hP hD hS => kk _ H1 locs1 rfl ⟨by rw [← hset]; exact hP, by rw [← hset]; exact hD, hS⟩)
theorem gm_od_count (hx : p.tables.exec = Jvm.exec) (hb : c.code = cc) (hg : ∀ w ∈ gw_w, w.before args s = true) {own host : String} (hown : s.vm.findClass own = some m.cls) {index : Nat} (hlink : (Cond.fieldLinkNest own index "AccountMachine$Order" "count" "I" host).before args s = true) (hK : gw_K X s) (G : gw_G X (gw_E X M Y) s H locs) {o : Nat} (ho : gc_k o = (4, 0)) {x : Int32} (hdg : decode cc pc = .ok (.putfield index, 3)) (kk : ∀ (M1 : gw_M) (H1 : Heap) (locs1 : List Loc), M1 = gw_sI M o 2 x → gw_G X (gw_E X M1 Y) s H1 locs1 → W p l e R s m args below meth c H1 locs1 cells slots Q (F0 m (pc + 3) ls rest)) : W p l e R s m args below meth c H locs cells slots Q (F0 m pc ls (.int x :: .ref (gc_a X o) :: rest)) := by
  have hset := gw_W_set (ad := X.2.1) (n := 100) (E := gw_E X M Y) (E1 := gw_E X (gw_sI M o 2 x) Y) (Nat.lt_trans (gc_lt ho (by decide)) (by decide)) (gc_E4 ho) (gw_E_setC gw_sI_1 gw_sI_2)
  rw [gw_sI_k] at hset
  exact va_putN (D := X.1) (ci := 2) (ty := .int) (C := na_od) (T := fi_od) (N := 5) hx hb hg la_od ty_od tk_od ne_od hown hK.1 G.1 G.2.1 G.2.2 o (gc_at4 ho) rfl 2 (by decide) hlink (fun _ h => h) rfl (by decide +kernel) rfl rfl (Nat.le_of_ble_eq_true rfl) hdg (fun H1 locs1 hP hD hS => kk _ H1 locs1 rfl ⟨by rw [← hset]; exact hP, by rw [← hset]; exact hD, hS⟩)
theorem gf_od_accounts (hx : p.tables.exec = Jvm.exec) (hb : c.code = cc) (hg : ∀ w ∈ gw_w, w.before args s = true) {own : String} (hown : s.vm.findClass own = some m.cls) {index : Nat} (hlink : (Cond.fieldLink own index "AccountMachine$Order" "accounts" "[I").before args s = true) (hK : gw_K X s) (G : gw_G X (gw_E X M Y) s H locs) {o : Nat} (ho : gc_k o = (4, 0)) (hdg : decode cc pc = .ok (.getfield index, 3)) (kk : W p l e R s m args below meth c H locs cells slots Q (F0 m (pc + 3) ls (.ref (gc_a X (o + 1)) :: rest))) : W p l e R s m args below meth c H locs cells slots Q (F0 m pc ls (.ref (gc_a X o) :: rest)) :=
  va_get (D := X.1) (ci := 2) (C := na_od) (T := fi_od) (N := 5) hx hb hg la_od hown hK.1 G.1 o (gc_at4 ho) rfl 3 (by decide) hlink (fun _ h => h) rfl hdg kk
theorem gn_od_accounts (hx : p.tables.exec = Jvm.exec) (hb : c.code = cc) (hg : ∀ w ∈ gw_w, w.before args s = true) {own host : String} (hown : s.vm.findClass own = some m.cls) {index : Nat} (hlink : (Cond.fieldLinkNest own index "AccountMachine$Order" "accounts" "[I" host).before args s = true) (hK : gw_K X s) (G : gw_G X (gw_E X M Y) s H locs) {o : Nat} (ho : gc_k o = (4, 0)) (hdg : decode cc pc = .ok (.getfield index, 3)) (kk : W p l e R s m args below meth c H locs cells slots Q (F0 m (pc + 3) ls (.ref (gc_a X (o + 1)) :: rest))) : W p l e R s m args below meth c H locs cells slots Q (F0 m pc ls (.ref (gc_a X o) :: rest)) :=
  va_getN (D := X.1) (ci := 2) (C := na_od) (T := fi_od) (N := 5) hx hb hg la_od hown hK.1 G.1 o (gc_at4 ho) rfl 3 (by decide) hlink (fun _ h => h) rfl hdg kk
theorem gf_od_marks (hx : p.tables.exec = Jvm.exec) (hb : c.code = cc) (hg : ∀ w ∈ gw_w, w.before args s = true) {own : String} (hown : s.vm.findClass own = some m.cls) {index : Nat} (hlink : (Cond.fieldLink own index "AccountMachine$Order" "marks" "[I").before args s = true) (hK : gw_K X s) (G : gw_G X (gw_E X M Y) s H locs) {o : Nat} (ho : gc_k o = (4, 0)) (hdg : decode cc pc = .ok (.getfield index, 3)) (kk : W p l e R s m args below meth c H locs cells slots Q (F0 m (pc + 3) ls (.ref (gc_a X (o + 2)) :: rest))) : W p l e R s m args below meth c H locs cells slots Q (F0 m pc ls (.ref (gc_a X o) :: rest)) :=
  va_get (D := X.1) (ci := 2) (C := na_od) (T := fi_od) (N := 5) hx hb hg la_od hown hK.1 G.1 o (gc_at4 ho) rfl 4 (by decide) hlink (fun _ h => h) rfl hdg kk
theorem gn_od_marks (hx : p.tables.exec = Jvm.exec) (hb : c.code = cc) (hg : ∀ w ∈ gw_w, w.before args s = true) {own host : String} (hown : s.vm.findClass own = some m.cls) {index : Nat} (hlink : (Cond.fieldLinkNest own index "AccountMachine$Order" "marks" "[I" host).before args s = true) (hK : gw_K X s) (G : gw_G X (gw_E X M Y) s H locs) {o : Nat} (ho : gc_k o = (4, 0)) (hdg : decode cc pc = .ok (.getfield index, 3)) (kk : W p l e R s m args below meth c H locs cells slots Q (F0 m (pc + 3) ls (.ref (gc_a X (o + 2)) :: rest))) : W p l e R s m args below meth c H locs cells slots Q (F0 m pc ls (.ref (gc_a X o) :: rest)) :=
  va_getN (D := X.1) (ci := 2) (C := na_od) (T := fi_od) (N := 5) hx hb hg la_od hown hK.1 G.1 o (gc_at4 ho) rfl 4 (by decide) hlink (fun _ h => h) rfl hdg kk
theorem gw_recv_pr (hK : gw_K X s) (G : gw_G X (gw_E X M Y) s H locs) {o : Nat} (ho : gc_k o = (5, 0)) : ∃ cell : Cell, H[gc_a X o]? = some cell ∧ cell.vm.isStatics = false ∧ s.vm.findClass na_pr = some cell.cls := va_recv (q := (na_pr, fi_pr, 7)) hK.1 G.1 rfl (gc_at5 ho)
theorem gf_pr_kinds (hx : p.tables.exec = Jvm.exec) (hb : c.code = cc) (hg : ∀ w ∈ gw_w, w.before args s = true) {own : String} (hown : s.vm.findClass own = some m.cls) {index : Nat} (hlink : (Cond.fieldLink own index "AccountMachine$Program" "kinds" "[I").before args s = true) (hK : gw_K X s) (G : gw_G X (gw_E X M Y) s H locs) {o : Nat} (ho : gc_k o = (5, 0)) (hdg : decode cc pc = .ok (.getfield index, 3)) (kk : W p l e R s m args below meth c H locs cells slots Q (F0 m (pc + 3) ls (.ref (gc_a X (o + 1)) :: rest))) : W p l e R s m args below meth c H locs cells slots Q (F0 m pc ls (.ref (gc_a X o) :: rest)) :=
  va_get (D := X.1) (ci := 3) (C := na_pr) (T := fi_pr) (N := 7) hx hb hg la_pr hown hK.1 G.1 o (gc_at5 ho) rfl 0 (by decide) hlink (fun _ h => h) rfl hdg kk
theorem gn_pr_kinds (hx : p.tables.exec = Jvm.exec) (hb : c.code = cc) (hg : ∀ w ∈ gw_w, w.before args s = true) {own host : String} (hown : s.vm.findClass own = some m.cls) {index : Nat} (hlink : (Cond.fieldLinkNest own index "AccountMachine$Program" "kinds" "[I" host).before args s = true) (hK : gw_K X s) (G : gw_G X (gw_E X M Y) s H locs) {o : Nat} (ho : gc_k o = (5, 0)) (hdg : decode cc pc = .ok (.getfield index, 3)) (kk : W p l e R s m args below meth c H locs cells slots Q (F0 m (pc + 3) ls (.ref (gc_a X (o + 1)) :: rest))) : W p l e R s m args below meth c H locs cells slots Q (F0 m pc ls (.ref (gc_a X o) :: rest)) :=
  va_getN (D := X.1) (ci := 3) (C := na_pr) (T := fi_pr) (N := 7) hx hb hg la_pr hown hK.1 G.1 o (gc_at5 ho) rfl 0 (by decide) hlink (fun _ h => h) rfl hdg kk
theorem gf_pr_targets (hx : p.tables.exec = Jvm.exec) (hb : c.code = cc) (hg : ∀ w ∈ gw_w, w.before args s = true) {own : String} (hown : s.vm.findClass own = some m.cls) {index : Nat} (hlink : (Cond.fieldLink own index "AccountMachine$Program" "targets" "[I").before args s = true) (hK : gw_K X s) (G : gw_G X (gw_E X M Y) s H locs) {o : Nat} (ho : gc_k o = (5, 0)) (hdg : decode cc pc = .ok (.getfield index, 3)) (kk : W p l e R s m args below meth c H locs cells slots Q (F0 m (pc + 3) ls (.ref (gc_a X (o + 2)) :: rest))) : W p l e R s m args below meth c H locs cells slots Q (F0 m pc ls (.ref (gc_a X o) :: rest)) :=
  va_get (D := X.1) (ci := 3) (C := na_pr) (T := fi_pr) (N := 7) hx hb hg la_pr hown hK.1 G.1 o (gc_at5 ho) rfl 1 (by decide) hlink (fun _ h => h) rfl hdg kk
theorem gn_pr_targets (hx : p.tables.exec = Jvm.exec) (hb : c.code = cc) (hg : ∀ w ∈ gw_w, w.before args s = true) {own host : String} (hown : s.vm.findClass own = some m.cls) {index : Nat} (hlink : (Cond.fieldLinkNest own index "AccountMachine$Program" "targets" "[I" host).before args s = true) (hK : gw_K X s) (G : gw_G X (gw_E X M Y) s H locs) {o : Nat} (ho : gc_k o = (5, 0)) (hdg : decode cc pc = .ok (.getfield index, 3)) (kk : W p l e R s m args below meth c H locs cells slots Q (F0 m (pc + 3) ls (.ref (gc_a X (o + 2)) :: rest))) : W p l e R s m args below meth c H locs cells slots Q (F0 m pc ls (.ref (gc_a X o) :: rest)) :=
  va_getN (D := X.1) (ci := 3) (C := na_pr) (T := fi_pr) (N := 7) hx hb hg la_pr hown hK.1 G.1 o (gc_at5 ho) rfl 1 (by decide) hlink (fun _ h => h) rfl hdg kk
theorem gf_pr_sources (hx : p.tables.exec = Jvm.exec) (hb : c.code = cc) (hg : ∀ w ∈ gw_w, w.before args s = true) {own : String} (hown : s.vm.findClass own = some m.cls) {index : Nat} (hlink : (Cond.fieldLink own index "AccountMachine$Program" "sources" "[I").before args s = true) (hK : gw_K X s) (G : gw_G X (gw_E X M Y) s H locs) {o : Nat} (ho : gc_k o = (5, 0)) (hdg : decode cc pc = .ok (.getfield index, 3)) (kk : W p l e R s m args below meth c H locs cells slots Q (F0 m (pc + 3) ls (.ref (gc_a X (o + 3)) :: rest))) : W p l e R s m args below meth c H locs cells slots Q (F0 m pc ls (.ref (gc_a X o) :: rest)) :=
  va_get (D := X.1) (ci := 3) (C := na_pr) (T := fi_pr) (N := 7) hx hb hg la_pr hown hK.1 G.1 o (gc_at5 ho) rfl 2 (by decide) hlink (fun _ h => h) rfl hdg kk
theorem gn_pr_sources (hx : p.tables.exec = Jvm.exec) (hb : c.code = cc) (hg : ∀ w ∈ gw_w, w.before args s = true) {own host : String} (hown : s.vm.findClass own = some m.cls) {index : Nat} (hlink : (Cond.fieldLinkNest own index "AccountMachine$Program" "sources" "[I" host).before args s = true) (hK : gw_K X s) (G : gw_G X (gw_E X M Y) s H locs) {o : Nat} (ho : gc_k o = (5, 0)) (hdg : decode cc pc = .ok (.getfield index, 3)) (kk : W p l e R s m args below meth c H locs cells slots Q (F0 m (pc + 3) ls (.ref (gc_a X (o + 3)) :: rest))) : W p l e R s m args below meth c H locs cells slots Q (F0 m pc ls (.ref (gc_a X o) :: rest)) :=
  va_getN (D := X.1) (ci := 3) (C := na_pr) (T := fi_pr) (N := 7) hx hb hg la_pr hown hK.1 G.1 o (gc_at5 ho) rfl 2 (by decide) hlink (fun _ h => h) rfl hdg kk
theorem gf_pr_offsets (hx : p.tables.exec = Jvm.exec) (hb : c.code = cc) (hg : ∀ w ∈ gw_w, w.before args s = true) {own : String} (hown : s.vm.findClass own = some m.cls) {index : Nat} (hlink : (Cond.fieldLink own index "AccountMachine$Program" "offsets" "[I").before args s = true) (hK : gw_K X s) (G : gw_G X (gw_E X M Y) s H locs) {o : Nat} (ho : gc_k o = (5, 0)) (hdg : decode cc pc = .ok (.getfield index, 3)) (kk : W p l e R s m args below meth c H locs cells slots Q (F0 m (pc + 3) ls (.ref (gc_a X (o + 4)) :: rest))) : W p l e R s m args below meth c H locs cells slots Q (F0 m pc ls (.ref (gc_a X o) :: rest)) :=
  va_get (D := X.1) (ci := 3) (C := na_pr) (T := fi_pr) (N := 7) hx hb hg la_pr hown hK.1 G.1 o (gc_at5 ho) rfl 3 (by decide) hlink (fun _ h => h) rfl hdg kk
theorem gn_pr_offsets (hx : p.tables.exec = Jvm.exec) (hb : c.code = cc) (hg : ∀ w ∈ gw_w, w.before args s = true) {own host : String} (hown : s.vm.findClass own = some m.cls) {index : Nat} (hlink : (Cond.fieldLinkNest own index "AccountMachine$Program" "offsets" "[I" host).before args s = true) (hK : gw_K X s) (G : gw_G X (gw_E X M Y) s H locs) {o : Nat} (ho : gc_k o = (5, 0)) (hdg : decode cc pc = .ok (.getfield index, 3)) (kk : W p l e R s m args below meth c H locs cells slots Q (F0 m (pc + 3) ls (.ref (gc_a X (o + 4)) :: rest))) : W p l e R s m args below meth c H locs cells slots Q (F0 m pc ls (.ref (gc_a X o) :: rest)) :=
  va_getN (D := X.1) (ci := 3) (C := na_pr) (T := fi_pr) (N := 7) hx hb hg la_pr hown hK.1 G.1 o (gc_at5 ho) rfl 3 (by decide) hlink (fun _ h => h) rfl hdg kk
theorem gf_pr_numbers (hx : p.tables.exec = Jvm.exec) (hb : c.code = cc) (hg : ∀ w ∈ gw_w, w.before args s = true) {own : String} (hown : s.vm.findClass own = some m.cls) {index : Nat} (hlink : (Cond.fieldLink own index "AccountMachine$Program" "numbers" "[I").before args s = true) (hK : gw_K X s) (G : gw_G X (gw_E X M Y) s H locs) {o : Nat} (ho : gc_k o = (5, 0)) (hdg : decode cc pc = .ok (.getfield index, 3)) (kk : W p l e R s m args below meth c H locs cells slots Q (F0 m (pc + 3) ls (.ref (gc_a X (o + 5)) :: rest))) : W p l e R s m args below meth c H locs cells slots Q (F0 m pc ls (.ref (gc_a X o) :: rest)) :=
  va_get (D := X.1) (ci := 3) (C := na_pr) (T := fi_pr) (N := 7) hx hb hg la_pr hown hK.1 G.1 o (gc_at5 ho) rfl 4 (by decide) hlink (fun _ h => h) rfl hdg kk
theorem gn_pr_numbers (hx : p.tables.exec = Jvm.exec) (hb : c.code = cc) (hg : ∀ w ∈ gw_w, w.before args s = true) {own host : String} (hown : s.vm.findClass own = some m.cls) {index : Nat} (hlink : (Cond.fieldLinkNest own index "AccountMachine$Program" "numbers" "[I" host).before args s = true) (hK : gw_K X s) (G : gw_G X (gw_E X M Y) s H locs) {o : Nat} (ho : gc_k o = (5, 0)) (hdg : decode cc pc = .ok (.getfield index, 3)) (kk : W p l e R s m args below meth c H locs cells slots Q (F0 m (pc + 3) ls (.ref (gc_a X (o + 5)) :: rest))) : W p l e R s m args below meth c H locs cells slots Q (F0 m pc ls (.ref (gc_a X o) :: rest)) :=
  va_getN (D := X.1) (ci := 3) (C := na_pr) (T := fi_pr) (N := 7) hx hb hg la_pr hown hK.1 G.1 o (gc_at5 ho) rfl 4 (by decide) hlink (fun _ h => h) rfl hdg kk
theorem gf_pr_count (hx : p.tables.exec = Jvm.exec) (hb : c.code = cc) (hg : ∀ w ∈ gw_w, w.before args s = true) {own : String} (hown : s.vm.findClass own = some m.cls) {index : Nat} (hlink : (Cond.fieldLink own index "AccountMachine$Program" "count" "I").before args s = true) (hK : gw_K X s) (G : gw_G X (gw_E X M Y) s H locs) {o : Nat} (ho : gc_k o = (5, 0)) (hdg : decode cc pc = .ok (.getfield index, 3)) (kk : W p l e R s m args below meth c H locs cells slots Q (F0 m (pc + 3) ls (.int (M.1 o 5) :: rest))) : W p l e R s m args below meth c H locs cells slots Q (F0 m pc ls (.ref (gc_a X o) :: rest)) :=
  va_get (D := X.1) (ci := 3) (C := na_pr) (T := fi_pr) (N := 7) hx hb hg la_pr hown hK.1 G.1 o (gc_at5 ho) rfl 5 (by decide) hlink (fun _ h => h) rfl hdg kk
theorem gn_pr_count (hx : p.tables.exec = Jvm.exec) (hb : c.code = cc) (hg : ∀ w ∈ gw_w, w.before args s = true) {own host : String} (hown : s.vm.findClass own = some m.cls) {index : Nat} (hlink : (Cond.fieldLinkNest own index "AccountMachine$Program" "count" "I" host).before args s = true) (hK : gw_K X s) (G : gw_G X (gw_E X M Y) s H locs) {o : Nat} (ho : gc_k o = (5, 0)) (hdg : decode cc pc = .ok (.getfield index, 3)) (kk : W p l e R s m args below meth c H locs cells slots Q (F0 m (pc + 3) ls (.int (M.1 o 5) :: rest))) : W p l e R s m args below meth c H locs cells slots Q (F0 m pc ls (.ref (gc_a X o) :: rest)) :=
  va_getN (D := X.1) (ci := 3) (C := na_pr) (T := fi_pr) (N := 7) hx hb hg la_pr hown hK.1 G.1 o (gc_at5 ho) rfl 5 (by decide) hlink (fun _ h => h) rfl hdg kk
theorem gp_pr_count (hx : p.tables.exec = Jvm.exec) (hb : c.code = cc) (hg : ∀ w ∈ gw_w, w.before args s = true) {own : String} (hown : s.vm.findClass own = some m.cls) {index : Nat} (hlink : (Cond.fieldLink own index "AccountMachine$Program" "count" "I").before args s = true) (hK : gw_K X s) (G : gw_G X (gw_E X M Y) s H locs) {o : Nat} (ho : gc_k o = (5, 0)) {x : Int32} (hdg : decode cc pc = .ok (.putfield index, 3)) (kk : ∀ (M1 : gw_M) (H1 : Heap) (locs1 : List Loc), M1 = gw_sI M o 5 x → gw_G X (gw_E X M1 Y) s H1 locs1 → W p l e R s m args below meth c H1 locs1 cells slots Q (F0 m (pc + 3) ls rest)) : W p l e R s m args below meth c H locs cells slots Q (F0 m pc ls (.int x :: .ref (gc_a X o) :: rest)) := by
  have hset := gw_W_set (ad := X.2.1) (n := 100) (E := gw_E X M Y) (E1 := gw_E X (gw_sI M o 5 x) Y) (Nat.lt_trans (gc_lt ho (by decide)) (by decide)) (gc_E5 ho) (gw_E_setC gw_sI_1 gw_sI_2)
  rw [gw_sI_k] at hset
  exact va_put (D := X.1) (ci := 3) (ty := .int) (C := na_pr) (T := fi_pr) (N := 7) hx hb hg la_pr ty_pr tk_pr ne_pr hown hK.1 G.1 G.2.1 G.2.2 o (gc_at5 ho) rfl 5 (by decide) hlink (fun _ h => h) rfl (by decide +kernel) rfl rfl (Nat.le_of_ble_eq_true rfl) hdg (fun H1 locs1 hP hD hS => kk _ H1 locs1 rfl ⟨by rw [← hset]; exact hP, by rw [← hset]; exact hD, hS⟩)
theorem gm_pr_count (hx : p.tables.exec = Jvm.exec) (hb : c.code = cc) (hg : ∀ w ∈ gw_w, w.before args s = true) {own host : String} (hown : s.vm.findClass own = some m.cls) {index : Nat} (hlink : (Cond.fieldLinkNest own index "AccountMachine$Program" "count" "I" host).before args s = true) (hK : gw_K X s) (G : gw_G X (gw_E X M Y) s H locs) {o : Nat} (ho : gc_k o = (5, 0)) {x : Int32} (hdg : decode cc pc = .ok (.putfield index, 3)) (kk : ∀ (M1 : gw_M) (H1 : Heap) (locs1 : List Loc), M1 = gw_sI M o 5 x → gw_G X (gw_E X M1 Y) s H1 locs1 → W p l e R s m args below meth c H1 locs1 cells slots Q (F0 m (pc + 3) ls rest)) : W p l e R s m args below meth c H locs cells slots Q (F0 m pc ls (.int x :: .ref (gc_a X o) :: rest)) := by
  have hset := gw_W_set (ad := X.2.1) (n := 100) (E := gw_E X M Y) (E1 := gw_E X (gw_sI M o 5 x) Y) (Nat.lt_trans (gc_lt ho (by decide)) (by decide)) (gc_E5 ho) (gw_E_setC gw_sI_1 gw_sI_2)
  rw [gw_sI_k] at hset
  exact va_putN (D := X.1) (ci := 3) (ty := .int) (C := na_pr) (T := fi_pr) (N := 7) hx hb hg la_pr ty_pr tk_pr ne_pr hown hK.1 G.1 G.2.1 G.2.2 o (gc_at5 ho) rfl 5 (by decide) hlink (fun _ h => h) rfl (by decide +kernel) rfl rfl (Nat.le_of_ble_eq_true rfl) hdg (fun H1 locs1 hP hD hS => kk _ H1 locs1 rfl ⟨by rw [← hset]; exact hP, by rw [← hset]; exact hD, hS⟩)
theorem gf_pr_sound (hx : p.tables.exec = Jvm.exec) (hb : c.code = cc) (hg : ∀ w ∈ gw_w, w.before args s = true) {own : String} (hown : s.vm.findClass own = some m.cls) {index : Nat} (hlink : (Cond.fieldLink own index "AccountMachine$Program" "sound" "Z").before args s = true) (hK : gw_K X s) (G : gw_G X (gw_E X M Y) s H locs) {o : Nat} (ho : gc_k o = (5, 0)) (hdg : decode cc pc = .ok (.getfield index, 3)) (kk : W p l e R s m args below meth c H locs cells slots Q (F0 m (pc + 3) ls (.int (M.1 o 6) :: rest))) : W p l e R s m args below meth c H locs cells slots Q (F0 m pc ls (.ref (gc_a X o) :: rest)) :=
  va_get (D := X.1) (ci := 3) (C := na_pr) (T := fi_pr) (N := 7) hx hb hg la_pr hown hK.1 G.1 o (gc_at5 ho) rfl 6 (by decide) hlink (fun _ h => h) rfl hdg kk
theorem gn_pr_sound (hx : p.tables.exec = Jvm.exec) (hb : c.code = cc) (hg : ∀ w ∈ gw_w, w.before args s = true) {own host : String} (hown : s.vm.findClass own = some m.cls) {index : Nat} (hlink : (Cond.fieldLinkNest own index "AccountMachine$Program" "sound" "Z" host).before args s = true) (hK : gw_K X s) (G : gw_G X (gw_E X M Y) s H locs) {o : Nat} (ho : gc_k o = (5, 0)) (hdg : decode cc pc = .ok (.getfield index, 3)) (kk : W p l e R s m args below meth c H locs cells slots Q (F0 m (pc + 3) ls (.int (M.1 o 6) :: rest))) : W p l e R s m args below meth c H locs cells slots Q (F0 m pc ls (.ref (gc_a X o) :: rest)) :=
  va_getN (D := X.1) (ci := 3) (C := na_pr) (T := fi_pr) (N := 7) hx hb hg la_pr hown hK.1 G.1 o (gc_at5 ho) rfl 6 (by decide) hlink (fun _ h => h) rfl hdg kk
theorem gp_pr_sound (hx : p.tables.exec = Jvm.exec) (hb : c.code = cc) (hg : ∀ w ∈ gw_w, w.before args s = true) {own : String} (hown : s.vm.findClass own = some m.cls) {index : Nat} (hlink : (Cond.fieldLink own index "AccountMachine$Program" "sound" "Z").before args s = true) (hK : gw_K X s) (G : gw_G X (gw_E X M Y) s H locs) {o : Nat} (ho : gc_k o = (5, 0)) {x : Int32} (hn : narrow .boolean (.int x) = .int x) (hf : fits .boolean (.int x) = true) (hdg : decode cc pc = .ok (.putfield index, 3)) (kk : ∀ (M1 : gw_M) (H1 : Heap) (locs1 : List Loc), M1 = gw_sI M o 6 x → gw_G X (gw_E X M1 Y) s H1 locs1 → W p l e R s m args below meth c H1 locs1 cells slots Q (F0 m (pc + 3) ls rest)) : W p l e R s m args below meth c H locs cells slots Q (F0 m pc ls (.int x :: .ref (gc_a X o) :: rest)) := by
  have hset := gw_W_set (ad := X.2.1) (n := 100) (E := gw_E X M Y) (E1 := gw_E X (gw_sI M o 6 x) Y) (Nat.lt_trans (gc_lt ho (by decide)) (by decide)) (gc_E5 ho) (gw_E_setC gw_sI_1 gw_sI_2)
  rw [gw_sI_k] at hset
  exact va_put (D := X.1) (ci := 3) (ty := .boolean) (C := na_pr) (T := fi_pr) (N := 7) hx hb hg la_pr ty_pr tk_pr ne_pr hown hK.1 G.1 G.2.1 G.2.2 o (gc_at5 ho) rfl 6 (by decide) hlink (fun _ h => h) rfl (by decide +kernel) hn hf (Nat.le_of_ble_eq_true rfl) hdg (fun H1 locs1 hP hD hS => kk _ H1 locs1 rfl ⟨by rw [← hset]; exact hP, by rw [← hset]; exact hD, hS⟩)
theorem gm_pr_sound (hx : p.tables.exec = Jvm.exec) (hb : c.code = cc) (hg : ∀ w ∈ gw_w, w.before args s = true) {own host : String} (hown : s.vm.findClass own = some m.cls) {index : Nat} (hlink : (Cond.fieldLinkNest own index "AccountMachine$Program" "sound" "Z" host).before args s = true) (hK : gw_K X s) (G : gw_G X (gw_E X M Y) s H locs) {o : Nat} (ho : gc_k o = (5, 0)) {x : Int32} (hn : narrow .boolean (.int x) = .int x) (hf : fits .boolean (.int x) = true) (hdg : decode cc pc = .ok (.putfield index, 3)) (kk : ∀ (M1 : gw_M) (H1 : Heap) (locs1 : List Loc), M1 = gw_sI M o 6 x → gw_G X (gw_E X M1 Y) s H1 locs1 → W p l e R s m args below meth c H1 locs1 cells slots Q (F0 m (pc + 3) ls rest)) : W p l e R s m args below meth c H locs cells slots Q (F0 m pc ls (.int x :: .ref (gc_a X o) :: rest)) := by
  have hset := gw_W_set (ad := X.2.1) (n := 100) (E := gw_E X M Y) (E1 := gw_E X (gw_sI M o 6 x) Y) (Nat.lt_trans (gc_lt ho (by decide)) (by decide)) (gc_E5 ho) (gw_E_setC gw_sI_1 gw_sI_2)
  rw [gw_sI_k] at hset
  exact va_putN (D := X.1) (ci := 3) (ty := .boolean) (C := na_pr) (T := fi_pr) (N := 7) hx hb hg la_pr ty_pr tk_pr ne_pr hown hK.1 G.1 G.2.1 G.2.2 o (gc_at5 ho) rfl 6 (by decide) hlink (fun _ h => h) rfl (by decide +kernel) hn hf (Nat.le_of_ble_eq_true rfl) hdg (fun H1 locs1 hP hD hS => kk _ H1 locs1 rfl ⟨by rw [← hset]; exact hP, by rw [← hset]; exact hD, hS⟩)
theorem gw_recv_fr (hK : gw_K X s) (G : gw_G X (gw_E X M Y) s H locs) {o : Nat} (ho : gc_k o = (6, 0)) : ∃ cell : Cell, H[gc_a X o]? = some cell ∧ cell.vm.isStatics = false ∧ s.vm.findClass na_fr = some cell.cls := va_recv (q := (na_fr, fi_fr, 6)) hK.1 G.1 rfl (gc_at6 ho)
theorem gf_fr_order (hx : p.tables.exec = Jvm.exec) (hb : c.code = cc) (hg : ∀ w ∈ gw_w, w.before args s = true) {own : String} (hown : s.vm.findClass own = some m.cls) {index : Nat} (hlink : (Cond.fieldLink own index "AccountMachine$Frame" "order" "LAccountMachine$Order;").before args s = true) (hK : gw_K X s) (G : gw_G X (gw_E X M Y) s H locs) {o : Nat} (ho : gc_k o = (6, 0)) (hdg : decode cc pc = .ok (.getfield index, 3)) (kk : W p l e R s m args below meth c H locs cells slots Q (F0 m (pc + 3) ls (.ref (gc_a X (o + 1)) :: rest))) : W p l e R s m args below meth c H locs cells slots Q (F0 m pc ls (.ref (gc_a X o) :: rest)) :=
  va_get (D := X.1) (ci := 4) (C := na_fr) (T := fi_fr) (N := 6) hx hb hg la_fr hown hK.1 G.1 o (gc_at6 ho) rfl 0 (by decide) hlink (fun _ h => h) rfl hdg kk
theorem gn_fr_order (hx : p.tables.exec = Jvm.exec) (hb : c.code = cc) (hg : ∀ w ∈ gw_w, w.before args s = true) {own host : String} (hown : s.vm.findClass own = some m.cls) {index : Nat} (hlink : (Cond.fieldLinkNest own index "AccountMachine$Frame" "order" "LAccountMachine$Order;" host).before args s = true) (hK : gw_K X s) (G : gw_G X (gw_E X M Y) s H locs) {o : Nat} (ho : gc_k o = (6, 0)) (hdg : decode cc pc = .ok (.getfield index, 3)) (kk : W p l e R s m args below meth c H locs cells slots Q (F0 m (pc + 3) ls (.ref (gc_a X (o + 1)) :: rest))) : W p l e R s m args below meth c H locs cells slots Q (F0 m pc ls (.ref (gc_a X o) :: rest)) :=
  va_getN (D := X.1) (ci := 4) (C := na_fr) (T := fi_fr) (N := 6) hx hb hg la_fr hown hK.1 G.1 o (gc_at6 ho) rfl 0 (by decide) hlink (fun _ h => h) rfl hdg kk
theorem gf_fr_registers (hx : p.tables.exec = Jvm.exec) (hb : c.code = cc) (hg : ∀ w ∈ gw_w, w.before args s = true) {own : String} (hown : s.vm.findClass own = some m.cls) {index : Nat} (hlink : (Cond.fieldLink own index "AccountMachine$Frame" "registers" "[J").before args s = true) (hK : gw_K X s) (G : gw_G X (gw_E X M Y) s H locs) {o : Nat} (ho : gc_k o = (6, 0)) (hdg : decode cc pc = .ok (.getfield index, 3)) (kk : W p l e R s m args below meth c H locs cells slots Q (F0 m (pc + 3) ls (.ref (gc_a X (o + 4)) :: rest))) : W p l e R s m args below meth c H locs cells slots Q (F0 m pc ls (.ref (gc_a X o) :: rest)) :=
  va_get (D := X.1) (ci := 4) (C := na_fr) (T := fi_fr) (N := 6) hx hb hg la_fr hown hK.1 G.1 o (gc_at6 ho) rfl 1 (by decide) hlink (fun _ h => h) rfl hdg kk
theorem gn_fr_registers (hx : p.tables.exec = Jvm.exec) (hb : c.code = cc) (hg : ∀ w ∈ gw_w, w.before args s = true) {own host : String} (hown : s.vm.findClass own = some m.cls) {index : Nat} (hlink : (Cond.fieldLinkNest own index "AccountMachine$Frame" "registers" "[J" host).before args s = true) (hK : gw_K X s) (G : gw_G X (gw_E X M Y) s H locs) {o : Nat} (ho : gc_k o = (6, 0)) (hdg : decode cc pc = .ok (.getfield index, 3)) (kk : W p l e R s m args below meth c H locs cells slots Q (F0 m (pc + 3) ls (.ref (gc_a X (o + 4)) :: rest))) : W p l e R s m args below meth c H locs cells slots Q (F0 m pc ls (.ref (gc_a X o) :: rest)) :=
  va_getN (D := X.1) (ci := 4) (C := na_fr) (T := fi_fr) (N := 6) hx hb hg la_fr hown hK.1 G.1 o (gc_at6 ho) rfl 1 (by decide) hlink (fun _ h => h) rfl hdg kk
theorem gf_fr_memory (hx : p.tables.exec = Jvm.exec) (hb : c.code = cc) (hg : ∀ w ∈ gw_w, w.before args s = true) {own : String} (hown : s.vm.findClass own = some m.cls) {index : Nat} (hlink : (Cond.fieldLink own index "AccountMachine$Frame" "memory" "[J").before args s = true) (hK : gw_K X s) (G : gw_G X (gw_E X M Y) s H locs) {o : Nat} (ho : gc_k o = (6, 0)) (hdg : decode cc pc = .ok (.getfield index, 3)) (kk : W p l e R s m args below meth c H locs cells slots Q (F0 m (pc + 3) ls (.ref (gc_a X (o + 5)) :: rest))) : W p l e R s m args below meth c H locs cells slots Q (F0 m pc ls (.ref (gc_a X o) :: rest)) :=
  va_get (D := X.1) (ci := 4) (C := na_fr) (T := fi_fr) (N := 6) hx hb hg la_fr hown hK.1 G.1 o (gc_at6 ho) rfl 2 (by decide) hlink (fun _ h => h) rfl hdg kk
theorem gn_fr_memory (hx : p.tables.exec = Jvm.exec) (hb : c.code = cc) (hg : ∀ w ∈ gw_w, w.before args s = true) {own host : String} (hown : s.vm.findClass own = some m.cls) {index : Nat} (hlink : (Cond.fieldLinkNest own index "AccountMachine$Frame" "memory" "[J" host).before args s = true) (hK : gw_K X s) (G : gw_G X (gw_E X M Y) s H locs) {o : Nat} (ho : gc_k o = (6, 0)) (hdg : decode cc pc = .ok (.getfield index, 3)) (kk : W p l e R s m args below meth c H locs cells slots Q (F0 m (pc + 3) ls (.ref (gc_a X (o + 5)) :: rest))) : W p l e R s m args below meth c H locs cells slots Q (F0 m pc ls (.ref (gc_a X o) :: rest)) :=
  va_getN (D := X.1) (ci := 4) (C := na_fr) (T := fi_fr) (N := 6) hx hb hg la_fr hown hK.1 G.1 o (gc_at6 ho) rfl 2 (by decide) hlink (fun _ h => h) rfl hdg kk
theorem gf_fr_remembered (hx : p.tables.exec = Jvm.exec) (hb : c.code = cc) (hg : ∀ w ∈ gw_w, w.before args s = true) {own : String} (hown : s.vm.findClass own = some m.cls) {index : Nat} (hlink : (Cond.fieldLink own index "AccountMachine$Frame" "remembered" "[I").before args s = true) (hK : gw_K X s) (G : gw_G X (gw_E X M Y) s H locs) {o : Nat} (ho : gc_k o = (6, 0)) (hdg : decode cc pc = .ok (.getfield index, 3)) (kk : W p l e R s m args below meth c H locs cells slots Q (F0 m (pc + 3) ls (.ref (gc_a X (o + 6)) :: rest))) : W p l e R s m args below meth c H locs cells slots Q (F0 m pc ls (.ref (gc_a X o) :: rest)) :=
  va_get (D := X.1) (ci := 4) (C := na_fr) (T := fi_fr) (N := 6) hx hb hg la_fr hown hK.1 G.1 o (gc_at6 ho) rfl 3 (by decide) hlink (fun _ h => h) rfl hdg kk
theorem gn_fr_remembered (hx : p.tables.exec = Jvm.exec) (hb : c.code = cc) (hg : ∀ w ∈ gw_w, w.before args s = true) {own host : String} (hown : s.vm.findClass own = some m.cls) {index : Nat} (hlink : (Cond.fieldLinkNest own index "AccountMachine$Frame" "remembered" "[I" host).before args s = true) (hK : gw_K X s) (G : gw_G X (gw_E X M Y) s H locs) {o : Nat} (ho : gc_k o = (6, 0)) (hdg : decode cc pc = .ok (.getfield index, 3)) (kk : W p l e R s m args below meth c H locs cells slots Q (F0 m (pc + 3) ls (.ref (gc_a X (o + 6)) :: rest))) : W p l e R s m args below meth c H locs cells slots Q (F0 m pc ls (.ref (gc_a X o) :: rest)) :=
  va_getN (D := X.1) (ci := 4) (C := na_fr) (T := fi_fr) (N := 6) hx hb hg la_fr hown hK.1 G.1 o (gc_at6 ho) rfl 3 (by decide) hlink (fun _ h => h) rfl hdg kk
theorem gf_fr_rememberedCount (hx : p.tables.exec = Jvm.exec) (hb : c.code = cc) (hg : ∀ w ∈ gw_w, w.before args s = true) {own : String} (hown : s.vm.findClass own = some m.cls) {index : Nat} (hlink : (Cond.fieldLink own index "AccountMachine$Frame" "rememberedCount" "I").before args s = true) (hK : gw_K X s) (G : gw_G X (gw_E X M Y) s H locs) {o : Nat} (ho : gc_k o = (6, 0)) (hdg : decode cc pc = .ok (.getfield index, 3)) (kk : W p l e R s m args below meth c H locs cells slots Q (F0 m (pc + 3) ls (.int (M.1 o 4) :: rest))) : W p l e R s m args below meth c H locs cells slots Q (F0 m pc ls (.ref (gc_a X o) :: rest)) :=
  va_get (D := X.1) (ci := 4) (C := na_fr) (T := fi_fr) (N := 6) hx hb hg la_fr hown hK.1 G.1 o (gc_at6 ho) rfl 4 (by decide) hlink (fun _ h => h) rfl hdg kk
theorem gn_fr_rememberedCount (hx : p.tables.exec = Jvm.exec) (hb : c.code = cc) (hg : ∀ w ∈ gw_w, w.before args s = true) {own host : String} (hown : s.vm.findClass own = some m.cls) {index : Nat} (hlink : (Cond.fieldLinkNest own index "AccountMachine$Frame" "rememberedCount" "I" host).before args s = true) (hK : gw_K X s) (G : gw_G X (gw_E X M Y) s H locs) {o : Nat} (ho : gc_k o = (6, 0)) (hdg : decode cc pc = .ok (.getfield index, 3)) (kk : W p l e R s m args below meth c H locs cells slots Q (F0 m (pc + 3) ls (.int (M.1 o 4) :: rest))) : W p l e R s m args below meth c H locs cells slots Q (F0 m pc ls (.ref (gc_a X o) :: rest)) :=
  va_getN (D := X.1) (ci := 4) (C := na_fr) (T := fi_fr) (N := 6) hx hb hg la_fr hown hK.1 G.1 o (gc_at6 ho) rfl 4 (by decide) hlink (fun _ h => h) rfl hdg kk
theorem gp_fr_rememberedCount (hx : p.tables.exec = Jvm.exec) (hb : c.code = cc) (hg : ∀ w ∈ gw_w, w.before args s = true) {own : String} (hown : s.vm.findClass own = some m.cls) {index : Nat} (hlink : (Cond.fieldLink own index "AccountMachine$Frame" "rememberedCount" "I").before args s = true) (hK : gw_K X s) (G : gw_G X (gw_E X M Y) s H locs) {o : Nat} (ho : gc_k o = (6, 0)) {x : Int32} (hdg : decode cc pc = .ok (.putfield index, 3)) (kk : ∀ (M1 : gw_M) (H1 : Heap) (locs1 : List Loc), M1 = gw_sI M o 4 x → gw_G X (gw_E X M1 Y) s H1 locs1 → W p l e R s m args below meth c H1 locs1 cells slots Q (F0 m (pc + 3) ls rest)) : W p l e R s m args below meth c H locs cells slots Q (F0 m pc ls (.int x :: .ref (gc_a X o) :: rest)) := by
  have hset := gw_W_set (ad := X.2.1) (n := 100) (E := gw_E X M Y) (E1 := gw_E X (gw_sI M o 4 x) Y) (Nat.lt_trans (gc_lt ho (by decide)) (by decide)) (gc_E6 ho) (gw_E_setC gw_sI_1 gw_sI_2)
  rw [gw_sI_k] at hset
  exact va_put (D := X.1) (ci := 4) (ty := .int) (C := na_fr) (T := fi_fr) (N := 6) hx hb hg la_fr ty_fr tk_fr ne_fr hown hK.1 G.1 G.2.1 G.2.2 o (gc_at6 ho) rfl 4 (by decide) hlink (fun _ h => h) rfl (by decide +kernel) rfl rfl (Nat.le_of_ble_eq_true rfl) hdg (fun H1 locs1 hP hD hS => kk _ H1 locs1 rfl ⟨by rw [← hset]; exact hP, by rw [← hset]; exact hD, hS⟩)
theorem gm_fr_rememberedCount (hx : p.tables.exec = Jvm.exec) (hb : c.code = cc) (hg : ∀ w ∈ gw_w, w.before args s = true) {own host : String} (hown : s.vm.findClass own = some m.cls) {index : Nat} (hlink : (Cond.fieldLinkNest own index "AccountMachine$Frame" "rememberedCount" "I" host).before args s = true) (hK : gw_K X s) (G : gw_G X (gw_E X M Y) s H locs) {o : Nat} (ho : gc_k o = (6, 0)) {x : Int32} (hdg : decode cc pc = .ok (.putfield index, 3)) (kk : ∀ (M1 : gw_M) (H1 : Heap) (locs1 : List Loc), M1 = gw_sI M o 4 x → gw_G X (gw_E X M1 Y) s H1 locs1 → W p l e R s m args below meth c H1 locs1 cells slots Q (F0 m (pc + 3) ls rest)) : W p l e R s m args below meth c H locs cells slots Q (F0 m pc ls (.int x :: .ref (gc_a X o) :: rest)) := by
  have hset := gw_W_set (ad := X.2.1) (n := 100) (E := gw_E X M Y) (E1 := gw_E X (gw_sI M o 4 x) Y) (Nat.lt_trans (gc_lt ho (by decide)) (by decide)) (gc_E6 ho) (gw_E_setC gw_sI_1 gw_sI_2)
  rw [gw_sI_k] at hset
  exact va_putN (D := X.1) (ci := 4) (ty := .int) (C := na_fr) (T := fi_fr) (N := 6) hx hb hg la_fr ty_fr tk_fr ne_fr hown hK.1 G.1 G.2.1 G.2.2 o (gc_at6 ho) rfl 4 (by decide) hlink (fun _ h => h) rfl (by decide +kernel) rfl rfl (Nat.le_of_ble_eq_true rfl) hdg (fun H1 locs1 hP hD hS => kk _ H1 locs1 rfl ⟨by rw [← hset]; exact hP, by rw [← hset]; exact hD, hS⟩)
theorem gf_fr_place (hx : p.tables.exec = Jvm.exec) (hb : c.code = cc) (hg : ∀ w ∈ gw_w, w.before args s = true) {own : String} (hown : s.vm.findClass own = some m.cls) {index : Nat} (hlink : (Cond.fieldLink own index "AccountMachine$Frame" "place" "I").before args s = true) (hK : gw_K X s) (G : gw_G X (gw_E X M Y) s H locs) {o : Nat} (ho : gc_k o = (6, 0)) (hdg : decode cc pc = .ok (.getfield index, 3)) (kk : W p l e R s m args below meth c H locs cells slots Q (F0 m (pc + 3) ls (.int (M.1 o 5) :: rest))) : W p l e R s m args below meth c H locs cells slots Q (F0 m pc ls (.ref (gc_a X o) :: rest)) :=
  va_get (D := X.1) (ci := 4) (C := na_fr) (T := fi_fr) (N := 6) hx hb hg la_fr hown hK.1 G.1 o (gc_at6 ho) rfl 5 (by decide) hlink (fun _ h => h) rfl hdg kk
theorem gn_fr_place (hx : p.tables.exec = Jvm.exec) (hb : c.code = cc) (hg : ∀ w ∈ gw_w, w.before args s = true) {own host : String} (hown : s.vm.findClass own = some m.cls) {index : Nat} (hlink : (Cond.fieldLinkNest own index "AccountMachine$Frame" "place" "I" host).before args s = true) (hK : gw_K X s) (G : gw_G X (gw_E X M Y) s H locs) {o : Nat} (ho : gc_k o = (6, 0)) (hdg : decode cc pc = .ok (.getfield index, 3)) (kk : W p l e R s m args below meth c H locs cells slots Q (F0 m (pc + 3) ls (.int (M.1 o 5) :: rest))) : W p l e R s m args below meth c H locs cells slots Q (F0 m pc ls (.ref (gc_a X o) :: rest)) :=
  va_getN (D := X.1) (ci := 4) (C := na_fr) (T := fi_fr) (N := 6) hx hb hg la_fr hown hK.1 G.1 o (gc_at6 ho) rfl 5 (by decide) hlink (fun _ h => h) rfl hdg kk
theorem gp_fr_place (hx : p.tables.exec = Jvm.exec) (hb : c.code = cc) (hg : ∀ w ∈ gw_w, w.before args s = true) {own : String} (hown : s.vm.findClass own = some m.cls) {index : Nat} (hlink : (Cond.fieldLink own index "AccountMachine$Frame" "place" "I").before args s = true) (hK : gw_K X s) (G : gw_G X (gw_E X M Y) s H locs) {o : Nat} (ho : gc_k o = (6, 0)) {x : Int32} (hdg : decode cc pc = .ok (.putfield index, 3)) (kk : ∀ (M1 : gw_M) (H1 : Heap) (locs1 : List Loc), M1 = gw_sI M o 5 x → gw_G X (gw_E X M1 Y) s H1 locs1 → W p l e R s m args below meth c H1 locs1 cells slots Q (F0 m (pc + 3) ls rest)) : W p l e R s m args below meth c H locs cells slots Q (F0 m pc ls (.int x :: .ref (gc_a X o) :: rest)) := by
  have hset := gw_W_set (ad := X.2.1) (n := 100) (E := gw_E X M Y) (E1 := gw_E X (gw_sI M o 5 x) Y) (Nat.lt_trans (gc_lt ho (by decide)) (by decide)) (gc_E6 ho) (gw_E_setC gw_sI_1 gw_sI_2)
  rw [gw_sI_k] at hset
  exact va_put (D := X.1) (ci := 4) (ty := .int) (C := na_fr) (T := fi_fr) (N := 6) hx hb hg la_fr ty_fr tk_fr ne_fr hown hK.1 G.1 G.2.1 G.2.2 o (gc_at6 ho) rfl 5 (by decide) hlink (fun _ h => h) rfl (by decide +kernel) rfl rfl (Nat.le_of_ble_eq_true rfl) hdg (fun H1 locs1 hP hD hS => kk _ H1 locs1 rfl ⟨by rw [← hset]; exact hP, by rw [← hset]; exact hD, hS⟩)
theorem gm_fr_place (hx : p.tables.exec = Jvm.exec) (hb : c.code = cc) (hg : ∀ w ∈ gw_w, w.before args s = true) {own host : String} (hown : s.vm.findClass own = some m.cls) {index : Nat} (hlink : (Cond.fieldLinkNest own index "AccountMachine$Frame" "place" "I" host).before args s = true) (hK : gw_K X s) (G : gw_G X (gw_E X M Y) s H locs) {o : Nat} (ho : gc_k o = (6, 0)) {x : Int32} (hdg : decode cc pc = .ok (.putfield index, 3)) (kk : ∀ (M1 : gw_M) (H1 : Heap) (locs1 : List Loc), M1 = gw_sI M o 5 x → gw_G X (gw_E X M1 Y) s H1 locs1 → W p l e R s m args below meth c H1 locs1 cells slots Q (F0 m (pc + 3) ls rest)) : W p l e R s m args below meth c H locs cells slots Q (F0 m pc ls (.int x :: .ref (gc_a X o) :: rest)) := by
  have hset := gw_W_set (ad := X.2.1) (n := 100) (E := gw_E X M Y) (E1 := gw_E X (gw_sI M o 5 x) Y) (Nat.lt_trans (gc_lt ho (by decide)) (by decide)) (gc_E6 ho) (gw_E_setC gw_sI_1 gw_sI_2)
  rw [gw_sI_k] at hset
  exact va_putN (D := X.1) (ci := 4) (ty := .int) (C := na_fr) (T := fi_fr) (N := 6) hx hb hg la_fr ty_fr tk_fr ne_fr hown hK.1 G.1 G.2.1 G.2.2 o (gc_at6 ho) rfl 5 (by decide) hlink (fun _ h => h) rfl (by decide +kernel) rfl rfl (Nat.le_of_ble_eq_true rfl) hdg (fun H1 locs1 hP hD hS => kk _ H1 locs1 rfl ⟨by rw [← hset]; exact hP, by rw [← hset]; exact hD, hS⟩)
theorem gw_recv_mo (hK : gw_K X s) (G : gw_G X (gw_E X Y M) s H locs) {o : Nat} (ho : gr_k o = (11, 0)) : ∃ cell : Cell, H[gr_a X o]? = some cell ∧ cell.vm.isStatics = false ∧ s.vm.findClass na_mo = some cell.cls := va_recv (q := (na_mo, fi_mo, 28)) hK.1 G.1 rfl (gr_at11 ho)
theorem gf_mo_balances (hx : p.tables.exec = Jvm.exec) (hb : c.code = cc) (hg : ∀ w ∈ gw_w, w.before args s = true) {own : String} (hown : s.vm.findClass own = some m.cls) {index : Nat} (hlink : (Cond.fieldLink own index "AccountMachineModel" "balances" "[I").before args s = true) (hK : gw_K X s) (G : gw_G X (gw_E X Y M) s H locs) {o : Nat} (ho : gr_k o = (11, 0)) (hdg : decode cc pc = .ok (.getfield index, 3)) (kk : W p l e R s m args below meth c H locs cells slots Q (F0 m (pc + 3) ls (.ref (gr_a X (o + 1)) :: rest))) : W p l e R s m args below meth c H locs cells slots Q (F0 m pc ls (.ref (gr_a X o) :: rest)) :=
  va_get (D := X.1) (ci := 5) (C := na_mo) (T := fi_mo) (N := 28) hx hb hg la_mo hown hK.1 G.1 (76 + o) (gr_at11 ho) rfl 0 (by decide) hlink (fun _ h => h) rfl hdg kk
theorem gf_mo_owners (hx : p.tables.exec = Jvm.exec) (hb : c.code = cc) (hg : ∀ w ∈ gw_w, w.before args s = true) {own : String} (hown : s.vm.findClass own = some m.cls) {index : Nat} (hlink : (Cond.fieldLink own index "AccountMachineModel" "owners" "[I").before args s = true) (hK : gw_K X s) (G : gw_G X (gw_E X Y M) s H locs) {o : Nat} (ho : gr_k o = (11, 0)) (hdg : decode cc pc = .ok (.getfield index, 3)) (kk : W p l e R s m args below meth c H locs cells slots Q (F0 m (pc + 3) ls (.ref (gr_a X (o + 2)) :: rest))) : W p l e R s m args below meth c H locs cells slots Q (F0 m pc ls (.ref (gr_a X o) :: rest)) :=
  va_get (D := X.1) (ci := 5) (C := na_mo) (T := fi_mo) (N := 28) hx hb hg la_mo hown hK.1 G.1 (76 + o) (gr_at11 ho) rfl 1 (by decide) hlink (fun _ h => h) rfl hdg kk
theorem gf_mo_sizes (hx : p.tables.exec = Jvm.exec) (hb : c.code = cc) (hg : ∀ w ∈ gw_w, w.before args s = true) {own : String} (hown : s.vm.findClass own = some m.cls) {index : Nat} (hlink : (Cond.fieldLink own index "AccountMachineModel" "sizes" "[I").before args s = true) (hK : gw_K X s) (G : gw_G X (gw_E X Y M) s H locs) {o : Nat} (ho : gr_k o = (11, 0)) (hdg : decode cc pc = .ok (.getfield index, 3)) (kk : W p l e R s m args below meth c H locs cells slots Q (F0 m (pc + 3) ls (.ref (gr_a X (o + 3)) :: rest))) : W p l e R s m args below meth c H locs cells slots Q (F0 m pc ls (.ref (gr_a X o) :: rest)) :=
  va_get (D := X.1) (ci := 5) (C := na_mo) (T := fi_mo) (N := 28) hx hb hg la_mo hown hK.1 G.1 (76 + o) (gr_at11 ho) rfl 2 (by decide) hlink (fun _ h => h) rfl hdg kk
theorem gf_mo_words (hx : p.tables.exec = Jvm.exec) (hb : c.code = cc) (hg : ∀ w ∈ gw_w, w.before args s = true) {own : String} (hown : s.vm.findClass own = some m.cls) {index : Nat} (hlink : (Cond.fieldLink own index "AccountMachineModel" "words" "[I").before args s = true) (hK : gw_K X s) (G : gw_G X (gw_E X Y M) s H locs) {o : Nat} (ho : gr_k o = (11, 0)) (hdg : decode cc pc = .ok (.getfield index, 3)) (kk : W p l e R s m args below meth c H locs cells slots Q (F0 m (pc + 3) ls (.ref (gr_a X (o + 4)) :: rest))) : W p l e R s m args below meth c H locs cells slots Q (F0 m pc ls (.ref (gr_a X o) :: rest)) :=
  va_get (D := X.1) (ci := 5) (C := na_mo) (T := fi_mo) (N := 28) hx hb hg la_mo hown hK.1 G.1 (76 + o) (gr_at11 ho) rfl 3 (by decide) hlink (fun _ h => h) rfl hdg kk
theorem gf_mo_length (hx : p.tables.exec = Jvm.exec) (hb : c.code = cc) (hg : ∀ w ∈ gw_w, w.before args s = true) {own : String} (hown : s.vm.findClass own = some m.cls) {index : Nat} (hlink : (Cond.fieldLink own index "AccountMachineModel" "length" "[I").before args s = true) (hK : gw_K X s) (G : gw_G X (gw_E X Y M) s H locs) {o : Nat} (ho : gr_k o = (11, 0)) (hdg : decode cc pc = .ok (.getfield index, 3)) (kk : W p l e R s m args below meth c H locs cells slots Q (F0 m (pc + 3) ls (.ref (gr_a X (o + 5)) :: rest))) : W p l e R s m args below meth c H locs cells slots Q (F0 m pc ls (.ref (gr_a X o) :: rest)) :=
  va_get (D := X.1) (ci := 5) (C := na_mo) (T := fi_mo) (N := 28) hx hb hg la_mo hown hK.1 G.1 (76 + o) (gr_at11 ho) rfl 4 (by decide) hlink (fun _ h => h) rfl hdg kk
theorem gf_mo_loaded (hx : p.tables.exec = Jvm.exec) (hb : c.code = cc) (hg : ∀ w ∈ gw_w, w.before args s = true) {own : String} (hown : s.vm.findClass own = some m.cls) {index : Nat} (hlink : (Cond.fieldLink own index "AccountMachineModel" "loaded" "[Z").before args s = true) (hK : gw_K X s) (G : gw_G X (gw_E X Y M) s H locs) {o : Nat} (ho : gr_k o = (11, 0)) (hdg : decode cc pc = .ok (.getfield index, 3)) (kk : W p l e R s m args below meth c H locs cells slots Q (F0 m (pc + 3) ls (.ref (gr_a X (o + 6)) :: rest))) : W p l e R s m args below meth c H locs cells slots Q (F0 m pc ls (.ref (gr_a X o) :: rest)) :=
  va_get (D := X.1) (ci := 5) (C := na_mo) (T := fi_mo) (N := 28) hx hb hg la_mo hown hK.1 G.1 (76 + o) (gr_at11 ho) rfl 5 (by decide) hlink (fun _ h => h) rfl hdg kk
theorem gf_mo_kinds (hx : p.tables.exec = Jvm.exec) (hb : c.code = cc) (hg : ∀ w ∈ gw_w, w.before args s = true) {own : String} (hown : s.vm.findClass own = some m.cls) {index : Nat} (hlink : (Cond.fieldLink own index "AccountMachineModel" "kinds" "[I").before args s = true) (hK : gw_K X s) (G : gw_G X (gw_E X Y M) s H locs) {o : Nat} (ho : gr_k o = (11, 0)) (hdg : decode cc pc = .ok (.getfield index, 3)) (kk : W p l e R s m args below meth c H locs cells slots Q (F0 m (pc + 3) ls (.ref (gr_a X (o + 7)) :: rest))) : W p l e R s m args below meth c H locs cells slots Q (F0 m pc ls (.ref (gr_a X o) :: rest)) :=
  va_get (D := X.1) (ci := 5) (C := na_mo) (T := fi_mo) (N := 28) hx hb hg la_mo hown hK.1 G.1 (76 + o) (gr_at11 ho) rfl 6 (by decide) hlink (fun _ h => h) rfl hdg kk
theorem gf_mo_lefts (hx : p.tables.exec = Jvm.exec) (hb : c.code = cc) (hg : ∀ w ∈ gw_w, w.before args s = true) {own : String} (hown : s.vm.findClass own = some m.cls) {index : Nat} (hlink : (Cond.fieldLink own index "AccountMachineModel" "lefts" "[I").before args s = true) (hK : gw_K X s) (G : gw_G X (gw_E X Y M) s H locs) {o : Nat} (ho : gr_k o = (11, 0)) (hdg : decode cc pc = .ok (.getfield index, 3)) (kk : W p l e R s m args below meth c H locs cells slots Q (F0 m (pc + 3) ls (.ref (gr_a X (o + 8)) :: rest))) : W p l e R s m args below meth c H locs cells slots Q (F0 m pc ls (.ref (gr_a X o) :: rest)) :=
  va_get (D := X.1) (ci := 5) (C := na_mo) (T := fi_mo) (N := 28) hx hb hg la_mo hown hK.1 G.1 (76 + o) (gr_at11 ho) rfl 7 (by decide) hlink (fun _ h => h) rfl hdg kk
theorem gf_mo_rights (hx : p.tables.exec = Jvm.exec) (hb : c.code = cc) (hg : ∀ w ∈ gw_w, w.before args s = true) {own : String} (hown : s.vm.findClass own = some m.cls) {index : Nat} (hlink : (Cond.fieldLink own index "AccountMachineModel" "rights" "[I").before args s = true) (hK : gw_K X s) (G : gw_G X (gw_E X Y M) s H locs) {o : Nat} (ho : gr_k o = (11, 0)) (hdg : decode cc pc = .ok (.getfield index, 3)) (kk : W p l e R s m args below meth c H locs cells slots Q (F0 m (pc + 3) ls (.ref (gr_a X (o + 9)) :: rest))) : W p l e R s m args below meth c H locs cells slots Q (F0 m pc ls (.ref (gr_a X o) :: rest)) :=
  va_get (D := X.1) (ci := 5) (C := na_mo) (T := fi_mo) (N := 28) hx hb hg la_mo hown hK.1 G.1 (76 + o) (gr_at11 ho) rfl 8 (by decide) hlink (fun _ h => h) rfl hdg kk
theorem gf_mo_offsets (hx : p.tables.exec = Jvm.exec) (hb : c.code = cc) (hg : ∀ w ∈ gw_w, w.before args s = true) {own : String} (hown : s.vm.findClass own = some m.cls) {index : Nat} (hlink : (Cond.fieldLink own index "AccountMachineModel" "offsets" "[I").before args s = true) (hK : gw_K X s) (G : gw_G X (gw_E X Y M) s H locs) {o : Nat} (ho : gr_k o = (11, 0)) (hdg : decode cc pc = .ok (.getfield index, 3)) (kk : W p l e R s m args below meth c H locs cells slots Q (F0 m (pc + 3) ls (.ref (gr_a X (o + 10)) :: rest))) : W p l e R s m args below meth c H locs cells slots Q (F0 m pc ls (.ref (gr_a X o) :: rest)) :=
  va_get (D := X.1) (ci := 5) (C := na_mo) (T := fi_mo) (N := 28) hx hb hg la_mo hown hK.1 G.1 (76 + o) (gr_at11 ho) rfl 9 (by decide) hlink (fun _ h => h) rfl hdg kk
theorem gf_mo_numbers (hx : p.tables.exec = Jvm.exec) (hb : c.code = cc) (hg : ∀ w ∈ gw_w, w.before args s = true) {own : String} (hown : s.vm.findClass own = some m.cls) {index : Nat} (hlink : (Cond.fieldLink own index "AccountMachineModel" "numbers" "[I").before args s = true) (hK : gw_K X s) (G : gw_G X (gw_E X Y M) s H locs) {o : Nat} (ho : gr_k o = (11, 0)) (hdg : decode cc pc = .ok (.getfield index, 3)) (kk : W p l e R s m args below meth c H locs cells slots Q (F0 m (pc + 3) ls (.ref (gr_a X (o + 11)) :: rest))) : W p l e R s m args below meth c H locs cells slots Q (F0 m pc ls (.ref (gr_a X o) :: rest)) :=
  va_get (D := X.1) (ci := 5) (C := na_mo) (T := fi_mo) (N := 28) hx hb hg la_mo hown hK.1 G.1 (76 + o) (gr_at11 ho) rfl 10 (by decide) hlink (fun _ h => h) rfl hdg kk
theorem gf_mo_orders (hx : p.tables.exec = Jvm.exec) (hb : c.code = cc) (hg : ∀ w ∈ gw_w, w.before args s = true) {own : String} (hown : s.vm.findClass own = some m.cls) {index : Nat} (hlink : (Cond.fieldLink own index "AccountMachineModel" "orders" "I").before args s = true) (hK : gw_K X s) (G : gw_G X (gw_E X Y M) s H locs) {o : Nat} (ho : gr_k o = (11, 0)) (hdg : decode cc pc = .ok (.getfield index, 3)) (kk : W p l e R s m args below meth c H locs cells slots Q (F0 m (pc + 3) ls (.int (M.1 o 11) :: rest))) : W p l e R s m args below meth c H locs cells slots Q (F0 m pc ls (.ref (gr_a X o) :: rest)) :=
  va_get (D := X.1) (ci := 5) (C := na_mo) (T := fi_mo) (N := 28) hx hb hg la_mo hown hK.1 G.1 (76 + o) (gr_at11 ho) rfl 11 (by decide) hlink (fun _ h => h) rfl hdg kk
theorem gp_mo_orders (hx : p.tables.exec = Jvm.exec) (hb : c.code = cc) (hg : ∀ w ∈ gw_w, w.before args s = true) {own : String} (hown : s.vm.findClass own = some m.cls) {index : Nat} (hlink : (Cond.fieldLink own index "AccountMachineModel" "orders" "I").before args s = true) (hK : gw_K X s) (G : gw_G X (gw_E X Y M) s H locs) {o : Nat} (ho : gr_k o = (11, 0)) {x : Int32} (hdg : decode cc pc = .ok (.putfield index, 3)) (kk : ∀ (M1 : gw_M) (H1 : Heap) (locs1 : List Loc), M1 = gw_sI M o 11 x → gw_G X (gw_E X Y M1) s H1 locs1 → W p l e R s m args below meth c H1 locs1 cells slots Q (F0 m (pc + 3) ls rest)) : W p l e R s m args below meth c H locs cells slots Q (F0 m pc ls (.int x :: .ref (gr_a X o) :: rest)) := by
  have hset := gw_W_set (ad := X.2.1) (n := 100) (E := gw_E X Y M) (E1 := gw_E X Y (gw_sI M o 11 x)) ((by have := gr_lt ho (by decide); omega)) (gr_E11 ho) (gw_E_setR gw_sI_1 gw_sI_2)
  rw [gw_sI_k] at hset
  exact va_put (D := X.1) (ci := 5) (ty := .int) (C := na_mo) (T := fi_mo) (N := 28) hx hb hg la_mo ty_mo tk_mo ne_mo hown hK.1 G.1 G.2.1 G.2.2 (76 + o) (gr_at11 ho) rfl 11 (by decide) hlink (fun _ h => h) rfl (by decide +kernel) rfl rfl (Nat.le_of_ble_eq_true rfl) hdg (fun H1 locs1 hP hD hS => kk _ H1 locs1 rfl ⟨by rw [← hset]; exact hP, by rw [← hset]; exact hD, hS⟩)
theorem gf_mo_program (hx : p.tables.exec = Jvm.exec) (hb : c.code = cc) (hg : ∀ w ∈ gw_w, w.before args s = true) {own : String} (hown : s.vm.findClass own = some m.cls) {index : Nat} (hlink : (Cond.fieldLink own index "AccountMachineModel" "program" "[I").before args s = true) (hK : gw_K X s) (G : gw_G X (gw_E X Y M) s H locs) {o : Nat} (ho : gr_k o = (11, 0)) (hdg : decode cc pc = .ok (.getfield index, 3)) (kk : W p l e R s m args below meth c H locs cells slots Q (F0 m (pc + 3) ls (.ref (gr_a X (o + 12)) :: rest))) : W p l e R s m args below meth c H locs cells slots Q (F0 m pc ls (.ref (gr_a X o) :: rest)) :=
  va_get (D := X.1) (ci := 5) (C := na_mo) (T := fi_mo) (N := 28) hx hb hg la_mo hown hK.1 G.1 (76 + o) (gr_at11 ho) rfl 12 (by decide) hlink (fun _ h => h) rfl hdg kk
theorem gf_mo_argument (hx : p.tables.exec = Jvm.exec) (hb : c.code = cc) (hg : ∀ w ∈ gw_w, w.before args s = true) {own : String} (hown : s.vm.findClass own = some m.cls) {index : Nat} (hlink : (Cond.fieldLink own index "AccountMachineModel" "argument" "[I").before args s = true) (hK : gw_K X s) (G : gw_G X (gw_E X Y M) s H locs) {o : Nat} (ho : gr_k o = (11, 0)) (hdg : decode cc pc = .ok (.getfield index, 3)) (kk : W p l e R s m args below meth c H locs cells slots Q (F0 m (pc + 3) ls (.ref (gr_a X (o + 13)) :: rest))) : W p l e R s m args below meth c H locs cells slots Q (F0 m pc ls (.ref (gr_a X o) :: rest)) :=
  va_get (D := X.1) (ci := 5) (C := na_mo) (T := fi_mo) (N := 28) hx hb hg la_mo hown hK.1 G.1 (76 + o) (gr_at11 ho) rfl 13 (by decide) hlink (fun _ h => h) rfl hdg kk
theorem gf_mo_slots (hx : p.tables.exec = Jvm.exec) (hb : c.code = cc) (hg : ∀ w ∈ gw_w, w.before args s = true) {own : String} (hown : s.vm.findClass own = some m.cls) {index : Nat} (hlink : (Cond.fieldLink own index "AccountMachineModel" "slots" "[I").before args s = true) (hK : gw_K X s) (G : gw_G X (gw_E X Y M) s H locs) {o : Nat} (ho : gr_k o = (11, 0)) (hdg : decode cc pc = .ok (.getfield index, 3)) (kk : W p l e R s m args below meth c H locs cells slots Q (F0 m (pc + 3) ls (.ref (gr_a X (o + 14)) :: rest))) : W p l e R s m args below meth c H locs cells slots Q (F0 m pc ls (.ref (gr_a X o) :: rest)) :=
  va_get (D := X.1) (ci := 5) (C := na_mo) (T := fi_mo) (N := 28) hx hb hg la_mo hown hK.1 G.1 (76 + o) (gr_at11 ho) rfl 14 (by decide) hlink (fun _ h => h) rfl hdg kk
theorem gf_mo_slotAccount (hx : p.tables.exec = Jvm.exec) (hb : c.code = cc) (hg : ∀ w ∈ gw_w, w.before args s = true) {own : String} (hown : s.vm.findClass own = some m.cls) {index : Nat} (hlink : (Cond.fieldLink own index "AccountMachineModel" "slotAccount" "[I").before args s = true) (hK : gw_K X s) (G : gw_G X (gw_E X Y M) s H locs) {o : Nat} (ho : gr_k o = (11, 0)) (hdg : decode cc pc = .ok (.getfield index, 3)) (kk : W p l e R s m args below meth c H locs cells slots Q (F0 m (pc + 3) ls (.ref (gr_a X (o + 15)) :: rest))) : W p l e R s m args below meth c H locs cells slots Q (F0 m pc ls (.ref (gr_a X o) :: rest)) :=
  va_get (D := X.1) (ci := 5) (C := na_mo) (T := fi_mo) (N := 28) hx hb hg la_mo hown hK.1 G.1 (76 + o) (gr_at11 ho) rfl 15 (by decide) hlink (fun _ h => h) rfl hdg kk
theorem gf_mo_slotMarks (hx : p.tables.exec = Jvm.exec) (hb : c.code = cc) (hg : ∀ w ∈ gw_w, w.before args s = true) {own : String} (hown : s.vm.findClass own = some m.cls) {index : Nat} (hlink : (Cond.fieldLink own index "AccountMachineModel" "slotMarks" "[I").before args s = true) (hK : gw_K X s) (G : gw_G X (gw_E X Y M) s H locs) {o : Nat} (ho : gr_k o = (11, 0)) (hdg : decode cc pc = .ok (.getfield index, 3)) (kk : W p l e R s m args below meth c H locs cells slots Q (F0 m (pc + 3) ls (.ref (gr_a X (o + 16)) :: rest))) : W p l e R s m args below meth c H locs cells slots Q (F0 m pc ls (.ref (gr_a X o) :: rest)) :=
  va_get (D := X.1) (ci := 5) (C := na_mo) (T := fi_mo) (N := 28) hx hb hg la_mo hown hK.1 G.1 (76 + o) (gr_at11 ho) rfl 16 (by decide) hlink (fun _ h => h) rfl hdg kk
theorem gf_mo_depth (hx : p.tables.exec = Jvm.exec) (hb : c.code = cc) (hg : ∀ w ∈ gw_w, w.before args s = true) {own : String} (hown : s.vm.findClass own = some m.cls) {index : Nat} (hlink : (Cond.fieldLink own index "AccountMachineModel" "depth" "I").before args s = true) (hK : gw_K X s) (G : gw_G X (gw_E X Y M) s H locs) {o : Nat} (ho : gr_k o = (11, 0)) (hdg : decode cc pc = .ok (.getfield index, 3)) (kk : W p l e R s m args below meth c H locs cells slots Q (F0 m (pc + 3) ls (.int (M.1 o 17) :: rest))) : W p l e R s m args below meth c H locs cells slots Q (F0 m pc ls (.ref (gr_a X o) :: rest)) :=
  va_get (D := X.1) (ci := 5) (C := na_mo) (T := fi_mo) (N := 28) hx hb hg la_mo hown hK.1 G.1 (76 + o) (gr_at11 ho) rfl 17 (by decide) hlink (fun _ h => h) rfl hdg kk
theorem gp_mo_depth (hx : p.tables.exec = Jvm.exec) (hb : c.code = cc) (hg : ∀ w ∈ gw_w, w.before args s = true) {own : String} (hown : s.vm.findClass own = some m.cls) {index : Nat} (hlink : (Cond.fieldLink own index "AccountMachineModel" "depth" "I").before args s = true) (hK : gw_K X s) (G : gw_G X (gw_E X Y M) s H locs) {o : Nat} (ho : gr_k o = (11, 0)) {x : Int32} (hdg : decode cc pc = .ok (.putfield index, 3)) (kk : ∀ (M1 : gw_M) (H1 : Heap) (locs1 : List Loc), M1 = gw_sI M o 17 x → gw_G X (gw_E X Y M1) s H1 locs1 → W p l e R s m args below meth c H1 locs1 cells slots Q (F0 m (pc + 3) ls rest)) : W p l e R s m args below meth c H locs cells slots Q (F0 m pc ls (.int x :: .ref (gr_a X o) :: rest)) := by
  have hset := gw_W_set (ad := X.2.1) (n := 100) (E := gw_E X Y M) (E1 := gw_E X Y (gw_sI M o 17 x)) ((by have := gr_lt ho (by decide); omega)) (gr_E11 ho) (gw_E_setR gw_sI_1 gw_sI_2)
  rw [gw_sI_k] at hset
  exact va_put (D := X.1) (ci := 5) (ty := .int) (C := na_mo) (T := fi_mo) (N := 28) hx hb hg la_mo ty_mo tk_mo ne_mo hown hK.1 G.1 G.2.1 G.2.2 (76 + o) (gr_at11 ho) rfl 17 (by decide) hlink (fun _ h => h) rfl (by decide +kernel) rfl rfl (Nat.le_of_ble_eq_true rfl) hdg (fun H1 locs1 hP hD hS => kk _ H1 locs1 rfl ⟨by rw [← hset]; exact hP, by rw [← hset]; exact hD, hS⟩)
theorem gf_mo_place (hx : p.tables.exec = Jvm.exec) (hb : c.code = cc) (hg : ∀ w ∈ gw_w, w.before args s = true) {own : String} (hown : s.vm.findClass own = some m.cls) {index : Nat} (hlink : (Cond.fieldLink own index "AccountMachineModel" "place" "[I").before args s = true) (hK : gw_K X s) (G : gw_G X (gw_E X Y M) s H locs) {o : Nat} (ho : gr_k o = (11, 0)) (hdg : decode cc pc = .ok (.getfield index, 3)) (kk : W p l e R s m args below meth c H locs cells slots Q (F0 m (pc + 3) ls (.ref (gr_a X (o + 17)) :: rest))) : W p l e R s m args below meth c H locs cells slots Q (F0 m pc ls (.ref (gr_a X o) :: rest)) :=
  va_get (D := X.1) (ci := 5) (C := na_mo) (T := fi_mo) (N := 28) hx hb hg la_mo hown hK.1 G.1 (76 + o) (gr_at11 ho) rfl 18 (by decide) hlink (fun _ h => h) rfl hdg kk
theorem gf_mo_registers (hx : p.tables.exec = Jvm.exec) (hb : c.code = cc) (hg : ∀ w ∈ gw_w, w.before args s = true) {own : String} (hown : s.vm.findClass own = some m.cls) {index : Nat} (hlink : (Cond.fieldLink own index "AccountMachineModel" "registers" "[J").before args s = true) (hK : gw_K X s) (G : gw_G X (gw_E X Y M) s H locs) {o : Nat} (ho : gr_k o = (11, 0)) (hdg : decode cc pc = .ok (.getfield index, 3)) (kk : W p l e R s m args below meth c H locs cells slots Q (F0 m (pc + 3) ls (.ref (gr_a X (o + 18)) :: rest))) : W p l e R s m args below meth c H locs cells slots Q (F0 m pc ls (.ref (gr_a X o) :: rest)) :=
  va_get (D := X.1) (ci := 5) (C := na_mo) (T := fi_mo) (N := 28) hx hb hg la_mo hown hK.1 G.1 (76 + o) (gr_at11 ho) rfl 19 (by decide) hlink (fun _ h => h) rfl hdg kk
theorem gf_mo_remembered (hx : p.tables.exec = Jvm.exec) (hb : c.code = cc) (hg : ∀ w ∈ gw_w, w.before args s = true) {own : String} (hown : s.vm.findClass own = some m.cls) {index : Nat} (hlink : (Cond.fieldLink own index "AccountMachineModel" "remembered" "[I").before args s = true) (hK : gw_K X s) (G : gw_G X (gw_E X Y M) s H locs) {o : Nat} (ho : gr_k o = (11, 0)) (hdg : decode cc pc = .ok (.getfield index, 3)) (kk : W p l e R s m args below meth c H locs cells slots Q (F0 m (pc + 3) ls (.ref (gr_a X (o + 19)) :: rest))) : W p l e R s m args below meth c H locs cells slots Q (F0 m pc ls (.ref (gr_a X o) :: rest)) :=
  va_get (D := X.1) (ci := 5) (C := na_mo) (T := fi_mo) (N := 28) hx hb hg la_mo hown hK.1 G.1 (76 + o) (gr_at11 ho) rfl 20 (by decide) hlink (fun _ h => h) rfl hdg kk
theorem gf_mo_calls (hx : p.tables.exec = Jvm.exec) (hb : c.code = cc) (hg : ∀ w ∈ gw_w, w.before args s = true) {own : String} (hown : s.vm.findClass own = some m.cls) {index : Nat} (hlink : (Cond.fieldLink own index "AccountMachineModel" "calls" "[I").before args s = true) (hK : gw_K X s) (G : gw_G X (gw_E X Y M) s H locs) {o : Nat} (ho : gr_k o = (11, 0)) (hdg : decode cc pc = .ok (.getfield index, 3)) (kk : W p l e R s m args below meth c H locs cells slots Q (F0 m (pc + 3) ls (.ref (gr_a X (o + 20)) :: rest))) : W p l e R s m args below meth c H locs cells slots Q (F0 m pc ls (.ref (gr_a X o) :: rest)) :=
  va_get (D := X.1) (ci := 5) (C := na_mo) (T := fi_mo) (N := 28) hx hb hg la_mo hown hK.1 G.1 (76 + o) (gr_at11 ho) rfl 21 (by decide) hlink (fun _ h => h) rfl hdg kk
theorem gf_mo_stack (hx : p.tables.exec = Jvm.exec) (hb : c.code = cc) (hg : ∀ w ∈ gw_w, w.before args s = true) {own : String} (hown : s.vm.findClass own = some m.cls) {index : Nat} (hlink : (Cond.fieldLink own index "AccountMachineModel" "stack" "[J").before args s = true) (hK : gw_K X s) (G : gw_G X (gw_E X Y M) s H locs) {o : Nat} (ho : gr_k o = (11, 0)) (hdg : decode cc pc = .ok (.getfield index, 3)) (kk : W p l e R s m args below meth c H locs cells slots Q (F0 m (pc + 3) ls (.ref (gr_a X (o + 21)) :: rest))) : W p l e R s m args below meth c H locs cells slots Q (F0 m pc ls (.ref (gr_a X o) :: rest)) :=
  va_get (D := X.1) (ci := 5) (C := na_mo) (T := fi_mo) (N := 28) hx hb hg la_mo hown hK.1 G.1 (76 + o) (gr_at11 ho) rfl 22 (by decide) hlink (fun _ h => h) rfl hdg kk
theorem gf_mo_seen (hx : p.tables.exec = Jvm.exec) (hb : c.code = cc) (hg : ∀ w ∈ gw_w, w.before args s = true) {own : String} (hown : s.vm.findClass own = some m.cls) {index : Nat} (hlink : (Cond.fieldLink own index "AccountMachineModel" "seen" "[J").before args s = true) (hK : gw_K X s) (G : gw_G X (gw_E X Y M) s H locs) {o : Nat} (ho : gr_k o = (11, 0)) (hdg : decode cc pc = .ok (.getfield index, 3)) (kk : W p l e R s m args below meth c H locs cells slots Q (F0 m (pc + 3) ls (.ref (gr_a X (o + 22)) :: rest))) : W p l e R s m args below meth c H locs cells slots Q (F0 m pc ls (.ref (gr_a X o) :: rest)) :=
  va_get (D := X.1) (ci := 5) (C := na_mo) (T := fi_mo) (N := 28) hx hb hg la_mo hown hK.1 G.1 (76 + o) (gr_at11 ho) rfl 23 (by decide) hlink (fun _ h => h) rfl hdg kk
theorem gf_mo_meter (hx : p.tables.exec = Jvm.exec) (hb : c.code = cc) (hg : ∀ w ∈ gw_w, w.before args s = true) {own : String} (hown : s.vm.findClass own = some m.cls) {index : Nat} (hlink : (Cond.fieldLink own index "AccountMachineModel" "meter" "I").before args s = true) (hK : gw_K X s) (G : gw_G X (gw_E X Y M) s H locs) {o : Nat} (ho : gr_k o = (11, 0)) (hdg : decode cc pc = .ok (.getfield index, 3)) (kk : W p l e R s m args below meth c H locs cells slots Q (F0 m (pc + 3) ls (.int (M.1 o 24) :: rest))) : W p l e R s m args below meth c H locs cells slots Q (F0 m pc ls (.ref (gr_a X o) :: rest)) :=
  va_get (D := X.1) (ci := 5) (C := na_mo) (T := fi_mo) (N := 28) hx hb hg la_mo hown hK.1 G.1 (76 + o) (gr_at11 ho) rfl 24 (by decide) hlink (fun _ h => h) rfl hdg kk
theorem gp_mo_meter (hx : p.tables.exec = Jvm.exec) (hb : c.code = cc) (hg : ∀ w ∈ gw_w, w.before args s = true) {own : String} (hown : s.vm.findClass own = some m.cls) {index : Nat} (hlink : (Cond.fieldLink own index "AccountMachineModel" "meter" "I").before args s = true) (hK : gw_K X s) (G : gw_G X (gw_E X Y M) s H locs) {o : Nat} (ho : gr_k o = (11, 0)) {x : Int32} (hdg : decode cc pc = .ok (.putfield index, 3)) (kk : ∀ (M1 : gw_M) (H1 : Heap) (locs1 : List Loc), M1 = gw_sI M o 24 x → gw_G X (gw_E X Y M1) s H1 locs1 → W p l e R s m args below meth c H1 locs1 cells slots Q (F0 m (pc + 3) ls rest)) : W p l e R s m args below meth c H locs cells slots Q (F0 m pc ls (.int x :: .ref (gr_a X o) :: rest)) := by
  have hset := gw_W_set (ad := X.2.1) (n := 100) (E := gw_E X Y M) (E1 := gw_E X Y (gw_sI M o 24 x)) ((by have := gr_lt ho (by decide); omega)) (gr_E11 ho) (gw_E_setR gw_sI_1 gw_sI_2)
  rw [gw_sI_k] at hset
  exact va_put (D := X.1) (ci := 5) (ty := .int) (C := na_mo) (T := fi_mo) (N := 28) hx hb hg la_mo ty_mo tk_mo ne_mo hown hK.1 G.1 G.2.1 G.2.2 (76 + o) (gr_at11 ho) rfl 24 (by decide) hlink (fun _ h => h) rfl (by decide +kernel) rfl rfl (Nat.le_of_ble_eq_true rfl) hdg (fun H1 locs1 hP hD hS => kk _ H1 locs1 rfl ⟨by rw [← hset]; exact hP, by rw [← hset]; exact hD, hS⟩)
theorem gf_mo_given (hx : p.tables.exec = Jvm.exec) (hb : c.code = cc) (hg : ∀ w ∈ gw_w, w.before args s = true) {own : String} (hown : s.vm.findClass own = some m.cls) {index : Nat} (hlink : (Cond.fieldLink own index "AccountMachineModel" "given" "J").before args s = true) (hK : gw_K X s) (G : gw_G X (gw_E X Y M) s H locs) {o : Nat} (ho : gr_k o = (11, 0)) (hdg : decode cc pc = .ok (.getfield index, 3)) (kk : W p l e R s m args below meth c H locs cells slots Q (F0 m (pc + 3) ls (.long (M.2 o 25) :: rest))) : W p l e R s m args below meth c H locs cells slots Q (F0 m pc ls (.ref (gr_a X o) :: rest)) :=
  va_get (D := X.1) (ci := 5) (C := na_mo) (T := fi_mo) (N := 28) hx hb hg la_mo hown hK.1 G.1 (76 + o) (gr_at11 ho) rfl 25 (by decide) hlink (fun _ h => h) rfl hdg kk
theorem gp_mo_given (hx : p.tables.exec = Jvm.exec) (hb : c.code = cc) (hg : ∀ w ∈ gw_w, w.before args s = true) {own : String} (hown : s.vm.findClass own = some m.cls) {index : Nat} (hlink : (Cond.fieldLink own index "AccountMachineModel" "given" "J").before args s = true) (hK : gw_K X s) (G : gw_G X (gw_E X Y M) s H locs) {o : Nat} (ho : gr_k o = (11, 0)) {x : Int64} (hdg : decode cc pc = .ok (.putfield index, 3)) (kk : ∀ (M1 : gw_M) (H1 : Heap) (locs1 : List Loc), M1 = gw_sL M o 25 x → gw_G X (gw_E X Y M1) s H1 locs1 → W p l e R s m args below meth c H1 locs1 cells slots Q (F0 m (pc + 3) ls rest)) : W p l e R s m args below meth c H locs cells slots Q (F0 m pc ls (.long x :: .ref (gr_a X o) :: rest)) := by
  have hset := gw_W_set (ad := X.2.1) (n := 100) (E := gw_E X Y M) (E1 := gw_E X Y (gw_sL M o 25 x)) ((by have := gr_lt ho (by decide); omega)) (gr_E11 ho) (gw_E_setR gw_sL_1 gw_sL_2)
  rw [gw_sL_k] at hset
  exact va_put (D := X.1) (ci := 5) (ty := .long) (C := na_mo) (T := fi_mo) (N := 28) hx hb hg la_mo ty_mo tk_mo ne_mo hown hK.1 G.1 G.2.1 G.2.2 (76 + o) (gr_at11 ho) rfl 25 (by decide) hlink (fun _ h => h) rfl (by decide +kernel) rfl rfl (Nat.le_of_ble_eq_true rfl) hdg (fun H1 locs1 hP hD hS => kk _ H1 locs1 rfl ⟨by rw [← hset]; exact hP, by rw [← hset]; exact hD, hS⟩)
theorem gf_mo_log (hx : p.tables.exec = Jvm.exec) (hb : c.code = cc) (hg : ∀ w ∈ gw_w, w.before args s = true) {own : String} (hown : s.vm.findClass own = some m.cls) {index : Nat} (hlink : (Cond.fieldLink own index "AccountMachineModel" "log" "[J").before args s = true) (hK : gw_K X s) (G : gw_G X (gw_E X Y M) s H locs) {o : Nat} (ho : gr_k o = (11, 0)) (hdg : decode cc pc = .ok (.getfield index, 3)) (kk : W p l e R s m args below meth c H locs cells slots Q (F0 m (pc + 3) ls (.ref (gr_a X (o + 23)) :: rest))) : W p l e R s m args below meth c H locs cells slots Q (F0 m pc ls (.ref (gr_a X o) :: rest)) :=
  va_get (D := X.1) (ci := 5) (C := na_mo) (T := fi_mo) (N := 28) hx hb hg la_mo hown hK.1 G.1 (76 + o) (gr_at11 ho) rfl 26 (by decide) hlink (fun _ h => h) rfl hdg kk
theorem gf_mo_written (hx : p.tables.exec = Jvm.exec) (hb : c.code = cc) (hg : ∀ w ∈ gw_w, w.before args s = true) {own : String} (hown : s.vm.findClass own = some m.cls) {index : Nat} (hlink : (Cond.fieldLink own index "AccountMachineModel" "written" "I").before args s = true) (hK : gw_K X s) (G : gw_G X (gw_E X Y M) s H locs) {o : Nat} (ho : gr_k o = (11, 0)) (hdg : decode cc pc = .ok (.getfield index, 3)) (kk : W p l e R s m args below meth c H locs cells slots Q (F0 m (pc + 3) ls (.int (M.1 o 27) :: rest))) : W p l e R s m args below meth c H locs cells slots Q (F0 m pc ls (.ref (gr_a X o) :: rest)) :=
  va_get (D := X.1) (ci := 5) (C := na_mo) (T := fi_mo) (N := 28) hx hb hg la_mo hown hK.1 G.1 (76 + o) (gr_at11 ho) rfl 27 (by decide) hlink (fun _ h => h) rfl hdg kk
theorem gp_mo_written (hx : p.tables.exec = Jvm.exec) (hb : c.code = cc) (hg : ∀ w ∈ gw_w, w.before args s = true) {own : String} (hown : s.vm.findClass own = some m.cls) {index : Nat} (hlink : (Cond.fieldLink own index "AccountMachineModel" "written" "I").before args s = true) (hK : gw_K X s) (G : gw_G X (gw_E X Y M) s H locs) {o : Nat} (ho : gr_k o = (11, 0)) {x : Int32} (hdg : decode cc pc = .ok (.putfield index, 3)) (kk : ∀ (M1 : gw_M) (H1 : Heap) (locs1 : List Loc), M1 = gw_sI M o 27 x → gw_G X (gw_E X Y M1) s H1 locs1 → W p l e R s m args below meth c H1 locs1 cells slots Q (F0 m (pc + 3) ls rest)) : W p l e R s m args below meth c H locs cells slots Q (F0 m pc ls (.int x :: .ref (gr_a X o) :: rest)) := by
  have hset := gw_W_set (ad := X.2.1) (n := 100) (E := gw_E X Y M) (E1 := gw_E X Y (gw_sI M o 27 x)) ((by have := gr_lt ho (by decide); omega)) (gr_E11 ho) (gw_E_setR gw_sI_1 gw_sI_2)
  rw [gw_sI_k] at hset
  exact va_put (D := X.1) (ci := 5) (ty := .int) (C := na_mo) (T := fi_mo) (N := 28) hx hb hg la_mo ty_mo tk_mo ne_mo hown hK.1 G.1 G.2.1 G.2.2 (76 + o) (gr_at11 ho) rfl 27 (by decide) hlink (fun _ h => h) rfl (by decide +kernel) rfl rfl (Nat.le_of_ble_eq_true rfl) hdg (fun H1 locs1 hP hD hS => kk _ H1 locs1 rfl ⟨by rw [← hset]; exact hP, by rw [← hset]; exact hD, hS⟩)
end GWROWS
end
section
/-! java/util/Arrays.fill([JJ)V -/
abbrev rm_ar_fillL : Room := { frames := 0, cells := 0, slots := 0, locals := 0 }
theorem dd_ar_fillL_0 : decode by_ar_fillL 0 = .ok (.iconst 0, 1) := by decide +kernel
theorem dd_ar_fillL_1 : decode by_ar_fillL 1 = .ok (.istore_n 3, 1) := by decide +kernel
theorem dd_ar_fillL_2 : decode by_ar_fillL 2 = .ok (.aload_n 0, 1) := by decide +kernel
theorem dd_ar_fillL_3 : decode by_ar_fillL 3 = .ok (.arraylength, 1) := by decide +kernel
theorem dd_ar_fillL_4 : decode by_ar_fillL 4 = .ok (.istore 4, 2) := by decide +kernel
theorem dd_ar_fillL_6 : decode by_ar_fillL 6 = .ok (.iload_n 3, 1) := by decide +kernel
theorem dd_ar_fillL_7 : decode by_ar_fillL 7 = .ok (.iload 4, 2) := by decide +kernel
theorem dd_ar_fillL_9 : decode by_ar_fillL 9 = .ok (.if_icmp .ge 13, 3) := by decide +kernel
theorem dd_ar_fillL_12 : decode by_ar_fillL 12 = .ok (.aload_n 0, 1) := by decide +kernel
theorem dd_ar_fillL_13 : decode by_ar_fillL 13 = .ok (.iload_n 3, 1) := by decide +kernel
theorem dd_ar_fillL_14 : decode by_ar_fillL 14 = .ok (.lload_n 1, 1) := by decide +kernel
theorem dd_ar_fillL_15 : decode by_ar_fillL 15 = .ok (.lastore, 1) := by decide +kernel
theorem dd_ar_fillL_16 : decode by_ar_fillL 16 = .ok (.iinc 3 1, 3) := by decide +kernel
theorem dd_ar_fillL_19 : decode by_ar_fillL 19 = .ok (.goto (-13), 3) := by decide +kernel
theorem dd_ar_fillL_22 : decode by_ar_fillL 22 = .ok (.return_, 1) := by decide +kernel
def ar_fillL_b6 (K6 : gw_M → Nat → Nat → Int64 → Int32 → Int32 → Option (Unit × gw_M)) (M : gw_M) (na0 : Nat) (a0 : Nat) (v1 : Int64) (v3 : Int32) (v4 : Int32) : Option (Unit × gw_M) :=
  if v4 ≤ v3 then (some ((), M)) else (gw_gu (gw_in v3 na0) (gw_lt (gw_sL M a0 v3.toNatClampNeg v1) (fun M15 => K6 M15 na0 a0 v1 (v3 + (1 : Int32)) v4)))
def ar_fillL_l6 : Nat → gw_M → Nat → Nat → Int64 → Int32 → Int32 → Option (Unit × gw_M)
  | 0 => fun _ _ _ _ _ _ => none
  | n + 1 => ar_fillL_b6  (ar_fillL_l6  n)
def ar_fillL_b0 (M : gw_M) (na0 : Nat) (a0 : Nat) (v1 : Int64) : Option (Unit × gw_M) :=
  gw_lt (Int32.ofNat na0) (fun x4 => ar_fillL_l6  2100 M na0 a0 v1 (0 : Int32) x4)
set_option maxRecDepth 100000 in
set_option maxHeartbeats 4000000 in
theorem wb_ar_fillL_6 {p : Program} {l : Launch} {e : Env} {s : State} {m : MethodId} {args : Array Value} {below : List Frame} {meth : Method} {c : Code} {X : gw_X} {Y : gw_M} {z : (Unit × gw_M)} (C0 : gw_C ((Cond.code yy_ar_fillL by_ar_fillL 5 none) :: gw_w) by_ar_fillL 5 none "java/util/Arrays" X p s m args meth c) {K6 : gw_M → Nat → Nat → Int64 → Int32 → Int32 → Option (Unit × gw_M)} (hK6 : ∀ (M : gw_M) (na0 : Nat) (a0 : Nat) (v1 : Int64) (v3 : Int32) (v4 : Int32) (H : Heap) (locs : List Loc) (ls : Array Slot), gc_k a0 = (1, na0) → gw_G X (gw_E X M Y) s H locs → lv_has ls 5 [(0, .ref (gc_a X a0)), (1, .long v1), (3, .int v3), (4, .int v4)] → K6 M na0 a0 v1 v3 v4 = some z → W p l e rm_ar_fillL s m args below meth c H locs 0 0 (MQ below (gw_Qv X (fun M => (gw_E X M Y)) z) args s 0 0 (gw_A X)) (F0 m 6 ls [])) (M : gw_M) (na0 : Nat) (a0 : Nat) (v1 : Int64) (v3 : Int32) (v4 : Int32) (H : Heap) (locs : List Loc) (ls : Array Slot) (ha0 : gc_k a0 = (1, na0)) (G : gw_G X (gw_E X M Y) s H locs) (hl : lv_has ls 5 [(0, .ref (gc_a X a0)), (1, .long v1), (3, .int v3), (4, .int v4)]) (hF : ar_fillL_b6 K6 M na0 a0 v1 v3 v4 = some z) : W p l e rm_ar_fillL s m args below meth c H locs 0 0 (MQ below (gw_Qv X (fun M => (gw_E X M Y)) z) args s 0 0 (gw_A X)) (F0 m 6 ls []) := by
  obtain ⟨hx, hb, hml, hown, hts, hr, hlocks, hK⟩ := id C0
  have hg : ∀ w ∈ gw_w, w.before args s = true := fun w h => hts w (List.mem_cons_of_mem _ h)
  unfold ar_fillL_b6 at hF
  refine lv_iload_n hx hb dd_ar_fillL_6 rfl (lv_at hl 2 rfl) ?_
  refine lv_iload hx hb dd_ar_fillL_7 (lv_at hl 3 rfl) ?_
  refine lv_icmp_ge (tgt := 22) hx hb dd_ar_fillL_9 (by decide) (fun h9 => ?_) (fun h9 => ?_)
  · replace hF := gw_et h9 hF
    exact W.vret hx hb hr (fun t ht hW => gw_endv (EF := (fun M => (gw_E X M Y))) (M := M) G ht hF) G.2.2.2.2 dd_ar_fillL_22 hlocks
  · replace hF := gw_ef h9 hF
    refine lv_aload_n hx hb dd_ar_fillL_12 rfl (lv_at hl 0 rfl) ?_
    refine lv_iload_n hx hb dd_ar_fillL_13 rfl (lv_at hl 2 rfl) ?_
    refine lv_lload_n hx hb dd_ar_fillL_14 rfl (lv_at hl 1 rfl) ?_
    obtain ⟨h15, hF⟩ := gw_gd hF
    refine gc_last hx hb hK G ha0 (gw_vp h15) (j := v3.toNatClampNeg) rfl dd_ar_fillL_15 (fun M15 H locs e15 G => ?_)
    replace hF := gw_ly e15 hF
    refine lv_iinc (k := 2) (v := v3 + (1 : Int32)) (lv' := [(3, .int (v3 + (1 : Int32))), (0, .ref (gc_a X a0)), (1, .long v1), (4, .int v4)]) hx hb dd_ar_fillL_16 hl rfl rfl (by decide) rfl (fun ls hl => ?_)
    refine lv_goto (tgt := 6) hx hb dd_ar_fillL_19 (by decide) ?_
    exact hK6 M15 na0 a0 v1 (v3 + (1 : Int32)) v4 _ _ _ ha0 G (lv_sub hl [1, 2, 0, 3] rfl) hF
theorem wl_ar_fillL_6 {p : Program} {l : Launch} {e : Env} {s : State} {m : MethodId} {args : Array Value} {below : List Frame} {meth : Method} {c : Code} {X : gw_X} {Y : gw_M} {z : (Unit × gw_M)} (C0 : gw_C ((Cond.code yy_ar_fillL by_ar_fillL 5 none) :: gw_w) by_ar_fillL 5 none "java/util/Arrays" X p s m args meth c) : ∀ n : Nat, ∀ (M : gw_M) (na0 : Nat) (a0 : Nat) (v1 : Int64) (v3 : Int32) (v4 : Int32) (H : Heap) (locs : List Loc) (ls : Array Slot), gc_k a0 = (1, na0) → gw_G X (gw_E X M Y) s H locs → lv_has ls 5 [(0, .ref (gc_a X a0)), (1, .long v1), (3, .int v3), (4, .int v4)] → ar_fillL_l6  n M na0 a0 v1 v3 v4 = some z → W p l e rm_ar_fillL s m args below meth c H locs 0 0 (MQ below (gw_Qv X (fun M => (gw_E X M Y)) z) args s 0 0 (gw_A X)) (F0 m 6 ls []) := by
  intro n
  induction n with
  | zero =>
    intro M na0 a0 v1 v3 v4 H locs ls ha0 G hl hF
    have hF : (none : Option (Unit × gw_M)) = some z := hF
    cases hF
  | succ n ih =>
    intro M na0 a0 v1 v3 v4 H locs ls ha0 G hl hF
    exact wb_ar_fillL_6 C0  ih M na0 a0 v1 v3 v4 H locs ls ha0 G hl hF
set_option maxRecDepth 100000 in
set_option maxHeartbeats 4000000 in
theorem wb_ar_fillL_0 {p : Program} {l : Launch} {e : Env} {s : State} {m : MethodId} {args : Array Value} {below : List Frame} {meth : Method} {c : Code} {X : gw_X} {Y : gw_M} {z : (Unit × gw_M)} (C0 : gw_C ((Cond.code yy_ar_fillL by_ar_fillL 5 none) :: gw_w) by_ar_fillL 5 none "java/util/Arrays" X p s m args meth c) (M : gw_M) (na0 : Nat) (a0 : Nat) (v1 : Int64) (H : Heap) (locs : List Loc) (ls : Array Slot) (ha0 : gc_k a0 = (1, na0)) (G : gw_G X (gw_E X M Y) s H locs) (hl : lv_has ls 5 [(0, .ref (gc_a X a0)), (1, .long v1)]) (hF : ar_fillL_b0  M na0 a0 v1 = some z) : W p l e rm_ar_fillL s m args below meth c H locs 0 0 (MQ below (gw_Qv X (fun M => (gw_E X M Y)) z) args s 0 0 (gw_A X)) (F0 m 0 ls []) := by
  obtain ⟨hx, hb, hml, hown, hts, hr, hlocks, hK⟩ := id C0
  have hg : ∀ w ∈ gw_w, w.before args s = true := fun w h => hts w (List.mem_cons_of_mem _ h)
  unfold ar_fillL_b0 at hF
  refine lv_iconst (v := (0 : Int32)) hx hb dd_ar_fillL_0 (by decide) ?_
  refine lv_istore_n (i := 3) (lv' := [(3, .int (0 : Int32)), (0, .ref (gc_a X a0)), (1, .long v1)]) hx hb dd_ar_fillL_1 rfl hl (by decide) rfl (fun ls hl => ?_)
  refine lv_aload_n hx hb dd_ar_fillL_2 rfl (lv_at hl 1 rfl) ?_
  refine gc_alen1 hx hb hK G ha0 dd_ar_fillL_3 ?_
  refine lv_topi (fun x4 e4 => ?_)
  replace hF := gw_ly e4 hF
  refine lv_istore (i := 4) (lv' := [(4, .int x4), (3, .int (0 : Int32)), (0, .ref (gc_a X a0)), (1, .long v1)]) hx hb dd_ar_fillL_4 hl (by decide) rfl (fun ls hl => ?_)
  exact wl_ar_fillL_6 C0  2100 M na0 a0 v1 (0 : Int32) x4 _ _ _ ha0 G (lv_sub hl [2, 3, 1, 0] rfl) hF
set_option maxRecDepth 100000 in
set_option maxHeartbeats 4000000 in
theorem ct_ar_fillL (l : Launch) (X : gw_X) (Y : gw_M) (M : gw_M) (na0 : Nat) (a0 : Nat) (v1 : Int64) (ha0 : gc_k a0 = (1, na0)) (z : (Unit × gw_M)) (hF : ar_fillL_b0 M na0 a0 v1 = some z) : Met l yy_ar_fillL ((Cond.code yy_ar_fillL by_ar_fillL 5 none) :: gw_w) rm_ar_fillL (va_Pc [.ref (gc_a X a0), .long v1] (gw_B X (gw_E X M Y))) (gw_Qv X (fun M => (gw_E X M Y)) z) 0 0 (gw_A X) := by
  refine Met.ofW (cc := by_ar_fillL) (maxL := 5) (ret := none) (by decide) rfl ?_
  intro p e s m args below meth c s₁ B hml hv
  obtain ⟨rfl, hB⟩ := hv
  rw [lg_entry_eq]
  have hl := lv_entry ([.ref (gc_a X a0), .long v1]) (n := 5) (Nat.le_of_ble_eq_true rfl)
  generalize (lg_sl ([.ref (gc_a X a0), .long v1]) ++ List.replicate (5 - (lg_sl ([.ref (gc_a X a0), .long v1])).length) Slot.unset).toArray = ls at hl ⊢
  have hl : lv_has ls 5 [(0, .ref (gc_a X a0)), (1, .long v1)] := hl
  exact wb_ar_fillL_0 (gw_ctx B hml rfl hB) M na0 a0 v1 _ _ _ ha0 (gw_start hB) hl hF
/-! AccountMachine$Order.mainSlotOf(I)I -/
abbrev rm_od_mainSlotOf : Room := { frames := 0, cells := 0, slots := 0, locals := 0 }
theorem dd_od_mainSlotOf_0 : decode by_od_mainSlotOf 0 = .ok (.iconst 0, 1) := by decide +kernel
theorem dd_od_mainSlotOf_1 : decode by_od_mainSlotOf 1 = .ok (.istore_n 2, 1) := by decide +kernel
theorem dd_od_mainSlotOf_2 : decode by_od_mainSlotOf 2 = .ok (.iload_n 2, 1) := by decide +kernel
theorem dd_od_mainSlotOf_3 : decode by_od_mainSlotOf 3 = .ok (.aload_n 0, 1) := by decide +kernel
theorem dd_od_mainSlotOf_4 : decode by_od_mainSlotOf 4 = .ok (.getfield 18, 3) := by decide +kernel
theorem dd_od_mainSlotOf_7 : decode by_od_mainSlotOf 7 = .ok (.if_icmp .ge 19, 3) := by decide +kernel
theorem dd_od_mainSlotOf_10 : decode by_od_mainSlotOf 10 = .ok (.aload_n 0, 1) := by decide +kernel
theorem dd_od_mainSlotOf_11 : decode by_od_mainSlotOf 11 = .ok (.getfield 21, 3) := by decide +kernel
theorem dd_od_mainSlotOf_14 : decode by_od_mainSlotOf 14 = .ok (.iload_n 2, 1) := by decide +kernel
theorem dd_od_mainSlotOf_15 : decode by_od_mainSlotOf 15 = .ok (.iaload, 1) := by decide +kernel
theorem dd_od_mainSlotOf_16 : decode by_od_mainSlotOf 16 = .ok (.iload_n 1, 1) := by decide +kernel
theorem dd_od_mainSlotOf_17 : decode by_od_mainSlotOf 17 = .ok (.if_icmp .eq 9, 3) := by decide +kernel
theorem dd_od_mainSlotOf_20 : decode by_od_mainSlotOf 20 = .ok (.iinc 2 1, 3) := by decide +kernel
theorem dd_od_mainSlotOf_23 : decode by_od_mainSlotOf 23 = .ok (.goto (-21), 3) := by decide +kernel
theorem dd_od_mainSlotOf_26 : decode by_od_mainSlotOf 26 = .ok (.iload_n 2, 1) := by decide +kernel
theorem dd_od_mainSlotOf_27 : decode by_od_mainSlotOf 27 = .ok (.ireturn, 1) := by decide +kernel
def od_mainSlotOf_b2 (K2 : gw_M → Nat → Int32 → Int32 → Option (Int32 × gw_M)) (M : gw_M) (a0 : Nat) (v1 : Int32) (v2 : Int32) : Option (Int32 × gw_M) :=
  if (M.1 a0 2) ≤ v2 then (some (v2, M)) else (gw_gu (gw_in v2 4) (if (M.1 (a0 + 1) v2.toNatClampNeg) = v1 then (some (v2, M)) else (K2 M a0 v1 (v2 + (1 : Int32)))))
def od_mainSlotOf_l2 : Nat → gw_M → Nat → Int32 → Int32 → Option (Int32 × gw_M)
  | 0 => fun _ _ _ _ => none
  | n + 1 => od_mainSlotOf_b2  (od_mainSlotOf_l2  n)
def od_mainSlotOf_b0 (M : gw_M) (a0 : Nat) (v1 : Int32) : Option (Int32 × gw_M) :=
  od_mainSlotOf_l2  2100 M a0 v1 (0 : Int32)
set_option maxRecDepth 100000 in
set_option maxHeartbeats 4000000 in
theorem wb_od_mainSlotOf_2 {p : Program} {l : Launch} {e : Env} {s : State} {m : MethodId} {args : Array Value} {below : List Frame} {meth : Method} {c : Code} {X : gw_X} {Y : gw_M} {z : (Int32 × gw_M)} (C0 : gw_C ((Cond.code yy_od_mainSlotOf by_od_mainSlotOf 3 (some .int)) :: gw_w) by_od_mainSlotOf 3 (some .int) "AccountMachine$Order" X p s m args meth c) {K2 : gw_M → Nat → Int32 → Int32 → Option (Int32 × gw_M)} (hK2 : ∀ (M : gw_M) (a0 : Nat) (v1 : Int32) (v2 : Int32) (H : Heap) (locs : List Loc) (ls : Array Slot), gc_k a0 = (4, 0) → gw_G X (gw_E X M Y) s H locs → lv_has ls 3 [(0, .ref (gc_a X a0)), (1, .int v1), (2, .int v2)] → K2 M a0 v1 v2 = some z → W p l e rm_od_mainSlotOf s m args below meth c H locs 0 0 (MQ below (gw_Qi X (fun M => (gw_E X M Y)) z) args s 0 0 (gw_A X)) (F0 m 2 ls [])) (M : gw_M) (a0 : Nat) (v1 : Int32) (v2 : Int32) (H : Heap) (locs : List Loc) (ls : Array Slot) (ha0 : gc_k a0 = (4, 0)) (G : gw_G X (gw_E X M Y) s H locs) (hl : lv_has ls 3 [(0, .ref (gc_a X a0)), (1, .int v1), (2, .int v2)]) (hF : od_mainSlotOf_b2 K2 M a0 v1 v2 = some z) : W p l e rm_od_mainSlotOf s m args below meth c H locs 0 0 (MQ below (gw_Qi X (fun M => (gw_E X M Y)) z) args s 0 0 (gw_A X)) (F0 m 2 ls []) := by
  obtain ⟨hx, hb, hml, hown, hts, hr, hlocks, hK⟩ := id C0
  have hg : ∀ w ∈ gw_w, w.before args s = true := fun w h => hts w (List.mem_cons_of_mem _ h)
  unfold od_mainSlotOf_b2 at hF
  refine lv_iload_n hx hb dd_od_mainSlotOf_2 rfl (lv_at hl 2 rfl) ?_
  refine lv_aload_n hx hb dd_od_mainSlotOf_3 rfl (lv_at hl 0 rfl) ?_
  refine gf_od_count hx hb hg hown (hg _ kw_0) hK G ha0 dd_od_mainSlotOf_4 ?_
  refine lv_icmp_ge (tgt := 26) hx hb dd_od_mainSlotOf_7 (by decide) (fun h7 => ?_) (fun h7 => ?_)
  · replace hF := gw_et h7 hF
    refine lv_iload_n hx hb dd_od_mainSlotOf_26 rfl (lv_at hl 2 rfl) ?_
    exact W.iret hx hb hr (fun t ht hW => gw_endi (EF := (fun M => (gw_E X M Y))) (M := M) G ht hF) G.2.2.2.2 dd_od_mainSlotOf_27 hlocks
  · replace hF := gw_ef h7 hF
    refine lv_aload_n hx hb dd_od_mainSlotOf_10 rfl (lv_at hl 0 rfl) ?_
    refine gf_od_accounts hx hb hg hown (hg _ kw_1) hK G ha0 dd_od_mainSlotOf_11 ?_
    refine lv_iload_n hx hb dd_od_mainSlotOf_14 rfl (lv_at hl 2 rfl) ?_
    obtain ⟨h15, hF⟩ := gw_gd hF
    refine gc_iald hx hb hK G (gq_od_accounts ha0) (gw_vp h15) (j := v2.toNatClampNeg) rfl dd_od_mainSlotOf_15 ?_
    refine lv_iload_n hx hb dd_od_mainSlotOf_16 rfl (lv_at hl 1 rfl) ?_
    refine lv_icmp_eq (tgt := 26) hx hb dd_od_mainSlotOf_17 (by decide) (fun h17 => ?_) (fun h17 => ?_)
    · replace hF := gw_et h17 hF
      refine lv_iload_n hx hb dd_od_mainSlotOf_26 rfl (lv_at hl 2 rfl) ?_
      exact W.iret hx hb hr (fun t ht hW => gw_endi (EF := (fun M => (gw_E X M Y))) (M := M) G ht hF) G.2.2.2.2 dd_od_mainSlotOf_27 hlocks
    · replace hF := gw_ef h17 hF
      refine lv_iinc (k := 2) (v := v2 + (1 : Int32)) (lv' := [(2, .int (v2 + (1 : Int32))), (0, .ref (gc_a X a0)), (1, .int v1)]) hx hb dd_od_mainSlotOf_20 hl rfl rfl (by decide) rfl (fun ls hl => ?_)
      refine lv_goto (tgt := 2) hx hb dd_od_mainSlotOf_23 (by decide) ?_
      exact hK2 M a0 v1 (v2 + (1 : Int32)) _ _ _ ha0 G (lv_sub hl [1, 2, 0] rfl) hF
theorem wl_od_mainSlotOf_2 {p : Program} {l : Launch} {e : Env} {s : State} {m : MethodId} {args : Array Value} {below : List Frame} {meth : Method} {c : Code} {X : gw_X} {Y : gw_M} {z : (Int32 × gw_M)} (C0 : gw_C ((Cond.code yy_od_mainSlotOf by_od_mainSlotOf 3 (some .int)) :: gw_w) by_od_mainSlotOf 3 (some .int) "AccountMachine$Order" X p s m args meth c) : ∀ n : Nat, ∀ (M : gw_M) (a0 : Nat) (v1 : Int32) (v2 : Int32) (H : Heap) (locs : List Loc) (ls : Array Slot), gc_k a0 = (4, 0) → gw_G X (gw_E X M Y) s H locs → lv_has ls 3 [(0, .ref (gc_a X a0)), (1, .int v1), (2, .int v2)] → od_mainSlotOf_l2  n M a0 v1 v2 = some z → W p l e rm_od_mainSlotOf s m args below meth c H locs 0 0 (MQ below (gw_Qi X (fun M => (gw_E X M Y)) z) args s 0 0 (gw_A X)) (F0 m 2 ls []) := by
  intro n
  induction n with
  | zero =>
    intro M a0 v1 v2 H locs ls ha0 G hl hF
    have hF : (none : Option (Int32 × gw_M)) = some z := hF
    cases hF
  | succ n ih =>
    intro M a0 v1 v2 H locs ls ha0 G hl hF
    exact wb_od_mainSlotOf_2 C0  ih M a0 v1 v2 H locs ls ha0 G hl hF
set_option maxRecDepth 100000 in
set_option maxHeartbeats 4000000 in
theorem wb_od_mainSlotOf_0 {p : Program} {l : Launch} {e : Env} {s : State} {m : MethodId} {args : Array Value} {below : List Frame} {meth : Method} {c : Code} {X : gw_X} {Y : gw_M} {z : (Int32 × gw_M)} (C0 : gw_C ((Cond.code yy_od_mainSlotOf by_od_mainSlotOf 3 (some .int)) :: gw_w) by_od_mainSlotOf 3 (some .int) "AccountMachine$Order" X p s m args meth c) (M : gw_M) (a0 : Nat) (v1 : Int32) (H : Heap) (locs : List Loc) (ls : Array Slot) (ha0 : gc_k a0 = (4, 0)) (G : gw_G X (gw_E X M Y) s H locs) (hl : lv_has ls 3 [(0, .ref (gc_a X a0)), (1, .int v1)]) (hF : od_mainSlotOf_b0  M a0 v1 = some z) : W p l e rm_od_mainSlotOf s m args below meth c H locs 0 0 (MQ below (gw_Qi X (fun M => (gw_E X M Y)) z) args s 0 0 (gw_A X)) (F0 m 0 ls []) := by
  obtain ⟨hx, hb, hml, hown, hts, hr, hlocks, hK⟩ := id C0
  have hg : ∀ w ∈ gw_w, w.before args s = true := fun w h => hts w (List.mem_cons_of_mem _ h)
  unfold od_mainSlotOf_b0 at hF
  refine lv_iconst (v := (0 : Int32)) hx hb dd_od_mainSlotOf_0 (by decide) ?_
  refine lv_istore_n (i := 2) (lv' := [(2, .int (0 : Int32)), (0, .ref (gc_a X a0)), (1, .int v1)]) hx hb dd_od_mainSlotOf_1 rfl hl (by decide) rfl (fun ls hl => ?_)
  exact wl_od_mainSlotOf_2 C0  2100 M a0 v1 (0 : Int32) _ _ _ ha0 G (lv_sub hl [1, 2, 0] rfl) hF
set_option maxRecDepth 100000 in
set_option maxHeartbeats 4000000 in
theorem ct_od_mainSlotOf (l : Launch) (X : gw_X) (Y : gw_M) (M : gw_M) (a0 : Nat) (v1 : Int32) (ha0 : gc_k a0 = (4, 0)) (z : (Int32 × gw_M)) (hF : od_mainSlotOf_b0 M a0 v1 = some z) : Met l yy_od_mainSlotOf ((Cond.code yy_od_mainSlotOf by_od_mainSlotOf 3 (some .int)) :: gw_w) rm_od_mainSlotOf (va_Pc [.ref (gc_a X a0), .int v1] (gw_B X (gw_E X M Y))) (gw_Qi X (fun M => (gw_E X M Y)) z) 0 0 (gw_A X) := by
  refine Met.ofW (cc := by_od_mainSlotOf) (maxL := 3) (ret := (some .int)) (by decide) rfl ?_
  intro p e s m args below meth c s₁ B hml hv
  obtain ⟨rfl, hB⟩ := hv
  rw [lg_entry_eq]
  have hl := lv_entry ([.ref (gc_a X a0), .int v1]) (n := 3) (Nat.le_of_ble_eq_true rfl)
  generalize (lg_sl ([.ref (gc_a X a0), .int v1]) ++ List.replicate (3 - (lg_sl ([.ref (gc_a X a0), .int v1])).length) Slot.unset).toArray = ls at hl ⊢
  have hl : lv_has ls 3 [(0, .ref (gc_a X a0)), (1, .int v1)] := hl
  exact wb_od_mainSlotOf_0 (gw_ctx B hml rfl hB) M a0 v1 _ _ _ ha0 (gw_start hB) hl hF
/-! AccountMachine$Order.marksOf(I)I -/
abbrev rm_od_marksOf : Room := { frames := 0, cells := 0, slots := 0, locals := 0 }
theorem dd_od_marksOf_0 : decode by_od_marksOf 0 = .ok (.iconst 0, 1) := by decide +kernel
theorem dd_od_marksOf_1 : decode by_od_marksOf 1 = .ok (.istore_n 2, 1) := by decide +kernel
theorem dd_od_marksOf_2 : decode by_od_marksOf 2 = .ok (.iconst 0, 1) := by decide +kernel
theorem dd_od_marksOf_3 : decode by_od_marksOf 3 = .ok (.istore_n 3, 1) := by decide +kernel
theorem dd_od_marksOf_4 : decode by_od_marksOf 4 = .ok (.iload_n 3, 1) := by decide +kernel
theorem dd_od_marksOf_5 : decode by_od_marksOf 5 = .ok (.aload_n 0, 1) := by decide +kernel
theorem dd_od_marksOf_6 : decode by_od_marksOf 6 = .ok (.getfield 18, 3) := by decide +kernel
theorem dd_od_marksOf_9 : decode by_od_marksOf 9 = .ok (.if_icmp .ge 28, 3) := by decide +kernel
theorem dd_od_marksOf_12 : decode by_od_marksOf 12 = .ok (.aload_n 0, 1) := by decide +kernel
theorem dd_od_marksOf_13 : decode by_od_marksOf 13 = .ok (.getfield 21, 3) := by decide +kernel
theorem dd_od_marksOf_16 : decode by_od_marksOf 16 = .ok (.iload_n 3, 1) := by decide +kernel
theorem dd_od_marksOf_17 : decode by_od_marksOf 17 = .ok (.iaload, 1) := by decide +kernel
theorem dd_od_marksOf_18 : decode by_od_marksOf 18 = .ok (.iload_n 1, 1) := by decide +kernel
theorem dd_od_marksOf_19 : decode by_od_marksOf 19 = .ok (.if_icmp .ne 12, 3) := by decide +kernel
theorem dd_od_marksOf_22 : decode by_od_marksOf 22 = .ok (.iload_n 2, 1) := by decide +kernel
theorem dd_od_marksOf_23 : decode by_od_marksOf 23 = .ok (.aload_n 0, 1) := by decide +kernel
theorem dd_od_marksOf_24 : decode by_od_marksOf 24 = .ok (.getfield 25, 3) := by decide +kernel
theorem dd_od_marksOf_27 : decode by_od_marksOf 27 = .ok (.iload_n 3, 1) := by decide +kernel
theorem dd_od_marksOf_28 : decode by_od_marksOf 28 = .ok (.iaload, 1) := by decide +kernel
theorem dd_od_marksOf_29 : decode by_od_marksOf 29 = .ok (.ior, 1) := by decide +kernel
theorem dd_od_marksOf_30 : decode by_od_marksOf 30 = .ok (.istore_n 2, 1) := by decide +kernel
theorem dd_od_marksOf_31 : decode by_od_marksOf 31 = .ok (.iinc 3 1, 3) := by decide +kernel
theorem dd_od_marksOf_34 : decode by_od_marksOf 34 = .ok (.goto (-30), 3) := by decide +kernel
theorem dd_od_marksOf_37 : decode by_od_marksOf 37 = .ok (.iload_n 2, 1) := by decide +kernel
theorem dd_od_marksOf_38 : decode by_od_marksOf 38 = .ok (.ireturn, 1) := by decide +kernel
def od_marksOf_b31 (K4 : gw_M → Nat → Int32 → Int32 → Int32 → Option (Int32 × gw_M)) (M : gw_M) (a0 : Nat) (v1 : Int32) (v2 : Int32) (v3 : Int32) : Option (Int32 × gw_M) :=
  K4 M a0 v1 v2 (v3 + (1 : Int32))
def od_marksOf_b4 (K4 : gw_M → Nat → Int32 → Int32 → Int32 → Option (Int32 × gw_M)) (M : gw_M) (a0 : Nat) (v1 : Int32) (v2 : Int32) (v3 : Int32) : Option (Int32 × gw_M) :=
  if (M.1 a0 2) ≤ v3 then (some (v2, M)) else (gw_gu (gw_in v3 4) (if (M.1 (a0 + 1) v3.toNatClampNeg) = v1 then (gw_gu (gw_in v3 4) (gw_lt (v2 ||| (M.1 (a0 + 2) v3.toNatClampNeg)) (fun x30 => od_marksOf_b31 K4 M a0 v1 x30 v3))) else (od_marksOf_b31 K4 M a0 v1 v2 v3)))
def od_marksOf_l4 : Nat → gw_M → Nat → Int32 → Int32 → Int32 → Option (Int32 × gw_M)
  | 0 => fun _ _ _ _ _ => none
  | n + 1 => od_marksOf_b4  (od_marksOf_l4  n)
def od_marksOf_b0 (M : gw_M) (a0 : Nat) (v1 : Int32) : Option (Int32 × gw_M) :=
  od_marksOf_l4  2100 M a0 v1 (0 : Int32) (0 : Int32)
set_option maxRecDepth 100000 in
set_option maxHeartbeats 4000000 in
theorem wb_od_marksOf_31 {p : Program} {l : Launch} {e : Env} {s : State} {m : MethodId} {args : Array Value} {below : List Frame} {meth : Method} {c : Code} {X : gw_X} {Y : gw_M} {z : (Int32 × gw_M)} (C0 : gw_C ((Cond.code yy_od_marksOf by_od_marksOf 4 (some .int)) :: gw_w) by_od_marksOf 4 (some .int) "AccountMachine$Order" X p s m args meth c) {K4 : gw_M → Nat → Int32 → Int32 → Int32 → Option (Int32 × gw_M)} (hK4 : ∀ (M : gw_M) (a0 : Nat) (v1 : Int32) (v2 : Int32) (v3 : Int32) (H : Heap) (locs : List Loc) (ls : Array Slot), gc_k a0 = (4, 0) → gw_G X (gw_E X M Y) s H locs → lv_has ls 4 [(0, .ref (gc_a X a0)), (1, .int v1), (2, .int v2), (3, .int v3)] → K4 M a0 v1 v2 v3 = some z → W p l e rm_od_marksOf s m args below meth c H locs 0 0 (MQ below (gw_Qi X (fun M => (gw_E X M Y)) z) args s 0 0 (gw_A X)) (F0 m 4 ls [])) (M : gw_M) (a0 : Nat) (v1 : Int32) (v2 : Int32) (v3 : Int32) (H : Heap) (locs : List Loc) (ls : Array Slot) (ha0 : gc_k a0 = (4, 0)) (G : gw_G X (gw_E X M Y) s H locs) (hl : lv_has ls 4 [(0, .ref (gc_a X a0)), (1, .int v1), (2, .int v2), (3, .int v3)]) (hF : od_marksOf_b31 K4 M a0 v1 v2 v3 = some z) : W p l e rm_od_marksOf s m args below meth c H locs 0 0 (MQ below (gw_Qi X (fun M => (gw_E X M Y)) z) args s 0 0 (gw_A X)) (F0 m 31 ls []) := by
  obtain ⟨hx, hb, hml, hown, hts, hr, hlocks, hK⟩ := id C0
  have hg : ∀ w ∈ gw_w, w.before args s = true := fun w h => hts w (List.mem_cons_of_mem _ h)
  unfold od_marksOf_b31 at hF
  refine lv_iinc (k := 3) (v := v3 + (1 : Int32)) (lv' := [(3, .int (v3 + (1 : Int32))), (0, .ref (gc_a X a0)), (1, .int v1), (2, .int v2)]) hx hb dd_od_marksOf_31 hl rfl rfl (by decide) rfl (fun ls hl => ?_)
  refine lv_goto (tgt := 4) hx hb dd_od_marksOf_34 (by decide) ?_
  exact hK4 M a0 v1 v2 (v3 + (1 : Int32)) _ _ _ ha0 G (lv_sub hl [1, 2, 3, 0] rfl) hF
set_option maxRecDepth 100000 in
set_option maxHeartbeats 4000000 in
theorem wb_od_marksOf_4 {p : Program} {l : Launch} {e : Env} {s : State} {m : MethodId} {args : Array Value} {below : List Frame} {meth : Method} {c : Code} {X : gw_X} {Y : gw_M} {z : (Int32 × gw_M)} (C0 : gw_C ((Cond.code yy_od_marksOf by_od_marksOf 4 (some .int)) :: gw_w) by_od_marksOf 4 (some .int) "AccountMachine$Order" X p s m args meth c) {K4 : gw_M → Nat → Int32 → Int32 → Int32 → Option (Int32 × gw_M)} (hK4 : ∀ (M : gw_M) (a0 : Nat) (v1 : Int32) (v2 : Int32) (v3 : Int32) (H : Heap) (locs : List Loc) (ls : Array Slot), gc_k a0 = (4, 0) → gw_G X (gw_E X M Y) s H locs → lv_has ls 4 [(0, .ref (gc_a X a0)), (1, .int v1), (2, .int v2), (3, .int v3)] → K4 M a0 v1 v2 v3 = some z → W p l e rm_od_marksOf s m args below meth c H locs 0 0 (MQ below (gw_Qi X (fun M => (gw_E X M Y)) z) args s 0 0 (gw_A X)) (F0 m 4 ls [])) (M : gw_M) (a0 : Nat) (v1 : Int32) (v2 : Int32) (v3 : Int32) (H : Heap) (locs : List Loc) (ls : Array Slot) (ha0 : gc_k a0 = (4, 0)) (G : gw_G X (gw_E X M Y) s H locs) (hl : lv_has ls 4 [(0, .ref (gc_a X a0)), (1, .int v1), (2, .int v2), (3, .int v3)]) (hF : od_marksOf_b4 K4 M a0 v1 v2 v3 = some z) : W p l e rm_od_marksOf s m args below meth c H locs 0 0 (MQ below (gw_Qi X (fun M => (gw_E X M Y)) z) args s 0 0 (gw_A X)) (F0 m 4 ls []) := by
  obtain ⟨hx, hb, hml, hown, hts, hr, hlocks, hK⟩ := id C0
  have hg : ∀ w ∈ gw_w, w.before args s = true := fun w h => hts w (List.mem_cons_of_mem _ h)
  unfold od_marksOf_b4 at hF
  refine lv_iload_n hx hb dd_od_marksOf_4 rfl (lv_at hl 3 rfl) ?_
  refine lv_aload_n hx hb dd_od_marksOf_5 rfl (lv_at hl 0 rfl) ?_
  refine gf_od_count hx hb hg hown (hg _ kw_0) hK G ha0 dd_od_marksOf_6 ?_
  refine lv_icmp_ge (tgt := 37) hx hb dd_od_marksOf_9 (by decide) (fun h9 => ?_) (fun h9 => ?_)
  · replace hF := gw_et h9 hF
    refine lv_iload_n hx hb dd_od_marksOf_37 rfl (lv_at hl 2 rfl) ?_
    exact W.iret hx hb hr (fun t ht hW => gw_endi (EF := (fun M => (gw_E X M Y))) (M := M) G ht hF) G.2.2.2.2 dd_od_marksOf_38 hlocks
  · replace hF := gw_ef h9 hF
    refine lv_aload_n hx hb dd_od_marksOf_12 rfl (lv_at hl 0 rfl) ?_
    refine gf_od_accounts hx hb hg hown (hg _ kw_1) hK G ha0 dd_od_marksOf_13 ?_
    refine lv_iload_n hx hb dd_od_marksOf_16 rfl (lv_at hl 3 rfl) ?_
    obtain ⟨h17, hF⟩ := gw_gd hF
    refine gc_iald hx hb hK G (gq_od_accounts ha0) (gw_vp h17) (j := v3.toNatClampNeg) rfl dd_od_marksOf_17 ?_
    refine lv_iload_n hx hb dd_od_marksOf_18 rfl (lv_at hl 1 rfl) ?_
    refine lv_icmp_ne (tgt := 31) hx hb dd_od_marksOf_19 (by decide) (fun h19 => ?_) (fun h19 => ?_)
    · replace hF := gw_ef h19 hF
      exact wb_od_marksOf_31 C0 hK4 M a0 v1 v2 v3 _ _ _ ha0 G (lv_sub hl [0, 1, 2, 3] rfl) hF
    · replace hF := gw_et h19 hF
      refine lv_iload_n hx hb dd_od_marksOf_22 rfl (lv_at hl 2 rfl) ?_
      refine lv_aload_n hx hb dd_od_marksOf_23 rfl (lv_at hl 0 rfl) ?_
      refine gf_od_marks hx hb hg hown (hg _ kw_2) hK G ha0 dd_od_marksOf_24 ?_
      refine lv_iload_n hx hb dd_od_marksOf_27 rfl (lv_at hl 3 rfl) ?_
      obtain ⟨h28, hF⟩ := gw_gd hF
      refine gc_iald hx hb hK G (gq_od_marks ha0) (gw_vp h28) (j := v3.toNatClampNeg) rfl dd_od_marksOf_28 ?_
      refine lv_ior hx hb dd_od_marksOf_29 ?_
      refine lv_topi (fun x30 e30 => ?_)
      replace hF := gw_ly e30 hF
      refine lv_istore_n (i := 2) (lv' := [(2, .int x30), (0, .ref (gc_a X a0)), (1, .int v1), (3, .int v3)]) hx hb dd_od_marksOf_30 rfl hl (by decide) rfl (fun ls hl => ?_)
      exact wb_od_marksOf_31 C0 hK4 M a0 v1 x30 v3 _ _ _ ha0 G (lv_sub hl [1, 2, 0, 3] rfl) hF
theorem wl_od_marksOf_4 {p : Program} {l : Launch} {e : Env} {s : State} {m : MethodId} {args : Array Value} {below : List Frame} {meth : Method} {c : Code} {X : gw_X} {Y : gw_M} {z : (Int32 × gw_M)} (C0 : gw_C ((Cond.code yy_od_marksOf by_od_marksOf 4 (some .int)) :: gw_w) by_od_marksOf 4 (some .int) "AccountMachine$Order" X p s m args meth c) : ∀ n : Nat, ∀ (M : gw_M) (a0 : Nat) (v1 : Int32) (v2 : Int32) (v3 : Int32) (H : Heap) (locs : List Loc) (ls : Array Slot), gc_k a0 = (4, 0) → gw_G X (gw_E X M Y) s H locs → lv_has ls 4 [(0, .ref (gc_a X a0)), (1, .int v1), (2, .int v2), (3, .int v3)] → od_marksOf_l4  n M a0 v1 v2 v3 = some z → W p l e rm_od_marksOf s m args below meth c H locs 0 0 (MQ below (gw_Qi X (fun M => (gw_E X M Y)) z) args s 0 0 (gw_A X)) (F0 m 4 ls []) := by
  intro n
  induction n with
  | zero =>
    intro M a0 v1 v2 v3 H locs ls ha0 G hl hF
    have hF : (none : Option (Int32 × gw_M)) = some z := hF
    cases hF
  | succ n ih =>
    intro M a0 v1 v2 v3 H locs ls ha0 G hl hF
    exact wb_od_marksOf_4 C0  ih M a0 v1 v2 v3 H locs ls ha0 G hl hF
set_option maxRecDepth 100000 in
set_option maxHeartbeats 4000000 in
theorem wb_od_marksOf_0 {p : Program} {l : Launch} {e : Env} {s : State} {m : MethodId} {args : Array Value} {below : List Frame} {meth : Method} {c : Code} {X : gw_X} {Y : gw_M} {z : (Int32 × gw_M)} (C0 : gw_C ((Cond.code yy_od_marksOf by_od_marksOf 4 (some .int)) :: gw_w) by_od_marksOf 4 (some .int) "AccountMachine$Order" X p s m args meth c) (M : gw_M) (a0 : Nat) (v1 : Int32) (H : Heap) (locs : List Loc) (ls : Array Slot) (ha0 : gc_k a0 = (4, 0)) (G : gw_G X (gw_E X M Y) s H locs) (hl : lv_has ls 4 [(0, .ref (gc_a X a0)), (1, .int v1)]) (hF : od_marksOf_b0  M a0 v1 = some z) : W p l e rm_od_marksOf s m args below meth c H locs 0 0 (MQ below (gw_Qi X (fun M => (gw_E X M Y)) z) args s 0 0 (gw_A X)) (F0 m 0 ls []) := by
  obtain ⟨hx, hb, hml, hown, hts, hr, hlocks, hK⟩ := id C0
  have hg : ∀ w ∈ gw_w, w.before args s = true := fun w h => hts w (List.mem_cons_of_mem _ h)
  unfold od_marksOf_b0 at hF
  refine lv_iconst (v := (0 : Int32)) hx hb dd_od_marksOf_0 (by decide) ?_
  refine lv_istore_n (i := 2) (lv' := [(2, .int (0 : Int32)), (0, .ref (gc_a X a0)), (1, .int v1)]) hx hb dd_od_marksOf_1 rfl hl (by decide) rfl (fun ls hl => ?_)
  refine lv_iconst (v := (0 : Int32)) hx hb dd_od_marksOf_2 (by decide) ?_
  refine lv_istore_n (i := 3) (lv' := [(3, .int (0 : Int32)), (2, .int (0 : Int32)), (0, .ref (gc_a X a0)), (1, .int v1)]) hx hb dd_od_marksOf_3 rfl hl (by decide) rfl (fun ls hl => ?_)
  exact wl_od_marksOf_4 C0  2100 M a0 v1 (0 : Int32) (0 : Int32) _ _ _ ha0 G (lv_sub hl [2, 3, 1, 0] rfl) hF
set_option maxRecDepth 100000 in
set_option maxHeartbeats 4000000 in
theorem ct_od_marksOf (l : Launch) (X : gw_X) (Y : gw_M) (M : gw_M) (a0 : Nat) (v1 : Int32) (ha0 : gc_k a0 = (4, 0)) (z : (Int32 × gw_M)) (hF : od_marksOf_b0 M a0 v1 = some z) : Met l yy_od_marksOf ((Cond.code yy_od_marksOf by_od_marksOf 4 (some .int)) :: gw_w) rm_od_marksOf (va_Pc [.ref (gc_a X a0), .int v1] (gw_B X (gw_E X M Y))) (gw_Qi X (fun M => (gw_E X M Y)) z) 0 0 (gw_A X) := by
  refine Met.ofW (cc := by_od_marksOf) (maxL := 4) (ret := (some .int)) (by decide) rfl ?_
  intro p e s m args below meth c s₁ B hml hv
  obtain ⟨rfl, hB⟩ := hv
  rw [lg_entry_eq]
  have hl := lv_entry ([.ref (gc_a X a0), .int v1]) (n := 4) (Nat.le_of_ble_eq_true rfl)
  generalize (lg_sl ([.ref (gc_a X a0), .int v1]) ++ List.replicate (4 - (lg_sl ([.ref (gc_a X a0), .int v1])).length) Slot.unset).toArray = ls at hl ⊢
  have hl : lv_has ls 4 [(0, .ref (gc_a X a0)), (1, .int v1)] := hl
  exact wb_od_marksOf_0 (gw_ctx B hml rfl hB) M a0 v1 _ _ _ ha0 (gw_start hB) hl hF
/-! AccountMachine$Ledger.copyFrom(LAccountMachine$Ledger;)V -/
abbrev rm_le_copyFrom : Room := { frames := 1, cells := 0, slots := 0, locals := 60 }
theorem dd_le_copyFrom_0 : decode by_le_copyFrom 0 = .ok (.aload_n 1, 1) := by decide +kernel
theorem dd_le_copyFrom_1 : decode by_le_copyFrom 1 = .ok (.getfield 9, 3) := by decide +kernel
theorem dd_le_copyFrom_4 : decode by_le_copyFrom 4 = .ok (.iconst 0, 1) := by decide +kernel
theorem dd_le_copyFrom_5 : decode by_le_copyFrom 5 = .ok (.aload_n 0, 1) := by decide +kernel
theorem dd_le_copyFrom_6 : decode by_le_copyFrom 6 = .ok (.getfield 9, 3) := by decide +kernel
theorem dd_le_copyFrom_9 : decode by_le_copyFrom 9 = .ok (.iconst 0, 1) := by decide +kernel
theorem dd_le_copyFrom_10 : decode by_le_copyFrom 10 = .ok (.bipush 8, 2) := by decide +kernel
theorem dd_le_copyFrom_12 : decode by_le_copyFrom 12 = .ok (.invokestatic 30, 3) := by decide +kernel
theorem dd_le_copyFrom_15 : decode by_le_copyFrom 15 = .ok (.aload_n 1, 1) := by decide +kernel
theorem dd_le_copyFrom_16 : decode by_le_copyFrom 16 = .ok (.getfield 15, 3) := by decide +kernel
theorem dd_le_copyFrom_19 : decode by_le_copyFrom 19 = .ok (.iconst 0, 1) := by decide +kernel
theorem dd_le_copyFrom_20 : decode by_le_copyFrom 20 = .ok (.aload_n 0, 1) := by decide +kernel
theorem dd_le_copyFrom_21 : decode by_le_copyFrom 21 = .ok (.getfield 15, 3) := by decide +kernel
theorem dd_le_copyFrom_24 : decode by_le_copyFrom 24 = .ok (.iconst 0, 1) := by decide +kernel
theorem dd_le_copyFrom_25 : decode by_le_copyFrom 25 = .ok (.bipush 8, 2) := by decide +kernel
theorem dd_le_copyFrom_27 : decode by_le_copyFrom 27 = .ok (.invokestatic 30, 3) := by decide +kernel
theorem dd_le_copyFrom_30 : decode by_le_copyFrom 30 = .ok (.aload_n 1, 1) := by decide +kernel
theorem dd_le_copyFrom_31 : decode by_le_copyFrom 31 = .ok (.getfield 18, 3) := by decide +kernel
theorem dd_le_copyFrom_34 : decode by_le_copyFrom 34 = .ok (.iconst 0, 1) := by decide +kernel
theorem dd_le_copyFrom_35 : decode by_le_copyFrom 35 = .ok (.aload_n 0, 1) := by decide +kernel
theorem dd_le_copyFrom_36 : decode by_le_copyFrom 36 = .ok (.getfield 18, 3) := by decide +kernel
theorem dd_le_copyFrom_39 : decode by_le_copyFrom 39 = .ok (.iconst 0, 1) := by decide +kernel
theorem dd_le_copyFrom_40 : decode by_le_copyFrom 40 = .ok (.bipush 8, 2) := by decide +kernel
theorem dd_le_copyFrom_42 : decode by_le_copyFrom 42 = .ok (.invokestatic 30, 3) := by decide +kernel
theorem dd_le_copyFrom_45 : decode by_le_copyFrom 45 = .ok (.aload_n 1, 1) := by decide +kernel
theorem dd_le_copyFrom_46 : decode by_le_copyFrom 46 = .ok (.getfield 21, 3) := by decide +kernel
theorem dd_le_copyFrom_49 : decode by_le_copyFrom 49 = .ok (.iconst 0, 1) := by decide +kernel
theorem dd_le_copyFrom_50 : decode by_le_copyFrom 50 = .ok (.aload_n 0, 1) := by decide +kernel
theorem dd_le_copyFrom_51 : decode by_le_copyFrom 51 = .ok (.getfield 21, 3) := by decide +kernel
theorem dd_le_copyFrom_54 : decode by_le_copyFrom 54 = .ok (.iconst 0, 1) := by decide +kernel
theorem dd_le_copyFrom_55 : decode by_le_copyFrom 55 = .ok (.bipush 32, 2) := by decide +kernel
theorem dd_le_copyFrom_57 : decode by_le_copyFrom 57 = .ok (.invokestatic 30, 3) := by decide +kernel
theorem dd_le_copyFrom_60 : decode by_le_copyFrom 60 = .ok (.return_, 1) := by decide +kernel
def le_copyFrom_b0 (M : gw_M) (a0 : Nat) (a1 : Nat) : Option (Unit × gw_M) :=
  gw_lt (gw_cp M (a1 + 1) (a0 + 1) 0 0 8) (fun M12 => gw_lt (gw_cp M12 (a1 + 2) (a0 + 2) 0 0 8) (fun M27 => gw_lt (gw_cp M27 (a1 + 3) (a0 + 3) 0 0 8) (fun M42 => gw_lt (gw_cp M42 (a1 + 4) (a0 + 4) 0 0 32) (fun M57 => some ((), M57)))))
set_option maxRecDepth 100000 in
set_option maxHeartbeats 4000000 in
theorem wb_le_copyFrom_0 {p : Program} {l : Launch} {e : Env} {s : State} {m : MethodId} {args : Array Value} {below : List Frame} {meth : Method} {c : Code} {X : gw_X} {Y : gw_M} {z : (Unit × gw_M)} (C0 : gw_C ((Cond.code yy_le_copyFrom by_le_copyFrom 2 none) :: gw_w) by_le_copyFrom 2 none "AccountMachine$Ledger" X p s m args meth c) (M : gw_M) (a0 : Nat) (a1 : Nat) (H : Heap) (locs : List Loc) (ls : Array Slot) (ha0 : gc_k a0 = (3, 0)) (ha1 : gc_k a1 = (3, 0)) (G : gw_G X (gw_E X M Y) s H locs) (hl : lv_has ls 2 [(0, .ref (gc_a X a0)), (1, .ref (gc_a X a1))]) (hF : le_copyFrom_b0  M a0 a1 = some z) : W p l e rm_le_copyFrom s m args below meth c H locs 0 0 (MQ below (gw_Qv X (fun M => (gw_E X M Y)) z) args s 0 0 (gw_A X)) (F0 m 0 ls []) := by
  obtain ⟨hx, hb, hml, hown, hts, hr, hlocks, hK⟩ := id C0
  have hg : ∀ w ∈ gw_w, w.before args s = true := fun w h => hts w (List.mem_cons_of_mem _ h)
  unfold le_copyFrom_b0 at hF
  refine lv_aload_n hx hb dd_le_copyFrom_0 rfl (lv_at hl 1 rfl) ?_
  refine gf_le_balances hx hb hg hown (hg _ kw_63) hK G ha1 dd_le_copyFrom_1 ?_
  refine lv_iconst (v := (0 : Int32)) hx hb dd_le_copyFrom_4 (by decide) ?_
  refine lv_aload_n hx hb dd_le_copyFrom_5 rfl (lv_at hl 0 rfl) ?_
  refine gf_le_balances hx hb hg hown (hg _ kw_63) hK G ha0 dd_le_copyFrom_6 ?_
  refine lv_iconst (v := (0 : Int32)) hx hb dd_le_copyFrom_9 (by decide) ?_
  refine lv_bipush (v := (8 : Int32)) hx hb dd_le_copyFrom_10 (by decide) ?_
  refine gc_copy hx hb (by rw [hml]; exact hl.1.symm) hown (hg _ kw_64) (hg _ kw_65) (hg _ kw_66) (hg _ kw_67) hK G (gq_le_balances ha1) (gq_le_balances ha0) (by decide) (by decide) (by decide) (by decide) (by decide) (Nat.le_of_ble_eq_true rfl) (Nat.le_of_ble_eq_true rfl) dd_le_copyFrom_12 (fun M12 H locs e12 G => ?_)
  replace hF := gw_ly e12 hF
  refine lv_aload_n hx hb dd_le_copyFrom_15 rfl (lv_at hl 1 rfl) ?_
  refine W.eq (g2 := F0 m 16 _ _) rfl ?_
  refine gf_le_owners hx hb hg hown (hg _ kw_68) hK G ha1 dd_le_copyFrom_16 ?_
  refine lv_iconst (v := (0 : Int32)) hx hb dd_le_copyFrom_19 (by decide) ?_
  refine lv_aload_n hx hb dd_le_copyFrom_20 rfl (lv_at hl 0 rfl) ?_
  refine gf_le_owners hx hb hg hown (hg _ kw_68) hK G ha0 dd_le_copyFrom_21 ?_
  refine lv_iconst (v := (0 : Int32)) hx hb dd_le_copyFrom_24 (by decide) ?_
  refine lv_bipush (v := (8 : Int32)) hx hb dd_le_copyFrom_25 (by decide) ?_
  refine gc_copy hx hb (by rw [hml]; exact hl.1.symm) hown (hg _ kw_64) (hg _ kw_65) (hg _ kw_66) (hg _ kw_67) hK G (gq_le_owners ha1) (gq_le_owners ha0) (by decide) (by decide) (by decide) (by decide) (by decide) (Nat.le_of_ble_eq_true rfl) (Nat.le_of_ble_eq_true rfl) dd_le_copyFrom_27 (fun M27 H locs e27 G => ?_)
  replace hF := gw_ly e27 hF
  refine lv_aload_n hx hb dd_le_copyFrom_30 rfl (lv_at hl 1 rfl) ?_
  refine gf_le_sizes hx hb hg hown (hg _ kw_69) hK G ha1 dd_le_copyFrom_31 ?_
  refine lv_iconst (v := (0 : Int32)) hx hb dd_le_copyFrom_34 (by decide) ?_
  refine W.eq (g2 := F0 m 35 _ _) rfl ?_
  refine lv_aload_n hx hb dd_le_copyFrom_35 rfl (lv_at hl 0 rfl) ?_
  refine gf_le_sizes hx hb hg hown (hg _ kw_69) hK G ha0 dd_le_copyFrom_36 ?_
  refine lv_iconst (v := (0 : Int32)) hx hb dd_le_copyFrom_39 (by decide) ?_
  refine lv_bipush (v := (8 : Int32)) hx hb dd_le_copyFrom_40 (by decide) ?_
  refine gc_copy hx hb (by rw [hml]; exact hl.1.symm) hown (hg _ kw_64) (hg _ kw_65) (hg _ kw_66) (hg _ kw_67) hK G (gq_le_sizes ha1) (gq_le_sizes ha0) (by decide) (by decide) (by decide) (by decide) (by decide) (Nat.le_of_ble_eq_true rfl) (Nat.le_of_ble_eq_true rfl) dd_le_copyFrom_42 (fun M42 H locs e42 G => ?_)
  replace hF := gw_ly e42 hF
  refine lv_aload_n hx hb dd_le_copyFrom_45 rfl (lv_at hl 1 rfl) ?_
  refine gf_le_words hx hb hg hown (hg _ kw_70) hK G ha1 dd_le_copyFrom_46 ?_
  refine lv_iconst (v := (0 : Int32)) hx hb dd_le_copyFrom_49 (by decide) ?_
  refine lv_aload_n hx hb dd_le_copyFrom_50 rfl (lv_at hl 0 rfl) ?_
  refine gf_le_words hx hb hg hown (hg _ kw_70) hK G ha0 dd_le_copyFrom_51 ?_
  refine W.eq (g2 := F0 m 54 _ _) rfl ?_
  refine lv_iconst (v := (0 : Int32)) hx hb dd_le_copyFrom_54 (by decide) ?_
  refine lv_bipush (v := (32 : Int32)) hx hb dd_le_copyFrom_55 (by decide) ?_
  refine gc_copy hx hb (by rw [hml]; exact hl.1.symm) hown (hg _ kw_64) (hg _ kw_65) (hg _ kw_66) (hg _ kw_67) hK G (gq_le_words ha1) (gq_le_words ha0) (by decide) (by decide) (by decide) (by decide) (by decide) (Nat.le_of_ble_eq_true rfl) (Nat.le_of_ble_eq_true rfl) dd_le_copyFrom_57 (fun M57 H locs e57 G => ?_)
  replace hF := gw_ly e57 hF
  exact W.vret hx hb hr (fun t ht hW => gw_endv (EF := (fun M => (gw_E X M Y))) (M := M57) G ht hF) G.2.2.2.2 dd_le_copyFrom_60 hlocks
set_option maxRecDepth 100000 in
set_option maxHeartbeats 4000000 in
theorem ct_le_copyFrom (l : Launch) (X : gw_X) (Y : gw_M) (M : gw_M) (a0 : Nat) (a1 : Nat) (ha0 : gc_k a0 = (3, 0)) (ha1 : gc_k a1 = (3, 0)) (z : (Unit × gw_M)) (hF : le_copyFrom_b0 M a0 a1 = some z) : Met l yy_le_copyFrom ((Cond.code yy_le_copyFrom by_le_copyFrom 2 none) :: gw_w) rm_le_copyFrom (va_Pc [.ref (gc_a X a0), .ref (gc_a X a1)] (gw_B X (gw_E X M Y))) (gw_Qv X (fun M => (gw_E X M Y)) z) 0 0 (gw_A X) := by
  refine Met.ofW (cc := by_le_copyFrom) (maxL := 2) (ret := none) (by decide) rfl ?_
  intro p e s m args below meth c s₁ B hml hv
  obtain ⟨rfl, hB⟩ := hv
  rw [lg_entry_eq]
  have hl := lv_entry ([.ref (gc_a X a0), .ref (gc_a X a1)]) (n := 2) (Nat.le_of_ble_eq_true rfl)
  generalize (lg_sl ([.ref (gc_a X a0), .ref (gc_a X a1)]) ++ List.replicate (2 - (lg_sl ([.ref (gc_a X a0), .ref (gc_a X a1)])).length) Slot.unset).toArray = ls at hl ⊢
  have hl : lv_has ls 2 [(0, .ref (gc_a X a0)), (1, .ref (gc_a X a1))] := hl
  exact wb_le_copyFrom_0 (gw_ctx B hml rfl hB) M a0 a1 _ _ _ ha0 ha1 (gw_start hB) hl hF
/-! AccountMachine$Ledger.isBlank(I)Z -/
abbrev rm_le_isBlank : Room := { frames := 0, cells := 0, slots := 0, locals := 0 }
theorem dd_le_isBlank_0 : decode by_le_isBlank 0 = .ok (.aload_n 0, 1) := by decide +kernel
theorem dd_le_isBlank_1 : decode by_le_isBlank 1 = .ok (.getfield 15, 3) := by decide +kernel
theorem dd_le_isBlank_4 : decode by_le_isBlank 4 = .ok (.iload_n 1, 1) := by decide +kernel
theorem dd_le_isBlank_5 : decode by_le_isBlank 5 = .ok (.iaload, 1) := by decide +kernel
theorem dd_le_isBlank_6 : decode by_le_isBlank 6 = .ok (.ifCond .ne 16, 3) := by decide +kernel
theorem dd_le_isBlank_9 : decode by_le_isBlank 9 = .ok (.aload_n 0, 1) := by decide +kernel
theorem dd_le_isBlank_10 : decode by_le_isBlank 10 = .ok (.getfield 18, 3) := by decide +kernel
theorem dd_le_isBlank_13 : decode by_le_isBlank 13 = .ok (.iload_n 1, 1) := by decide +kernel
theorem dd_le_isBlank_14 : decode by_le_isBlank 14 = .ok (.iaload, 1) := by decide +kernel
theorem dd_le_isBlank_15 : decode by_le_isBlank 15 = .ok (.ifCond .ne 7, 3) := by decide +kernel
theorem dd_le_isBlank_18 : decode by_le_isBlank 18 = .ok (.iconst 1, 1) := by decide +kernel
theorem dd_le_isBlank_19 : decode by_le_isBlank 19 = .ok (.goto 4, 3) := by decide +kernel
theorem dd_le_isBlank_22 : decode by_le_isBlank 22 = .ok (.iconst 0, 1) := by decide +kernel
theorem dd_le_isBlank_23 : decode by_le_isBlank 23 = .ok (.ireturn, 1) := by decide +kernel
def le_isBlank_b0 (M : gw_M) (a0 : Nat) (v1 : Int32) : Option (Int32 × gw_M) :=
  gw_gu (gw_in v1 8) (if (M.1 (a0 + 2) v1.toNatClampNeg) = (0 : Int32) then (gw_gu (gw_in v1 8) (if (M.1 (a0 + 3) v1.toNatClampNeg) = (0 : Int32) then (some ((1 : Int32), M)) else (some ((0 : Int32), M)))) else (some ((0 : Int32), M)))
set_option maxRecDepth 100000 in
set_option maxHeartbeats 4000000 in
theorem wb_le_isBlank_0 {p : Program} {l : Launch} {e : Env} {s : State} {m : MethodId} {args : Array Value} {below : List Frame} {meth : Method} {c : Code} {X : gw_X} {Y : gw_M} {z : (Int32 × gw_M)} (C0 : gw_C ((Cond.code yy_le_isBlank by_le_isBlank 2 (some .boolean)) :: gw_w) by_le_isBlank 2 (some .boolean) "AccountMachine$Ledger" X p s m args meth c) (M : gw_M) (a0 : Nat) (v1 : Int32) (H : Heap) (locs : List Loc) (ls : Array Slot) (ha0 : gc_k a0 = (3, 0)) (G : gw_G X (gw_E X M Y) s H locs) (hl : lv_has ls 2 [(0, .ref (gc_a X a0)), (1, .int v1)]) (hF : le_isBlank_b0  M a0 v1 = some z) : W p l e rm_le_isBlank s m args below meth c H locs 0 0 (MQ below (gw_Qi X (fun M => (gw_E X M Y)) z) args s 0 0 (gw_A X)) (F0 m 0 ls []) := by
  obtain ⟨hx, hb, hml, hown, hts, hr, hlocks, hK⟩ := id C0
  have hg : ∀ w ∈ gw_w, w.before args s = true := fun w h => hts w (List.mem_cons_of_mem _ h)
  unfold le_isBlank_b0 at hF
  refine lv_aload_n hx hb dd_le_isBlank_0 rfl (lv_at hl 0 rfl) ?_
  refine gf_le_owners hx hb hg hown (hg _ kw_68) hK G ha0 dd_le_isBlank_1 ?_
  refine lv_iload_n hx hb dd_le_isBlank_4 rfl (lv_at hl 1 rfl) ?_
  obtain ⟨h5, hF⟩ := gw_gd hF
  refine gc_iald hx hb hK G (gq_le_owners ha0) (gw_vp h5) (j := v1.toNatClampNeg) rfl dd_le_isBlank_5 ?_
  refine lv_if_ne (tgt := 22) hx hb dd_le_isBlank_6 (by decide) (fun h6 => ?_) (fun h6 => ?_)
  · replace hF := gw_ef h6 hF
    refine lv_iconst (v := (0 : Int32)) hx hb dd_le_isBlank_22 (by decide) ?_
    exact W.zret hx hb hr (by decide) (fun t ht hW => gw_endi (EF := (fun M => (gw_E X M Y))) (M := M) G ht hF) G.2.2.2.2 dd_le_isBlank_23 hlocks
  · replace hF := gw_et h6 hF
    refine lv_aload_n hx hb dd_le_isBlank_9 rfl (lv_at hl 0 rfl) ?_
    refine gf_le_sizes hx hb hg hown (hg _ kw_69) hK G ha0 dd_le_isBlank_10 ?_
    refine lv_iload_n hx hb dd_le_isBlank_13 rfl (lv_at hl 1 rfl) ?_
    obtain ⟨h14, hF⟩ := gw_gd hF
    refine gc_iald hx hb hK G (gq_le_sizes ha0) (gw_vp h14) (j := v1.toNatClampNeg) rfl dd_le_isBlank_14 ?_
    refine lv_if_ne (tgt := 22) hx hb dd_le_isBlank_15 (by decide) (fun h15 => ?_) (fun h15 => ?_)
    · replace hF := gw_ef h15 hF
      refine lv_iconst (v := (0 : Int32)) hx hb dd_le_isBlank_22 (by decide) ?_
      exact W.zret hx hb hr (by decide) (fun t ht hW => gw_endi (EF := (fun M => (gw_E X M Y))) (M := M) G ht hF) G.2.2.2.2 dd_le_isBlank_23 hlocks
    · replace hF := gw_et h15 hF
      refine lv_iconst (v := (1 : Int32)) hx hb dd_le_isBlank_18 (by decide) ?_
      refine lv_goto (tgt := 23) hx hb dd_le_isBlank_19 (by decide) ?_
      exact W.zret hx hb hr (by decide) (fun t ht hW => gw_endi (EF := (fun M => (gw_E X M Y))) (M := M) G ht hF) G.2.2.2.2 dd_le_isBlank_23 hlocks
set_option maxRecDepth 100000 in
set_option maxHeartbeats 4000000 in
theorem ct_le_isBlank (l : Launch) (X : gw_X) (Y : gw_M) (M : gw_M) (a0 : Nat) (v1 : Int32) (ha0 : gc_k a0 = (3, 0)) (z : (Int32 × gw_M)) (hF : le_isBlank_b0 M a0 v1 = some z) : Met l yy_le_isBlank ((Cond.code yy_le_isBlank by_le_isBlank 2 (some .boolean)) :: gw_w) rm_le_isBlank (va_Pc [.ref (gc_a X a0), .int v1] (gw_B X (gw_E X M Y))) (gw_Qi X (fun M => (gw_E X M Y)) z) 0 0 (gw_A X) := by
  refine Met.ofW (cc := by_le_isBlank) (maxL := 2) (ret := (some .boolean)) (by decide) rfl ?_
  intro p e s m args below meth c s₁ B hml hv
  obtain ⟨rfl, hB⟩ := hv
  rw [lg_entry_eq]
  have hl := lv_entry ([.ref (gc_a X a0), .int v1]) (n := 2) (Nat.le_of_ble_eq_true rfl)
  generalize (lg_sl ([.ref (gc_a X a0), .int v1]) ++ List.replicate (2 - (lg_sl ([.ref (gc_a X a0), .int v1])).length) Slot.unset).toArray = ls at hl ⊢
  have hl : lv_has ls 2 [(0, .ref (gc_a X a0)), (1, .int v1)] := hl
  exact wb_le_isBlank_0 (gw_ctx B hml rfl hB) M a0 v1 _ _ _ ha0 (gw_start hB) hl hF
/-! AccountMachine$Order.reset(II)V -/
abbrev rm_od_reset : Room := { frames := 0, cells := 0, slots := 0, locals := 0 }
theorem dd_od_reset_0 : decode by_od_reset 0 = .ok (.aload_n 0, 1) := by decide +kernel
theorem dd_od_reset_1 : decode by_od_reset 1 = .ok (.iload_n 1, 1) := by decide +kernel
theorem dd_od_reset_2 : decode by_od_reset 2 = .ok (.putfield 9, 3) := by decide +kernel
theorem dd_od_reset_5 : decode by_od_reset 5 = .ok (.aload_n 0, 1) := by decide +kernel
theorem dd_od_reset_6 : decode by_od_reset 6 = .ok (.iload_n 2, 1) := by decide +kernel
theorem dd_od_reset_7 : decode by_od_reset 7 = .ok (.putfield 15, 3) := by decide +kernel
theorem dd_od_reset_10 : decode by_od_reset 10 = .ok (.aload_n 0, 1) := by decide +kernel
theorem dd_od_reset_11 : decode by_od_reset 11 = .ok (.iconst 0, 1) := by decide +kernel
theorem dd_od_reset_12 : decode by_od_reset 12 = .ok (.putfield 18, 3) := by decide +kernel
theorem dd_od_reset_15 : decode by_od_reset 15 = .ok (.return_, 1) := by decide +kernel
def od_reset_b0 (M : gw_M) (a0 : Nat) (v1 : Int32) (v2 : Int32) : Option (Unit × gw_M) :=
  gw_lt (gw_sI M a0 0 v1) (fun M2 => gw_lt (gw_sI M2 a0 1 v2) (fun M7 => gw_lt (gw_sI M7 a0 2 (0 : Int32)) (fun M12 => some ((), M12))))
set_option maxRecDepth 100000 in
set_option maxHeartbeats 4000000 in
theorem wb_od_reset_0 {p : Program} {l : Launch} {e : Env} {s : State} {m : MethodId} {args : Array Value} {below : List Frame} {meth : Method} {c : Code} {X : gw_X} {Y : gw_M} {z : (Unit × gw_M)} (C0 : gw_C ((Cond.code yy_od_reset by_od_reset 3 none) :: gw_w) by_od_reset 3 none "AccountMachine$Order" X p s m args meth c) (M : gw_M) (a0 : Nat) (v1 : Int32) (v2 : Int32) (H : Heap) (locs : List Loc) (ls : Array Slot) (ha0 : gc_k a0 = (4, 0)) (G : gw_G X (gw_E X M Y) s H locs) (hl : lv_has ls 3 [(0, .ref (gc_a X a0)), (1, .int v1), (2, .int v2)]) (hF : od_reset_b0  M a0 v1 v2 = some z) : W p l e rm_od_reset s m args below meth c H locs 0 0 (MQ below (gw_Qv X (fun M => (gw_E X M Y)) z) args s 0 0 (gw_A X)) (F0 m 0 ls []) := by
  obtain ⟨hx, hb, hml, hown, hts, hr, hlocks, hK⟩ := id C0
  have hg : ∀ w ∈ gw_w, w.before args s = true := fun w h => hts w (List.mem_cons_of_mem _ h)
  unfold od_reset_b0 at hF
  refine lv_aload_n hx hb dd_od_reset_0 rfl (lv_at hl 0 rfl) ?_
  refine lv_iload_n hx hb dd_od_reset_1 rfl (lv_at hl 1 rfl) ?_
  refine gp_od_program hx hb hg hown (hg _ kw_71) hK G ha0 dd_od_reset_2 (fun M2 H locs e2 G => ?_)
  replace hF := gw_ly e2 hF
  refine lv_aload_n hx hb dd_od_reset_5 rfl (lv_at hl 0 rfl) ?_
  refine lv_iload_n hx hb dd_od_reset_6 rfl (lv_at hl 2 rfl) ?_
  refine gp_od_argument hx hb hg hown (hg _ kw_72) hK G ha0 dd_od_reset_7 (fun M7 H locs e7 G => ?_)
  replace hF := gw_ly e7 hF
  refine lv_aload_n hx hb dd_od_reset_10 rfl (lv_at hl 0 rfl) ?_
  refine lv_iconst (v := (0 : Int32)) hx hb dd_od_reset_11 (by decide) ?_
  refine gp_od_count hx hb hg hown (hg _ kw_0) hK G ha0 dd_od_reset_12 (fun M12 H locs e12 G => ?_)
  replace hF := gw_ly e12 hF
  refine W.eq (g2 := F0 m 15 _ _) rfl ?_
  exact W.vret hx hb hr (fun t ht hW => gw_endv (EF := (fun M => (gw_E X M Y))) (M := M12) G ht hF) G.2.2.2.2 dd_od_reset_15 hlocks
set_option maxRecDepth 100000 in
set_option maxHeartbeats 4000000 in
theorem ct_od_reset (l : Launch) (X : gw_X) (Y : gw_M) (M : gw_M) (a0 : Nat) (v1 : Int32) (v2 : Int32) (ha0 : gc_k a0 = (4, 0)) (z : (Unit × gw_M)) (hF : od_reset_b0 M a0 v1 v2 = some z) : Met l yy_od_reset ((Cond.code yy_od_reset by_od_reset 3 none) :: gw_w) rm_od_reset (va_Pc [.ref (gc_a X a0), .int v1, .int v2] (gw_B X (gw_E X M Y))) (gw_Qv X (fun M => (gw_E X M Y)) z) 0 0 (gw_A X) := by
  refine Met.ofW (cc := by_od_reset) (maxL := 3) (ret := none) (by decide) rfl ?_
  intro p e s m args below meth c s₁ B hml hv
  obtain ⟨rfl, hB⟩ := hv
  rw [lg_entry_eq]
  have hl := lv_entry ([.ref (gc_a X a0), .int v1, .int v2]) (n := 3) (Nat.le_of_ble_eq_true rfl)
  generalize (lg_sl ([.ref (gc_a X a0), .int v1, .int v2]) ++ List.replicate (3 - (lg_sl ([.ref (gc_a X a0), .int v1, .int v2])).length) Slot.unset).toArray = ls at hl ⊢
  have hl : lv_has ls 3 [(0, .ref (gc_a X a0)), (1, .int v1), (2, .int v2)] := hl
  exact wb_od_reset_0 (gw_ctx B hml rfl hB) M a0 v1 v2 _ _ _ ha0 (gw_start hB) hl hF
/-! AccountMachine$Order.addSlot(II)Z -/
abbrev rm_od_addSlot : Room := { frames := 0, cells := 0, slots := 0, locals := 0 }
theorem dd_od_addSlot_0 : decode by_od_addSlot 0 = .ok (.aload_n 0, 1) := by decide +kernel
theorem dd_od_addSlot_1 : decode by_od_addSlot 1 = .ok (.getfield 18, 3) := by decide +kernel
theorem dd_od_addSlot_4 : decode by_od_addSlot 4 = .ok (.iconst 4, 1) := by decide +kernel
theorem dd_od_addSlot_5 : decode by_od_addSlot 5 = .ok (.if_icmp .lt 5, 3) := by decide +kernel
theorem dd_od_addSlot_8 : decode by_od_addSlot 8 = .ok (.iconst 0, 1) := by decide +kernel
theorem dd_od_addSlot_9 : decode by_od_addSlot 9 = .ok (.ireturn, 1) := by decide +kernel
theorem dd_od_addSlot_10 : decode by_od_addSlot 10 = .ok (.aload_n 0, 1) := by decide +kernel
theorem dd_od_addSlot_11 : decode by_od_addSlot 11 = .ok (.getfield 21, 3) := by decide +kernel
theorem dd_od_addSlot_14 : decode by_od_addSlot 14 = .ok (.aload_n 0, 1) := by decide +kernel
theorem dd_od_addSlot_15 : decode by_od_addSlot 15 = .ok (.getfield 18, 3) := by decide +kernel
theorem dd_od_addSlot_18 : decode by_od_addSlot 18 = .ok (.iload_n 1, 1) := by decide +kernel
theorem dd_od_addSlot_19 : decode by_od_addSlot 19 = .ok (.iastore, 1) := by decide +kernel
theorem dd_od_addSlot_20 : decode by_od_addSlot 20 = .ok (.aload_n 0, 1) := by decide +kernel
theorem dd_od_addSlot_21 : decode by_od_addSlot 21 = .ok (.getfield 25, 3) := by decide +kernel
theorem dd_od_addSlot_24 : decode by_od_addSlot 24 = .ok (.aload_n 0, 1) := by decide +kernel
theorem dd_od_addSlot_25 : decode by_od_addSlot 25 = .ok (.getfield 18, 3) := by decide +kernel
theorem dd_od_addSlot_28 : decode by_od_addSlot 28 = .ok (.iload_n 2, 1) := by decide +kernel
theorem dd_od_addSlot_29 : decode by_od_addSlot 29 = .ok (.iastore, 1) := by decide +kernel
theorem dd_od_addSlot_30 : decode by_od_addSlot 30 = .ok (.aload_n 0, 1) := by decide +kernel
theorem dd_od_addSlot_31 : decode by_od_addSlot 31 = .ok (.dup, 1) := by decide +kernel
theorem dd_od_addSlot_32 : decode by_od_addSlot 32 = .ok (.getfield 18, 3) := by decide +kernel
theorem dd_od_addSlot_35 : decode by_od_addSlot 35 = .ok (.iconst 1, 1) := by decide +kernel
theorem dd_od_addSlot_36 : decode by_od_addSlot 36 = .ok (.iadd, 1) := by decide +kernel
theorem dd_od_addSlot_37 : decode by_od_addSlot 37 = .ok (.putfield 18, 3) := by decide +kernel
theorem dd_od_addSlot_40 : decode by_od_addSlot 40 = .ok (.iconst 1, 1) := by decide +kernel
theorem dd_od_addSlot_41 : decode by_od_addSlot 41 = .ok (.ireturn, 1) := by decide +kernel
def od_addSlot_b0 (M : gw_M) (a0 : Nat) (v1 : Int32) (v2 : Int32) : Option (Int32 × gw_M) :=
  if (M.1 a0 2) < (4 : Int32) then (gw_gu (gw_in (M.1 a0 2) 4) (gw_lt (gw_sI M (a0 + 1) ((M.1 a0 2).toNatClampNeg) v1) (fun M19 => gw_gu (gw_in (M19.1 a0 2) 4) (gw_lt (gw_sI M19 (a0 + 2) ((M19.1 a0 2).toNatClampNeg) v2) (fun M29 => gw_lt (gw_sI M29 a0 2 ((M29.1 a0 2) + (1 : Int32))) (fun M37 => some ((1 : Int32), M37))))))) else (some ((0 : Int32), M))
set_option maxRecDepth 100000 in
set_option maxHeartbeats 4000000 in
theorem wb_od_addSlot_0 {p : Program} {l : Launch} {e : Env} {s : State} {m : MethodId} {args : Array Value} {below : List Frame} {meth : Method} {c : Code} {X : gw_X} {Y : gw_M} {z : (Int32 × gw_M)} (C0 : gw_C ((Cond.code yy_od_addSlot by_od_addSlot 3 (some .boolean)) :: gw_w) by_od_addSlot 3 (some .boolean) "AccountMachine$Order" X p s m args meth c) (M : gw_M) (a0 : Nat) (v1 : Int32) (v2 : Int32) (H : Heap) (locs : List Loc) (ls : Array Slot) (ha0 : gc_k a0 = (4, 0)) (G : gw_G X (gw_E X M Y) s H locs) (hl : lv_has ls 3 [(0, .ref (gc_a X a0)), (1, .int v1), (2, .int v2)]) (hF : od_addSlot_b0  M a0 v1 v2 = some z) : W p l e rm_od_addSlot s m args below meth c H locs 0 0 (MQ below (gw_Qi X (fun M => (gw_E X M Y)) z) args s 0 0 (gw_A X)) (F0 m 0 ls []) := by
  obtain ⟨hx, hb, hml, hown, hts, hr, hlocks, hK⟩ := id C0
  have hg : ∀ w ∈ gw_w, w.before args s = true := fun w h => hts w (List.mem_cons_of_mem _ h)
  unfold od_addSlot_b0 at hF
  refine lv_aload_n hx hb dd_od_addSlot_0 rfl (lv_at hl 0 rfl) ?_
  refine gf_od_count hx hb hg hown (hg _ kw_0) hK G ha0 dd_od_addSlot_1 ?_
  refine lv_iconst (v := (4 : Int32)) hx hb dd_od_addSlot_4 (by decide) ?_
  refine lv_icmp_lt (tgt := 10) hx hb dd_od_addSlot_5 (by decide) (fun h5 => ?_) (fun h5 => ?_)
  · replace hF := gw_et h5 hF
    refine lv_aload_n hx hb dd_od_addSlot_10 rfl (lv_at hl 0 rfl) ?_
    refine gf_od_accounts hx hb hg hown (hg _ kw_1) hK G ha0 dd_od_addSlot_11 ?_
    refine lv_aload_n hx hb dd_od_addSlot_14 rfl (lv_at hl 0 rfl) ?_
    refine gf_od_count hx hb hg hown (hg _ kw_0) hK G ha0 dd_od_addSlot_15 ?_
    refine lv_iload_n hx hb dd_od_addSlot_18 rfl (lv_at hl 1 rfl) ?_
    obtain ⟨h19, hF⟩ := gw_gd hF
    refine gc_iast hx hb hK G (gq_od_accounts ha0) (gw_vp h19) (j := (M.1 a0 2).toNatClampNeg) rfl dd_od_addSlot_19 (fun M19 H locs e19 G => ?_)
    replace hF := gw_ly e19 hF
    refine lv_aload_n hx hb dd_od_addSlot_20 rfl (lv_at hl 0 rfl) ?_
    refine gf_od_marks hx hb hg hown (hg _ kw_2) hK G ha0 dd_od_addSlot_21 ?_
    refine lv_aload_n hx hb dd_od_addSlot_24 rfl (lv_at hl 0 rfl) ?_
    refine W.eq (g2 := F0 m 25 _ _) rfl ?_
    refine gf_od_count hx hb hg hown (hg _ kw_0) hK G ha0 dd_od_addSlot_25 ?_
    refine lv_iload_n hx hb dd_od_addSlot_28 rfl (lv_at hl 2 rfl) ?_
    obtain ⟨h29, hF⟩ := gw_gd hF
    refine gc_iast hx hb hK G (gq_od_marks ha0) (gw_vp h29) (j := (M19.1 a0 2).toNatClampNeg) rfl dd_od_addSlot_29 (fun M29 H locs e29 G => ?_)
    replace hF := gw_ly e29 hF
    refine lv_aload_n hx hb dd_od_addSlot_30 rfl (lv_at hl 0 rfl) ?_
    refine lv_dup hx hb dd_od_addSlot_31 rfl ?_
    refine gf_od_count hx hb hg hown (hg _ kw_0) hK G ha0 dd_od_addSlot_32 ?_
    refine lv_iconst (v := (1 : Int32)) hx hb dd_od_addSlot_35 (by decide) ?_
    refine lv_iadd hx hb dd_od_addSlot_36 ?_
    refine gp_od_count hx hb hg hown (hg _ kw_0) hK G ha0 dd_od_addSlot_37 (fun M37 H locs e37 G => ?_)
    replace hF := gw_ly e37 hF
    refine lv_iconst (v := (1 : Int32)) hx hb dd_od_addSlot_40 (by decide) ?_
    refine W.eq (g2 := F0 m 41 _ _) rfl ?_
    exact W.zret hx hb hr (by decide) (fun t ht hW => gw_endi (EF := (fun M => (gw_E X M Y))) (M := M37) G ht hF) G.2.2.2.2 dd_od_addSlot_41 hlocks
  · replace hF := gw_ef h5 hF
    refine lv_iconst (v := (0 : Int32)) hx hb dd_od_addSlot_8 (by decide) ?_
    exact W.zret hx hb hr (by decide) (fun t ht hW => gw_endi (EF := (fun M => (gw_E X M Y))) (M := M) G ht hF) G.2.2.2.2 dd_od_addSlot_9 hlocks
set_option maxRecDepth 100000 in
set_option maxHeartbeats 4000000 in
theorem ct_od_addSlot (l : Launch) (X : gw_X) (Y : gw_M) (M : gw_M) (a0 : Nat) (v1 : Int32) (v2 : Int32) (ha0 : gc_k a0 = (4, 0)) (z : (Int32 × gw_M)) (hF : od_addSlot_b0 M a0 v1 v2 = some z) : Met l yy_od_addSlot ((Cond.code yy_od_addSlot by_od_addSlot 3 (some .boolean)) :: gw_w) rm_od_addSlot (va_Pc [.ref (gc_a X a0), .int v1, .int v2] (gw_B X (gw_E X M Y))) (gw_Qi X (fun M => (gw_E X M Y)) z) 0 0 (gw_A X) := by
  refine Met.ofW (cc := by_od_addSlot) (maxL := 3) (ret := (some .boolean)) (by decide) rfl ?_
  intro p e s m args below meth c s₁ B hml hv
  obtain ⟨rfl, hB⟩ := hv
  rw [lg_entry_eq]
  have hl := lv_entry ([.ref (gc_a X a0), .int v1, .int v2]) (n := 3) (Nat.le_of_ble_eq_true rfl)
  generalize (lg_sl ([.ref (gc_a X a0), .int v1, .int v2]) ++ List.replicate (3 - (lg_sl ([.ref (gc_a X a0), .int v1, .int v2])).length) Slot.unset).toArray = ls at hl ⊢
  have hl : lv_has ls 3 [(0, .ref (gc_a X a0)), (1, .int v1), (2, .int v2)] := hl
  exact wb_od_addSlot_0 (gw_ctx B hml rfl hB) M a0 v1 v2 _ _ _ ha0 (gw_start hB) hl hF
/-! AccountMachine$Order.copyFrom(LAccountMachine$Order;)V -/
abbrev rm_od_copyFrom : Room := { frames := 1, cells := 0, slots := 0, locals := 22 }
theorem dd_od_copyFrom_0 : decode by_od_copyFrom 0 = .ok (.aload_n 0, 1) := by decide +kernel
theorem dd_od_copyFrom_1 : decode by_od_copyFrom 1 = .ok (.aload_n 1, 1) := by decide +kernel
theorem dd_od_copyFrom_2 : decode by_od_copyFrom 2 = .ok (.getfield 9, 3) := by decide +kernel
theorem dd_od_copyFrom_5 : decode by_od_copyFrom 5 = .ok (.aload_n 1, 1) := by decide +kernel
theorem dd_od_copyFrom_6 : decode by_od_copyFrom 6 = .ok (.getfield 15, 3) := by decide +kernel
theorem dd_od_copyFrom_9 : decode by_od_copyFrom 9 = .ok (.invokevirtual 28, 3) := by decide +kernel
theorem dd_od_copyFrom_12 : decode by_od_copyFrom 12 = .ok (.iconst 0, 1) := by decide +kernel
theorem dd_od_copyFrom_13 : decode by_od_copyFrom 13 = .ok (.istore_n 2, 1) := by decide +kernel
theorem dd_od_copyFrom_14 : decode by_od_copyFrom 14 = .ok (.iload_n 2, 1) := by decide +kernel
theorem dd_od_copyFrom_15 : decode by_od_copyFrom 15 = .ok (.aload_n 1, 1) := by decide +kernel
theorem dd_od_copyFrom_16 : decode by_od_copyFrom 16 = .ok (.getfield 18, 3) := by decide +kernel
theorem dd_od_copyFrom_19 : decode by_od_copyFrom 19 = .ok (.if_icmp .ge 26, 3) := by decide +kernel
theorem dd_od_copyFrom_22 : decode by_od_copyFrom 22 = .ok (.aload_n 0, 1) := by decide +kernel
theorem dd_od_copyFrom_23 : decode by_od_copyFrom 23 = .ok (.aload_n 1, 1) := by decide +kernel
theorem dd_od_copyFrom_24 : decode by_od_copyFrom 24 = .ok (.getfield 21, 3) := by decide +kernel
theorem dd_od_copyFrom_27 : decode by_od_copyFrom 27 = .ok (.iload_n 2, 1) := by decide +kernel
theorem dd_od_copyFrom_28 : decode by_od_copyFrom 28 = .ok (.iaload, 1) := by decide +kernel
theorem dd_od_copyFrom_29 : decode by_od_copyFrom 29 = .ok (.aload_n 1, 1) := by decide +kernel
theorem dd_od_copyFrom_30 : decode by_od_copyFrom 30 = .ok (.getfield 25, 3) := by decide +kernel
theorem dd_od_copyFrom_33 : decode by_od_copyFrom 33 = .ok (.iload_n 2, 1) := by decide +kernel
theorem dd_od_copyFrom_34 : decode by_od_copyFrom 34 = .ok (.iaload, 1) := by decide +kernel
theorem dd_od_copyFrom_35 : decode by_od_copyFrom 35 = .ok (.invokevirtual 32, 3) := by decide +kernel
theorem dd_od_copyFrom_38 : decode by_od_copyFrom 38 = .ok (.pop, 1) := by decide +kernel
theorem dd_od_copyFrom_39 : decode by_od_copyFrom 39 = .ok (.iinc 2 1, 3) := by decide +kernel
theorem dd_od_copyFrom_42 : decode by_od_copyFrom 42 = .ok (.goto (-28), 3) := by decide +kernel
theorem dd_od_copyFrom_45 : decode by_od_copyFrom 45 = .ok (.return_, 1) := by decide +kernel
def od_copyFrom_b14 (K14 : gw_M → Nat → Nat → Int32 → Option (Unit × gw_M)) (M : gw_M) (a0 : Nat) (a1 : Nat) (v2 : Int32) : Option (Unit × gw_M) :=
  if (M.1 a1 2) ≤ v2 then (some ((), M)) else (gw_gu (gw_in v2 4) (gw_gu (gw_in v2 4) (gw_bd (od_addSlot_b0 M a0 (M.1 (a1 + 1) v2.toNatClampNeg) (M.1 (a1 + 2) v2.toNatClampNeg)) (fun r35 M35 => K14 M35 a0 a1 (v2 + (1 : Int32))))))
def od_copyFrom_l14 : Nat → gw_M → Nat → Nat → Int32 → Option (Unit × gw_M)
  | 0 => fun _ _ _ _ => none
  | n + 1 => od_copyFrom_b14  (od_copyFrom_l14  n)
def od_copyFrom_b0 (M : gw_M) (a0 : Nat) (a1 : Nat) : Option (Unit × gw_M) :=
  gw_bd (od_reset_b0 M a0 (M.1 a1 0) (M.1 a1 1)) (fun _ M9 => od_copyFrom_l14  2100 M9 a0 a1 (0 : Int32))
set_option maxRecDepth 100000 in
set_option maxHeartbeats 4000000 in
theorem wb_od_copyFrom_14 {p : Program} {l : Launch} {e : Env} {s : State} {m : MethodId} {args : Array Value} {below : List Frame} {meth : Method} {c : Code} {X : gw_X} {Y : gw_M} {z : (Unit × gw_M)} (C0 : gw_C ((Cond.code yy_od_copyFrom by_od_copyFrom 3 none) :: gw_w) by_od_copyFrom 3 none "AccountMachine$Order" X p s m args meth c) {K14 : gw_M → Nat → Nat → Int32 → Option (Unit × gw_M)} (hK14 : ∀ (M : gw_M) (a0 : Nat) (a1 : Nat) (v2 : Int32) (H : Heap) (locs : List Loc) (ls : Array Slot), gc_k a0 = (4, 0) → gc_k a1 = (4, 0) → gw_G X (gw_E X M Y) s H locs → lv_has ls 3 [(0, .ref (gc_a X a0)), (1, .ref (gc_a X a1)), (2, .int v2)] → K14 M a0 a1 v2 = some z → W p l e rm_od_copyFrom s m args below meth c H locs 0 0 (MQ below (gw_Qv X (fun M => (gw_E X M Y)) z) args s 0 0 (gw_A X)) (F0 m 14 ls [])) (M : gw_M) (a0 : Nat) (a1 : Nat) (v2 : Int32) (H : Heap) (locs : List Loc) (ls : Array Slot) (ha0 : gc_k a0 = (4, 0)) (ha1 : gc_k a1 = (4, 0)) (G : gw_G X (gw_E X M Y) s H locs) (hl : lv_has ls 3 [(0, .ref (gc_a X a0)), (1, .ref (gc_a X a1)), (2, .int v2)]) (hF : od_copyFrom_b14 K14 M a0 a1 v2 = some z) : W p l e rm_od_copyFrom s m args below meth c H locs 0 0 (MQ below (gw_Qv X (fun M => (gw_E X M Y)) z) args s 0 0 (gw_A X)) (F0 m 14 ls []) := by
  obtain ⟨hx, hb, hml, hown, hts, hr, hlocks, hK⟩ := id C0
  have hg : ∀ w ∈ gw_w, w.before args s = true := fun w h => hts w (List.mem_cons_of_mem _ h)
  unfold od_copyFrom_b14 at hF
  refine lv_iload_n hx hb dd_od_copyFrom_14 rfl (lv_at hl 2 rfl) ?_
  refine lv_aload_n hx hb dd_od_copyFrom_15 rfl (lv_at hl 1 rfl) ?_
  refine gf_od_count hx hb hg hown (hg _ kw_0) hK G ha1 dd_od_copyFrom_16 ?_
  refine lv_icmp_ge (tgt := 45) hx hb dd_od_copyFrom_19 (by decide) (fun h19 => ?_) (fun h19 => ?_)
  · replace hF := gw_et h19 hF
    exact W.vret hx hb hr (fun t ht hW => gw_endv (EF := (fun M => (gw_E X M Y))) (M := M) G ht hF) G.2.2.2.2 dd_od_copyFrom_45 hlocks
  · replace hF := gw_ef h19 hF
    refine lv_aload_n hx hb dd_od_copyFrom_22 rfl (lv_at hl 0 rfl) ?_
    refine lv_aload_n hx hb dd_od_copyFrom_23 rfl (lv_at hl 1 rfl) ?_
    refine gf_od_accounts hx hb hg hown (hg _ kw_1) hK G ha1 dd_od_copyFrom_24 ?_
    refine lv_iload_n hx hb dd_od_copyFrom_27 rfl (lv_at hl 2 rfl) ?_
    obtain ⟨h28, hF⟩ := gw_gd hF
    refine gc_iald hx hb hK G (gq_od_accounts ha1) (gw_vp h28) (j := v2.toNatClampNeg) rfl dd_od_copyFrom_28 ?_
    refine lv_aload_n hx hb dd_od_copyFrom_29 rfl (lv_at hl 1 rfl) ?_
    refine gf_od_marks hx hb hg hown (hg _ kw_2) hK G ha1 dd_od_copyFrom_30 ?_
    refine lv_iload_n hx hb dd_od_copyFrom_33 rfl (lv_at hl 2 rfl) ?_
    obtain ⟨h34, hF⟩ := gw_gd hF
    refine gc_iald hx hb hK G (gq_od_marks ha1) (gw_vp h34) (j := v2.toNatClampNeg) rfl dd_od_copyFrom_34 ?_
    refine W.eq (g2 := F0 m 35 _ _) rfl ?_
    obtain ⟨r35, M35, hc35, hF⟩ := gw_be hF
    refine gw_ci G (va_runV (As := [.int (M.1 (a1 + 1) v2.toNatClampNeg), .int (M.1 (a1 + 2) v2.toNatClampNeg)]) (rest := []) ⟨hx, hb, hml, hown, hts⟩ (ct_od_addSlot l X Y M a0 (M.1 (a1 + 1) v2.toNatClampNeg) (M.1 (a1 + 2) v2.toNatClampNeg) ha0 _ hc35) (cwV 2 hts (gw_gV kw_74 kw_75 kw_76 kw_14 kw_73) rfl rfl rfl (by decide +kernel) ⟨Nat.le_of_ble_eq_true rfl, Nat.le_of_ble_eq_true rfl⟩) ⟨gw_blind, gw_recv_od hK G ha0, gw_pre hK G⟩ rfl rfl hl.1 rfl (Nat.le_of_ble_eq_true rfl) dd_od_copyFrom_35 ⟨Nat.le_of_ble_eq_true rfl, Nat.le_of_ble_eq_true rfl⟩) (fun H locs G => ?_)
    refine lv_pop hx hb dd_od_copyFrom_38 rfl ?_
    refine lv_iinc (k := 2) (v := v2 + (1 : Int32)) (lv' := [(2, .int (v2 + (1 : Int32))), (0, .ref (gc_a X a0)), (1, .ref (gc_a X a1))]) hx hb dd_od_copyFrom_39 hl rfl rfl (by decide) rfl (fun ls hl => ?_)
    refine lv_goto (tgt := 14) hx hb dd_od_copyFrom_42 (by decide) ?_
    exact hK14 M35 a0 a1 (v2 + (1 : Int32)) _ _ _ ha0 ha1 G (lv_sub hl [1, 2, 0] rfl) hF
theorem wl_od_copyFrom_14 {p : Program} {l : Launch} {e : Env} {s : State} {m : MethodId} {args : Array Value} {below : List Frame} {meth : Method} {c : Code} {X : gw_X} {Y : gw_M} {z : (Unit × gw_M)} (C0 : gw_C ((Cond.code yy_od_copyFrom by_od_copyFrom 3 none) :: gw_w) by_od_copyFrom 3 none "AccountMachine$Order" X p s m args meth c) : ∀ n : Nat, ∀ (M : gw_M) (a0 : Nat) (a1 : Nat) (v2 : Int32) (H : Heap) (locs : List Loc) (ls : Array Slot), gc_k a0 = (4, 0) → gc_k a1 = (4, 0) → gw_G X (gw_E X M Y) s H locs → lv_has ls 3 [(0, .ref (gc_a X a0)), (1, .ref (gc_a X a1)), (2, .int v2)] → od_copyFrom_l14  n M a0 a1 v2 = some z → W p l e rm_od_copyFrom s m args below meth c H locs 0 0 (MQ below (gw_Qv X (fun M => (gw_E X M Y)) z) args s 0 0 (gw_A X)) (F0 m 14 ls []) := by
  intro n
  induction n with
  | zero =>
    intro M a0 a1 v2 H locs ls ha0 ha1 G hl hF
    have hF : (none : Option (Unit × gw_M)) = some z := hF
    cases hF
  | succ n ih =>
    intro M a0 a1 v2 H locs ls ha0 ha1 G hl hF
    exact wb_od_copyFrom_14 C0  ih M a0 a1 v2 H locs ls ha0 ha1 G hl hF
set_option maxRecDepth 100000 in
set_option maxHeartbeats 4000000 in
theorem wb_od_copyFrom_0 {p : Program} {l : Launch} {e : Env} {s : State} {m : MethodId} {args : Array Value} {below : List Frame} {meth : Method} {c : Code} {X : gw_X} {Y : gw_M} {z : (Unit × gw_M)} (C0 : gw_C ((Cond.code yy_od_copyFrom by_od_copyFrom 3 none) :: gw_w) by_od_copyFrom 3 none "AccountMachine$Order" X p s m args meth c) (M : gw_M) (a0 : Nat) (a1 : Nat) (H : Heap) (locs : List Loc) (ls : Array Slot) (ha0 : gc_k a0 = (4, 0)) (ha1 : gc_k a1 = (4, 0)) (G : gw_G X (gw_E X M Y) s H locs) (hl : lv_has ls 3 [(0, .ref (gc_a X a0)), (1, .ref (gc_a X a1))]) (hF : od_copyFrom_b0  M a0 a1 = some z) : W p l e rm_od_copyFrom s m args below meth c H locs 0 0 (MQ below (gw_Qv X (fun M => (gw_E X M Y)) z) args s 0 0 (gw_A X)) (F0 m 0 ls []) := by
  obtain ⟨hx, hb, hml, hown, hts, hr, hlocks, hK⟩ := id C0
  have hg : ∀ w ∈ gw_w, w.before args s = true := fun w h => hts w (List.mem_cons_of_mem _ h)
  unfold od_copyFrom_b0 at hF
  refine lv_aload_n hx hb dd_od_copyFrom_0 rfl (lv_at hl 0 rfl) ?_
  refine lv_aload_n hx hb dd_od_copyFrom_1 rfl (lv_at hl 1 rfl) ?_
  refine gf_od_program hx hb hg hown (hg _ kw_71) hK G ha1 dd_od_copyFrom_2 ?_
  refine lv_aload_n hx hb dd_od_copyFrom_5 rfl (lv_at hl 1 rfl) ?_
  refine gf_od_argument hx hb hg hown (hg _ kw_72) hK G ha1 dd_od_copyFrom_6 ?_
  obtain ⟨u9, M9, hc9, hF⟩ := gw_be hF
  refine gw_cv G (va_runV (As := [.int (M.1 a1 0), .int (M.1 a1 1)]) (rest := []) ⟨hx, hb, hml, hown, hts⟩ (ct_od_reset l X Y M a0 (M.1 a1 0) (M.1 a1 1) ha0 _ hc9) (cwV 2 hts (gw_gV kw_78 kw_79 kw_80 kw_14 kw_77) rfl rfl rfl (by decide +kernel) ⟨Nat.le_of_ble_eq_true rfl, Nat.le_of_ble_eq_true rfl⟩) ⟨gw_blind, gw_recv_od hK G ha0, gw_pre hK G⟩ rfl rfl hl.1 rfl (Nat.le_of_ble_eq_true rfl) dd_od_copyFrom_9 ⟨Nat.le_of_ble_eq_true rfl, Nat.le_of_ble_eq_true rfl⟩) (fun H locs G => ?_)
  refine lv_iconst (v := (0 : Int32)) hx hb dd_od_copyFrom_12 (by decide) ?_
  refine lv_istore_n (i := 2) (lv' := [(2, .int (0 : Int32)), (0, .ref (gc_a X a0)), (1, .ref (gc_a X a1))]) hx hb dd_od_copyFrom_13 rfl hl (by decide) rfl (fun ls hl => ?_)
  exact wl_od_copyFrom_14 C0  2100 M9 a0 a1 (0 : Int32) _ _ _ ha0 ha1 G (lv_sub hl [1, 2, 0] rfl) hF
set_option maxRecDepth 100000 in
set_option maxHeartbeats 4000000 in
theorem ct_od_copyFrom (l : Launch) (X : gw_X) (Y : gw_M) (M : gw_M) (a0 : Nat) (a1 : Nat) (ha0 : gc_k a0 = (4, 0)) (ha1 : gc_k a1 = (4, 0)) (z : (Unit × gw_M)) (hF : od_copyFrom_b0 M a0 a1 = some z) : Met l yy_od_copyFrom ((Cond.code yy_od_copyFrom by_od_copyFrom 3 none) :: gw_w) rm_od_copyFrom (va_Pc [.ref (gc_a X a0), .ref (gc_a X a1)] (gw_B X (gw_E X M Y))) (gw_Qv X (fun M => (gw_E X M Y)) z) 0 0 (gw_A X) := by
  refine Met.ofW (cc := by_od_copyFrom) (maxL := 3) (ret := none) (by decide) rfl ?_
  intro p e s m args below meth c s₁ B hml hv
  obtain ⟨rfl, hB⟩ := hv
  rw [lg_entry_eq]
  have hl := lv_entry ([.ref (gc_a X a0), .ref (gc_a X a1)]) (n := 3) (Nat.le_of_ble_eq_true rfl)
  generalize (lg_sl ([.ref (gc_a X a0), .ref (gc_a X a1)]) ++ List.replicate (3 - (lg_sl ([.ref (gc_a X a0), .ref (gc_a X a1)])).length) Slot.unset).toArray = ls at hl ⊢
  have hl : lv_has ls 3 [(0, .ref (gc_a X a0)), (1, .ref (gc_a X a1))] := hl
  exact wb_od_copyFrom_0 (gw_ctx B hml rfl hB) M a0 a1 _ _ _ ha0 ha1 (gw_start hB) hl hF
/-! AccountMachine$Program.append(IIIII)I -/
abbrev rm_pr_append : Room := { frames := 0, cells := 0, slots := 0, locals := 0 }
theorem dd_pr_append_0 : decode by_pr_append 0 = .ok (.aload_n 0, 1) := by decide +kernel
theorem dd_pr_append_1 : decode by_pr_append 1 = .ok (.getfield 9, 3) := by decide +kernel
theorem dd_pr_append_4 : decode by_pr_append 4 = .ok (.aload_n 0, 1) := by decide +kernel
theorem dd_pr_append_5 : decode by_pr_append 5 = .ok (.getfield 27, 3) := by decide +kernel
theorem dd_pr_append_8 : decode by_pr_append 8 = .ok (.iload_n 1, 1) := by decide +kernel
theorem dd_pr_append_9 : decode by_pr_append 9 = .ok (.iastore, 1) := by decide +kernel
theorem dd_pr_append_10 : decode by_pr_append 10 = .ok (.aload_n 0, 1) := by decide +kernel
theorem dd_pr_append_11 : decode by_pr_append 11 = .ok (.getfield 15, 3) := by decide +kernel
theorem dd_pr_append_14 : decode by_pr_append 14 = .ok (.aload_n 0, 1) := by decide +kernel
theorem dd_pr_append_15 : decode by_pr_append 15 = .ok (.getfield 27, 3) := by decide +kernel
theorem dd_pr_append_18 : decode by_pr_append 18 = .ok (.iload_n 2, 1) := by decide +kernel
theorem dd_pr_append_19 : decode by_pr_append 19 = .ok (.iastore, 1) := by decide +kernel
theorem dd_pr_append_20 : decode by_pr_append 20 = .ok (.aload_n 0, 1) := by decide +kernel
theorem dd_pr_append_21 : decode by_pr_append 21 = .ok (.getfield 18, 3) := by decide +kernel
theorem dd_pr_append_24 : decode by_pr_append 24 = .ok (.aload_n 0, 1) := by decide +kernel
theorem dd_pr_append_25 : decode by_pr_append 25 = .ok (.getfield 27, 3) := by decide +kernel
theorem dd_pr_append_28 : decode by_pr_append 28 = .ok (.iload_n 3, 1) := by decide +kernel
theorem dd_pr_append_29 : decode by_pr_append 29 = .ok (.iastore, 1) := by decide +kernel
theorem dd_pr_append_30 : decode by_pr_append 30 = .ok (.aload_n 0, 1) := by decide +kernel
theorem dd_pr_append_31 : decode by_pr_append 31 = .ok (.getfield 21, 3) := by decide +kernel
theorem dd_pr_append_34 : decode by_pr_append 34 = .ok (.aload_n 0, 1) := by decide +kernel
theorem dd_pr_append_35 : decode by_pr_append 35 = .ok (.getfield 27, 3) := by decide +kernel
theorem dd_pr_append_38 : decode by_pr_append 38 = .ok (.iload 4, 2) := by decide +kernel
theorem dd_pr_append_40 : decode by_pr_append 40 = .ok (.iastore, 1) := by decide +kernel
theorem dd_pr_append_41 : decode by_pr_append 41 = .ok (.aload_n 0, 1) := by decide +kernel
theorem dd_pr_append_42 : decode by_pr_append 42 = .ok (.getfield 24, 3) := by decide +kernel
theorem dd_pr_append_45 : decode by_pr_append 45 = .ok (.aload_n 0, 1) := by decide +kernel
theorem dd_pr_append_46 : decode by_pr_append 46 = .ok (.getfield 27, 3) := by decide +kernel
theorem dd_pr_append_49 : decode by_pr_append 49 = .ok (.iload 5, 2) := by decide +kernel
theorem dd_pr_append_51 : decode by_pr_append 51 = .ok (.iastore, 1) := by decide +kernel
theorem dd_pr_append_52 : decode by_pr_append 52 = .ok (.aload_n 0, 1) := by decide +kernel
theorem dd_pr_append_53 : decode by_pr_append 53 = .ok (.iconst 0, 1) := by decide +kernel
theorem dd_pr_append_54 : decode by_pr_append 54 = .ok (.putfield 31, 3) := by decide +kernel
theorem dd_pr_append_57 : decode by_pr_append 57 = .ok (.aload_n 0, 1) := by decide +kernel
theorem dd_pr_append_58 : decode by_pr_append 58 = .ok (.dup, 1) := by decide +kernel
theorem dd_pr_append_59 : decode by_pr_append 59 = .ok (.getfield 27, 3) := by decide +kernel
theorem dd_pr_append_62 : decode by_pr_append 62 = .ok (.dup_x1, 1) := by decide +kernel
theorem dd_pr_append_63 : decode by_pr_append 63 = .ok (.iconst 1, 1) := by decide +kernel
theorem dd_pr_append_64 : decode by_pr_append 64 = .ok (.iadd, 1) := by decide +kernel
theorem dd_pr_append_65 : decode by_pr_append 65 = .ok (.putfield 27, 3) := by decide +kernel
theorem dd_pr_append_68 : decode by_pr_append 68 = .ok (.ireturn, 1) := by decide +kernel
def pr_append_b0 (M : gw_M) (a0 : Nat) (v1 : Int32) (v2 : Int32) (v3 : Int32) (v4 : Int32) (v5 : Int32) : Option (Int32 × gw_M) :=
  gw_gu (gw_in (M.1 a0 5) 32) (gw_lt (gw_sI M (a0 + 1) ((M.1 a0 5).toNatClampNeg) v1) (fun M9 => gw_gu (gw_in (M9.1 a0 5) 32) (gw_lt (gw_sI M9 (a0 + 2) ((M9.1 a0 5).toNatClampNeg) v2) (fun M19 => gw_gu (gw_in (M19.1 a0 5) 32) (gw_lt (gw_sI M19 (a0 + 3) ((M19.1 a0 5).toNatClampNeg) v3) (fun M29 => gw_gu (gw_in (M29.1 a0 5) 32) (gw_lt (gw_sI M29 (a0 + 4) ((M29.1 a0 5).toNatClampNeg) v4) (fun M40 => gw_gu (gw_in (M40.1 a0 5) 32) (gw_lt (gw_sI M40 (a0 + 5) ((M40.1 a0 5).toNatClampNeg) v5) (fun M51 => gw_lt (gw_sI M51 a0 6 (0 : Int32)) (fun M54 => gw_lt (gw_sI M54 a0 5 ((M54.1 a0 5) + (1 : Int32))) (fun M65 => some (M54.1 a0 5, M65)))))))))))))
set_option maxRecDepth 100000 in
set_option maxHeartbeats 4000000 in
theorem wb_pr_append_0 {p : Program} {l : Launch} {e : Env} {s : State} {m : MethodId} {args : Array Value} {below : List Frame} {meth : Method} {c : Code} {X : gw_X} {Y : gw_M} {z : (Int32 × gw_M)} (C0 : gw_C ((Cond.code yy_pr_append by_pr_append 6 (some .int)) :: gw_w) by_pr_append 6 (some .int) "AccountMachine$Program" X p s m args meth c) (M : gw_M) (a0 : Nat) (v1 : Int32) (v2 : Int32) (v3 : Int32) (v4 : Int32) (v5 : Int32) (H : Heap) (locs : List Loc) (ls : Array Slot) (ha0 : gc_k a0 = (5, 0)) (G : gw_G X (gw_E X M Y) s H locs) (hl : lv_has ls 6 [(0, .ref (gc_a X a0)), (1, .int v1), (2, .int v2), (3, .int v3), (4, .int v4), (5, .int v5)]) (hF : pr_append_b0  M a0 v1 v2 v3 v4 v5 = some z) : W p l e rm_pr_append s m args below meth c H locs 0 0 (MQ below (gw_Qi X (fun M => (gw_E X M Y)) z) args s 0 0 (gw_A X)) (F0 m 0 ls []) := by
  obtain ⟨hx, hb, hml, hown, hts, hr, hlocks, hK⟩ := id C0
  have hg : ∀ w ∈ gw_w, w.before args s = true := fun w h => hts w (List.mem_cons_of_mem _ h)
  unfold pr_append_b0 at hF
  refine lv_aload_n hx hb dd_pr_append_0 rfl (lv_at hl 0 rfl) ?_
  refine gf_pr_kinds hx hb hg hown (hg _ kw_81) hK G ha0 dd_pr_append_1 ?_
  refine lv_aload_n hx hb dd_pr_append_4 rfl (lv_at hl 0 rfl) ?_
  refine gf_pr_count hx hb hg hown (hg _ kw_82) hK G ha0 dd_pr_append_5 ?_
  refine lv_iload_n hx hb dd_pr_append_8 rfl (lv_at hl 1 rfl) ?_
  obtain ⟨h9, hF⟩ := gw_gd hF
  refine gc_iast hx hb hK G (gq_pr_kinds ha0) (gw_vp h9) (j := (M.1 a0 5).toNatClampNeg) rfl dd_pr_append_9 (fun M9 H locs e9 G => ?_)
  replace hF := gw_ly e9 hF
  refine lv_aload_n hx hb dd_pr_append_10 rfl (lv_at hl 0 rfl) ?_
  refine gf_pr_targets hx hb hg hown (hg _ kw_83) hK G ha0 dd_pr_append_11 ?_
  refine lv_aload_n hx hb dd_pr_append_14 rfl (lv_at hl 0 rfl) ?_
  refine W.eq (g2 := F0 m 15 _ _) rfl ?_
  refine gf_pr_count hx hb hg hown (hg _ kw_82) hK G ha0 dd_pr_append_15 ?_
  refine lv_iload_n hx hb dd_pr_append_18 rfl (lv_at hl 2 rfl) ?_
  obtain ⟨h19, hF⟩ := gw_gd hF
  refine gc_iast hx hb hK G (gq_pr_targets ha0) (gw_vp h19) (j := (M9.1 a0 5).toNatClampNeg) rfl dd_pr_append_19 (fun M19 H locs e19 G => ?_)
  replace hF := gw_ly e19 hF
  refine lv_aload_n hx hb dd_pr_append_20 rfl (lv_at hl 0 rfl) ?_
  refine gf_pr_sources hx hb hg hown (hg _ kw_84) hK G ha0 dd_pr_append_21 ?_
  refine lv_aload_n hx hb dd_pr_append_24 rfl (lv_at hl 0 rfl) ?_
  refine gf_pr_count hx hb hg hown (hg _ kw_82) hK G ha0 dd_pr_append_25 ?_
  refine lv_iload_n hx hb dd_pr_append_28 rfl (lv_at hl 3 rfl) ?_
  obtain ⟨h29, hF⟩ := gw_gd hF
  refine gc_iast hx hb hK G (gq_pr_sources ha0) (gw_vp h29) (j := (M19.1 a0 5).toNatClampNeg) rfl dd_pr_append_29 (fun M29 H locs e29 G => ?_)
  replace hF := gw_ly e29 hF
  refine lv_aload_n hx hb dd_pr_append_30 rfl (lv_at hl 0 rfl) ?_
  refine W.eq (g2 := F0 m 31 _ _) rfl ?_
  refine gf_pr_offsets hx hb hg hown (hg _ kw_85) hK G ha0 dd_pr_append_31 ?_
  refine lv_aload_n hx hb dd_pr_append_34 rfl (lv_at hl 0 rfl) ?_
  refine gf_pr_count hx hb hg hown (hg _ kw_82) hK G ha0 dd_pr_append_35 ?_
  refine lv_iload hx hb dd_pr_append_38 (lv_at hl 4 rfl) ?_
  obtain ⟨h40, hF⟩ := gw_gd hF
  refine gc_iast hx hb hK G (gq_pr_offsets ha0) (gw_vp h40) (j := (M29.1 a0 5).toNatClampNeg) rfl dd_pr_append_40 (fun M40 H locs e40 G => ?_)
  replace hF := gw_ly e40 hF
  refine lv_aload_n hx hb dd_pr_append_41 rfl (lv_at hl 0 rfl) ?_
  refine gf_pr_numbers hx hb hg hown (hg _ kw_86) hK G ha0 dd_pr_append_42 ?_
  refine lv_aload_n hx hb dd_pr_append_45 rfl (lv_at hl 0 rfl) ?_
  refine gf_pr_count hx hb hg hown (hg _ kw_82) hK G ha0 dd_pr_append_46 ?_
  refine lv_iload hx hb dd_pr_append_49 (lv_at hl 5 rfl) ?_
  refine W.eq (g2 := F0 m 51 _ _) rfl ?_
  obtain ⟨h51, hF⟩ := gw_gd hF
  refine gc_iast hx hb hK G (gq_pr_numbers ha0) (gw_vp h51) (j := (M40.1 a0 5).toNatClampNeg) rfl dd_pr_append_51 (fun M51 H locs e51 G => ?_)
  replace hF := gw_ly e51 hF
  refine lv_aload_n hx hb dd_pr_append_52 rfl (lv_at hl 0 rfl) ?_
  refine lv_iconst (v := (0 : Int32)) hx hb dd_pr_append_53 (by decide) ?_
  refine gp_pr_sound hx hb hg hown (hg _ kw_87) hK G ha0 (by decide) (by decide) dd_pr_append_54 (fun M54 H locs e54 G => ?_)
  replace hF := gw_ly e54 hF
  refine lv_aload_n hx hb dd_pr_append_57 rfl (lv_at hl 0 rfl) ?_
  refine lv_dup hx hb dd_pr_append_58 rfl ?_
  refine gf_pr_count hx hb hg hown (hg _ kw_82) hK G ha0 dd_pr_append_59 ?_
  refine lv_dup_x1 hx hb dd_pr_append_62 rfl rfl ?_
  refine lv_iconst (v := (1 : Int32)) hx hb dd_pr_append_63 (by decide) ?_
  refine lv_iadd hx hb dd_pr_append_64 ?_
  refine W.eq (g2 := F0 m 65 _ _) rfl ?_
  refine gp_pr_count hx hb hg hown (hg _ kw_82) hK G ha0 dd_pr_append_65 (fun M65 H locs e65 G => ?_)
  replace hF := gw_ly e65 hF
  exact W.iret hx hb hr (fun t ht hW => gw_endi (EF := (fun M => (gw_E X M Y))) (M := M65) G ht hF) G.2.2.2.2 dd_pr_append_68 hlocks
set_option maxRecDepth 100000 in
set_option maxHeartbeats 4000000 in
theorem ct_pr_append (l : Launch) (X : gw_X) (Y : gw_M) (M : gw_M) (a0 : Nat) (v1 : Int32) (v2 : Int32) (v3 : Int32) (v4 : Int32) (v5 : Int32) (ha0 : gc_k a0 = (5, 0)) (z : (Int32 × gw_M)) (hF : pr_append_b0 M a0 v1 v2 v3 v4 v5 = some z) : Met l yy_pr_append ((Cond.code yy_pr_append by_pr_append 6 (some .int)) :: gw_w) rm_pr_append (va_Pc [.ref (gc_a X a0), .int v1, .int v2, .int v3, .int v4, .int v5] (gw_B X (gw_E X M Y))) (gw_Qi X (fun M => (gw_E X M Y)) z) 0 0 (gw_A X) := by
  refine Met.ofW (cc := by_pr_append) (maxL := 6) (ret := (some .int)) (by decide) rfl ?_
  intro p e s m args below meth c s₁ B hml hv
  obtain ⟨rfl, hB⟩ := hv
  rw [lg_entry_eq]
  have hl := lv_entry ([.ref (gc_a X a0), .int v1, .int v2, .int v3, .int v4, .int v5]) (n := 6) (Nat.le_of_ble_eq_true rfl)
  generalize (lg_sl ([.ref (gc_a X a0), .int v1, .int v2, .int v3, .int v4, .int v5]) ++ List.replicate (6 - (lg_sl ([.ref (gc_a X a0), .int v1, .int v2, .int v3, .int v4, .int v5])).length) Slot.unset).toArray = ls at hl ⊢
  have hl : lv_has ls 6 [(0, .ref (gc_a X a0)), (1, .int v1), (2, .int v2), (3, .int v3), (4, .int v4), (5, .int v5)] := hl
  exact wb_pr_append_0 (gw_ctx B hml rfl hB) M a0 v1 v2 v3 v4 v5 _ _ _ ha0 (gw_start hB) hl hF
/-! AccountMachine$Program.clear()I -/
abbrev rm_pr_clear : Room := { frames := 0, cells := 0, slots := 0, locals := 0 }
theorem dd_pr_clear_0 : decode by_pr_clear 0 = .ok (.aload_n 0, 1) := by decide +kernel
theorem dd_pr_clear_1 : decode by_pr_clear 1 = .ok (.getfield 27, 3) := by decide +kernel
theorem dd_pr_clear_4 : decode by_pr_clear 4 = .ok (.istore_n 1, 1) := by decide +kernel
theorem dd_pr_clear_5 : decode by_pr_clear 5 = .ok (.aload_n 0, 1) := by decide +kernel
theorem dd_pr_clear_6 : decode by_pr_clear 6 = .ok (.iconst 0, 1) := by decide +kernel
theorem dd_pr_clear_7 : decode by_pr_clear 7 = .ok (.putfield 27, 3) := by decide +kernel
theorem dd_pr_clear_10 : decode by_pr_clear 10 = .ok (.aload_n 0, 1) := by decide +kernel
theorem dd_pr_clear_11 : decode by_pr_clear 11 = .ok (.iconst 0, 1) := by decide +kernel
theorem dd_pr_clear_12 : decode by_pr_clear 12 = .ok (.putfield 31, 3) := by decide +kernel
theorem dd_pr_clear_15 : decode by_pr_clear 15 = .ok (.iload_n 1, 1) := by decide +kernel
theorem dd_pr_clear_16 : decode by_pr_clear 16 = .ok (.ireturn, 1) := by decide +kernel
def pr_clear_b0 (M : gw_M) (a0 : Nat) : Option (Int32 × gw_M) :=
  gw_lt (M.1 a0 5) (fun x4 => gw_lt (gw_sI M a0 5 (0 : Int32)) (fun M7 => gw_lt (gw_sI M7 a0 6 (0 : Int32)) (fun M12 => some (x4, M12))))
set_option maxRecDepth 100000 in
set_option maxHeartbeats 4000000 in
theorem wb_pr_clear_0 {p : Program} {l : Launch} {e : Env} {s : State} {m : MethodId} {args : Array Value} {below : List Frame} {meth : Method} {c : Code} {X : gw_X} {Y : gw_M} {z : (Int32 × gw_M)} (C0 : gw_C ((Cond.code yy_pr_clear by_pr_clear 2 (some .int)) :: gw_w) by_pr_clear 2 (some .int) "AccountMachine$Program" X p s m args meth c) (M : gw_M) (a0 : Nat) (H : Heap) (locs : List Loc) (ls : Array Slot) (ha0 : gc_k a0 = (5, 0)) (G : gw_G X (gw_E X M Y) s H locs) (hl : lv_has ls 2 [(0, .ref (gc_a X a0))]) (hF : pr_clear_b0  M a0 = some z) : W p l e rm_pr_clear s m args below meth c H locs 0 0 (MQ below (gw_Qi X (fun M => (gw_E X M Y)) z) args s 0 0 (gw_A X)) (F0 m 0 ls []) := by
  obtain ⟨hx, hb, hml, hown, hts, hr, hlocks, hK⟩ := id C0
  have hg : ∀ w ∈ gw_w, w.before args s = true := fun w h => hts w (List.mem_cons_of_mem _ h)
  unfold pr_clear_b0 at hF
  refine lv_aload_n hx hb dd_pr_clear_0 rfl (lv_at hl 0 rfl) ?_
  refine gf_pr_count hx hb hg hown (hg _ kw_82) hK G ha0 dd_pr_clear_1 ?_
  refine lv_topi (fun x4 e4 => ?_)
  replace hF := gw_ly e4 hF
  refine lv_istore_n (i := 1) (lv' := [(1, .int x4), (0, .ref (gc_a X a0))]) hx hb dd_pr_clear_4 rfl hl (by decide) rfl (fun ls hl => ?_)
  refine lv_aload_n hx hb dd_pr_clear_5 rfl (lv_at hl 1 rfl) ?_
  refine lv_iconst (v := (0 : Int32)) hx hb dd_pr_clear_6 (by decide) ?_
  refine gp_pr_count hx hb hg hown (hg _ kw_82) hK G ha0 dd_pr_clear_7 (fun M7 H locs e7 G => ?_)
  replace hF := gw_ly e7 hF
  refine lv_aload_n hx hb dd_pr_clear_10 rfl (lv_at hl 1 rfl) ?_
  refine lv_iconst (v := (0 : Int32)) hx hb dd_pr_clear_11 (by decide) ?_
  refine gp_pr_sound hx hb hg hown (hg _ kw_87) hK G ha0 (by decide) (by decide) dd_pr_clear_12 (fun M12 H locs e12 G => ?_)
  replace hF := gw_ly e12 hF
  refine W.eq (g2 := F0 m 15 _ _) rfl ?_
  refine lv_iload_n hx hb dd_pr_clear_15 rfl (lv_at hl 0 rfl) ?_
  exact W.iret hx hb hr (fun t ht hW => gw_endi (EF := (fun M => (gw_E X M Y))) (M := M12) G ht hF) G.2.2.2.2 dd_pr_clear_16 hlocks
set_option maxRecDepth 100000 in
set_option maxHeartbeats 4000000 in
theorem ct_pr_clear (l : Launch) (X : gw_X) (Y : gw_M) (M : gw_M) (a0 : Nat) (ha0 : gc_k a0 = (5, 0)) (z : (Int32 × gw_M)) (hF : pr_clear_b0 M a0 = some z) : Met l yy_pr_clear ((Cond.code yy_pr_clear by_pr_clear 2 (some .int)) :: gw_w) rm_pr_clear (va_Pc [.ref (gc_a X a0)] (gw_B X (gw_E X M Y))) (gw_Qi X (fun M => (gw_E X M Y)) z) 0 0 (gw_A X) := by
  refine Met.ofW (cc := by_pr_clear) (maxL := 2) (ret := (some .int)) (by decide) rfl ?_
  intro p e s m args below meth c s₁ B hml hv
  obtain ⟨rfl, hB⟩ := hv
  rw [lg_entry_eq]
  have hl := lv_entry ([.ref (gc_a X a0)]) (n := 2) (Nat.le_of_ble_eq_true rfl)
  generalize (lg_sl ([.ref (gc_a X a0)]) ++ List.replicate (2 - (lg_sl ([.ref (gc_a X a0)])).length) Slot.unset).toArray = ls at hl ⊢
  have hl : lv_has ls 2 [(0, .ref (gc_a X a0))] := hl
  exact wb_pr_clear_0 (gw_ctx B hml rfl hB) M a0 _ _ _ ha0 (gw_start hB) hl hF
/-! AccountMachine$Program.isRegister(I)Z -/
abbrev rm_pr_isRegister : Room := { frames := 0, cells := 0, slots := 0, locals := 0 }
theorem dd_pr_isRegister_0 : decode by_pr_isRegister 0 = .ok (.iload_n 0, 1) := by decide +kernel
theorem dd_pr_isRegister_1 : decode by_pr_isRegister 1 = .ok (.ifCond .lt 13, 3) := by decide +kernel
theorem dd_pr_isRegister_4 : decode by_pr_isRegister 4 = .ok (.iload_n 0, 1) := by decide +kernel
theorem dd_pr_isRegister_5 : decode by_pr_isRegister 5 = .ok (.bipush 10, 2) := by decide +kernel
theorem dd_pr_isRegister_7 : decode by_pr_isRegister 7 = .ok (.if_icmp .ge 7, 3) := by decide +kernel
theorem dd_pr_isRegister_10 : decode by_pr_isRegister 10 = .ok (.iconst 1, 1) := by decide +kernel
theorem dd_pr_isRegister_11 : decode by_pr_isRegister 11 = .ok (.goto 4, 3) := by decide +kernel
theorem dd_pr_isRegister_14 : decode by_pr_isRegister 14 = .ok (.iconst 0, 1) := by decide +kernel
theorem dd_pr_isRegister_15 : decode by_pr_isRegister 15 = .ok (.ireturn, 1) := by decide +kernel
def pr_isRegister_b0 (M : gw_M) (v0 : Int32) : Option (Int32 × gw_M) :=
  if v0 < (0 : Int32) then (some ((0 : Int32), M)) else (if (10 : Int32) ≤ v0 then (some ((0 : Int32), M)) else (some ((1 : Int32), M)))
set_option maxRecDepth 100000 in
set_option maxHeartbeats 4000000 in
theorem wb_pr_isRegister_0 {p : Program} {l : Launch} {e : Env} {s : State} {m : MethodId} {args : Array Value} {below : List Frame} {meth : Method} {c : Code} {X : gw_X} {Y : gw_M} {z : (Int32 × gw_M)} (C0 : gw_C ((Cond.code yy_pr_isRegister by_pr_isRegister 1 (some .boolean)) :: gw_w) by_pr_isRegister 1 (some .boolean) "AccountMachine$Program" X p s m args meth c) (M : gw_M) (v0 : Int32) (H : Heap) (locs : List Loc) (ls : Array Slot) (G : gw_G X (gw_E X M Y) s H locs) (hl : lv_has ls 1 [(0, .int v0)]) (hF : pr_isRegister_b0  M v0 = some z) : W p l e rm_pr_isRegister s m args below meth c H locs 0 0 (MQ below (gw_Qi X (fun M => (gw_E X M Y)) z) args s 0 0 (gw_A X)) (F0 m 0 ls []) := by
  obtain ⟨hx, hb, hml, hown, hts, hr, hlocks, hK⟩ := id C0
  have hg : ∀ w ∈ gw_w, w.before args s = true := fun w h => hts w (List.mem_cons_of_mem _ h)
  unfold pr_isRegister_b0 at hF
  refine lv_iload_n hx hb dd_pr_isRegister_0 rfl (lv_at hl 0 rfl) ?_
  refine lv_if_lt (tgt := 14) hx hb dd_pr_isRegister_1 (by decide) (fun h1 => ?_) (fun h1 => ?_)
  · replace hF := gw_et h1 hF
    refine lv_iconst (v := (0 : Int32)) hx hb dd_pr_isRegister_14 (by decide) ?_
    exact W.zret hx hb hr (by decide) (fun t ht hW => gw_endi (EF := (fun M => (gw_E X M Y))) (M := M) G ht hF) G.2.2.2.2 dd_pr_isRegister_15 hlocks
  · replace hF := gw_ef h1 hF
    refine lv_iload_n hx hb dd_pr_isRegister_4 rfl (lv_at hl 0 rfl) ?_
    refine lv_bipush (v := (10 : Int32)) hx hb dd_pr_isRegister_5 (by decide) ?_
    refine lv_icmp_ge (tgt := 14) hx hb dd_pr_isRegister_7 (by decide) (fun h7 => ?_) (fun h7 => ?_)
    · replace hF := gw_et h7 hF
      refine lv_iconst (v := (0 : Int32)) hx hb dd_pr_isRegister_14 (by decide) ?_
      exact W.zret hx hb hr (by decide) (fun t ht hW => gw_endi (EF := (fun M => (gw_E X M Y))) (M := M) G ht hF) G.2.2.2.2 dd_pr_isRegister_15 hlocks
    · replace hF := gw_ef h7 hF
      refine lv_iconst (v := (1 : Int32)) hx hb dd_pr_isRegister_10 (by decide) ?_
      refine lv_goto (tgt := 15) hx hb dd_pr_isRegister_11 (by decide) ?_
      exact W.zret hx hb hr (by decide) (fun t ht hW => gw_endi (EF := (fun M => (gw_E X M Y))) (M := M) G ht hF) G.2.2.2.2 dd_pr_isRegister_15 hlocks
set_option maxRecDepth 100000 in
set_option maxHeartbeats 4000000 in
theorem ct_pr_isRegister (l : Launch) (X : gw_X) (Y : gw_M) (M : gw_M) (v0 : Int32) (z : (Int32 × gw_M)) (hF : pr_isRegister_b0 M v0 = some z) : Met l yy_pr_isRegister ((Cond.code yy_pr_isRegister by_pr_isRegister 1 (some .boolean)) :: gw_w) rm_pr_isRegister (va_Pc [.int v0] (gw_B X (gw_E X M Y))) (gw_Qi X (fun M => (gw_E X M Y)) z) 0 0 (gw_A X) := by
  refine Met.ofW (cc := by_pr_isRegister) (maxL := 1) (ret := (some .boolean)) (by decide) rfl ?_
  intro p e s m args below meth c s₁ B hml hv
  obtain ⟨rfl, hB⟩ := hv
  rw [lg_entry_eq]
  have hl := lv_entry ([.int v0]) (n := 1) (Nat.le_of_ble_eq_true rfl)
  generalize (lg_sl ([.int v0]) ++ List.replicate (1 - (lg_sl ([.int v0])).length) Slot.unset).toArray = ls at hl ⊢
  have hl : lv_has ls 1 [(0, .int v0)] := hl
  exact wb_pr_isRegister_0 (gw_ctx B hml rfl hB) M v0 _ _ _  (gw_start hB) hl hF
/-! AccountMachine$Program.isPlace(J)Z -/
abbrev rm_pr_isPlace : Room := { frames := 0, cells := 0, slots := 0, locals := 0 }
theorem dd_pr_isPlace_0 : decode by_pr_isPlace 0 = .ok (.lload_n 1, 1) := by decide +kernel
theorem dd_pr_isPlace_1 : decode by_pr_isPlace 1 = .ok (.lconst 0, 1) := by decide +kernel
theorem dd_pr_isPlace_2 : decode by_pr_isPlace 2 = .ok (.lcmp, 1) := by decide +kernel
theorem dd_pr_isPlace_3 : decode by_pr_isPlace 3 = .ok (.ifCond .lt 17, 3) := by decide +kernel
theorem dd_pr_isPlace_6 : decode by_pr_isPlace 6 = .ok (.lload_n 1, 1) := by decide +kernel
theorem dd_pr_isPlace_7 : decode by_pr_isPlace 7 = .ok (.aload_n 0, 1) := by decide +kernel
theorem dd_pr_isPlace_8 : decode by_pr_isPlace 8 = .ok (.getfield 27, 3) := by decide +kernel
theorem dd_pr_isPlace_11 : decode by_pr_isPlace 11 = .ok (.i2l, 1) := by decide +kernel
theorem dd_pr_isPlace_12 : decode by_pr_isPlace 12 = .ok (.lcmp, 1) := by decide +kernel
theorem dd_pr_isPlace_13 : decode by_pr_isPlace 13 = .ok (.ifCond .ge 7, 3) := by decide +kernel
theorem dd_pr_isPlace_16 : decode by_pr_isPlace 16 = .ok (.iconst 1, 1) := by decide +kernel
theorem dd_pr_isPlace_17 : decode by_pr_isPlace 17 = .ok (.goto 4, 3) := by decide +kernel
theorem dd_pr_isPlace_20 : decode by_pr_isPlace 20 = .ok (.iconst 0, 1) := by decide +kernel
theorem dd_pr_isPlace_21 : decode by_pr_isPlace 21 = .ok (.ireturn, 1) := by decide +kernel
def pr_isPlace_b0 (M : gw_M) (a0 : Nat) (v1 : Int64) : Option (Int32 × gw_M) :=
  if (lg_cmp v1 (0 : Int64)) < (0 : Int32) then (some ((0 : Int32), M)) else (if (0 : Int32) ≤ (lg_cmp v1 ((M.1 a0 5).toInt64)) then (some ((0 : Int32), M)) else (some ((1 : Int32), M)))
set_option maxRecDepth 100000 in
set_option maxHeartbeats 4000000 in
theorem wb_pr_isPlace_0 {p : Program} {l : Launch} {e : Env} {s : State} {m : MethodId} {args : Array Value} {below : List Frame} {meth : Method} {c : Code} {X : gw_X} {Y : gw_M} {z : (Int32 × gw_M)} (C0 : gw_C ((Cond.code yy_pr_isPlace by_pr_isPlace 3 (some .boolean)) :: gw_w) by_pr_isPlace 3 (some .boolean) "AccountMachine$Program" X p s m args meth c) (M : gw_M) (a0 : Nat) (v1 : Int64) (H : Heap) (locs : List Loc) (ls : Array Slot) (ha0 : gc_k a0 = (5, 0)) (G : gw_G X (gw_E X M Y) s H locs) (hl : lv_has ls 3 [(0, .ref (gc_a X a0)), (1, .long v1)]) (hF : pr_isPlace_b0  M a0 v1 = some z) : W p l e rm_pr_isPlace s m args below meth c H locs 0 0 (MQ below (gw_Qi X (fun M => (gw_E X M Y)) z) args s 0 0 (gw_A X)) (F0 m 0 ls []) := by
  obtain ⟨hx, hb, hml, hown, hts, hr, hlocks, hK⟩ := id C0
  have hg : ∀ w ∈ gw_w, w.before args s = true := fun w h => hts w (List.mem_cons_of_mem _ h)
  unfold pr_isPlace_b0 at hF
  refine lv_lload_n hx hb dd_pr_isPlace_0 rfl (lv_at hl 1 rfl) ?_
  refine lv_lconst (v := (0 : Int64)) hx hb dd_pr_isPlace_1 (by decide) ?_
  refine W.lcmp hx hb dd_pr_isPlace_2 ?_
  refine lv_if_lt (tgt := 20) hx hb dd_pr_isPlace_3 (by decide) (fun h3 => ?_) (fun h3 => ?_)
  · replace hF := gw_et h3 hF
    refine lv_iconst (v := (0 : Int32)) hx hb dd_pr_isPlace_20 (by decide) ?_
    exact W.zret hx hb hr (by decide) (fun t ht hW => gw_endi (EF := (fun M => (gw_E X M Y))) (M := M) G ht hF) G.2.2.2.2 dd_pr_isPlace_21 hlocks
  · replace hF := gw_ef h3 hF
    refine lv_lload_n hx hb dd_pr_isPlace_6 rfl (lv_at hl 1 rfl) ?_
    refine lv_aload_n hx hb dd_pr_isPlace_7 rfl (lv_at hl 0 rfl) ?_
    refine gf_pr_count hx hb hg hown (hg _ kw_82) hK G ha0 dd_pr_isPlace_8 ?_
    refine lv_i2l (v := (M.1 a0 5).toInt64) hx hb dd_pr_isPlace_11 rfl ?_
    refine W.lcmp hx hb dd_pr_isPlace_12 ?_
    refine lv_if_ge (tgt := 20) hx hb dd_pr_isPlace_13 (by decide) (fun h13 => ?_) (fun h13 => ?_)
    · replace hF := gw_et h13 hF
      refine lv_iconst (v := (0 : Int32)) hx hb dd_pr_isPlace_20 (by decide) ?_
      exact W.zret hx hb hr (by decide) (fun t ht hW => gw_endi (EF := (fun M => (gw_E X M Y))) (M := M) G ht hF) G.2.2.2.2 dd_pr_isPlace_21 hlocks
    · replace hF := gw_ef h13 hF
      refine lv_iconst (v := (1 : Int32)) hx hb dd_pr_isPlace_16 (by decide) ?_
      refine lv_goto (tgt := 21) hx hb dd_pr_isPlace_17 (by decide) ?_
      exact W.zret hx hb hr (by decide) (fun t ht hW => gw_endi (EF := (fun M => (gw_E X M Y))) (M := M) G ht hF) G.2.2.2.2 dd_pr_isPlace_21 hlocks
set_option maxRecDepth 100000 in
set_option maxHeartbeats 4000000 in
theorem ct_pr_isPlace (l : Launch) (X : gw_X) (Y : gw_M) (M : gw_M) (a0 : Nat) (v1 : Int64) (ha0 : gc_k a0 = (5, 0)) (z : (Int32 × gw_M)) (hF : pr_isPlace_b0 M a0 v1 = some z) : Met l yy_pr_isPlace ((Cond.code yy_pr_isPlace by_pr_isPlace 3 (some .boolean)) :: gw_w) rm_pr_isPlace (va_Pc [.ref (gc_a X a0), .long v1] (gw_B X (gw_E X M Y))) (gw_Qi X (fun M => (gw_E X M Y)) z) 0 0 (gw_A X) := by
  refine Met.ofW (cc := by_pr_isPlace) (maxL := 3) (ret := (some .boolean)) (by decide) rfl ?_
  intro p e s m args below meth c s₁ B hml hv
  obtain ⟨rfl, hB⟩ := hv
  rw [lg_entry_eq]
  have hl := lv_entry ([.ref (gc_a X a0), .long v1]) (n := 3) (Nat.le_of_ble_eq_true rfl)
  generalize (lg_sl ([.ref (gc_a X a0), .long v1]) ++ List.replicate (3 - (lg_sl ([.ref (gc_a X a0), .long v1])).length) Slot.unset).toArray = ls at hl ⊢
  have hl : lv_has ls 3 [(0, .ref (gc_a X a0)), (1, .long v1)] := hl
  exact wb_pr_isPlace_0 (gw_ctx B hml rfl hB) M a0 v1 _ _ _ ha0 (gw_start hB) hl hF
/-! AccountMachine$Program.goesOnInside(I)Z -/
abbrev rm_pr_goesOnInside : Room := { frames := 1, cells := 0, slots := 0, locals := 22 }
theorem dd_pr_goesOnInside_0 : decode by_pr_goesOnInside 0 = .ok (.aload_n 0, 1) := by decide +kernel
theorem dd_pr_goesOnInside_1 : decode by_pr_goesOnInside 1 = .ok (.getfield 9, 3) := by decide +kernel
theorem dd_pr_goesOnInside_4 : decode by_pr_goesOnInside 4 = .ok (.iload_n 1, 1) := by decide +kernel
theorem dd_pr_goesOnInside_5 : decode by_pr_goesOnInside 5 = .ok (.iaload, 1) := by decide +kernel
theorem dd_pr_goesOnInside_6 : decode by_pr_goesOnInside 6 = .ok (.istore_n 2, 1) := by decide +kernel
theorem dd_pr_goesOnInside_7 : decode by_pr_goesOnInside 7 = .ok (.iload_n 2, 1) := by decide +kernel
theorem dd_pr_goesOnInside_8 : decode by_pr_goesOnInside 8 = .ok (.bipush 10, 2) := by decide +kernel
theorem dd_pr_goesOnInside_10 : decode by_pr_goesOnInside 10 = .ok (.if_icmp .lt 13, 3) := by decide +kernel
theorem dd_pr_goesOnInside_13 : decode by_pr_goesOnInside 13 = .ok (.iload_n 2, 1) := by decide +kernel
theorem dd_pr_goesOnInside_14 : decode by_pr_goesOnInside 14 = .ok (.bipush 13, 2) := by decide +kernel
theorem dd_pr_goesOnInside_16 : decode by_pr_goesOnInside 16 = .ok (.if_icmp .gt 7, 3) := by decide +kernel
theorem dd_pr_goesOnInside_19 : decode by_pr_goesOnInside 19 = .ok (.iconst 1, 1) := by decide +kernel
theorem dd_pr_goesOnInside_20 : decode by_pr_goesOnInside 20 = .ok (.goto 4, 3) := by decide +kernel
theorem dd_pr_goesOnInside_23 : decode by_pr_goesOnInside 23 = .ok (.iconst 0, 1) := by decide +kernel
theorem dd_pr_goesOnInside_24 : decode by_pr_goesOnInside 24 = .ok (.istore_n 3, 1) := by decide +kernel
theorem dd_pr_goesOnInside_25 : decode by_pr_goesOnInside 25 = .ok (.iload_n 2, 1) := by decide +kernel
theorem dd_pr_goesOnInside_26 : decode by_pr_goesOnInside 26 = .ok (.bipush 10, 2) := by decide +kernel
theorem dd_pr_goesOnInside_28 : decode by_pr_goesOnInside 28 = .ok (.if_icmp .eq 13, 3) := by decide +kernel
theorem dd_pr_goesOnInside_31 : decode by_pr_goesOnInside 31 = .ok (.iload_n 2, 1) := by decide +kernel
theorem dd_pr_goesOnInside_32 : decode by_pr_goesOnInside 32 = .ok (.bipush 15, 2) := by decide +kernel
theorem dd_pr_goesOnInside_34 : decode by_pr_goesOnInside 34 = .ok (.if_icmp .eq 7, 3) := by decide +kernel
theorem dd_pr_goesOnInside_37 : decode by_pr_goesOnInside 37 = .ok (.iconst 1, 1) := by decide +kernel
theorem dd_pr_goesOnInside_38 : decode by_pr_goesOnInside 38 = .ok (.goto 4, 3) := by decide +kernel
theorem dd_pr_goesOnInside_41 : decode by_pr_goesOnInside 41 = .ok (.iconst 0, 1) := by decide +kernel
theorem dd_pr_goesOnInside_42 : decode by_pr_goesOnInside 42 = .ok (.istore 4, 2) := by decide +kernel
theorem dd_pr_goesOnInside_44 : decode by_pr_goesOnInside 44 = .ok (.iload_n 3, 1) := by decide +kernel
theorem dd_pr_goesOnInside_45 : decode by_pr_goesOnInside 45 = .ok (.ifCond .eq 22, 3) := by decide +kernel
theorem dd_pr_goesOnInside_48 : decode by_pr_goesOnInside 48 = .ok (.aload_n 0, 1) := by decide +kernel
theorem dd_pr_goesOnInside_49 : decode by_pr_goesOnInside 49 = .ok (.iload_n 1, 1) := by decide +kernel
theorem dd_pr_goesOnInside_50 : decode by_pr_goesOnInside 50 = .ok (.i2l, 1) := by decide +kernel
theorem dd_pr_goesOnInside_51 : decode by_pr_goesOnInside 51 = .ok (.lconst 1, 1) := by decide +kernel
theorem dd_pr_goesOnInside_52 : decode by_pr_goesOnInside 52 = .ok (.ladd, 1) := by decide +kernel
theorem dd_pr_goesOnInside_53 : decode by_pr_goesOnInside 53 = .ok (.aload_n 0, 1) := by decide +kernel
theorem dd_pr_goesOnInside_54 : decode by_pr_goesOnInside 54 = .ok (.getfield 21, 3) := by decide +kernel
theorem dd_pr_goesOnInside_57 : decode by_pr_goesOnInside 57 = .ok (.iload_n 1, 1) := by decide +kernel
theorem dd_pr_goesOnInside_58 : decode by_pr_goesOnInside 58 = .ok (.iaload, 1) := by decide +kernel
theorem dd_pr_goesOnInside_59 : decode by_pr_goesOnInside 59 = .ok (.i2l, 1) := by decide +kernel
theorem dd_pr_goesOnInside_60 : decode by_pr_goesOnInside 60 = .ok (.ladd, 1) := by decide +kernel
theorem dd_pr_goesOnInside_61 : decode by_pr_goesOnInside 61 = .ok (.invokevirtual 49, 3) := by decide +kernel
theorem dd_pr_goesOnInside_64 : decode by_pr_goesOnInside 64 = .ok (.ifCond .eq 23, 3) := by decide +kernel
theorem dd_pr_goesOnInside_67 : decode by_pr_goesOnInside 67 = .ok (.iload 4, 2) := by decide +kernel
theorem dd_pr_goesOnInside_69 : decode by_pr_goesOnInside 69 = .ok (.ifCond .eq 14, 3) := by decide +kernel
theorem dd_pr_goesOnInside_72 : decode by_pr_goesOnInside 72 = .ok (.aload_n 0, 1) := by decide +kernel
theorem dd_pr_goesOnInside_73 : decode by_pr_goesOnInside 73 = .ok (.iload_n 1, 1) := by decide +kernel
theorem dd_pr_goesOnInside_74 : decode by_pr_goesOnInside 74 = .ok (.i2l, 1) := by decide +kernel
theorem dd_pr_goesOnInside_75 : decode by_pr_goesOnInside 75 = .ok (.lconst 1, 1) := by decide +kernel
theorem dd_pr_goesOnInside_76 : decode by_pr_goesOnInside 76 = .ok (.ladd, 1) := by decide +kernel
theorem dd_pr_goesOnInside_77 : decode by_pr_goesOnInside 77 = .ok (.invokevirtual 49, 3) := by decide +kernel
theorem dd_pr_goesOnInside_80 : decode by_pr_goesOnInside 80 = .ok (.ifCond .eq 7, 3) := by decide +kernel
theorem dd_pr_goesOnInside_83 : decode by_pr_goesOnInside 83 = .ok (.iconst 1, 1) := by decide +kernel
theorem dd_pr_goesOnInside_84 : decode by_pr_goesOnInside 84 = .ok (.goto 4, 3) := by decide +kernel
theorem dd_pr_goesOnInside_87 : decode by_pr_goesOnInside 87 = .ok (.iconst 0, 1) := by decide +kernel
theorem dd_pr_goesOnInside_88 : decode by_pr_goesOnInside 88 = .ok (.ireturn, 1) := by decide +kernel
def pr_goesOnInside_b83 (M : gw_M) : Option (Int32 × gw_M) :=
  some ((1 : Int32), M)
def pr_goesOnInside_b67 (M : gw_M) (a0 : Nat) (v1 : Int32) (v4 : Int32) : Option (Int32 × gw_M) :=
  if v4 = (0 : Int32) then (pr_goesOnInside_b83  M) else (gw_bd (pr_isPlace_b0 M a0 (v1.toInt64 + (1 : Int64))) (fun r77 M77 => if r77 = (0 : Int32) then (some ((0 : Int32), M77)) else (pr_goesOnInside_b83  M77)))
def pr_goesOnInside_b42 (M : gw_M) (a0 : Nat) (v1 : Int32) (v3 : Int32) (t0 : Int32) : Option (Int32 × gw_M) :=
  if v3 = (0 : Int32) then (pr_goesOnInside_b67  M a0 v1 t0) else (gw_gu (gw_in v1 32) (gw_bd (pr_isPlace_b0 M a0 ((v1.toInt64 + (1 : Int64)) + ((M.1 (a0 + 4) v1.toNatClampNeg).toInt64))) (fun r61 M61 => if r61 = (0 : Int32) then (some ((0 : Int32), M61)) else (pr_goesOnInside_b67  M61 a0 v1 t0))))
def pr_goesOnInside_b41 (M : gw_M) (a0 : Nat) (v1 : Int32) (v3 : Int32) : Option (Int32 × gw_M) :=
  pr_goesOnInside_b42  M a0 v1 v3 (0 : Int32)
def pr_goesOnInside_b24 (M : gw_M) (a0 : Nat) (v1 : Int32) (v2 : Int32) (t0 : Int32) : Option (Int32 × gw_M) :=
  if v2 = (10 : Int32) then (pr_goesOnInside_b41  M a0 v1 t0) else (if v2 = (15 : Int32) then (pr_goesOnInside_b41  M a0 v1 t0) else (pr_goesOnInside_b42  M a0 v1 t0 (1 : Int32)))
def pr_goesOnInside_b23 (M : gw_M) (a0 : Nat) (v1 : Int32) (v2 : Int32) : Option (Int32 × gw_M) :=
  pr_goesOnInside_b24  M a0 v1 v2 (0 : Int32)
def pr_goesOnInside_b0 (M : gw_M) (a0 : Nat) (v1 : Int32) : Option (Int32 × gw_M) :=
  gw_gu (gw_in v1 32) (gw_lt (M.1 (a0 + 1) v1.toNatClampNeg) (fun x6 => if x6 < (10 : Int32) then (pr_goesOnInside_b23  M a0 v1 x6) else (if (13 : Int32) < x6 then (pr_goesOnInside_b23  M a0 v1 x6) else (pr_goesOnInside_b24  M a0 v1 x6 (1 : Int32)))))
set_option maxRecDepth 100000 in
set_option maxHeartbeats 4000000 in
theorem wb_pr_goesOnInside_83 {p : Program} {l : Launch} {e : Env} {s : State} {m : MethodId} {args : Array Value} {below : List Frame} {meth : Method} {c : Code} {X : gw_X} {Y : gw_M} {z : (Int32 × gw_M)} (C0 : gw_C ((Cond.code yy_pr_goesOnInside by_pr_goesOnInside 5 (some .boolean)) :: gw_w) by_pr_goesOnInside 5 (some .boolean) "AccountMachine$Program" X p s m args meth c) (M : gw_M) (H : Heap) (locs : List Loc) (ls : Array Slot) (G : gw_G X (gw_E X M Y) s H locs) (hl : lv_has ls 5 []) (hF : pr_goesOnInside_b83  M = some z) : W p l e rm_pr_goesOnInside s m args below meth c H locs 0 0 (MQ below (gw_Qi X (fun M => (gw_E X M Y)) z) args s 0 0 (gw_A X)) (F0 m 83 ls []) := by
  obtain ⟨hx, hb, hml, hown, hts, hr, hlocks, hK⟩ := id C0
  have hg : ∀ w ∈ gw_w, w.before args s = true := fun w h => hts w (List.mem_cons_of_mem _ h)
  unfold pr_goesOnInside_b83 at hF
  refine lv_iconst (v := (1 : Int32)) hx hb dd_pr_goesOnInside_83 (by decide) ?_
  refine lv_goto (tgt := 88) hx hb dd_pr_goesOnInside_84 (by decide) ?_
  exact W.zret hx hb hr (by decide) (fun t ht hW => gw_endi (EF := (fun M => (gw_E X M Y))) (M := M) G ht hF) G.2.2.2.2 dd_pr_goesOnInside_88 hlocks
set_option maxRecDepth 100000 in
set_option maxHeartbeats 4000000 in
theorem wb_pr_goesOnInside_67 {p : Program} {l : Launch} {e : Env} {s : State} {m : MethodId} {args : Array Value} {below : List Frame} {meth : Method} {c : Code} {X : gw_X} {Y : gw_M} {z : (Int32 × gw_M)} (C0 : gw_C ((Cond.code yy_pr_goesOnInside by_pr_goesOnInside 5 (some .boolean)) :: gw_w) by_pr_goesOnInside 5 (some .boolean) "AccountMachine$Program" X p s m args meth c) (M : gw_M) (a0 : Nat) (v1 : Int32) (v4 : Int32) (H : Heap) (locs : List Loc) (ls : Array Slot) (ha0 : gc_k a0 = (5, 0)) (G : gw_G X (gw_E X M Y) s H locs) (hl : lv_has ls 5 [(0, .ref (gc_a X a0)), (1, .int v1), (4, .int v4)]) (hF : pr_goesOnInside_b67  M a0 v1 v4 = some z) : W p l e rm_pr_goesOnInside s m args below meth c H locs 0 0 (MQ below (gw_Qi X (fun M => (gw_E X M Y)) z) args s 0 0 (gw_A X)) (F0 m 67 ls []) := by
  obtain ⟨hx, hb, hml, hown, hts, hr, hlocks, hK⟩ := id C0
  have hg : ∀ w ∈ gw_w, w.before args s = true := fun w h => hts w (List.mem_cons_of_mem _ h)
  unfold pr_goesOnInside_b67 at hF
  refine lv_iload hx hb dd_pr_goesOnInside_67 (lv_at hl 2 rfl) ?_
  refine lv_if_eq (tgt := 83) hx hb dd_pr_goesOnInside_69 (by decide) (fun h69 => ?_) (fun h69 => ?_)
  · replace hF := gw_et h69 hF
    exact wb_pr_goesOnInside_83 C0  M _ _ _  G (lv_sub hl [] rfl) hF
  · replace hF := gw_ef h69 hF
    refine lv_aload_n hx hb dd_pr_goesOnInside_72 rfl (lv_at hl 0 rfl) ?_
    refine lv_iload_n hx hb dd_pr_goesOnInside_73 rfl (lv_at hl 1 rfl) ?_
    refine lv_i2l (v := v1.toInt64) hx hb dd_pr_goesOnInside_74 rfl ?_
    refine lv_lconst (v := (1 : Int64)) hx hb dd_pr_goesOnInside_75 (by decide) ?_
    refine lv_ladd hx hb dd_pr_goesOnInside_76 ?_
    obtain ⟨r77, M77, hc77, hF⟩ := gw_be hF
    refine gw_ci G (va_runV (As := [.long (v1.toInt64 + (1 : Int64))]) (rest := []) ⟨hx, hb, hml, hown, hts⟩ (ct_pr_isPlace l X Y M a0 (v1.toInt64 + (1 : Int64)) ha0 _ hc77) (cwV 1 hts (gw_gV kw_89 kw_90 kw_91 kw_92 kw_88) rfl rfl rfl (by decide +kernel) ⟨Nat.le_of_ble_eq_true rfl, Nat.le_of_ble_eq_true rfl⟩) ⟨gw_blind, gw_recv_pr hK G ha0, gw_pre hK G⟩ rfl rfl hl.1 rfl (Nat.le_of_ble_eq_true rfl) dd_pr_goesOnInside_77 ⟨Nat.le_of_ble_eq_true rfl, Nat.le_of_ble_eq_true rfl⟩) (fun H locs G => ?_)
    refine lv_if_eq (tgt := 87) hx hb dd_pr_goesOnInside_80 (by decide) (fun h80 => ?_) (fun h80 => ?_)
    · replace hF := gw_et h80 hF
      refine lv_iconst (v := (0 : Int32)) hx hb dd_pr_goesOnInside_87 (by decide) ?_
      exact W.zret hx hb hr (by decide) (fun t ht hW => gw_endi (EF := (fun M => (gw_E X M Y))) (M := M77) G ht hF) G.2.2.2.2 dd_pr_goesOnInside_88 hlocks
    · replace hF := gw_ef h80 hF
      exact wb_pr_goesOnInside_83 C0  M77 _ _ _  G (lv_sub hl [] rfl) hF
set_option maxRecDepth 100000 in
set_option maxHeartbeats 4000000 in
theorem wb_pr_goesOnInside_42 {p : Program} {l : Launch} {e : Env} {s : State} {m : MethodId} {args : Array Value} {below : List Frame} {meth : Method} {c : Code} {X : gw_X} {Y : gw_M} {z : (Int32 × gw_M)} (C0 : gw_C ((Cond.code yy_pr_goesOnInside by_pr_goesOnInside 5 (some .boolean)) :: gw_w) by_pr_goesOnInside 5 (some .boolean) "AccountMachine$Program" X p s m args meth c) (M : gw_M) (a0 : Nat) (v1 : Int32) (v3 : Int32) (t0 : Int32) (H : Heap) (locs : List Loc) (ls : Array Slot) (ha0 : gc_k a0 = (5, 0)) (G : gw_G X (gw_E X M Y) s H locs) (hl : lv_has ls 5 [(0, .ref (gc_a X a0)), (1, .int v1), (3, .int v3)]) (hF : pr_goesOnInside_b42  M a0 v1 v3 t0 = some z) : W p l e rm_pr_goesOnInside s m args below meth c H locs 0 0 (MQ below (gw_Qi X (fun M => (gw_E X M Y)) z) args s 0 0 (gw_A X)) (F0 m 42 ls [.int t0]) := by
  obtain ⟨hx, hb, hml, hown, hts, hr, hlocks, hK⟩ := id C0
  have hg : ∀ w ∈ gw_w, w.before args s = true := fun w h => hts w (List.mem_cons_of_mem _ h)
  unfold pr_goesOnInside_b42 at hF
  refine lv_istore (i := 4) (lv' := [(4, .int t0), (0, .ref (gc_a X a0)), (1, .int v1), (3, .int v3)]) hx hb dd_pr_goesOnInside_42 hl (by decide) rfl (fun ls hl => ?_)
  refine lv_iload_n hx hb dd_pr_goesOnInside_44 rfl (lv_at hl 3 rfl) ?_
  refine lv_if_eq (tgt := 67) hx hb dd_pr_goesOnInside_45 (by decide) (fun h45 => ?_) (fun h45 => ?_)
  · replace hF := gw_et h45 hF
    exact wb_pr_goesOnInside_67 C0  M a0 v1 t0 _ _ _ ha0 G (lv_sub hl [1, 2, 0] rfl) hF
  · replace hF := gw_ef h45 hF
    refine lv_aload_n hx hb dd_pr_goesOnInside_48 rfl (lv_at hl 1 rfl) ?_
    refine lv_iload_n hx hb dd_pr_goesOnInside_49 rfl (lv_at hl 2 rfl) ?_
    refine lv_i2l (v := v1.toInt64) hx hb dd_pr_goesOnInside_50 rfl ?_
    refine lv_lconst (v := (1 : Int64)) hx hb dd_pr_goesOnInside_51 (by decide) ?_
    refine lv_ladd hx hb dd_pr_goesOnInside_52 ?_
    refine lv_aload_n hx hb dd_pr_goesOnInside_53 rfl (lv_at hl 1 rfl) ?_
    refine gf_pr_offsets hx hb hg hown (hg _ kw_85) hK G ha0 dd_pr_goesOnInside_54 ?_
    refine lv_iload_n hx hb dd_pr_goesOnInside_57 rfl (lv_at hl 2 rfl) ?_
    obtain ⟨h58, hF⟩ := gw_gd hF
    refine gc_iald hx hb hK G (gq_pr_offsets ha0) (gw_vp h58) (j := v1.toNatClampNeg) rfl dd_pr_goesOnInside_58 ?_
    refine W.eq (g2 := F0 m 59 _ _) rfl ?_
    refine lv_i2l (v := (M.1 (a0 + 4) v1.toNatClampNeg).toInt64) hx hb dd_pr_goesOnInside_59 rfl ?_
    refine lv_ladd hx hb dd_pr_goesOnInside_60 ?_
    obtain ⟨r61, M61, hc61, hF⟩ := gw_be hF
    refine gw_ci G (va_runV (As := [.long ((v1.toInt64 + (1 : Int64)) + ((M.1 (a0 + 4) v1.toNatClampNeg).toInt64))]) (rest := []) ⟨hx, hb, hml, hown, hts⟩ (ct_pr_isPlace l X Y M a0 ((v1.toInt64 + (1 : Int64)) + ((M.1 (a0 + 4) v1.toNatClampNeg).toInt64)) ha0 _ hc61) (cwV 1 hts (gw_gV kw_89 kw_90 kw_91 kw_92 kw_88) rfl rfl rfl (by decide +kernel) ⟨Nat.le_of_ble_eq_true rfl, Nat.le_of_ble_eq_true rfl⟩) ⟨gw_blind, gw_recv_pr hK G ha0, gw_pre hK G⟩ rfl rfl hl.1 rfl (Nat.le_of_ble_eq_true rfl) dd_pr_goesOnInside_61 ⟨Nat.le_of_ble_eq_true rfl, Nat.le_of_ble_eq_true rfl⟩) (fun H locs G => ?_)
    refine lv_if_eq (tgt := 87) hx hb dd_pr_goesOnInside_64 (by decide) (fun h64 => ?_) (fun h64 => ?_)
    · replace hF := gw_et h64 hF
      refine lv_iconst (v := (0 : Int32)) hx hb dd_pr_goesOnInside_87 (by decide) ?_
      exact W.zret hx hb hr (by decide) (fun t ht hW => gw_endi (EF := (fun M => (gw_E X M Y))) (M := M61) G ht hF) G.2.2.2.2 dd_pr_goesOnInside_88 hlocks
    · replace hF := gw_ef h64 hF
      exact wb_pr_goesOnInside_67 C0  M61 a0 v1 t0 _ _ _ ha0 G (lv_sub hl [1, 2, 0] rfl) hF
set_option maxRecDepth 100000 in
set_option maxHeartbeats 4000000 in
theorem wb_pr_goesOnInside_41 {p : Program} {l : Launch} {e : Env} {s : State} {m : MethodId} {args : Array Value} {below : List Frame} {meth : Method} {c : Code} {X : gw_X} {Y : gw_M} {z : (Int32 × gw_M)} (C0 : gw_C ((Cond.code yy_pr_goesOnInside by_pr_goesOnInside 5 (some .boolean)) :: gw_w) by_pr_goesOnInside 5 (some .boolean) "AccountMachine$Program" X p s m args meth c) (M : gw_M) (a0 : Nat) (v1 : Int32) (v3 : Int32) (H : Heap) (locs : List Loc) (ls : Array Slot) (ha0 : gc_k a0 = (5, 0)) (G : gw_G X (gw_E X M Y) s H locs) (hl : lv_has ls 5 [(0, .ref (gc_a X a0)), (1, .int v1), (3, .int v3)]) (hF : pr_goesOnInside_b41  M a0 v1 v3 = some z) : W p l e rm_pr_goesOnInside s m args below meth c H locs 0 0 (MQ below (gw_Qi X (fun M => (gw_E X M Y)) z) args s 0 0 (gw_A X)) (F0 m 41 ls []) := by
  obtain ⟨hx, hb, hml, hown, hts, hr, hlocks, hK⟩ := id C0
  have hg : ∀ w ∈ gw_w, w.before args s = true := fun w h => hts w (List.mem_cons_of_mem _ h)
  unfold pr_goesOnInside_b41 at hF
  refine lv_iconst (v := (0 : Int32)) hx hb dd_pr_goesOnInside_41 (by decide) ?_
  exact wb_pr_goesOnInside_42 C0  M a0 v1 v3 (0 : Int32) _ _ _ ha0 G (lv_sub hl [0, 1, 2] rfl) hF
set_option maxRecDepth 100000 in
set_option maxHeartbeats 4000000 in
theorem wb_pr_goesOnInside_24 {p : Program} {l : Launch} {e : Env} {s : State} {m : MethodId} {args : Array Value} {below : List Frame} {meth : Method} {c : Code} {X : gw_X} {Y : gw_M} {z : (Int32 × gw_M)} (C0 : gw_C ((Cond.code yy_pr_goesOnInside by_pr_goesOnInside 5 (some .boolean)) :: gw_w) by_pr_goesOnInside 5 (some .boolean) "AccountMachine$Program" X p s m args meth c) (M : gw_M) (a0 : Nat) (v1 : Int32) (v2 : Int32) (t0 : Int32) (H : Heap) (locs : List Loc) (ls : Array Slot) (ha0 : gc_k a0 = (5, 0)) (G : gw_G X (gw_E X M Y) s H locs) (hl : lv_has ls 5 [(0, .ref (gc_a X a0)), (1, .int v1), (2, .int v2)]) (hF : pr_goesOnInside_b24  M a0 v1 v2 t0 = some z) : W p l e rm_pr_goesOnInside s m args below meth c H locs 0 0 (MQ below (gw_Qi X (fun M => (gw_E X M Y)) z) args s 0 0 (gw_A X)) (F0 m 24 ls [.int t0]) := by
  obtain ⟨hx, hb, hml, hown, hts, hr, hlocks, hK⟩ := id C0
  have hg : ∀ w ∈ gw_w, w.before args s = true := fun w h => hts w (List.mem_cons_of_mem _ h)
  unfold pr_goesOnInside_b24 at hF
  refine lv_istore_n (i := 3) (lv' := [(3, .int t0), (0, .ref (gc_a X a0)), (1, .int v1), (2, .int v2)]) hx hb dd_pr_goesOnInside_24 rfl hl (by decide) rfl (fun ls hl => ?_)
  refine lv_iload_n hx hb dd_pr_goesOnInside_25 rfl (lv_at hl 3 rfl) ?_
  refine lv_bipush (v := (10 : Int32)) hx hb dd_pr_goesOnInside_26 (by decide) ?_
  refine lv_icmp_eq (tgt := 41) hx hb dd_pr_goesOnInside_28 (by decide) (fun h28 => ?_) (fun h28 => ?_)
  · replace hF := gw_et h28 hF
    exact wb_pr_goesOnInside_41 C0  M a0 v1 t0 _ _ _ ha0 G (lv_sub hl [1, 2, 0] rfl) hF
  · replace hF := gw_ef h28 hF
    refine lv_iload_n hx hb dd_pr_goesOnInside_31 rfl (lv_at hl 3 rfl) ?_
    refine lv_bipush (v := (15 : Int32)) hx hb dd_pr_goesOnInside_32 (by decide) ?_
    refine lv_icmp_eq (tgt := 41) hx hb dd_pr_goesOnInside_34 (by decide) (fun h34 => ?_) (fun h34 => ?_)
    · replace hF := gw_et h34 hF
      exact wb_pr_goesOnInside_41 C0  M a0 v1 t0 _ _ _ ha0 G (lv_sub hl [1, 2, 0] rfl) hF
    · replace hF := gw_ef h34 hF
      refine lv_iconst (v := (1 : Int32)) hx hb dd_pr_goesOnInside_37 (by decide) ?_
      refine lv_goto (tgt := 42) hx hb dd_pr_goesOnInside_38 (by decide) ?_
      exact wb_pr_goesOnInside_42 C0  M a0 v1 t0 (1 : Int32) _ _ _ ha0 G (lv_sub hl [1, 2, 0] rfl) hF
set_option maxRecDepth 100000 in
set_option maxHeartbeats 4000000 in
theorem wb_pr_goesOnInside_23 {p : Program} {l : Launch} {e : Env} {s : State} {m : MethodId} {args : Array Value} {below : List Frame} {meth : Method} {c : Code} {X : gw_X} {Y : gw_M} {z : (Int32 × gw_M)} (C0 : gw_C ((Cond.code yy_pr_goesOnInside by_pr_goesOnInside 5 (some .boolean)) :: gw_w) by_pr_goesOnInside 5 (some .boolean) "AccountMachine$Program" X p s m args meth c) (M : gw_M) (a0 : Nat) (v1 : Int32) (v2 : Int32) (H : Heap) (locs : List Loc) (ls : Array Slot) (ha0 : gc_k a0 = (5, 0)) (G : gw_G X (gw_E X M Y) s H locs) (hl : lv_has ls 5 [(0, .ref (gc_a X a0)), (1, .int v1), (2, .int v2)]) (hF : pr_goesOnInside_b23  M a0 v1 v2 = some z) : W p l e rm_pr_goesOnInside s m args below meth c H locs 0 0 (MQ below (gw_Qi X (fun M => (gw_E X M Y)) z) args s 0 0 (gw_A X)) (F0 m 23 ls []) := by
  obtain ⟨hx, hb, hml, hown, hts, hr, hlocks, hK⟩ := id C0
  have hg : ∀ w ∈ gw_w, w.before args s = true := fun w h => hts w (List.mem_cons_of_mem _ h)
  unfold pr_goesOnInside_b23 at hF
  refine lv_iconst (v := (0 : Int32)) hx hb dd_pr_goesOnInside_23 (by decide) ?_
  exact wb_pr_goesOnInside_24 C0  M a0 v1 v2 (0 : Int32) _ _ _ ha0 G (lv_sub hl [0, 1, 2] rfl) hF
set_option maxRecDepth 100000 in
set_option maxHeartbeats 4000000 in
theorem wb_pr_goesOnInside_0 {p : Program} {l : Launch} {e : Env} {s : State} {m : MethodId} {args : Array Value} {below : List Frame} {meth : Method} {c : Code} {X : gw_X} {Y : gw_M} {z : (Int32 × gw_M)} (C0 : gw_C ((Cond.code yy_pr_goesOnInside by_pr_goesOnInside 5 (some .boolean)) :: gw_w) by_pr_goesOnInside 5 (some .boolean) "AccountMachine$Program" X p s m args meth c) (M : gw_M) (a0 : Nat) (v1 : Int32) (H : Heap) (locs : List Loc) (ls : Array Slot) (ha0 : gc_k a0 = (5, 0)) (G : gw_G X (gw_E X M Y) s H locs) (hl : lv_has ls 5 [(0, .ref (gc_a X a0)), (1, .int v1)]) (hF : pr_goesOnInside_b0  M a0 v1 = some z) : W p l e rm_pr_goesOnInside s m args below meth c H locs 0 0 (MQ below (gw_Qi X (fun M => (gw_E X M Y)) z) args s 0 0 (gw_A X)) (F0 m 0 ls []) := by
  obtain ⟨hx, hb, hml, hown, hts, hr, hlocks, hK⟩ := id C0
  have hg : ∀ w ∈ gw_w, w.before args s = true := fun w h => hts w (List.mem_cons_of_mem _ h)
  unfold pr_goesOnInside_b0 at hF
  refine lv_aload_n hx hb dd_pr_goesOnInside_0 rfl (lv_at hl 0 rfl) ?_
  refine gf_pr_kinds hx hb hg hown (hg _ kw_81) hK G ha0 dd_pr_goesOnInside_1 ?_
  refine lv_iload_n hx hb dd_pr_goesOnInside_4 rfl (lv_at hl 1 rfl) ?_
  obtain ⟨h5, hF⟩ := gw_gd hF
  refine gc_iald hx hb hK G (gq_pr_kinds ha0) (gw_vp h5) (j := v1.toNatClampNeg) rfl dd_pr_goesOnInside_5 ?_
  refine lv_topi (fun x6 e6 => ?_)
  replace hF := gw_ly e6 hF
  refine lv_istore_n (i := 2) (lv' := [(2, .int x6), (0, .ref (gc_a X a0)), (1, .int v1)]) hx hb dd_pr_goesOnInside_6 rfl hl (by decide) rfl (fun ls hl => ?_)
  refine lv_iload_n hx hb dd_pr_goesOnInside_7 rfl (lv_at hl 0 rfl) ?_
  refine lv_bipush (v := (10 : Int32)) hx hb dd_pr_goesOnInside_8 (by decide) ?_
  refine lv_icmp_lt (tgt := 23) hx hb dd_pr_goesOnInside_10 (by decide) (fun h10 => ?_) (fun h10 => ?_)
  · replace hF := gw_et h10 hF
    exact wb_pr_goesOnInside_23 C0  M a0 v1 x6 _ _ _ ha0 G (lv_sub hl [1, 2, 0] rfl) hF
  · replace hF := gw_ef h10 hF
    refine lv_iload_n hx hb dd_pr_goesOnInside_13 rfl (lv_at hl 0 rfl) ?_
    refine lv_bipush (v := (13 : Int32)) hx hb dd_pr_goesOnInside_14 (by decide) ?_
    refine lv_icmp_gt (tgt := 23) hx hb dd_pr_goesOnInside_16 (by decide) (fun h16 => ?_) (fun h16 => ?_)
    · replace hF := gw_et h16 hF
      exact wb_pr_goesOnInside_23 C0  M a0 v1 x6 _ _ _ ha0 G (lv_sub hl [1, 2, 0] rfl) hF
    · replace hF := gw_ef h16 hF
      refine lv_iconst (v := (1 : Int32)) hx hb dd_pr_goesOnInside_19 (by decide) ?_
      refine lv_goto (tgt := 24) hx hb dd_pr_goesOnInside_20 (by decide) ?_
      exact wb_pr_goesOnInside_24 C0  M a0 v1 x6 (1 : Int32) _ _ _ ha0 G (lv_sub hl [1, 2, 0] rfl) hF
set_option maxRecDepth 100000 in
set_option maxHeartbeats 4000000 in
theorem ct_pr_goesOnInside (l : Launch) (X : gw_X) (Y : gw_M) (M : gw_M) (a0 : Nat) (v1 : Int32) (ha0 : gc_k a0 = (5, 0)) (z : (Int32 × gw_M)) (hF : pr_goesOnInside_b0 M a0 v1 = some z) : Met l yy_pr_goesOnInside ((Cond.code yy_pr_goesOnInside by_pr_goesOnInside 5 (some .boolean)) :: gw_w) rm_pr_goesOnInside (va_Pc [.ref (gc_a X a0), .int v1] (gw_B X (gw_E X M Y))) (gw_Qi X (fun M => (gw_E X M Y)) z) 0 0 (gw_A X) := by
  refine Met.ofW (cc := by_pr_goesOnInside) (maxL := 5) (ret := (some .boolean)) (by decide) rfl ?_
  intro p e s m args below meth c s₁ B hml hv
  obtain ⟨rfl, hB⟩ := hv
  rw [lg_entry_eq]
  have hl := lv_entry ([.ref (gc_a X a0), .int v1]) (n := 5) (Nat.le_of_ble_eq_true rfl)
  generalize (lg_sl ([.ref (gc_a X a0), .int v1]) ++ List.replicate (5 - (lg_sl ([.ref (gc_a X a0), .int v1])).length) Slot.unset).toArray = ls at hl ⊢
  have hl : lv_has ls 5 [(0, .ref (gc_a X a0)), (1, .int v1)] := hl
  exact wb_pr_goesOnInside_0 (gw_ctx B hml rfl hB) M a0 v1 _ _ _ ha0 (gw_start hB) hl hF
/-! AccountMachine$Program.reasonAt(I)I -/
abbrev rm_pr_reasonAt : Room := { frames := 2, cells := 0, slots := 0, locals := 46 }
theorem dd_pr_reasonAt_0 : decode by_pr_reasonAt 0 = .ok (.aload_n 0, 1) := by decide +kernel
theorem dd_pr_reasonAt_1 : decode by_pr_reasonAt 1 = .ok (.getfield 9, 3) := by decide +kernel
theorem dd_pr_reasonAt_4 : decode by_pr_reasonAt 4 = .ok (.iload_n 1, 1) := by decide +kernel
theorem dd_pr_reasonAt_5 : decode by_pr_reasonAt 5 = .ok (.iaload, 1) := by decide +kernel
theorem dd_pr_reasonAt_6 : decode by_pr_reasonAt 6 = .ok (.istore_n 2, 1) := by decide +kernel
theorem dd_pr_reasonAt_7 : decode by_pr_reasonAt 7 = .ok (.aload_n 0, 1) := by decide +kernel
theorem dd_pr_reasonAt_8 : decode by_pr_reasonAt 8 = .ok (.getfield 24, 3) := by decide +kernel
theorem dd_pr_reasonAt_11 : decode by_pr_reasonAt 11 = .ok (.iload_n 1, 1) := by decide +kernel
theorem dd_pr_reasonAt_12 : decode by_pr_reasonAt 12 = .ok (.iaload, 1) := by decide +kernel
theorem dd_pr_reasonAt_13 : decode by_pr_reasonAt 13 = .ok (.istore_n 3, 1) := by decide +kernel
theorem dd_pr_reasonAt_14 : decode by_pr_reasonAt 14 = .ok (.iload_n 2, 1) := by decide +kernel
theorem dd_pr_reasonAt_15 : decode by_pr_reasonAt 15 = .ok (.ifCond .lt 33, 3) := by decide +kernel
theorem dd_pr_reasonAt_18 : decode by_pr_reasonAt 18 = .ok (.iload_n 2, 1) := by decide +kernel
theorem dd_pr_reasonAt_19 : decode by_pr_reasonAt 19 = .ok (.bipush 15, 2) := by decide +kernel
theorem dd_pr_reasonAt_21 : decode by_pr_reasonAt 21 = .ok (.if_icmp .gt 27, 3) := by decide +kernel
theorem dd_pr_reasonAt_24 : decode by_pr_reasonAt 24 = .ok (.aload_n 0, 1) := by decide +kernel
theorem dd_pr_reasonAt_25 : decode by_pr_reasonAt 25 = .ok (.getfield 15, 3) := by decide +kernel
theorem dd_pr_reasonAt_28 : decode by_pr_reasonAt 28 = .ok (.iload_n 1, 1) := by decide +kernel
theorem dd_pr_reasonAt_29 : decode by_pr_reasonAt 29 = .ok (.iaload, 1) := by decide +kernel
theorem dd_pr_reasonAt_30 : decode by_pr_reasonAt 30 = .ok (.invokestatic 39, 3) := by decide +kernel
theorem dd_pr_reasonAt_33 : decode by_pr_reasonAt 33 = .ok (.ifCond .eq 15, 3) := by decide +kernel
theorem dd_pr_reasonAt_36 : decode by_pr_reasonAt 36 = .ok (.aload_n 0, 1) := by decide +kernel
theorem dd_pr_reasonAt_37 : decode by_pr_reasonAt 37 = .ok (.getfield 18, 3) := by decide +kernel
theorem dd_pr_reasonAt_40 : decode by_pr_reasonAt 40 = .ok (.iload_n 1, 1) := by decide +kernel
theorem dd_pr_reasonAt_41 : decode by_pr_reasonAt 41 = .ok (.iaload, 1) := by decide +kernel
theorem dd_pr_reasonAt_42 : decode by_pr_reasonAt 42 = .ok (.invokestatic 39, 3) := by decide +kernel
theorem dd_pr_reasonAt_45 : decode by_pr_reasonAt 45 = .ok (.ifCond .ne 5, 3) := by decide +kernel
theorem dd_pr_reasonAt_48 : decode by_pr_reasonAt 48 = .ok (.iconst 2, 1) := by decide +kernel
theorem dd_pr_reasonAt_49 : decode by_pr_reasonAt 49 = .ok (.ireturn, 1) := by decide +kernel
theorem dd_pr_reasonAt_50 : decode by_pr_reasonAt 50 = .ok (.aload_n 0, 1) := by decide +kernel
theorem dd_pr_reasonAt_51 : decode by_pr_reasonAt 51 = .ok (.iload_n 1, 1) := by decide +kernel
theorem dd_pr_reasonAt_52 : decode by_pr_reasonAt 52 = .ok (.invokevirtual 43, 3) := by decide +kernel
theorem dd_pr_reasonAt_55 : decode by_pr_reasonAt 55 = .ok (.ifCond .ne 5, 3) := by decide +kernel
theorem dd_pr_reasonAt_58 : decode by_pr_reasonAt 58 = .ok (.iconst 3, 1) := by decide +kernel
theorem dd_pr_reasonAt_59 : decode by_pr_reasonAt 59 = .ok (.ireturn, 1) := by decide +kernel
theorem dd_pr_reasonAt_60 : decode by_pr_reasonAt 60 = .ok (.iload_n 2, 1) := by decide +kernel
theorem dd_pr_reasonAt_61 : decode by_pr_reasonAt 61 = .ok (.bipush 6, 2) := by decide +kernel
theorem dd_pr_reasonAt_63 : decode by_pr_reasonAt 63 = .ok (.if_icmp .ne 7, 3) := by decide +kernel
theorem dd_pr_reasonAt_66 : decode by_pr_reasonAt 66 = .ok (.iload_n 3, 1) := by decide +kernel
theorem dd_pr_reasonAt_67 : decode by_pr_reasonAt 67 = .ok (.ifCond .eq 19, 3) := by decide +kernel
theorem dd_pr_reasonAt_70 : decode by_pr_reasonAt 70 = .ok (.iload_n 2, 1) := by decide +kernel
theorem dd_pr_reasonAt_71 : decode by_pr_reasonAt 71 = .ok (.bipush 7, 2) := by decide +kernel
theorem dd_pr_reasonAt_73 : decode by_pr_reasonAt 73 = .ok (.if_icmp .ne 15, 3) := by decide +kernel
theorem dd_pr_reasonAt_76 : decode by_pr_reasonAt 76 = .ok (.iload_n 3, 1) := by decide +kernel
theorem dd_pr_reasonAt_77 : decode by_pr_reasonAt 77 = .ok (.ifCond .lt 9, 3) := by decide +kernel
theorem dd_pr_reasonAt_80 : decode by_pr_reasonAt 80 = .ok (.iload_n 3, 1) := by decide +kernel
theorem dd_pr_reasonAt_81 : decode by_pr_reasonAt 81 = .ok (.bipush 63, 2) := by decide +kernel
theorem dd_pr_reasonAt_83 : decode by_pr_reasonAt 83 = .ok (.if_icmp .le 5, 3) := by decide +kernel
theorem dd_pr_reasonAt_86 : decode by_pr_reasonAt 86 = .ok (.iconst 4, 1) := by decide +kernel
theorem dd_pr_reasonAt_87 : decode by_pr_reasonAt 87 = .ok (.ireturn, 1) := by decide +kernel
theorem dd_pr_reasonAt_88 : decode by_pr_reasonAt 88 = .ok (.iload_n 2, 1) := by decide +kernel
theorem dd_pr_reasonAt_89 : decode by_pr_reasonAt 89 = .ok (.bipush 14, 2) := by decide +kernel
theorem dd_pr_reasonAt_91 : decode by_pr_reasonAt 91 = .ok (.if_icmp .ne 19, 3) := by decide +kernel
theorem dd_pr_reasonAt_94 : decode by_pr_reasonAt 94 = .ok (.iload_n 3, 1) := by decide +kernel
theorem dd_pr_reasonAt_95 : decode by_pr_reasonAt 95 = .ok (.ifCond .lt 11, 3) := by decide +kernel
theorem dd_pr_reasonAt_98 : decode by_pr_reasonAt 98 = .ok (.iload_n 3, 1) := by decide +kernel
theorem dd_pr_reasonAt_99 : decode by_pr_reasonAt 99 = .ok (.getstatic 46, 3) := by decide +kernel
theorem dd_pr_reasonAt_102 : decode by_pr_reasonAt 102 = .ok (.arraylength, 1) := by decide +kernel
theorem dd_pr_reasonAt_103 : decode by_pr_reasonAt 103 = .ok (.if_icmp .lt 7, 3) := by decide +kernel
theorem dd_pr_reasonAt_106 : decode by_pr_reasonAt 106 = .ok (.iconst 5, 1) := by decide +kernel
theorem dd_pr_reasonAt_107 : decode by_pr_reasonAt 107 = .ok (.goto 4, 3) := by decide +kernel
theorem dd_pr_reasonAt_110 : decode by_pr_reasonAt 110 = .ok (.iconst 0, 1) := by decide +kernel
theorem dd_pr_reasonAt_111 : decode by_pr_reasonAt 111 = .ok (.ireturn, 1) := by decide +kernel
def pr_reasonAt_b106 (M : gw_M) : Option (Int32 × gw_M) :=
  some ((5 : Int32), M)
def pr_reasonAt_b88 (M : gw_M) (v2 : Int32) (v3 : Int32) : Option (Int32 × gw_M) :=
  if v2 = (14 : Int32) then (if v3 < (0 : Int32) then (pr_reasonAt_b106  M) else (if v3 < (4 : Int32) then (some ((0 : Int32), M)) else (pr_reasonAt_b106  M))) else (some ((0 : Int32), M))
def pr_reasonAt_b70 (M : gw_M) (v2 : Int32) (v3 : Int32) : Option (Int32 × gw_M) :=
  if v2 = (7 : Int32) then (if v3 < (0 : Int32) then (some ((4 : Int32), M)) else (if v3 ≤ (63 : Int32) then (pr_reasonAt_b88  M v2 v3) else (some ((4 : Int32), M)))) else (pr_reasonAt_b88  M v2 v3)
def pr_reasonAt_b0 (M : gw_M) (a0 : Nat) (v1 : Int32) : Option (Int32 × gw_M) :=
  gw_gu (gw_in v1 32) (gw_lt (M.1 (a0 + 1) v1.toNatClampNeg) (fun x6 => gw_gu (gw_in v1 32) (gw_lt (M.1 (a0 + 5) v1.toNatClampNeg) (fun x13 => if x6 < (0 : Int32) then (some ((2 : Int32), M)) else (if (15 : Int32) < x6 then (some ((2 : Int32), M)) else (gw_gu (gw_in v1 32) (gw_bd (pr_isRegister_b0 M (M.1 (a0 + 2) v1.toNatClampNeg)) (fun r30 M30 => if r30 = (0 : Int32) then (some ((2 : Int32), M30)) else (gw_gu (gw_in v1 32) (gw_bd (pr_isRegister_b0 M30 (M30.1 (a0 + 3) v1.toNatClampNeg)) (fun r42 M42 => if r42 = (0 : Int32) then (some ((2 : Int32), M42)) else (gw_bd (pr_goesOnInside_b0 M42 a0 v1) (fun r52 M52 => if r52 = (0 : Int32) then (some ((3 : Int32), M52)) else (if x6 = (6 : Int32) then (if x13 = (0 : Int32) then (some ((4 : Int32), M52)) else (pr_reasonAt_b70  M52 x6 x13)) else (pr_reasonAt_b70  M52 x6 x13)))))))))))))))
set_option maxRecDepth 100000 in
set_option maxHeartbeats 4000000 in
theorem wb_pr_reasonAt_106 {p : Program} {l : Launch} {e : Env} {s : State} {m : MethodId} {args : Array Value} {below : List Frame} {meth : Method} {c : Code} {X : gw_X} {Y : gw_M} {z : (Int32 × gw_M)} (C0 : gw_C ((Cond.code yy_pr_reasonAt by_pr_reasonAt 4 (some .int)) :: gw_w) by_pr_reasonAt 4 (some .int) "AccountMachine$Program" X p s m args meth c) (M : gw_M) (H : Heap) (locs : List Loc) (ls : Array Slot) (G : gw_G X (gw_E X M Y) s H locs) (hl : lv_has ls 4 []) (hF : pr_reasonAt_b106  M = some z) : W p l e rm_pr_reasonAt s m args below meth c H locs 0 0 (MQ below (gw_Qi X (fun M => (gw_E X M Y)) z) args s 0 0 (gw_A X)) (F0 m 106 ls []) := by
  obtain ⟨hx, hb, hml, hown, hts, hr, hlocks, hK⟩ := id C0
  have hg : ∀ w ∈ gw_w, w.before args s = true := fun w h => hts w (List.mem_cons_of_mem _ h)
  unfold pr_reasonAt_b106 at hF
  refine lv_iconst (v := (5 : Int32)) hx hb dd_pr_reasonAt_106 (by decide) ?_
  refine lv_goto (tgt := 111) hx hb dd_pr_reasonAt_107 (by decide) ?_
  exact W.iret hx hb hr (fun t ht hW => gw_endi (EF := (fun M => (gw_E X M Y))) (M := M) G ht hF) G.2.2.2.2 dd_pr_reasonAt_111 hlocks
set_option maxRecDepth 100000 in
set_option maxHeartbeats 4000000 in
theorem wb_pr_reasonAt_88 {p : Program} {l : Launch} {e : Env} {s : State} {m : MethodId} {args : Array Value} {below : List Frame} {meth : Method} {c : Code} {X : gw_X} {Y : gw_M} {z : (Int32 × gw_M)} (C0 : gw_C ((Cond.code yy_pr_reasonAt by_pr_reasonAt 4 (some .int)) :: gw_w) by_pr_reasonAt 4 (some .int) "AccountMachine$Program" X p s m args meth c) (M : gw_M) (v2 : Int32) (v3 : Int32) (H : Heap) (locs : List Loc) (ls : Array Slot) (G : gw_G X (gw_E X M Y) s H locs) (hl : lv_has ls 4 [(2, .int v2), (3, .int v3)]) (hF : pr_reasonAt_b88  M v2 v3 = some z) : W p l e rm_pr_reasonAt s m args below meth c H locs 0 0 (MQ below (gw_Qi X (fun M => (gw_E X M Y)) z) args s 0 0 (gw_A X)) (F0 m 88 ls []) := by
  obtain ⟨hx, hb, hml, hown, hts, hr, hlocks, hK⟩ := id C0
  have hg : ∀ w ∈ gw_w, w.before args s = true := fun w h => hts w (List.mem_cons_of_mem _ h)
  unfold pr_reasonAt_b88 at hF
  refine lv_iload_n hx hb dd_pr_reasonAt_88 rfl (lv_at hl 0 rfl) ?_
  refine lv_bipush (v := (14 : Int32)) hx hb dd_pr_reasonAt_89 (by decide) ?_
  refine lv_icmp_ne (tgt := 110) hx hb dd_pr_reasonAt_91 (by decide) (fun h91 => ?_) (fun h91 => ?_)
  · replace hF := gw_ef h91 hF
    refine lv_iconst (v := (0 : Int32)) hx hb dd_pr_reasonAt_110 (by decide) ?_
    exact W.iret hx hb hr (fun t ht hW => gw_endi (EF := (fun M => (gw_E X M Y))) (M := M) G ht hF) G.2.2.2.2 dd_pr_reasonAt_111 hlocks
  · replace hF := gw_et h91 hF
    refine lv_iload_n hx hb dd_pr_reasonAt_94 rfl (lv_at hl 1 rfl) ?_
    refine lv_if_lt (tgt := 106) hx hb dd_pr_reasonAt_95 (by decide) (fun h95 => ?_) (fun h95 => ?_)
    · replace hF := gw_et h95 hF
      exact wb_pr_reasonAt_106 C0  M _ _ _  G (lv_sub hl [] rfl) hF
    · replace hF := gw_ef h95 hF
      refine lv_iload_n hx hb dd_pr_reasonAt_98 rfl (lv_at hl 1 rfl) ?_
      refine gw_getsN hx hb hown (gw_nw hK kn_15) hK G dd_pr_reasonAt_99 ?_
      refine gw_tlen hx hb hK G dd_pr_reasonAt_102 ?_
      refine lv_icmp_lt (tgt := 110) hx hb dd_pr_reasonAt_103 (by decide) (fun h103 => ?_) (fun h103 => ?_)
      · replace hF := gw_et h103 hF
        refine lv_iconst (v := (0 : Int32)) hx hb dd_pr_reasonAt_110 (by decide) ?_
        exact W.iret hx hb hr (fun t ht hW => gw_endi (EF := (fun M => (gw_E X M Y))) (M := M) G ht hF) G.2.2.2.2 dd_pr_reasonAt_111 hlocks
      · replace hF := gw_ef h103 hF
        exact wb_pr_reasonAt_106 C0  M _ _ _  G (lv_sub hl [] rfl) hF
set_option maxRecDepth 100000 in
set_option maxHeartbeats 4000000 in
theorem wb_pr_reasonAt_70 {p : Program} {l : Launch} {e : Env} {s : State} {m : MethodId} {args : Array Value} {below : List Frame} {meth : Method} {c : Code} {X : gw_X} {Y : gw_M} {z : (Int32 × gw_M)} (C0 : gw_C ((Cond.code yy_pr_reasonAt by_pr_reasonAt 4 (some .int)) :: gw_w) by_pr_reasonAt 4 (some .int) "AccountMachine$Program" X p s m args meth c) (M : gw_M) (v2 : Int32) (v3 : Int32) (H : Heap) (locs : List Loc) (ls : Array Slot) (G : gw_G X (gw_E X M Y) s H locs) (hl : lv_has ls 4 [(2, .int v2), (3, .int v3)]) (hF : pr_reasonAt_b70  M v2 v3 = some z) : W p l e rm_pr_reasonAt s m args below meth c H locs 0 0 (MQ below (gw_Qi X (fun M => (gw_E X M Y)) z) args s 0 0 (gw_A X)) (F0 m 70 ls []) := by
  obtain ⟨hx, hb, hml, hown, hts, hr, hlocks, hK⟩ := id C0
  have hg : ∀ w ∈ gw_w, w.before args s = true := fun w h => hts w (List.mem_cons_of_mem _ h)
  unfold pr_reasonAt_b70 at hF
  refine lv_iload_n hx hb dd_pr_reasonAt_70 rfl (lv_at hl 0 rfl) ?_
  refine lv_bipush (v := (7 : Int32)) hx hb dd_pr_reasonAt_71 (by decide) ?_
  refine lv_icmp_ne (tgt := 88) hx hb dd_pr_reasonAt_73 (by decide) (fun h73 => ?_) (fun h73 => ?_)
  · replace hF := gw_ef h73 hF
    exact wb_pr_reasonAt_88 C0  M v2 v3 _ _ _  G (lv_sub hl [0, 1] rfl) hF
  · replace hF := gw_et h73 hF
    refine lv_iload_n hx hb dd_pr_reasonAt_76 rfl (lv_at hl 1 rfl) ?_
    refine lv_if_lt (tgt := 86) hx hb dd_pr_reasonAt_77 (by decide) (fun h77 => ?_) (fun h77 => ?_)
    · replace hF := gw_et h77 hF
      refine lv_iconst (v := (4 : Int32)) hx hb dd_pr_reasonAt_86 (by decide) ?_
      exact W.iret hx hb hr (fun t ht hW => gw_endi (EF := (fun M => (gw_E X M Y))) (M := M) G ht hF) G.2.2.2.2 dd_pr_reasonAt_87 hlocks
    · replace hF := gw_ef h77 hF
      refine lv_iload_n hx hb dd_pr_reasonAt_80 rfl (lv_at hl 1 rfl) ?_
      refine lv_bipush (v := (63 : Int32)) hx hb dd_pr_reasonAt_81 (by decide) ?_
      refine lv_icmp_le (tgt := 88) hx hb dd_pr_reasonAt_83 (by decide) (fun h83 => ?_) (fun h83 => ?_)
      · replace hF := gw_et h83 hF
        exact wb_pr_reasonAt_88 C0  M v2 v3 _ _ _  G (lv_sub hl [0, 1] rfl) hF
      · replace hF := gw_ef h83 hF
        refine lv_iconst (v := (4 : Int32)) hx hb dd_pr_reasonAt_86 (by decide) ?_
        exact W.iret hx hb hr (fun t ht hW => gw_endi (EF := (fun M => (gw_E X M Y))) (M := M) G ht hF) G.2.2.2.2 dd_pr_reasonAt_87 hlocks
set_option maxRecDepth 100000 in
set_option maxHeartbeats 4000000 in
theorem wb_pr_reasonAt_0 {p : Program} {l : Launch} {e : Env} {s : State} {m : MethodId} {args : Array Value} {below : List Frame} {meth : Method} {c : Code} {X : gw_X} {Y : gw_M} {z : (Int32 × gw_M)} (C0 : gw_C ((Cond.code yy_pr_reasonAt by_pr_reasonAt 4 (some .int)) :: gw_w) by_pr_reasonAt 4 (some .int) "AccountMachine$Program" X p s m args meth c) (M : gw_M) (a0 : Nat) (v1 : Int32) (H : Heap) (locs : List Loc) (ls : Array Slot) (ha0 : gc_k a0 = (5, 0)) (G : gw_G X (gw_E X M Y) s H locs) (hl : lv_has ls 4 [(0, .ref (gc_a X a0)), (1, .int v1)]) (hF : pr_reasonAt_b0  M a0 v1 = some z) : W p l e rm_pr_reasonAt s m args below meth c H locs 0 0 (MQ below (gw_Qi X (fun M => (gw_E X M Y)) z) args s 0 0 (gw_A X)) (F0 m 0 ls []) := by
  obtain ⟨hx, hb, hml, hown, hts, hr, hlocks, hK⟩ := id C0
  have hg : ∀ w ∈ gw_w, w.before args s = true := fun w h => hts w (List.mem_cons_of_mem _ h)
  unfold pr_reasonAt_b0 at hF
  refine lv_aload_n hx hb dd_pr_reasonAt_0 rfl (lv_at hl 0 rfl) ?_
  refine gf_pr_kinds hx hb hg hown (hg _ kw_81) hK G ha0 dd_pr_reasonAt_1 ?_
  refine lv_iload_n hx hb dd_pr_reasonAt_4 rfl (lv_at hl 1 rfl) ?_
  obtain ⟨h5, hF⟩ := gw_gd hF
  refine gc_iald hx hb hK G (gq_pr_kinds ha0) (gw_vp h5) (j := v1.toNatClampNeg) rfl dd_pr_reasonAt_5 ?_
  refine lv_topi (fun x6 e6 => ?_)
  replace hF := gw_ly e6 hF
  refine lv_istore_n (i := 2) (lv' := [(2, .int x6), (0, .ref (gc_a X a0)), (1, .int v1)]) hx hb dd_pr_reasonAt_6 rfl hl (by decide) rfl (fun ls hl => ?_)
  refine lv_aload_n hx hb dd_pr_reasonAt_7 rfl (lv_at hl 1 rfl) ?_
  refine gf_pr_numbers hx hb hg hown (hg _ kw_86) hK G ha0 dd_pr_reasonAt_8 ?_
  refine lv_iload_n hx hb dd_pr_reasonAt_11 rfl (lv_at hl 2 rfl) ?_
  obtain ⟨h12, hF⟩ := gw_gd hF
  refine gc_iald hx hb hK G (gq_pr_numbers ha0) (gw_vp h12) (j := v1.toNatClampNeg) rfl dd_pr_reasonAt_12 ?_
  refine W.eq (g2 := F0 m 13 _ _) rfl ?_
  refine lv_topi (fun x13 e13 => ?_)
  replace hF := gw_ly e13 hF
  refine lv_istore_n (i := 3) (lv' := [(3, .int x13), (2, .int x6), (0, .ref (gc_a X a0)), (1, .int v1)]) hx hb dd_pr_reasonAt_13 rfl hl (by decide) rfl (fun ls hl => ?_)
  refine lv_iload_n hx hb dd_pr_reasonAt_14 rfl (lv_at hl 1 rfl) ?_
  refine lv_if_lt (tgt := 48) hx hb dd_pr_reasonAt_15 (by decide) (fun h15 => ?_) (fun h15 => ?_)
  · replace hF := gw_et h15 hF
    refine lv_iconst (v := (2 : Int32)) hx hb dd_pr_reasonAt_48 (by decide) ?_
    exact W.iret hx hb hr (fun t ht hW => gw_endi (EF := (fun M => (gw_E X M Y))) (M := M) G ht hF) G.2.2.2.2 dd_pr_reasonAt_49 hlocks
  · replace hF := gw_ef h15 hF
    refine lv_iload_n hx hb dd_pr_reasonAt_18 rfl (lv_at hl 1 rfl) ?_
    refine lv_bipush (v := (15 : Int32)) hx hb dd_pr_reasonAt_19 (by decide) ?_
    refine lv_icmp_gt (tgt := 48) hx hb dd_pr_reasonAt_21 (by decide) (fun h21 => ?_) (fun h21 => ?_)
    · replace hF := gw_et h21 hF
      refine lv_iconst (v := (2 : Int32)) hx hb dd_pr_reasonAt_48 (by decide) ?_
      exact W.iret hx hb hr (fun t ht hW => gw_endi (EF := (fun M => (gw_E X M Y))) (M := M) G ht hF) G.2.2.2.2 dd_pr_reasonAt_49 hlocks
    · replace hF := gw_ef h21 hF
      refine lv_aload_n hx hb dd_pr_reasonAt_24 rfl (lv_at hl 2 rfl) ?_
      refine gf_pr_targets hx hb hg hown (hg _ kw_83) hK G ha0 dd_pr_reasonAt_25 ?_
      refine lv_iload_n hx hb dd_pr_reasonAt_28 rfl (lv_at hl 3 rfl) ?_
      obtain ⟨h29, hF⟩ := gw_gd hF
      refine gc_iald hx hb hK G (gq_pr_targets ha0) (gw_vp h29) (j := v1.toNatClampNeg) rfl dd_pr_reasonAt_29 ?_
      obtain ⟨r30, M30, hc30, hF⟩ := gw_be hF
      refine gw_ci G (va_runS (As := [.int (M.1 (a0 + 2) v1.toNatClampNeg)]) (rest := []) ⟨hx, hb, hml, hown, hts⟩ (ct_pr_isRegister l X Y M (M.1 (a0 + 2) v1.toNatClampNeg)  _ hc30) (cwS 1 hts (gw_gS kw_94 kw_95 kw_92 kw_93) rfl rfl rfl (by decide +kernel) ⟨Nat.le_of_ble_eq_true rfl, Nat.le_of_ble_eq_true rfl⟩) ⟨gw_blind, gw_pre hK G⟩ rfl rfl hl.1 rfl (Nat.le_of_ble_eq_true rfl) dd_pr_reasonAt_30 ⟨Nat.le_of_ble_eq_true rfl, Nat.le_of_ble_eq_true rfl⟩) (fun H locs G => ?_)
      refine lv_if_eq (tgt := 48) hx hb dd_pr_reasonAt_33 (by decide) (fun h33 => ?_) (fun h33 => ?_)
      · replace hF := gw_et h33 hF
        refine lv_iconst (v := (2 : Int32)) hx hb dd_pr_reasonAt_48 (by decide) ?_
        exact W.iret hx hb hr (fun t ht hW => gw_endi (EF := (fun M => (gw_E X M Y))) (M := M30) G ht hF) G.2.2.2.2 dd_pr_reasonAt_49 hlocks
      · replace hF := gw_ef h33 hF
        refine lv_aload_n hx hb dd_pr_reasonAt_36 rfl (lv_at hl 2 rfl) ?_
        refine gf_pr_sources hx hb hg hown (hg _ kw_84) hK G ha0 dd_pr_reasonAt_37 ?_
        refine lv_iload_n hx hb dd_pr_reasonAt_40 rfl (lv_at hl 3 rfl) ?_
        obtain ⟨h41, hF⟩ := gw_gd hF
        refine gc_iald hx hb hK G (gq_pr_sources ha0) (gw_vp h41) (j := v1.toNatClampNeg) rfl dd_pr_reasonAt_41 ?_
        obtain ⟨r42, M42, hc42, hF⟩ := gw_be hF
        refine gw_ci G (va_runS (As := [.int (M30.1 (a0 + 3) v1.toNatClampNeg)]) (rest := []) ⟨hx, hb, hml, hown, hts⟩ (ct_pr_isRegister l X Y M30 (M30.1 (a0 + 3) v1.toNatClampNeg)  _ hc42) (cwS 1 hts (gw_gS kw_94 kw_95 kw_92 kw_93) rfl rfl rfl (by decide +kernel) ⟨Nat.le_of_ble_eq_true rfl, Nat.le_of_ble_eq_true rfl⟩) ⟨gw_blind, gw_pre hK G⟩ rfl rfl hl.1 rfl (Nat.le_of_ble_eq_true rfl) dd_pr_reasonAt_42 ⟨Nat.le_of_ble_eq_true rfl, Nat.le_of_ble_eq_true rfl⟩) (fun H locs G => ?_)
        refine lv_if_ne (tgt := 50) hx hb dd_pr_reasonAt_45 (by decide) (fun h45 => ?_) (fun h45 => ?_)
        · replace hF := gw_ef h45 hF
          refine lv_aload_n hx hb dd_pr_reasonAt_50 rfl (lv_at hl 2 rfl) ?_
          refine lv_iload_n hx hb dd_pr_reasonAt_51 rfl (lv_at hl 3 rfl) ?_
          obtain ⟨r52, M52, hc52, hF⟩ := gw_be hF
          refine gw_ci G (va_runV (As := [.int v1]) (rest := []) ⟨hx, hb, hml, hown, hts⟩ (ct_pr_goesOnInside l X Y M42 a0 v1 ha0 _ hc52) (cwV 1 hts (gw_gV kw_97 kw_98 kw_99 kw_92 kw_96) rfl rfl rfl (by decide +kernel) ⟨Nat.le_of_ble_eq_true rfl, Nat.le_of_ble_eq_true rfl⟩) ⟨gw_blind, gw_recv_pr hK G ha0, gw_pre hK G⟩ rfl rfl hl.1 rfl (Nat.le_of_ble_eq_true rfl) dd_pr_reasonAt_52 ⟨Nat.le_of_ble_eq_true rfl, Nat.le_of_ble_eq_true rfl⟩) (fun H locs G => ?_)
          refine lv_if_ne (tgt := 60) hx hb dd_pr_reasonAt_55 (by decide) (fun h55 => ?_) (fun h55 => ?_)
          · replace hF := gw_ef h55 hF
            refine lv_iload_n hx hb dd_pr_reasonAt_60 rfl (lv_at hl 1 rfl) ?_
            refine lv_bipush (v := (6 : Int32)) hx hb dd_pr_reasonAt_61 (by decide) ?_
            refine lv_icmp_ne (tgt := 70) hx hb dd_pr_reasonAt_63 (by decide) (fun h63 => ?_) (fun h63 => ?_)
            · replace hF := gw_ef h63 hF
              exact wb_pr_reasonAt_70 C0  M52 x6 x13 _ _ _  G (lv_sub hl [1, 0] rfl) hF
            · replace hF := gw_et h63 hF
              refine lv_iload_n hx hb dd_pr_reasonAt_66 rfl (lv_at hl 0 rfl) ?_
              refine lv_if_eq (tgt := 86) hx hb dd_pr_reasonAt_67 (by decide) (fun h67 => ?_) (fun h67 => ?_)
              · replace hF := gw_et h67 hF
                refine lv_iconst (v := (4 : Int32)) hx hb dd_pr_reasonAt_86 (by decide) ?_
                exact W.iret hx hb hr (fun t ht hW => gw_endi (EF := (fun M => (gw_E X M Y))) (M := M52) G ht hF) G.2.2.2.2 dd_pr_reasonAt_87 hlocks
              · replace hF := gw_ef h67 hF
                exact wb_pr_reasonAt_70 C0  M52 x6 x13 _ _ _  G (lv_sub hl [1, 0] rfl) hF
          · replace hF := gw_et h55 hF
            refine lv_iconst (v := (3 : Int32)) hx hb dd_pr_reasonAt_58 (by decide) ?_
            exact W.iret hx hb hr (fun t ht hW => gw_endi (EF := (fun M => (gw_E X M Y))) (M := M52) G ht hF) G.2.2.2.2 dd_pr_reasonAt_59 hlocks
        · replace hF := gw_et h45 hF
          refine lv_iconst (v := (2 : Int32)) hx hb dd_pr_reasonAt_48 (by decide) ?_
          exact W.iret hx hb hr (fun t ht hW => gw_endi (EF := (fun M => (gw_E X M Y))) (M := M42) G ht hF) G.2.2.2.2 dd_pr_reasonAt_49 hlocks
set_option maxRecDepth 100000 in
set_option maxHeartbeats 4000000 in
theorem ct_pr_reasonAt (l : Launch) (X : gw_X) (Y : gw_M) (M : gw_M) (a0 : Nat) (v1 : Int32) (ha0 : gc_k a0 = (5, 0)) (z : (Int32 × gw_M)) (hF : pr_reasonAt_b0 M a0 v1 = some z) : Met l yy_pr_reasonAt ((Cond.code yy_pr_reasonAt by_pr_reasonAt 4 (some .int)) :: gw_w) rm_pr_reasonAt (va_Pc [.ref (gc_a X a0), .int v1] (gw_B X (gw_E X M Y))) (gw_Qi X (fun M => (gw_E X M Y)) z) 0 0 (gw_A X) := by
  refine Met.ofW (cc := by_pr_reasonAt) (maxL := 4) (ret := (some .int)) (by decide) rfl ?_
  intro p e s m args below meth c s₁ B hml hv
  obtain ⟨rfl, hB⟩ := hv
  rw [lg_entry_eq]
  have hl := lv_entry ([.ref (gc_a X a0), .int v1]) (n := 4) (Nat.le_of_ble_eq_true rfl)
  generalize (lg_sl ([.ref (gc_a X a0), .int v1]) ++ List.replicate (4 - (lg_sl ([.ref (gc_a X a0), .int v1])).length) Slot.unset).toArray = ls at hl ⊢
  have hl : lv_has ls 4 [(0, .ref (gc_a X a0)), (1, .int v1)] := hl
  exact wb_pr_reasonAt_0 (gw_ctx B hml rfl hB) M a0 v1 _ _ _ ha0 (gw_start hB) hl hF
/-! AccountMachine$Program.check()I -/
abbrev rm_pr_check : Room := { frames := 3, cells := 0, slots := 0, locals := 69 }
theorem dd_pr_check_0 : decode by_pr_check 0 = .ok (.aload_n 0, 1) := by decide +kernel
theorem dd_pr_check_1 : decode by_pr_check 1 = .ok (.getfield 27, 3) := by decide +kernel
theorem dd_pr_check_4 : decode by_pr_check 4 = .ok (.ifCond .ne 5, 3) := by decide +kernel
theorem dd_pr_check_7 : decode by_pr_check 7 = .ok (.iconst 1, 1) := by decide +kernel
theorem dd_pr_check_8 : decode by_pr_check 8 = .ok (.ireturn, 1) := by decide +kernel
theorem dd_pr_check_9 : decode by_pr_check 9 = .ok (.iconst 0, 1) := by decide +kernel
theorem dd_pr_check_10 : decode by_pr_check 10 = .ok (.istore_n 1, 1) := by decide +kernel
theorem dd_pr_check_11 : decode by_pr_check 11 = .ok (.iload_n 1, 1) := by decide +kernel
theorem dd_pr_check_12 : decode by_pr_check 12 = .ok (.aload_n 0, 1) := by decide +kernel
theorem dd_pr_check_13 : decode by_pr_check 13 = .ok (.getfield 27, 3) := by decide +kernel
theorem dd_pr_check_16 : decode by_pr_check 16 = .ok (.if_icmp .ge 26, 3) := by decide +kernel
theorem dd_pr_check_19 : decode by_pr_check 19 = .ok (.aload_n 0, 1) := by decide +kernel
theorem dd_pr_check_20 : decode by_pr_check 20 = .ok (.iload_n 1, 1) := by decide +kernel
theorem dd_pr_check_21 : decode by_pr_check 21 = .ok (.invokevirtual 35, 3) := by decide +kernel
theorem dd_pr_check_24 : decode by_pr_check 24 = .ok (.istore_n 2, 1) := by decide +kernel
theorem dd_pr_check_25 : decode by_pr_check 25 = .ok (.iload_n 2, 1) := by decide +kernel
theorem dd_pr_check_26 : decode by_pr_check 26 = .ok (.ifCond .eq 10, 3) := by decide +kernel
theorem dd_pr_check_29 : decode by_pr_check 29 = .ok (.bipush 100, 2) := by decide +kernel
theorem dd_pr_check_31 : decode by_pr_check 31 = .ok (.iload_n 1, 1) := by decide +kernel
theorem dd_pr_check_32 : decode by_pr_check 32 = .ok (.imul, 1) := by decide +kernel
theorem dd_pr_check_33 : decode by_pr_check 33 = .ok (.iload_n 2, 1) := by decide +kernel
theorem dd_pr_check_34 : decode by_pr_check 34 = .ok (.iadd, 1) := by decide +kernel
theorem dd_pr_check_35 : decode by_pr_check 35 = .ok (.ireturn, 1) := by decide +kernel
theorem dd_pr_check_36 : decode by_pr_check 36 = .ok (.iinc 1 1, 3) := by decide +kernel
theorem dd_pr_check_39 : decode by_pr_check 39 = .ok (.goto (-28), 3) := by decide +kernel
theorem dd_pr_check_42 : decode by_pr_check 42 = .ok (.aload_n 0, 1) := by decide +kernel
theorem dd_pr_check_43 : decode by_pr_check 43 = .ok (.iconst 1, 1) := by decide +kernel
theorem dd_pr_check_44 : decode by_pr_check 44 = .ok (.putfield 31, 3) := by decide +kernel
theorem dd_pr_check_47 : decode by_pr_check 47 = .ok (.iconst 0, 1) := by decide +kernel
theorem dd_pr_check_48 : decode by_pr_check 48 = .ok (.ireturn, 1) := by decide +kernel
def pr_check_b11 (K11 : gw_M → Nat → Int32 → Option (Int32 × gw_M)) (M : gw_M) (a0 : Nat) (v1 : Int32) : Option (Int32 × gw_M) :=
  if (M.1 a0 5) ≤ v1 then (gw_lt (gw_sI M a0 6 (1 : Int32)) (fun M44 => some ((0 : Int32), M44))) else (gw_bd (pr_reasonAt_b0 M a0 v1) (fun r21 M21 => if r21 = (0 : Int32) then (K11 M21 a0 (v1 + (1 : Int32))) else (some (((100 : Int32) * v1) + r21, M21))))
def pr_check_l11 : Nat → gw_M → Nat → Int32 → Option (Int32 × gw_M)
  | 0 => fun _ _ _ => none
  | n + 1 => pr_check_b11  (pr_check_l11  n)
def pr_check_b0 (M : gw_M) (a0 : Nat) : Option (Int32 × gw_M) :=
  if (M.1 a0 5) = (0 : Int32) then (some ((1 : Int32), M)) else (pr_check_l11  2100 M a0 (0 : Int32))
set_option maxRecDepth 100000 in
set_option maxHeartbeats 4000000 in
theorem wb_pr_check_11 {p : Program} {l : Launch} {e : Env} {s : State} {m : MethodId} {args : Array Value} {below : List Frame} {meth : Method} {c : Code} {X : gw_X} {Y : gw_M} {z : (Int32 × gw_M)} (C0 : gw_C ((Cond.code yy_pr_check by_pr_check 3 (some .int)) :: gw_w) by_pr_check 3 (some .int) "AccountMachine$Program" X p s m args meth c) {K11 : gw_M → Nat → Int32 → Option (Int32 × gw_M)} (hK11 : ∀ (M : gw_M) (a0 : Nat) (v1 : Int32) (H : Heap) (locs : List Loc) (ls : Array Slot), gc_k a0 = (5, 0) → gw_G X (gw_E X M Y) s H locs → lv_has ls 3 [(0, .ref (gc_a X a0)), (1, .int v1)] → K11 M a0 v1 = some z → W p l e rm_pr_check s m args below meth c H locs 0 0 (MQ below (gw_Qi X (fun M => (gw_E X M Y)) z) args s 0 0 (gw_A X)) (F0 m 11 ls [])) (M : gw_M) (a0 : Nat) (v1 : Int32) (H : Heap) (locs : List Loc) (ls : Array Slot) (ha0 : gc_k a0 = (5, 0)) (G : gw_G X (gw_E X M Y) s H locs) (hl : lv_has ls 3 [(0, .ref (gc_a X a0)), (1, .int v1)]) (hF : pr_check_b11 K11 M a0 v1 = some z) : W p l e rm_pr_check s m args below meth c H locs 0 0 (MQ below (gw_Qi X (fun M => (gw_E X M Y)) z) args s 0 0 (gw_A X)) (F0 m 11 ls []) := by
  obtain ⟨hx, hb, hml, hown, hts, hr, hlocks, hK⟩ := id C0
  have hg : ∀ w ∈ gw_w, w.before args s = true := fun w h => hts w (List.mem_cons_of_mem _ h)
  unfold pr_check_b11 at hF
  refine lv_iload_n hx hb dd_pr_check_11 rfl (lv_at hl 1 rfl) ?_
  refine lv_aload_n hx hb dd_pr_check_12 rfl (lv_at hl 0 rfl) ?_
  refine gf_pr_count hx hb hg hown (hg _ kw_82) hK G ha0 dd_pr_check_13 ?_
  refine lv_icmp_ge (tgt := 42) hx hb dd_pr_check_16 (by decide) (fun h16 => ?_) (fun h16 => ?_)
  · replace hF := gw_et h16 hF
    refine lv_aload_n hx hb dd_pr_check_42 rfl (lv_at hl 0 rfl) ?_
    refine lv_iconst (v := (1 : Int32)) hx hb dd_pr_check_43 (by decide) ?_
    refine gp_pr_sound hx hb hg hown (hg _ kw_87) hK G ha0 (by decide) (by decide) dd_pr_check_44 (fun M44 H locs e44 G => ?_)
    replace hF := gw_ly e44 hF
    refine lv_iconst (v := (0 : Int32)) hx hb dd_pr_check_47 (by decide) ?_
    exact W.iret hx hb hr (fun t ht hW => gw_endi (EF := (fun M => (gw_E X M Y))) (M := M44) G ht hF) G.2.2.2.2 dd_pr_check_48 hlocks
  · replace hF := gw_ef h16 hF
    refine lv_aload_n hx hb dd_pr_check_19 rfl (lv_at hl 0 rfl) ?_
    refine lv_iload_n hx hb dd_pr_check_20 rfl (lv_at hl 1 rfl) ?_
    obtain ⟨r21, M21, hc21, hF⟩ := gw_be hF
    refine gw_ci G (va_runV (As := [.int v1]) (rest := []) ⟨hx, hb, hml, hown, hts⟩ (ct_pr_reasonAt l X Y M a0 v1 ha0 _ hc21) (cwV 1 hts (gw_gV kw_101 kw_102 kw_103 kw_92 kw_100) rfl rfl rfl (by decide +kernel) ⟨Nat.le_of_ble_eq_true rfl, Nat.le_of_ble_eq_true rfl⟩) ⟨gw_blind, gw_recv_pr hK G ha0, gw_pre hK G⟩ rfl rfl hl.1 rfl (Nat.le_of_ble_eq_true rfl) dd_pr_check_21 ⟨Nat.le_of_ble_eq_true rfl, Nat.le_of_ble_eq_true rfl⟩) (fun H locs G => ?_)
    refine lv_istore_n (i := 2) (lv' := [(2, .int r21), (0, .ref (gc_a X a0)), (1, .int v1)]) hx hb dd_pr_check_24 rfl hl (by decide) rfl (fun ls hl => ?_)
    refine lv_iload_n hx hb dd_pr_check_25 rfl (lv_at hl 0 rfl) ?_
    refine lv_if_eq (tgt := 36) hx hb dd_pr_check_26 (by decide) (fun h26 => ?_) (fun h26 => ?_)
    · replace hF := gw_et h26 hF
      refine lv_iinc (k := 2) (v := v1 + (1 : Int32)) (lv' := [(1, .int (v1 + (1 : Int32))), (2, .int r21), (0, .ref (gc_a X a0))]) hx hb dd_pr_check_36 hl rfl rfl (by decide) rfl (fun ls hl => ?_)
      refine lv_goto (tgt := 11) hx hb dd_pr_check_39 (by decide) ?_
      exact hK11 M21 a0 (v1 + (1 : Int32)) _ _ _ ha0 G (lv_sub hl [2, 0] rfl) hF
    · replace hF := gw_ef h26 hF
      refine lv_bipush (v := (100 : Int32)) hx hb dd_pr_check_29 (by decide) ?_
      refine lv_iload_n hx hb dd_pr_check_31 rfl (lv_at hl 2 rfl) ?_
      refine lv_imul hx hb dd_pr_check_32 ?_
      refine lv_iload_n hx hb dd_pr_check_33 rfl (lv_at hl 0 rfl) ?_
      refine lv_iadd hx hb dd_pr_check_34 ?_
      exact W.iret hx hb hr (fun t ht hW => gw_endi (EF := (fun M => (gw_E X M Y))) (M := M21) G ht hF) G.2.2.2.2 dd_pr_check_35 hlocks
theorem wl_pr_check_11 {p : Program} {l : Launch} {e : Env} {s : State} {m : MethodId} {args : Array Value} {below : List Frame} {meth : Method} {c : Code} {X : gw_X} {Y : gw_M} {z : (Int32 × gw_M)} (C0 : gw_C ((Cond.code yy_pr_check by_pr_check 3 (some .int)) :: gw_w) by_pr_check 3 (some .int) "AccountMachine$Program" X p s m args meth c) : ∀ n : Nat, ∀ (M : gw_M) (a0 : Nat) (v1 : Int32) (H : Heap) (locs : List Loc) (ls : Array Slot), gc_k a0 = (5, 0) → gw_G X (gw_E X M Y) s H locs → lv_has ls 3 [(0, .ref (gc_a X a0)), (1, .int v1)] → pr_check_l11  n M a0 v1 = some z → W p l e rm_pr_check s m args below meth c H locs 0 0 (MQ below (gw_Qi X (fun M => (gw_E X M Y)) z) args s 0 0 (gw_A X)) (F0 m 11 ls []) := by
  intro n
  induction n with
  | zero =>
    intro M a0 v1 H locs ls ha0 G hl hF
    have hF : (none : Option (Int32 × gw_M)) = some z := hF
    cases hF
  | succ n ih =>
    intro M a0 v1 H locs ls ha0 G hl hF
    exact wb_pr_check_11 C0  ih M a0 v1 H locs ls ha0 G hl hF
set_option maxRecDepth 100000 in
set_option maxHeartbeats 4000000 in
theorem wb_pr_check_0 {p : Program} {l : Launch} {e : Env} {s : State} {m : MethodId} {args : Array Value} {below : List Frame} {meth : Method} {c : Code} {X : gw_X} {Y : gw_M} {z : (Int32 × gw_M)} (C0 : gw_C ((Cond.code yy_pr_check by_pr_check 3 (some .int)) :: gw_w) by_pr_check 3 (some .int) "AccountMachine$Program" X p s m args meth c) (M : gw_M) (a0 : Nat) (H : Heap) (locs : List Loc) (ls : Array Slot) (ha0 : gc_k a0 = (5, 0)) (G : gw_G X (gw_E X M Y) s H locs) (hl : lv_has ls 3 [(0, .ref (gc_a X a0))]) (hF : pr_check_b0  M a0 = some z) : W p l e rm_pr_check s m args below meth c H locs 0 0 (MQ below (gw_Qi X (fun M => (gw_E X M Y)) z) args s 0 0 (gw_A X)) (F0 m 0 ls []) := by
  obtain ⟨hx, hb, hml, hown, hts, hr, hlocks, hK⟩ := id C0
  have hg : ∀ w ∈ gw_w, w.before args s = true := fun w h => hts w (List.mem_cons_of_mem _ h)
  unfold pr_check_b0 at hF
  refine lv_aload_n hx hb dd_pr_check_0 rfl (lv_at hl 0 rfl) ?_
  refine gf_pr_count hx hb hg hown (hg _ kw_82) hK G ha0 dd_pr_check_1 ?_
  refine lv_if_ne (tgt := 9) hx hb dd_pr_check_4 (by decide) (fun h4 => ?_) (fun h4 => ?_)
  · replace hF := gw_ef h4 hF
    refine lv_iconst (v := (0 : Int32)) hx hb dd_pr_check_9 (by decide) ?_
    refine lv_istore_n (i := 1) (lv' := [(1, .int (0 : Int32)), (0, .ref (gc_a X a0))]) hx hb dd_pr_check_10 rfl hl (by decide) rfl (fun ls hl => ?_)
    exact wl_pr_check_11 C0  2100 M a0 (0 : Int32) _ _ _ ha0 G (lv_sub hl [1, 0] rfl) hF
  · replace hF := gw_et h4 hF
    refine lv_iconst (v := (1 : Int32)) hx hb dd_pr_check_7 (by decide) ?_
    exact W.iret hx hb hr (fun t ht hW => gw_endi (EF := (fun M => (gw_E X M Y))) (M := M) G ht hF) G.2.2.2.2 dd_pr_check_8 hlocks
set_option maxRecDepth 100000 in
set_option maxHeartbeats 4000000 in
theorem ct_pr_check (l : Launch) (X : gw_X) (Y : gw_M) (M : gw_M) (a0 : Nat) (ha0 : gc_k a0 = (5, 0)) (z : (Int32 × gw_M)) (hF : pr_check_b0 M a0 = some z) : Met l yy_pr_check ((Cond.code yy_pr_check by_pr_check 3 (some .int)) :: gw_w) rm_pr_check (va_Pc [.ref (gc_a X a0)] (gw_B X (gw_E X M Y))) (gw_Qi X (fun M => (gw_E X M Y)) z) 0 0 (gw_A X) := by
  refine Met.ofW (cc := by_pr_check) (maxL := 3) (ret := (some .int)) (by decide) rfl ?_
  intro p e s m args below meth c s₁ B hml hv
  obtain ⟨rfl, hB⟩ := hv
  rw [lg_entry_eq]
  have hl := lv_entry ([.ref (gc_a X a0)]) (n := 3) (Nat.le_of_ble_eq_true rfl)
  generalize (lg_sl ([.ref (gc_a X a0)]) ++ List.replicate (3 - (lg_sl ([.ref (gc_a X a0)])).length) Slot.unset).toArray = ls at hl ⊢
  have hl : lv_has ls 3 [(0, .ref (gc_a X a0))] := hl
  exact wb_pr_check_0 (gw_ctx B hml rfl hB) M a0 _ _ _ ha0 (gw_start hB) hl hF
end
