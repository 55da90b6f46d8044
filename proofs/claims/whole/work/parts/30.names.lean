def yy_pr_init : MethodName := ⟨"AccountMachine$Program", "<init>", "()V"⟩
abbrev by_pr_init : ByteArray := prog_5_method_1_code
def yy_le_init : MethodName := ⟨"AccountMachine$Ledger", "<init>", "()V"⟩
abbrev by_le_init : ByteArray := prog_3_method_1_code
def yy_od_init : MethodName := ⟨"AccountMachine$Order", "<init>", "()V"⟩
abbrev by_od_init : ByteArray := prog_4_method_1_code
def yy_fr_init : MethodName := ⟨"AccountMachine$Frame", "<init>", "()V"⟩
abbrev by_fr_init : ByteArray := prog_2_method_1_code
def yy_am_init : MethodName := ⟨"AccountMachine", "<init>", "()V"⟩
abbrev by_am_init : ByteArray := prog_1_method_1_code
def yy_mo_init : MethodName := ⟨"AccountMachineModel", "<init>", "()V"⟩
abbrev by_mo_init : ByteArray := prog_7_method_1_code
def yy_ar_fillI : MethodName := ⟨"java/util/Arrays", "fill", "([II)V"⟩
abbrev by_ar_fillI : ByteArray := prog_9_method_103_code
theorem kw_466 : Cond.methodLink "AccountMachine$Program" 3 objectInit ∈ gw_w := gw_mem (i := 58) (by decide +kernel) (by decide)
theorem kw_467 : Cond.instanceMethod objectInit ∈ gw_w := gw_mem (i := 15) (by decide +kernel) (by decide)
theorem kw_468 : Cond.code objectInit ⟨#[0xb1]⟩ 1 none ∈ gw_w := gw_mem (i := 16) (by decide +kernel) (by decide)
theorem kw_469 : Cond.arrayClass .int ∈ gw_w := gw_mem (i := 49) (by decide +kernel) (by decide)
theorem kw_470 : Cond.methodLink "AccountMachine$Ledger" 3 objectInit ∈ gw_w := gw_mem (i := 24) (by decide +kernel) (by decide)
theorem kw_471 : Cond.methodLink "AccountMachine$Ledger" 24 yy_ar_fillI ∈ gw_w := gw_mem (i := 25) (by decide +kernel) (by decide)
theorem kw_472 : Cond.static yy_ar_fillI ∈ gw_w := gw_mem (i := 26) (by decide +kernel) (by decide)
theorem kw_473 : Cond.code yy_ar_fillI by_ar_fillI 4 none ∈ gw_w := gw_mem (i := 27) (by decide +kernel) (by decide)
theorem kw_474 : Cond.methodLink "AccountMachine$Order" 3 objectInit ∈ gw_w := gw_mem (i := 95) (by decide +kernel) (by decide)
theorem kw_475 : Cond.methodLink "AccountMachine$Frame" 3 objectInit ∈ gw_w := gw_mem (i := 125) (by decide +kernel) (by decide)
theorem kw_476 : Cond.classLink "AccountMachine$Frame" 9 "AccountMachine$Order" ∈ gw_w := gw_mem (i := 126) (by decide +kernel) (by decide)
theorem kw_477 : Cond.instantiable "AccountMachine$Order" 5 ∈ gw_w := gw_mem (i := 91) (by decide +kernel) (by decide)
theorem kw_478 : Cond.code yy_od_init by_od_init 1 none ∈ gw_w := gw_mem (i := 94) (by decide +kernel) (by decide)
theorem kw_479 : Cond.instanceMethod yy_od_init ∈ gw_w := gw_mem (i := 93) (by decide +kernel) (by decide)
theorem kw_480 : Cond.arrayClass .long ∈ gw_w := gw_mem (i := 90) (by decide +kernel) (by decide)
theorem kw_481 : Cond.methodLink "AccountMachine" 1 objectInit ∈ gw_w := gw_mem (i := 14) (by decide +kernel) (by decide)
theorem kw_482 : Cond.classLink "AccountMachine" 9 "AccountMachine$Program" ∈ gw_w := gw_mem (i := 17) (by decide +kernel) (by decide)
theorem kw_483 : Cond.classLink "AccountMachine" 15 "AccountMachine$Ledger" ∈ gw_w := gw_mem (i := 19) (by decide +kernel) (by decide)
theorem kw_484 : Cond.instantiable "AccountMachine$Ledger" 4 ∈ gw_w := gw_mem (i := 20) (by decide +kernel) (by decide)
theorem kw_485 : Cond.code yy_le_init by_le_init 1 none ∈ gw_w := gw_mem (i := 23) (by decide +kernel) (by decide)
theorem kw_486 : Cond.instanceMethod yy_le_init ∈ gw_w := gw_mem (i := 22) (by decide +kernel) (by decide)
theorem kw_487 : Cond.classLink "AccountMachine" 25 "AccountMachine$Order" ∈ gw_w := gw_mem (i := 50) (by decide +kernel) (by decide)
theorem kw_488 : Cond.classLink "AccountMachine" 35 "AccountMachine$Frame" ∈ gw_w := gw_mem (i := 52) (by decide +kernel) (by decide)
theorem kw_489 : Cond.instantiable "AccountMachine$Program" 7 ∈ gw_w := gw_mem (i := 54) (by decide +kernel) (by decide)
theorem kw_490 : Cond.code yy_pr_init by_pr_init 1 none ∈ gw_w := gw_mem (i := 57) (by decide +kernel) (by decide)
theorem kw_491 : Cond.instanceMethod yy_pr_init ∈ gw_w := gw_mem (i := 56) (by decide +kernel) (by decide)
theorem kw_492 : Cond.instantiable "AccountMachine$Frame" 6 ∈ gw_w := gw_mem (i := 121) (by decide +kernel) (by decide)
theorem kw_493 : Cond.code yy_fr_init by_fr_init 1 none ∈ gw_w := gw_mem (i := 124) (by decide +kernel) (by decide)
theorem kw_494 : Cond.instanceMethod yy_fr_init ∈ gw_w := gw_mem (i := 123) (by decide +kernel) (by decide)
theorem kw_495 : Cond.methodLink "AccountMachineModel" 1 objectInit ∈ gw_w := gw_mem (i := 467) (by decide +kernel) (by decide)
theorem kw_496 : Cond.arrayClass .boolean ∈ gw_w := gw_mem (i := 553) (by decide +kernel) (by decide)
theorem kn_49 : Cond.methodLinkNest "AccountMachine$Frame" 11 yy_od_init "AccountMachine" ∈ gw_nest := gw_memN (i := 127) (by decide +kernel) (by decide)
theorem kn_50 : Cond.methodLinkNest "AccountMachine" 17 yy_le_init "AccountMachine" ∈ gw_nest := gw_memN (i := 21) (by decide +kernel) (by decide)
theorem kn_51 : Cond.methodLinkNest "AccountMachine" 58 yy_pr_init "AccountMachine" ∈ gw_nest := gw_memN (i := 55) (by decide +kernel) (by decide)
theorem kn_52 : Cond.methodLinkNest "AccountMachine" 59 yy_od_init "AccountMachine" ∈ gw_nest := gw_memN (i := 92) (by decide +kernel) (by decide)
theorem kn_53 : Cond.methodLinkNest "AccountMachine" 60 yy_fr_init "AccountMachine" ∈ gw_nest := gw_memN (i := 122) (by decide +kernel) (by decide)
