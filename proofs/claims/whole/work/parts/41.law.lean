/-! THE CLAIM OUT OF ONE WALK OF THE LAW'S BODY. Your part is whole_start (and what it stands on); all else here is the same for every law, but numbers. -/
def R_law : String := "AccountMachineLaw"
def lw_P (b : Addr) (xs : List Int32) (args : Array Value) (s : State) : Prop := args = #[.ref b] ∧ s.IntsAt b xs ∧ xs.length ≤ 3584 ∧ (Jvm.Cond.and given_1 narrow_1).before args s = true
def lw_Q (_ : Array Value) (s : State) (o : Outcome) (t : State) : Prop := o = .returned (some (.int 1)) ∧ Framed s o t [] 600000 7302250
def lw_Z (below : List Frame) (a : Array Value) (s : State) : State → Prop := fun t => ∃ o, t.status = .running ∧ Ended t below o ∧ lw_Q a s o t
/-- the law's own end, with 1 on the stack, nothing written that was there before, its room as the claim has it -/
theorem lw_ret {p : Program} {l : Launch} {e : Env} {s : State} {m : MethodId} {below : List Frame} {meth : Method} {c : Code} {b : Nat} (hx : p.tables.exec = Jvm.exec) (hb : c.code = code) (hr : meth.sig.returnType = ret) (hlocks : meth.locks = false) {pc : Nat} {H : Heap} {ls : Array Slot} (hdg : decode code pc = .ok (.ireturn, 1)) : W p l e room_1 s m #[Value.ref b] below meth c H [] 600000 7302250 (lw_Z below #[Value.ref b] s) (F0 m pc ls [.int 1]) := by
  intro T hT X
  obtain ⟨fs, hret, hrun, hended, hW, hframe⟩ := X.leave (v := some (.int 1)) (hlocks := hlocks) (fun h => by rw [hr] at h; cases h)
  have hmeth' : T.vm.method? m = some meth := X.method'
  refine ⟨T.setFrames fs, ?_, .returned (some (.int 1)), hrun, hended, rfl, ⟨_, rfl⟩, hW, hframe⟩
  jvm_step X.here [X.here.top, hx, hb, hdg, hmeth', hr, ret, narrow_b1]
  (try refine ⟨rfl, ?_⟩); (try refine ⟨rfl, ?_⟩)
  first | (intro acts; rw [hret _ acts rfl rfl rfl]) | rw [hret _ _ rfl rfl rfl]
  exact Steps.refl _
/-- what holds at the law's entry: the machine, the code, the tables' words (any of lw_tbl by 'hts w (by decide +kernel)'), the script of L ints xs at the cell b, what the Statement gives of the start (any of its parts by flat_of_before) -/
def lw_At (p : Program) (s : State) (m : MethodId) (meth : Method) (c : Code) (b L : Nat) (xs : Nat → Int32) : Prop :=
  p.tables.exec = Jvm.exec ∧ c.code = code ∧ meth.sig.returnType = ret ∧ c.maxLocals = 4 ∧ s.vm.findClass R_law = some m.cls ∧ (∀ w ∈ lw_tbl, w.before #[Value.ref b] s = true) ∧ va_X b L xs s s.heap ∧ b < s.heap.size ∧ meth.locks = false ∧ (Jvm.Cond.and given_1 narrow_1).before #[Value.ref b] s = true
theorem kw_497 : Cond.methodLink "AccountMachineLaw" 13 yy_am_code ∈ gw_w := gw_mem (i := 184) (by decide +kernel) (by decide)
theorem kw_498 : Cond.instanceMethod yy_am_code ∈ gw_w := gw_mem (i := 185) (by decide +kernel) (by decide)
theorem kw_499 : Cond.selects "AccountMachine" yy_am_code yy_am_code ∈ gw_w := gw_mem (i := 186) (by decide +kernel) (by decide)
theorem kw_500 : Cond.code yy_am_code by_am_code 7 (some .int) ∈ gw_w := gw_mem (i := 187) (by decide +kernel) (by decide)
theorem kw_501 : Cond.methodLink "AccountMachineLaw" 17 yy_mo_code ∈ gw_w := gw_mem (i := 554) (by decide +kernel) (by decide)
theorem kw_502 : Cond.instanceMethod yy_mo_code ∈ gw_w := gw_mem (i := 555) (by decide +kernel) (by decide)
theorem kw_503 : Cond.selects "AccountMachineModel" yy_mo_code yy_mo_code ∈ gw_w := gw_mem (i := 556) (by decide +kernel) (by decide)
theorem kw_504 : Cond.code yy_mo_code by_mo_code 8 (some .int) ∈ gw_w := gw_mem (i := 557) (by decide +kernel) (by decide)
theorem kw_505 : Cond.methodLink "AccountMachineLaw" 18 yy_am_wipe ∈ gw_w := gw_mem (i := 195) (by decide +kernel) (by decide)
theorem kw_506 : Cond.instanceMethod yy_am_wipe ∈ gw_w := gw_mem (i := 196) (by decide +kernel) (by decide)
theorem kw_507 : Cond.selects "AccountMachine" yy_am_wipe yy_am_wipe ∈ gw_w := gw_mem (i := 197) (by decide +kernel) (by decide)
theorem kw_508 : Cond.code yy_am_wipe by_am_wipe 2 (some .int) ∈ gw_w := gw_mem (i := 198) (by decide +kernel) (by decide)
theorem kw_509 : Cond.methodLink "AccountMachineLaw" 22 yy_mo_wipe ∈ gw_w := gw_mem (i := 562) (by decide +kernel) (by decide)
theorem kw_510 : Cond.instanceMethod yy_mo_wipe ∈ gw_w := gw_mem (i := 563) (by decide +kernel) (by decide)
theorem kw_511 : Cond.selects "AccountMachineModel" yy_mo_wipe yy_mo_wipe ∈ gw_w := gw_mem (i := 564) (by decide +kernel) (by decide)
theorem kw_512 : Cond.code yy_mo_wipe by_mo_wipe 3 (some .int) ∈ gw_w := gw_mem (i := 565) (by decide +kernel) (by decide)
theorem kw_513 : Cond.methodLink "AccountMachineLaw" 23 yy_am_load ∈ gw_w := gw_mem (i := 203) (by decide +kernel) (by decide)
theorem kw_514 : Cond.instanceMethod yy_am_load ∈ gw_w := gw_mem (i := 204) (by decide +kernel) (by decide)
theorem kw_515 : Cond.selects "AccountMachine" yy_am_load yy_am_load ∈ gw_w := gw_mem (i := 205) (by decide +kernel) (by decide)
theorem kw_516 : Cond.code yy_am_load by_am_load 2 (some .int) ∈ gw_w := gw_mem (i := 206) (by decide +kernel) (by decide)
theorem kw_517 : Cond.methodLink "AccountMachineLaw" 26 yy_mo_load ∈ gw_w := gw_mem (i := 566) (by decide +kernel) (by decide)
theorem kw_518 : Cond.instanceMethod yy_mo_load ∈ gw_w := gw_mem (i := 567) (by decide +kernel) (by decide)
theorem kw_519 : Cond.selects "AccountMachineModel" yy_mo_load yy_mo_load ∈ gw_w := gw_mem (i := 568) (by decide +kernel) (by decide)
theorem kw_520 : Cond.code yy_mo_load by_mo_load 5 (some .int) ∈ gw_w := gw_mem (i := 569) (by decide +kernel) (by decide)
theorem kw_521 : Cond.methodLink "AccountMachineLaw" 27 yy_am_order ∈ gw_w := gw_mem (i := 228) (by decide +kernel) (by decide)
theorem kw_522 : Cond.instanceMethod yy_am_order ∈ gw_w := gw_mem (i := 229) (by decide +kernel) (by decide)
theorem kw_523 : Cond.selects "AccountMachine" yy_am_order yy_am_order ∈ gw_w := gw_mem (i := 230) (by decide +kernel) (by decide)
theorem kw_524 : Cond.code yy_am_order by_am_order 3 (some .int) ∈ gw_w := gw_mem (i := 231) (by decide +kernel) (by decide)
theorem kw_525 : Cond.methodLink "AccountMachineLaw" 31 yy_mo_order ∈ gw_w := gw_mem (i := 579) (by decide +kernel) (by decide)
theorem kw_526 : Cond.instanceMethod yy_mo_order ∈ gw_w := gw_mem (i := 580) (by decide +kernel) (by decide)
theorem kw_527 : Cond.selects "AccountMachineModel" yy_mo_order yy_mo_order ∈ gw_w := gw_mem (i := 581) (by decide +kernel) (by decide)
theorem kw_528 : Cond.code yy_mo_order by_mo_order 3 (some .int) ∈ gw_w := gw_mem (i := 582) (by decide +kernel) (by decide)
theorem kw_529 : Cond.methodLink "AccountMachineLaw" 32 yy_am_slot ∈ gw_w := gw_mem (i := 236) (by decide +kernel) (by decide)
theorem kw_530 : Cond.instanceMethod yy_am_slot ∈ gw_w := gw_mem (i := 237) (by decide +kernel) (by decide)
theorem kw_531 : Cond.selects "AccountMachine" yy_am_slot yy_am_slot ∈ gw_w := gw_mem (i := 238) (by decide +kernel) (by decide)
theorem kw_532 : Cond.code yy_am_slot by_am_slot 3 (some .boolean) ∈ gw_w := gw_mem (i := 239) (by decide +kernel) (by decide)
theorem kw_533 : Cond.methodLink "AccountMachineLaw" 36 yy_mo_slot ∈ gw_w := gw_mem (i := 583) (by decide +kernel) (by decide)
theorem kw_534 : Cond.instanceMethod yy_mo_slot ∈ gw_w := gw_mem (i := 584) (by decide +kernel) (by decide)
theorem kw_535 : Cond.selects "AccountMachineModel" yy_mo_slot yy_mo_slot ∈ gw_w := gw_mem (i := 585) (by decide +kernel) (by decide)
theorem kw_536 : Cond.code yy_mo_slot by_mo_slot 3 (some .boolean) ∈ gw_w := gw_mem (i := 586) (by decide +kernel) (by decide)
theorem kw_537 : Cond.methodLink "AccountMachineLaw" 37 yy_am_run ∈ gw_w := gw_mem (i := 247) (by decide +kernel) (by decide)
theorem kw_538 : Cond.instanceMethod yy_am_run ∈ gw_w := gw_mem (i := 248) (by decide +kernel) (by decide)
theorem kw_539 : Cond.selects "AccountMachine" yy_am_run yy_am_run ∈ gw_w := gw_mem (i := 249) (by decide +kernel) (by decide)
theorem kw_540 : Cond.code yy_am_run by_am_run 4 (some .int) ∈ gw_w := gw_mem (i := 250) (by decide +kernel) (by decide)
theorem kw_541 : Cond.methodLink "AccountMachineLaw" 40 yy_mo_run ∈ gw_w := gw_mem (i := 592) (by decide +kernel) (by decide)
theorem kw_542 : Cond.instanceMethod yy_mo_run ∈ gw_w := gw_mem (i := 593) (by decide +kernel) (by decide)
theorem kw_543 : Cond.selects "AccountMachineModel" yy_mo_run yy_mo_run ∈ gw_w := gw_mem (i := 594) (by decide +kernel) (by decide)
theorem kw_544 : Cond.code yy_mo_run by_mo_run 5 (some .int) ∈ gw_w := gw_mem (i := 595) (by decide +kernel) (by decide)
theorem kw_545 : Cond.methodLink "AccountMachineLaw" 41 yy_am_units ∈ gw_w := gw_mem (i := 438) (by decide +kernel) (by decide)
theorem kw_546 : Cond.instanceMethod yy_am_units ∈ gw_w := gw_mem (i := 439) (by decide +kernel) (by decide)
theorem kw_547 : Cond.selects "AccountMachine" yy_am_units yy_am_units ∈ gw_w := gw_mem (i := 440) (by decide +kernel) (by decide)
theorem kw_548 : Cond.code yy_am_units by_am_units 1 (some .int) ∈ gw_w := gw_mem (i := 441) (by decide +kernel) (by decide)
theorem kw_549 : Cond.methodLink "AccountMachineLaw" 45 yy_mo_units ∈ gw_w := gw_mem (i := 705) (by decide +kernel) (by decide)
theorem kw_550 : Cond.instanceMethod yy_mo_units ∈ gw_w := gw_mem (i := 706) (by decide +kernel) (by decide)
theorem kw_551 : Cond.selects "AccountMachineModel" yy_mo_units yy_mo_units ∈ gw_w := gw_mem (i := 707) (by decide +kernel) (by decide)
theorem kw_552 : Cond.code yy_mo_units by_mo_units 1 (some .int) ∈ gw_w := gw_mem (i := 708) (by decide +kernel) (by decide)
theorem kw_553 : Cond.methodLink "AccountMachineLaw" 46 yy_am_result ∈ gw_w := gw_mem (i := 442) (by decide +kernel) (by decide)
theorem kw_554 : Cond.instanceMethod yy_am_result ∈ gw_w := gw_mem (i := 443) (by decide +kernel) (by decide)
theorem kw_555 : Cond.selects "AccountMachine" yy_am_result yy_am_result ∈ gw_w := gw_mem (i := 444) (by decide +kernel) (by decide)
theorem kw_556 : Cond.code yy_am_result by_am_result 1 (some .long) ∈ gw_w := gw_mem (i := 445) (by decide +kernel) (by decide)
theorem kw_557 : Cond.methodLink "AccountMachineLaw" 50 yy_mo_result ∈ gw_w := gw_mem (i := 709) (by decide +kernel) (by decide)
theorem kw_558 : Cond.instanceMethod yy_mo_result ∈ gw_w := gw_mem (i := 710) (by decide +kernel) (by decide)
theorem kw_559 : Cond.selects "AccountMachineModel" yy_mo_result yy_mo_result ∈ gw_w := gw_mem (i := 711) (by decide +kernel) (by decide)
theorem kw_560 : Cond.code yy_mo_result by_mo_result 1 (some .long) ∈ gw_w := gw_mem (i := 712) (by decide +kernel) (by decide)
theorem kw_561 : Cond.methodLink "AccountMachineLaw" 51 yy_am_log ∈ gw_w := gw_mem (i := 446) (by decide +kernel) (by decide)
theorem kw_562 : Cond.instanceMethod yy_am_log ∈ gw_w := gw_mem (i := 447) (by decide +kernel) (by decide)
theorem kw_563 : Cond.selects "AccountMachine" yy_am_log yy_am_log ∈ gw_w := gw_mem (i := 448) (by decide +kernel) (by decide)
theorem kw_564 : Cond.code yy_am_log by_am_log 2 (some .long) ∈ gw_w := gw_mem (i := 449) (by decide +kernel) (by decide)
theorem kw_565 : Cond.methodLink "AccountMachineLaw" 55 yy_mo_log ∈ gw_w := gw_mem (i := 713) (by decide +kernel) (by decide)
theorem kw_566 : Cond.instanceMethod yy_mo_log ∈ gw_w := gw_mem (i := 714) (by decide +kernel) (by decide)
theorem kw_567 : Cond.selects "AccountMachineModel" yy_mo_log yy_mo_log ∈ gw_w := gw_mem (i := 715) (by decide +kernel) (by decide)
theorem kw_568 : Cond.code yy_mo_log by_mo_log 2 (some .long) ∈ gw_w := gw_mem (i := 716) (by decide +kernel) (by decide)
theorem kw_569 : Cond.methodLink "AccountMachineLaw" 56 yy_am_logged ∈ gw_w := gw_mem (i := 450) (by decide +kernel) (by decide)
theorem kw_570 : Cond.instanceMethod yy_am_logged ∈ gw_w := gw_mem (i := 451) (by decide +kernel) (by decide)
theorem kw_571 : Cond.selects "AccountMachine" yy_am_logged yy_am_logged ∈ gw_w := gw_mem (i := 452) (by decide +kernel) (by decide)
theorem kw_572 : Cond.code yy_am_logged by_am_logged 1 (some .int) ∈ gw_w := gw_mem (i := 453) (by decide +kernel) (by decide)
theorem kw_573 : Cond.methodLink "AccountMachineLaw" 59 yy_mo_logged ∈ gw_w := gw_mem (i := 717) (by decide +kernel) (by decide)
theorem kw_574 : Cond.instanceMethod yy_mo_logged ∈ gw_w := gw_mem (i := 718) (by decide +kernel) (by decide)
theorem kw_575 : Cond.selects "AccountMachineModel" yy_mo_logged yy_mo_logged ∈ gw_w := gw_mem (i := 719) (by decide +kernel) (by decide)
theorem kw_576 : Cond.code yy_mo_logged by_mo_logged 1 (some .int) ∈ gw_w := gw_mem (i := 720) (by decide +kernel) (by decide)
theorem kw_577 : Cond.methodLink "AccountMachineLaw" 60 yy_am_account ∈ gw_w := gw_mem (i := 454) (by decide +kernel) (by decide)
theorem kw_578 : Cond.instanceMethod yy_am_account ∈ gw_w := gw_mem (i := 455) (by decide +kernel) (by decide)
theorem kw_579 : Cond.selects "AccountMachine" yy_am_account yy_am_account ∈ gw_w := gw_mem (i := 456) (by decide +kernel) (by decide)
theorem kw_580 : Cond.code yy_am_account by_am_account 3 (some .int) ∈ gw_w := gw_mem (i := 457) (by decide +kernel) (by decide)
theorem kw_581 : Cond.methodLink "AccountMachineLaw" 63 yy_mo_account ∈ gw_w := gw_mem (i := 721) (by decide +kernel) (by decide)
theorem kw_582 : Cond.instanceMethod yy_mo_account ∈ gw_w := gw_mem (i := 722) (by decide +kernel) (by decide)
theorem kw_583 : Cond.selects "AccountMachineModel" yy_mo_account yy_mo_account ∈ gw_w := gw_mem (i := 723) (by decide +kernel) (by decide)
theorem kw_584 : Cond.code yy_mo_account by_mo_account 3 (some .int) ∈ gw_w := gw_mem (i := 724) (by decide +kernel) (by decide)
theorem kw_585 : Cond.methodLink "AccountMachineLaw" 64 yy_am_data ∈ gw_w := gw_mem (i := 458) (by decide +kernel) (by decide)
theorem kw_586 : Cond.instanceMethod yy_am_data ∈ gw_w := gw_mem (i := 459) (by decide +kernel) (by decide)
theorem kw_587 : Cond.selects "AccountMachine" yy_am_data yy_am_data ∈ gw_w := gw_mem (i := 460) (by decide +kernel) (by decide)
theorem kw_588 : Cond.code yy_am_data by_am_data 3 (some .int) ∈ gw_w := gw_mem (i := 461) (by decide +kernel) (by decide)
theorem kw_589 : Cond.methodLink "AccountMachineLaw" 67 yy_mo_data ∈ gw_w := gw_mem (i := 725) (by decide +kernel) (by decide)
theorem kw_590 : Cond.instanceMethod yy_mo_data ∈ gw_w := gw_mem (i := 726) (by decide +kernel) (by decide)
theorem kw_591 : Cond.selects "AccountMachineModel" yy_mo_data yy_mo_data ∈ gw_w := gw_mem (i := 727) (by decide +kernel) (by decide)
theorem kw_592 : Cond.code yy_mo_data by_mo_data 3 (some .int) ∈ gw_w := gw_mem (i := 728) (by decide +kernel) (by decide)
theorem gw_gL {ws : List Cond} (h : ∀ w ∈ ws, w ∈ gw_w) : GoodIn lw_tbl ws := fun w hw => ⟨(List.mem_filter.mp (h w hw)).1, gw_good w (h w hw)⟩
theorem gw_gVL {w0 : Cond} {own Cn : String} {idx : Nat} {y : MethodName} (h1 : Cond.methodLink own idx y ∈ gw_w) (h2 : Cond.instanceMethod y ∈ gw_w) (h3 : Cond.selects Cn y y ∈ gw_w) (h4 : Cond.initialized Cn ∈ gw_w) (h5 : w0 ∈ gw_w) : GoodIn lw_tbl (wsV own idx Cn y (w0 :: gw_w)) := gw_gL (fun w hw => by
  simp only [wsV, List.mem_append, List.mem_cons, List.not_mem_nil, or_false] at hw
  rcases hw with (h | h | h | h) | h | h
  · rw [h]; exact h1
  · rw [h]; exact h2
  · rw [h]; exact h3
  · rw [h]; exact h4
  · rw [h]; exact h5
  · exact h)
theorem gw_gNL {w0 : Cond} (h : w0 ∈ gw_w) : GoodIn lw_tbl (w0 :: gw_w) := gw_gL (fun w hw => by
  rcases List.mem_cons.mp hw with h1 | h1
  · rw [h1]; exact h
  · exact h1)
theorem lw_cmp {L j : Nat} (hL : L < 2 ^ 30) (hj : j < 2 ^ 30) : (nI L - nI 7 < nI j) ↔ L < j + 7 := by
  rw [Int32.lt_iff_toInt_lt, pk_sub_toInt hL (by decide), nI_toInt (by omega)]
  omega
theorem lw_lcmp (r : Int64) : lg_cmp r r = 0 := by
  simp [lg_cmp, Int64.lt_irrefl]
theorem dd_law_0 : decode code 0 = .ok (.new 7, 3) := by decide +kernel
theorem dd_law_3 : decode code 3 = .ok (.dup, 1) := by decide +kernel
theorem dd_law_4 : decode code 4 = .ok (.invokespecial 9, 3) := by decide +kernel
theorem dd_law_7 : decode code 7 = .ok (.astore_n 1, 1) := by decide +kernel
theorem dd_law_8 : decode code 8 = .ok (.new 10, 3) := by decide +kernel
theorem dd_law_11 : decode code 11 = .ok (.dup, 1) := by decide +kernel
theorem dd_law_12 : decode code 12 = .ok (.invokespecial 12, 3) := by decide +kernel
theorem dd_law_15 : decode code 15 = .ok (.astore_n 2, 1) := by decide +kernel
theorem dd_law_16 : decode code 16 = .ok (.iconst 0, 1) := by decide +kernel
theorem dd_law_17 : decode code 17 = .ok (.istore_n 3, 1) := by decide +kernel
theorem dd_law_18 : decode code 18 = .ok (.iload_n 3, 1) := by decide +kernel
theorem dd_law_19 : decode code 19 = .ok (.aload_n 0, 1) := by decide +kernel
theorem dd_law_20 : decode code 20 = .ok (.arraylength, 1) := by decide +kernel
theorem dd_law_21 : decode code 21 = .ok (.bipush 7, 2) := by decide +kernel
theorem dd_law_23 : decode code 23 = .ok (.isub, 1) := by decide +kernel
theorem dd_law_24 : decode code 24 = .ok (.if_icmp .gt 418, 3) := by decide +kernel
theorem dd_law_27 : decode code 27 = .ok (.aload_n 0, 1) := by decide +kernel
theorem dd_law_28 : decode code 28 = .ok (.iload_n 3, 1) := by decide +kernel
theorem dd_law_29 : decode code 29 = .ok (.iaload, 1) := by decide +kernel
theorem dd_law_30 : decode code 30 = .ok (.bipush 15, 2) := by decide +kernel
theorem dd_law_32 : decode code 32 = .ok (.iand, 1) := by decide +kernel
theorem dd_law_33 : decode code 33 = .ok (.tableswitch 403 0 11 #[63, 138, 161, 184, 217, 250, 273, 286, 300, 324, 337, 370], 63) := by decide +kernel
theorem dd_law_96 : decode code 96 = .ok (.aload_n 1, 1) := by decide +kernel
theorem dd_law_97 : decode code 97 = .ok (.aload_n 0, 1) := by decide +kernel
theorem dd_law_98 : decode code 98 = .ok (.iload_n 3, 1) := by decide +kernel
theorem dd_law_99 : decode code 99 = .ok (.iconst 1, 1) := by decide +kernel
theorem dd_law_100 : decode code 100 = .ok (.iadd, 1) := by decide +kernel
theorem dd_law_101 : decode code 101 = .ok (.iaload, 1) := by decide +kernel
theorem dd_law_102 : decode code 102 = .ok (.aload_n 0, 1) := by decide +kernel
theorem dd_law_103 : decode code 103 = .ok (.iload_n 3, 1) := by decide +kernel
theorem dd_law_104 : decode code 104 = .ok (.iconst 2, 1) := by decide +kernel
theorem dd_law_105 : decode code 105 = .ok (.iadd, 1) := by decide +kernel
theorem dd_law_106 : decode code 106 = .ok (.iaload, 1) := by decide +kernel
theorem dd_law_107 : decode code 107 = .ok (.aload_n 0, 1) := by decide +kernel
theorem dd_law_108 : decode code 108 = .ok (.iload_n 3, 1) := by decide +kernel
theorem dd_law_109 : decode code 109 = .ok (.iconst 3, 1) := by decide +kernel
theorem dd_law_110 : decode code 110 = .ok (.iadd, 1) := by decide +kernel
theorem dd_law_111 : decode code 111 = .ok (.iaload, 1) := by decide +kernel
theorem dd_law_112 : decode code 112 = .ok (.aload_n 0, 1) := by decide +kernel
theorem dd_law_113 : decode code 113 = .ok (.iload_n 3, 1) := by decide +kernel
theorem dd_law_114 : decode code 114 = .ok (.iconst 4, 1) := by decide +kernel
theorem dd_law_115 : decode code 115 = .ok (.iadd, 1) := by decide +kernel
theorem dd_law_116 : decode code 116 = .ok (.iaload, 1) := by decide +kernel
theorem dd_law_117 : decode code 117 = .ok (.aload_n 0, 1) := by decide +kernel
theorem dd_law_118 : decode code 118 = .ok (.iload_n 3, 1) := by decide +kernel
theorem dd_law_119 : decode code 119 = .ok (.iconst 5, 1) := by decide +kernel
theorem dd_law_120 : decode code 120 = .ok (.iadd, 1) := by decide +kernel
theorem dd_law_121 : decode code 121 = .ok (.iaload, 1) := by decide +kernel
theorem dd_law_122 : decode code 122 = .ok (.aload_n 0, 1) := by decide +kernel
theorem dd_law_123 : decode code 123 = .ok (.iload_n 3, 1) := by decide +kernel
theorem dd_law_124 : decode code 124 = .ok (.bipush 6, 2) := by decide +kernel
theorem dd_law_126 : decode code 126 = .ok (.iadd, 1) := by decide +kernel
theorem dd_law_127 : decode code 127 = .ok (.iaload, 1) := by decide +kernel
theorem dd_law_128 : decode code 128 = .ok (.invokevirtual 13, 3) := by decide +kernel
theorem dd_law_131 : decode code 131 = .ok (.aload_n 2, 1) := by decide +kernel
theorem dd_law_132 : decode code 132 = .ok (.aload_n 0, 1) := by decide +kernel
theorem dd_law_133 : decode code 133 = .ok (.iload_n 3, 1) := by decide +kernel
theorem dd_law_134 : decode code 134 = .ok (.iconst 1, 1) := by decide +kernel
theorem dd_law_135 : decode code 135 = .ok (.iadd, 1) := by decide +kernel
theorem dd_law_136 : decode code 136 = .ok (.iaload, 1) := by decide +kernel
theorem dd_law_137 : decode code 137 = .ok (.aload_n 0, 1) := by decide +kernel
theorem dd_law_138 : decode code 138 = .ok (.iload_n 3, 1) := by decide +kernel
theorem dd_law_139 : decode code 139 = .ok (.iconst 2, 1) := by decide +kernel
theorem dd_law_140 : decode code 140 = .ok (.iadd, 1) := by decide +kernel
theorem dd_law_141 : decode code 141 = .ok (.iaload, 1) := by decide +kernel
theorem dd_law_142 : decode code 142 = .ok (.aload_n 0, 1) := by decide +kernel
theorem dd_law_143 : decode code 143 = .ok (.iload_n 3, 1) := by decide +kernel
theorem dd_law_144 : decode code 144 = .ok (.iconst 3, 1) := by decide +kernel
theorem dd_law_145 : decode code 145 = .ok (.iadd, 1) := by decide +kernel
theorem dd_law_146 : decode code 146 = .ok (.iaload, 1) := by decide +kernel
theorem dd_law_147 : decode code 147 = .ok (.aload_n 0, 1) := by decide +kernel
theorem dd_law_148 : decode code 148 = .ok (.iload_n 3, 1) := by decide +kernel
theorem dd_law_149 : decode code 149 = .ok (.iconst 4, 1) := by decide +kernel
theorem dd_law_150 : decode code 150 = .ok (.iadd, 1) := by decide +kernel
theorem dd_law_151 : decode code 151 = .ok (.iaload, 1) := by decide +kernel
theorem dd_law_152 : decode code 152 = .ok (.aload_n 0, 1) := by decide +kernel
theorem dd_law_153 : decode code 153 = .ok (.iload_n 3, 1) := by decide +kernel
theorem dd_law_154 : decode code 154 = .ok (.iconst 5, 1) := by decide +kernel
theorem dd_law_155 : decode code 155 = .ok (.iadd, 1) := by decide +kernel
theorem dd_law_156 : decode code 156 = .ok (.iaload, 1) := by decide +kernel
theorem dd_law_157 : decode code 157 = .ok (.aload_n 0, 1) := by decide +kernel
theorem dd_law_158 : decode code 158 = .ok (.iload_n 3, 1) := by decide +kernel
theorem dd_law_159 : decode code 159 = .ok (.bipush 6, 2) := by decide +kernel
theorem dd_law_161 : decode code 161 = .ok (.iadd, 1) := by decide +kernel
theorem dd_law_162 : decode code 162 = .ok (.iaload, 1) := by decide +kernel
theorem dd_law_163 : decode code 163 = .ok (.invokevirtual 17, 3) := by decide +kernel
theorem dd_law_166 : decode code 166 = .ok (.if_icmp .eq 270, 3) := by decide +kernel
theorem dd_law_169 : decode code 169 = .ok (.iconst 0, 1) := by decide +kernel
theorem dd_law_170 : decode code 170 = .ok (.ireturn, 1) := by decide +kernel
theorem dd_law_171 : decode code 171 = .ok (.aload_n 1, 1) := by decide +kernel
theorem dd_law_172 : decode code 172 = .ok (.aload_n 0, 1) := by decide +kernel
theorem dd_law_173 : decode code 173 = .ok (.iload_n 3, 1) := by decide +kernel
theorem dd_law_174 : decode code 174 = .ok (.iconst 1, 1) := by decide +kernel
theorem dd_law_175 : decode code 175 = .ok (.iadd, 1) := by decide +kernel
theorem dd_law_176 : decode code 176 = .ok (.iaload, 1) := by decide +kernel
theorem dd_law_177 : decode code 177 = .ok (.invokevirtual 18, 3) := by decide +kernel
theorem dd_law_180 : decode code 180 = .ok (.aload_n 2, 1) := by decide +kernel
theorem dd_law_181 : decode code 181 = .ok (.aload_n 0, 1) := by decide +kernel
theorem dd_law_182 : decode code 182 = .ok (.iload_n 3, 1) := by decide +kernel
theorem dd_law_183 : decode code 183 = .ok (.iconst 1, 1) := by decide +kernel
theorem dd_law_184 : decode code 184 = .ok (.iadd, 1) := by decide +kernel
theorem dd_law_185 : decode code 185 = .ok (.iaload, 1) := by decide +kernel
theorem dd_law_186 : decode code 186 = .ok (.invokevirtual 22, 3) := by decide +kernel
theorem dd_law_189 : decode code 189 = .ok (.if_icmp .eq 247, 3) := by decide +kernel
theorem dd_law_192 : decode code 192 = .ok (.iconst 0, 1) := by decide +kernel
theorem dd_law_193 : decode code 193 = .ok (.ireturn, 1) := by decide +kernel
theorem dd_law_194 : decode code 194 = .ok (.aload_n 1, 1) := by decide +kernel
theorem dd_law_195 : decode code 195 = .ok (.aload_n 0, 1) := by decide +kernel
theorem dd_law_196 : decode code 196 = .ok (.iload_n 3, 1) := by decide +kernel
theorem dd_law_197 : decode code 197 = .ok (.iconst 1, 1) := by decide +kernel
theorem dd_law_198 : decode code 198 = .ok (.iadd, 1) := by decide +kernel
theorem dd_law_199 : decode code 199 = .ok (.iaload, 1) := by decide +kernel
theorem dd_law_200 : decode code 200 = .ok (.invokevirtual 23, 3) := by decide +kernel
theorem dd_law_203 : decode code 203 = .ok (.aload_n 2, 1) := by decide +kernel
theorem dd_law_204 : decode code 204 = .ok (.aload_n 0, 1) := by decide +kernel
theorem dd_law_205 : decode code 205 = .ok (.iload_n 3, 1) := by decide +kernel
theorem dd_law_206 : decode code 206 = .ok (.iconst 1, 1) := by decide +kernel
theorem dd_law_207 : decode code 207 = .ok (.iadd, 1) := by decide +kernel
theorem dd_law_208 : decode code 208 = .ok (.iaload, 1) := by decide +kernel
theorem dd_law_209 : decode code 209 = .ok (.invokevirtual 26, 3) := by decide +kernel
theorem dd_law_212 : decode code 212 = .ok (.if_icmp .eq 224, 3) := by decide +kernel
theorem dd_law_215 : decode code 215 = .ok (.iconst 0, 1) := by decide +kernel
theorem dd_law_216 : decode code 216 = .ok (.ireturn, 1) := by decide +kernel
theorem dd_law_217 : decode code 217 = .ok (.aload_n 1, 1) := by decide +kernel
theorem dd_law_218 : decode code 218 = .ok (.aload_n 0, 1) := by decide +kernel
theorem dd_law_219 : decode code 219 = .ok (.iload_n 3, 1) := by decide +kernel
theorem dd_law_220 : decode code 220 = .ok (.iconst 1, 1) := by decide +kernel
theorem dd_law_221 : decode code 221 = .ok (.iadd, 1) := by decide +kernel
theorem dd_law_222 : decode code 222 = .ok (.iaload, 1) := by decide +kernel
theorem dd_law_223 : decode code 223 = .ok (.aload_n 0, 1) := by decide +kernel
theorem dd_law_224 : decode code 224 = .ok (.iload_n 3, 1) := by decide +kernel
theorem dd_law_225 : decode code 225 = .ok (.iconst 2, 1) := by decide +kernel
theorem dd_law_226 : decode code 226 = .ok (.iadd, 1) := by decide +kernel
theorem dd_law_227 : decode code 227 = .ok (.iaload, 1) := by decide +kernel
theorem dd_law_228 : decode code 228 = .ok (.invokevirtual 27, 3) := by decide +kernel
theorem dd_law_231 : decode code 231 = .ok (.aload_n 2, 1) := by decide +kernel
theorem dd_law_232 : decode code 232 = .ok (.aload_n 0, 1) := by decide +kernel
theorem dd_law_233 : decode code 233 = .ok (.iload_n 3, 1) := by decide +kernel
theorem dd_law_234 : decode code 234 = .ok (.iconst 1, 1) := by decide +kernel
theorem dd_law_235 : decode code 235 = .ok (.iadd, 1) := by decide +kernel
theorem dd_law_236 : decode code 236 = .ok (.iaload, 1) := by decide +kernel
theorem dd_law_237 : decode code 237 = .ok (.aload_n 0, 1) := by decide +kernel
theorem dd_law_238 : decode code 238 = .ok (.iload_n 3, 1) := by decide +kernel
theorem dd_law_239 : decode code 239 = .ok (.iconst 2, 1) := by decide +kernel
theorem dd_law_240 : decode code 240 = .ok (.iadd, 1) := by decide +kernel
theorem dd_law_241 : decode code 241 = .ok (.iaload, 1) := by decide +kernel
theorem dd_law_242 : decode code 242 = .ok (.invokevirtual 31, 3) := by decide +kernel
theorem dd_law_245 : decode code 245 = .ok (.if_icmp .eq 191, 3) := by decide +kernel
theorem dd_law_248 : decode code 248 = .ok (.iconst 0, 1) := by decide +kernel
theorem dd_law_249 : decode code 249 = .ok (.ireturn, 1) := by decide +kernel
theorem dd_law_250 : decode code 250 = .ok (.aload_n 1, 1) := by decide +kernel
theorem dd_law_251 : decode code 251 = .ok (.aload_n 0, 1) := by decide +kernel
theorem dd_law_252 : decode code 252 = .ok (.iload_n 3, 1) := by decide +kernel
theorem dd_law_253 : decode code 253 = .ok (.iconst 1, 1) := by decide +kernel
theorem dd_law_254 : decode code 254 = .ok (.iadd, 1) := by decide +kernel
theorem dd_law_255 : decode code 255 = .ok (.iaload, 1) := by decide +kernel
theorem dd_law_256 : decode code 256 = .ok (.aload_n 0, 1) := by decide +kernel
theorem dd_law_257 : decode code 257 = .ok (.iload_n 3, 1) := by decide +kernel
theorem dd_law_258 : decode code 258 = .ok (.iconst 2, 1) := by decide +kernel
theorem dd_law_259 : decode code 259 = .ok (.iadd, 1) := by decide +kernel
theorem dd_law_260 : decode code 260 = .ok (.iaload, 1) := by decide +kernel
theorem dd_law_261 : decode code 261 = .ok (.invokevirtual 32, 3) := by decide +kernel
theorem dd_law_264 : decode code 264 = .ok (.aload_n 2, 1) := by decide +kernel
theorem dd_law_265 : decode code 265 = .ok (.aload_n 0, 1) := by decide +kernel
theorem dd_law_266 : decode code 266 = .ok (.iload_n 3, 1) := by decide +kernel
theorem dd_law_267 : decode code 267 = .ok (.iconst 1, 1) := by decide +kernel
theorem dd_law_268 : decode code 268 = .ok (.iadd, 1) := by decide +kernel
theorem dd_law_269 : decode code 269 = .ok (.iaload, 1) := by decide +kernel
theorem dd_law_270 : decode code 270 = .ok (.aload_n 0, 1) := by decide +kernel
theorem dd_law_271 : decode code 271 = .ok (.iload_n 3, 1) := by decide +kernel
theorem dd_law_272 : decode code 272 = .ok (.iconst 2, 1) := by decide +kernel
theorem dd_law_273 : decode code 273 = .ok (.iadd, 1) := by decide +kernel
theorem dd_law_274 : decode code 274 = .ok (.iaload, 1) := by decide +kernel
theorem dd_law_275 : decode code 275 = .ok (.invokevirtual 36, 3) := by decide +kernel
theorem dd_law_278 : decode code 278 = .ok (.if_icmp .eq 158, 3) := by decide +kernel
theorem dd_law_281 : decode code 281 = .ok (.iconst 0, 1) := by decide +kernel
theorem dd_law_282 : decode code 282 = .ok (.ireturn, 1) := by decide +kernel
theorem dd_law_283 : decode code 283 = .ok (.aload_n 1, 1) := by decide +kernel
theorem dd_law_284 : decode code 284 = .ok (.aload_n 0, 1) := by decide +kernel
theorem dd_law_285 : decode code 285 = .ok (.iload_n 3, 1) := by decide +kernel
theorem dd_law_286 : decode code 286 = .ok (.iconst 1, 1) := by decide +kernel
theorem dd_law_287 : decode code 287 = .ok (.iadd, 1) := by decide +kernel
theorem dd_law_288 : decode code 288 = .ok (.iaload, 1) := by decide +kernel
theorem dd_law_289 : decode code 289 = .ok (.invokevirtual 37, 3) := by decide +kernel
theorem dd_law_292 : decode code 292 = .ok (.aload_n 2, 1) := by decide +kernel
theorem dd_law_293 : decode code 293 = .ok (.aload_n 0, 1) := by decide +kernel
theorem dd_law_294 : decode code 294 = .ok (.iload_n 3, 1) := by decide +kernel
theorem dd_law_295 : decode code 295 = .ok (.iconst 1, 1) := by decide +kernel
theorem dd_law_296 : decode code 296 = .ok (.iadd, 1) := by decide +kernel
theorem dd_law_297 : decode code 297 = .ok (.iaload, 1) := by decide +kernel
theorem dd_law_298 : decode code 298 = .ok (.invokevirtual 40, 3) := by decide +kernel
theorem dd_law_301 : decode code 301 = .ok (.if_icmp .eq 135, 3) := by decide +kernel
theorem dd_law_304 : decode code 304 = .ok (.iconst 0, 1) := by decide +kernel
theorem dd_law_305 : decode code 305 = .ok (.ireturn, 1) := by decide +kernel
theorem dd_law_306 : decode code 306 = .ok (.aload_n 1, 1) := by decide +kernel
theorem dd_law_307 : decode code 307 = .ok (.invokevirtual 41, 3) := by decide +kernel
theorem dd_law_310 : decode code 310 = .ok (.aload_n 2, 1) := by decide +kernel
theorem dd_law_311 : decode code 311 = .ok (.invokevirtual 45, 3) := by decide +kernel
theorem dd_law_314 : decode code 314 = .ok (.if_icmp .eq 122, 3) := by decide +kernel
theorem dd_law_317 : decode code 317 = .ok (.iconst 0, 1) := by decide +kernel
theorem dd_law_318 : decode code 318 = .ok (.ireturn, 1) := by decide +kernel
theorem dd_law_319 : decode code 319 = .ok (.aload_n 1, 1) := by decide +kernel
theorem dd_law_320 : decode code 320 = .ok (.invokevirtual 46, 3) := by decide +kernel
theorem dd_law_323 : decode code 323 = .ok (.aload_n 2, 1) := by decide +kernel
theorem dd_law_324 : decode code 324 = .ok (.invokevirtual 50, 3) := by decide +kernel
theorem dd_law_327 : decode code 327 = .ok (.lcmp, 1) := by decide +kernel
theorem dd_law_328 : decode code 328 = .ok (.ifCond .eq 108, 3) := by decide +kernel
theorem dd_law_331 : decode code 331 = .ok (.iconst 0, 1) := by decide +kernel
theorem dd_law_332 : decode code 332 = .ok (.ireturn, 1) := by decide +kernel
theorem dd_law_333 : decode code 333 = .ok (.aload_n 1, 1) := by decide +kernel
theorem dd_law_334 : decode code 334 = .ok (.aload_n 0, 1) := by decide +kernel
theorem dd_law_335 : decode code 335 = .ok (.iload_n 3, 1) := by decide +kernel
theorem dd_law_336 : decode code 336 = .ok (.iconst 1, 1) := by decide +kernel
theorem dd_law_337 : decode code 337 = .ok (.iadd, 1) := by decide +kernel
theorem dd_law_338 : decode code 338 = .ok (.iaload, 1) := by decide +kernel
theorem dd_law_339 : decode code 339 = .ok (.invokevirtual 51, 3) := by decide +kernel
theorem dd_law_342 : decode code 342 = .ok (.aload_n 2, 1) := by decide +kernel
theorem dd_law_343 : decode code 343 = .ok (.aload_n 0, 1) := by decide +kernel
theorem dd_law_344 : decode code 344 = .ok (.iload_n 3, 1) := by decide +kernel
theorem dd_law_345 : decode code 345 = .ok (.iconst 1, 1) := by decide +kernel
theorem dd_law_346 : decode code 346 = .ok (.iadd, 1) := by decide +kernel
theorem dd_law_347 : decode code 347 = .ok (.iaload, 1) := by decide +kernel
theorem dd_law_348 : decode code 348 = .ok (.invokevirtual 55, 3) := by decide +kernel
theorem dd_law_351 : decode code 351 = .ok (.lcmp, 1) := by decide +kernel
theorem dd_law_352 : decode code 352 = .ok (.ifCond .eq 84, 3) := by decide +kernel
theorem dd_law_355 : decode code 355 = .ok (.iconst 0, 1) := by decide +kernel
theorem dd_law_356 : decode code 356 = .ok (.ireturn, 1) := by decide +kernel
theorem dd_law_357 : decode code 357 = .ok (.aload_n 1, 1) := by decide +kernel
theorem dd_law_358 : decode code 358 = .ok (.invokevirtual 56, 3) := by decide +kernel
theorem dd_law_361 : decode code 361 = .ok (.aload_n 2, 1) := by decide +kernel
theorem dd_law_362 : decode code 362 = .ok (.invokevirtual 59, 3) := by decide +kernel
theorem dd_law_365 : decode code 365 = .ok (.if_icmp .eq 71, 3) := by decide +kernel
theorem dd_law_368 : decode code 368 = .ok (.iconst 0, 1) := by decide +kernel
theorem dd_law_369 : decode code 369 = .ok (.ireturn, 1) := by decide +kernel
theorem dd_law_370 : decode code 370 = .ok (.aload_n 1, 1) := by decide +kernel
theorem dd_law_371 : decode code 371 = .ok (.aload_n 0, 1) := by decide +kernel
theorem dd_law_372 : decode code 372 = .ok (.iload_n 3, 1) := by decide +kernel
theorem dd_law_373 : decode code 373 = .ok (.iconst 1, 1) := by decide +kernel
theorem dd_law_374 : decode code 374 = .ok (.iadd, 1) := by decide +kernel
theorem dd_law_375 : decode code 375 = .ok (.iaload, 1) := by decide +kernel
theorem dd_law_376 : decode code 376 = .ok (.aload_n 0, 1) := by decide +kernel
theorem dd_law_377 : decode code 377 = .ok (.iload_n 3, 1) := by decide +kernel
theorem dd_law_378 : decode code 378 = .ok (.iconst 2, 1) := by decide +kernel
theorem dd_law_379 : decode code 379 = .ok (.iadd, 1) := by decide +kernel
theorem dd_law_380 : decode code 380 = .ok (.iaload, 1) := by decide +kernel
theorem dd_law_381 : decode code 381 = .ok (.invokevirtual 60, 3) := by decide +kernel
theorem dd_law_384 : decode code 384 = .ok (.aload_n 2, 1) := by decide +kernel
theorem dd_law_385 : decode code 385 = .ok (.aload_n 0, 1) := by decide +kernel
theorem dd_law_386 : decode code 386 = .ok (.iload_n 3, 1) := by decide +kernel
theorem dd_law_387 : decode code 387 = .ok (.iconst 1, 1) := by decide +kernel
theorem dd_law_388 : decode code 388 = .ok (.iadd, 1) := by decide +kernel
theorem dd_law_389 : decode code 389 = .ok (.iaload, 1) := by decide +kernel
theorem dd_law_390 : decode code 390 = .ok (.aload_n 0, 1) := by decide +kernel
theorem dd_law_391 : decode code 391 = .ok (.iload_n 3, 1) := by decide +kernel
theorem dd_law_392 : decode code 392 = .ok (.iconst 2, 1) := by decide +kernel
theorem dd_law_393 : decode code 393 = .ok (.iadd, 1) := by decide +kernel
theorem dd_law_394 : decode code 394 = .ok (.iaload, 1) := by decide +kernel
theorem dd_law_395 : decode code 395 = .ok (.invokevirtual 63, 3) := by decide +kernel
theorem dd_law_398 : decode code 398 = .ok (.if_icmp .eq 38, 3) := by decide +kernel
theorem dd_law_401 : decode code 401 = .ok (.iconst 0, 1) := by decide +kernel
theorem dd_law_402 : decode code 402 = .ok (.ireturn, 1) := by decide +kernel
theorem dd_law_403 : decode code 403 = .ok (.aload_n 1, 1) := by decide +kernel
theorem dd_law_404 : decode code 404 = .ok (.aload_n 0, 1) := by decide +kernel
theorem dd_law_405 : decode code 405 = .ok (.iload_n 3, 1) := by decide +kernel
theorem dd_law_406 : decode code 406 = .ok (.iconst 1, 1) := by decide +kernel
theorem dd_law_407 : decode code 407 = .ok (.iadd, 1) := by decide +kernel
theorem dd_law_408 : decode code 408 = .ok (.iaload, 1) := by decide +kernel
theorem dd_law_409 : decode code 409 = .ok (.aload_n 0, 1) := by decide +kernel
theorem dd_law_410 : decode code 410 = .ok (.iload_n 3, 1) := by decide +kernel
theorem dd_law_411 : decode code 411 = .ok (.iconst 2, 1) := by decide +kernel
theorem dd_law_412 : decode code 412 = .ok (.iadd, 1) := by decide +kernel
theorem dd_law_413 : decode code 413 = .ok (.iaload, 1) := by decide +kernel
theorem dd_law_414 : decode code 414 = .ok (.invokevirtual 64, 3) := by decide +kernel
theorem dd_law_417 : decode code 417 = .ok (.aload_n 2, 1) := by decide +kernel
theorem dd_law_418 : decode code 418 = .ok (.aload_n 0, 1) := by decide +kernel
theorem dd_law_419 : decode code 419 = .ok (.iload_n 3, 1) := by decide +kernel
theorem dd_law_420 : decode code 420 = .ok (.iconst 1, 1) := by decide +kernel
theorem dd_law_421 : decode code 421 = .ok (.iadd, 1) := by decide +kernel
theorem dd_law_422 : decode code 422 = .ok (.iaload, 1) := by decide +kernel
theorem dd_law_423 : decode code 423 = .ok (.aload_n 0, 1) := by decide +kernel
theorem dd_law_424 : decode code 424 = .ok (.iload_n 3, 1) := by decide +kernel
theorem dd_law_425 : decode code 425 = .ok (.iconst 2, 1) := by decide +kernel
theorem dd_law_426 : decode code 426 = .ok (.iadd, 1) := by decide +kernel
theorem dd_law_427 : decode code 427 = .ok (.iaload, 1) := by decide +kernel
theorem dd_law_428 : decode code 428 = .ok (.invokevirtual 67, 3) := by decide +kernel
theorem dd_law_431 : decode code 431 = .ok (.if_icmp .eq 5, 3) := by decide +kernel
theorem dd_law_434 : decode code 434 = .ok (.iconst 0, 1) := by decide +kernel
theorem dd_law_435 : decode code 435 = .ok (.ireturn, 1) := by decide +kernel
theorem dd_law_436 : decode code 436 = .ok (.iinc 3 7, 3) := by decide +kernel
theorem dd_law_439 : decode code 439 = .ok (.goto (-421), 3) := by decide +kernel
theorem dd_law_442 : decode code 442 = .ok (.iconst 1, 1) := by decide +kernel
theorem dd_law_443 : decode code 443 = .ok (.ireturn, 1) := by decide +kernel
theorem lw_sld {p : Program} {l : Launch} {e : Env} {s : State} {m : MethodId} {below : List Frame} {meth : Method} {c : Code} {b L : Nat} {xs : Nat → Int32} {X : gw_X} {E : Nat → va_E} {R0 : Room} {Q : State → Prop} {H : Heap} {locs : List Loc} {cells slots pc : Nat} {ls : Array Slot} {rest : List Value} {args : Array Value} (hx : p.tables.exec = Jvm.exec) (hb : c.code = code) (hXs : va_X b L xs s s.heap) (hbl : b < s.heap.size) (hbA : ¬ gw_A X b) (G : gw_G X E s H locs) {j : Nat} (hj : j < L) (hL : L < 2 ^ 31) (hdg : decode code pc = .ok (.iaload, 1)) (kk : W p l e R0 s m args below meth c H locs cells slots Q (F0 m (pc + 1) ls (.int (xs j) :: rest))) : W p l e R0 s m args below meth c H locs cells slots Q (F0 m pc ls (.int (nI j) :: .ref b :: rest)) := by
  refine va_sld hx hb hXs hbl hbA G.2.2 (vp_in_nI hj hL) hdg ?_
  rw [nI_clamp (by omega)]
  exact kk
set_option maxRecDepth 100000 in
set_option maxHeartbeats 8000000 in
theorem lw_loop {p : Program} {l : Launch} {e : Env} {s : State} {m : MethodId} {below : List Frame} {meth : Method} {c : Code} {b L : Nat} {xs : Nat → Int32} {X : gw_X} {Rel : gw_M → gw_M → Prop} (ops : lw_ops Rel) (hL : L ≤ 3584) (C0 : lw_At p s m meth c b L xs) (hK : gw_K X s) (hX : ∀ k, s.heap.size ≤ X.2.1 k) : ∀ (d j : Nat) (C R : gw_M) (H : Heap) (locs : List Loc) (ls : Array Slot), L ≤ j + 7 * d + 6 → j ≤ L → Rel C R → gw_G X (gw_E X C R) s H locs → lv_has ls 4 [(0, .ref b), (1, .ref (gc_a X 0)), (2, .ref (gr_a X 0)), (3, .int (nI j))] → W p l e room_1 s m #[Value.ref b] below meth c H locs 100 2350 (lw_Z below #[Value.ref b] s) (F0 m 18 ls []) := by
  obtain ⟨hx, hb, hr, hml, hown, hts, hXs, hbl, hlocks, -⟩ := C0
  have hg : ∀ w ∈ gw_w, w.before #[Value.ref b] s = true := fun w h => hts w (List.mem_filter.mp h).1
  have hbA : ¬ gw_A X b := fun ⟨k, _, h⟩ => by
    have := hX k
    omega
  intro d
  induction d with
  | zero =>
    intro j C R H locs ls hd hj hR G hl
    refine lv_iload_n hx hb dd_law_18 rfl (lv_at hl 3 rfl) ?_
    refine lv_aload_n hx hb dd_law_19 rfl (lv_at hl 0 rfl) ?_
    refine va_slen hx hb hXs hbl hbA G.2.2 dd_law_20 ?_
    refine lv_bipush (v := nI 7) hx hb dd_law_21 (by decide) ?_
    refine lv_isub hx hb dd_law_23 ?_
    refine lv_icmp_gt (tgt := 442) hx hb dd_law_24 (by decide) (fun _ => ?_) (fun h => absurd ((lw_cmp (by omega) (by omega)).mpr (by omega)) h)
    refine va_forget (fun q hq => ?_) ?_
    · obtain ⟨k, _, h⟩ := G.2.2.2.2 q hq
      rw [h]
      exact hX k
    refine W.widen (k := 600000) (n := 7302250) (Nat.le_of_ble_eq_true rfl) (Nat.le_of_ble_eq_true rfl) ?_
    refine lv_iconst (v := 1) hx hb dd_law_442 (by decide) ?_
    exact lw_ret hx hb hr hlocks dd_law_443
  | succ d ih =>
    intro j C R H locs ls hd hj hR G hl
    refine lv_iload_n hx hb dd_law_18 rfl (lv_at hl 3 rfl) ?_
    refine lv_aload_n hx hb dd_law_19 rfl (lv_at hl 0 rfl) ?_
    refine va_slen hx hb hXs hbl hbA G.2.2 dd_law_20 ?_
    refine lv_bipush (v := nI 7) hx hb dd_law_21 (by decide) ?_
    refine lv_isub hx hb dd_law_23 ?_
    refine lv_icmp_gt (tgt := 442) hx hb dd_law_24 (by decide) (fun _ => ?_) (fun h => ?_)
    · refine va_forget (fun q hq => ?_) ?_
      · obtain ⟨k, _, h⟩ := G.2.2.2.2 q hq
        rw [h]
        exact hX k
      refine W.widen (k := 600000) (n := 7302250) (Nat.le_of_ble_eq_true rfl) (Nat.le_of_ble_eq_true rfl) ?_
      refine lv_iconst (v := 1) hx hb dd_law_442 (by decide) ?_
      exact lw_ret hx hb hr hlocks dd_law_443
    have hj7 : j + 7 ≤ L := by
      have h1 : ¬ L < j + 7 := fun q => h ((lw_cmp (by omega) (by omega)).mpr q)
      omega
    have tail : ∀ (C R : gw_M) (H : Heap) (locs : List Loc), Rel C R → gw_G X (gw_E X C R) s H locs → W p l e room_1 s m #[Value.ref b] below meth c H locs 100 2350 (lw_Z below #[Value.ref b] s) (F0 m 436 ls []) := by
      intro C R H locs hR G
      refine lv_iinc (k := 3) (v := nI (j + 7)) (lv' := [(3, .int (nI (j + 7))), (0, .ref b), (1, .ref (gc_a X 0)), (2, .ref (gr_a X 0))]) hx hb dd_law_436 hl rfl (nI_add j 7) (by decide) rfl (fun ls hl => ?_)
      refine lv_goto (tgt := 18) hx hb dd_law_439 (by decide) ?_
      exact ih (j + 7) C R H locs ls (by omega) hj7 hR G (lv_sub hl [1, 2, 3, 0] rfl)
    refine W.eq (g2 := F0 m 27 _ _) rfl ?_
    refine lv_aload_n hx hb dd_law_27 rfl (lv_at hl 0 rfl) ?_
    refine lv_iload_n hx hb dd_law_28 rfl (lv_at hl 3 rfl) ?_
    refine lw_sld hx hb hXs hbl hbA G (by omega) (by omega) dd_law_29 ?_
    refine lv_bipush (v := 15) hx hb dd_law_30 (by decide) ?_
    refine lv_iand hx hb dd_law_32 ?_
    refine lv_topi (fun x33 _ => ?_)
    by_cases q0 : x33 = (0 : Int32)
    · refine lv_tableIn (off := 63) (tgt := 96) hx hb dd_law_33 (by rw [q0]; decide) (by rw [q0]; decide) (by rw [q0]; decide) (by decide) ?_
      obtain ⟨r, C1, R1, hc1, hc2, hR1⟩ := ops.1 (xs (j + 1)) (xs (j + 2)) (xs (j + 3)) (xs (j + 4)) (xs (j + 5)) (xs (j + 6)) C R hR
      refine lv_aload_n hx hb dd_law_96 rfl (lv_at hl 1 rfl) ?_
      refine lv_aload_n hx hb dd_law_97 rfl (lv_at hl 0 rfl) ?_
      refine lv_iload_n hx hb dd_law_98 rfl (lv_at hl 3 rfl) ?_
      refine lv_iconst (v := nI 1) hx hb dd_law_99 (by decide) ?_
      refine lv_iadd hx hb dd_law_100 ?_
      rw [nI_add]
      refine lw_sld hx hb hXs hbl hbA G (by omega) (by omega) dd_law_101 ?_
      refine W.eq (g2 := F0 m 102 _ _) rfl ?_
      refine lv_aload_n hx hb dd_law_102 rfl (lv_at hl 0 rfl) ?_
      refine lv_iload_n hx hb dd_law_103 rfl (lv_at hl 3 rfl) ?_
      refine lv_iconst (v := nI 2) hx hb dd_law_104 (by decide) ?_
      refine lv_iadd hx hb dd_law_105 ?_
      rw [nI_add]
      refine lw_sld hx hb hXs hbl hbA G (by omega) (by omega) dd_law_106 ?_
      refine W.eq (g2 := F0 m 107 _ _) rfl ?_
      refine lv_aload_n hx hb dd_law_107 rfl (lv_at hl 0 rfl) ?_
      refine lv_iload_n hx hb dd_law_108 rfl (lv_at hl 3 rfl) ?_
      refine lv_iconst (v := nI 3) hx hb dd_law_109 (by decide) ?_
      refine lv_iadd hx hb dd_law_110 ?_
      rw [nI_add]
      refine lw_sld hx hb hXs hbl hbA G (by omega) (by omega) dd_law_111 ?_
      refine W.eq (g2 := F0 m 112 _ _) rfl ?_
      refine lv_aload_n hx hb dd_law_112 rfl (lv_at hl 0 rfl) ?_
      refine lv_iload_n hx hb dd_law_113 rfl (lv_at hl 3 rfl) ?_
      refine lv_iconst (v := nI 4) hx hb dd_law_114 (by decide) ?_
      refine lv_iadd hx hb dd_law_115 ?_
      rw [nI_add]
      refine lw_sld hx hb hXs hbl hbA G (by omega) (by omega) dd_law_116 ?_
      refine W.eq (g2 := F0 m 117 _ _) rfl ?_
      refine lv_aload_n hx hb dd_law_117 rfl (lv_at hl 0 rfl) ?_
      refine lv_iload_n hx hb dd_law_118 rfl (lv_at hl 3 rfl) ?_
      refine lv_iconst (v := nI 5) hx hb dd_law_119 (by decide) ?_
      refine lv_iadd hx hb dd_law_120 ?_
      rw [nI_add]
      refine lw_sld hx hb hXs hbl hbA G (by omega) (by omega) dd_law_121 ?_
      refine W.eq (g2 := F0 m 122 _ _) rfl ?_
      refine lv_aload_n hx hb dd_law_122 rfl (lv_at hl 0 rfl) ?_
      refine lv_iload_n hx hb dd_law_123 rfl (lv_at hl 3 rfl) ?_
      refine lv_bipush (v := nI 6) hx hb dd_law_124 (by decide) ?_
      refine lv_iadd hx hb dd_law_126 ?_
      rw [nI_add]
      refine lw_sld hx hb hXs hbl hbA G (by omega) (by omega) dd_law_127 ?_
      refine W.eq (g2 := F0 m 128 _ _) rfl ?_
      refine gw_ci G (va_runV (As := [.int (xs (j + 1)), .int (xs (j + 2)), .int (xs (j + 3)), .int (xs (j + 4)), .int (xs (j + 5)), .int (xs (j + 6))]) (rest := []) ⟨hx, hb, hml, hown, hts⟩ (ct_am_code l X R C 0 (xs (j + 1)) (xs (j + 2)) (xs (j + 3)) (xs (j + 4)) (xs (j + 5)) (xs (j + 6)) (by decide : gc_k 0 = (2, 0)) _ hc1) (cwV 6 hts (gw_gVL kw_497 kw_498 kw_499 kw_107 kw_500) rfl rfl rfl (by decide +kernel) ⟨Nat.le_of_ble_eq_true rfl, Nat.le_of_ble_eq_true rfl⟩) ⟨gw_blind, gw_recv_am hK G (by decide : gc_k 0 = (2, 0)), gw_pre hK G⟩ rfl rfl hl.1 rfl (Nat.le_of_ble_eq_true rfl) dd_law_128 ⟨Nat.le_of_ble_eq_true rfl, Nat.le_of_ble_eq_true rfl⟩) (fun H locs G => ?_)
      refine lv_aload_n hx hb dd_law_131 rfl (lv_at hl 2 rfl) ?_
      refine lv_aload_n hx hb dd_law_132 rfl (lv_at hl 0 rfl) ?_
      refine lv_iload_n hx hb dd_law_133 rfl (lv_at hl 3 rfl) ?_
      refine lv_iconst (v := nI 1) hx hb dd_law_134 (by decide) ?_
      refine lv_iadd hx hb dd_law_135 ?_
      rw [nI_add]
      refine lw_sld hx hb hXs hbl hbA G (by omega) (by omega) dd_law_136 ?_
      refine W.eq (g2 := F0 m 137 _ _) rfl ?_
      refine lv_aload_n hx hb dd_law_137 rfl (lv_at hl 0 rfl) ?_
      refine lv_iload_n hx hb dd_law_138 rfl (lv_at hl 3 rfl) ?_
      refine lv_iconst (v := nI 2) hx hb dd_law_139 (by decide) ?_
      refine lv_iadd hx hb dd_law_140 ?_
      rw [nI_add]
      refine lw_sld hx hb hXs hbl hbA G (by omega) (by omega) dd_law_141 ?_
      refine W.eq (g2 := F0 m 142 _ _) rfl ?_
      refine lv_aload_n hx hb dd_law_142 rfl (lv_at hl 0 rfl) ?_
      refine lv_iload_n hx hb dd_law_143 rfl (lv_at hl 3 rfl) ?_
      refine lv_iconst (v := nI 3) hx hb dd_law_144 (by decide) ?_
      refine lv_iadd hx hb dd_law_145 ?_
      rw [nI_add]
      refine lw_sld hx hb hXs hbl hbA G (by omega) (by omega) dd_law_146 ?_
      refine W.eq (g2 := F0 m 147 _ _) rfl ?_
      refine lv_aload_n hx hb dd_law_147 rfl (lv_at hl 0 rfl) ?_
      refine lv_iload_n hx hb dd_law_148 rfl (lv_at hl 3 rfl) ?_
      refine lv_iconst (v := nI 4) hx hb dd_law_149 (by decide) ?_
      refine lv_iadd hx hb dd_law_150 ?_
      rw [nI_add]
      refine lw_sld hx hb hXs hbl hbA G (by omega) (by omega) dd_law_151 ?_
      refine W.eq (g2 := F0 m 152 _ _) rfl ?_
      refine lv_aload_n hx hb dd_law_152 rfl (lv_at hl 0 rfl) ?_
      refine lv_iload_n hx hb dd_law_153 rfl (lv_at hl 3 rfl) ?_
      refine lv_iconst (v := nI 5) hx hb dd_law_154 (by decide) ?_
      refine lv_iadd hx hb dd_law_155 ?_
      rw [nI_add]
      refine lw_sld hx hb hXs hbl hbA G (by omega) (by omega) dd_law_156 ?_
      refine W.eq (g2 := F0 m 157 _ _) rfl ?_
      refine lv_aload_n hx hb dd_law_157 rfl (lv_at hl 0 rfl) ?_
      refine lv_iload_n hx hb dd_law_158 rfl (lv_at hl 3 rfl) ?_
      refine lv_bipush (v := nI 6) hx hb dd_law_159 (by decide) ?_
      refine lv_iadd hx hb dd_law_161 ?_
      rw [nI_add]
      refine lw_sld hx hb hXs hbl hbA G (by omega) (by omega) dd_law_162 ?_
      refine W.eq (g2 := F0 m 163 _ _) rfl ?_
      refine gw_ci G (va_runV (As := [.int (xs (j + 1)), .int (xs (j + 2)), .int (xs (j + 3)), .int (xs (j + 4)), .int (xs (j + 5)), .int (xs (j + 6))]) (rest := [.int r]) ⟨hx, hb, hml, hown, hts⟩ (ct_mo_code l X C1 R 0 (xs (j + 1)) (xs (j + 2)) (xs (j + 3)) (xs (j + 4)) (xs (j + 5)) (xs (j + 6)) (by decide : gr_k 0 = (11, 0)) _ hc2) (cwV 6 hts (gw_gVL kw_501 kw_502 kw_503 kw_253 kw_504) rfl rfl rfl (by decide +kernel) ⟨Nat.le_of_ble_eq_true rfl, Nat.le_of_ble_eq_true rfl⟩) ⟨gw_blind, gw_recv_mo hK G (by decide : gr_k 0 = (11, 0)), gw_pre hK G⟩ rfl rfl hl.1 rfl (Nat.le_of_ble_eq_true rfl) dd_law_163 ⟨Nat.le_of_ble_eq_true rfl, Nat.le_of_ble_eq_true rfl⟩) (fun H locs G => ?_)
      refine lv_icmp_eq (tgt := 436) hx hb dd_law_166 (by decide) (fun _ => ?_) (fun h => absurd rfl h)
      exact tail C1 R1 H locs hR1 G
    by_cases q1 : x33 = (1 : Int32)
    · refine lv_tableIn (off := 138) (tgt := 171) hx hb dd_law_33 (by rw [q1]; decide) (by rw [q1]; decide) (by rw [q1]; decide) (by decide) ?_
      obtain ⟨r, C1, R1, hc1, hc2, hR1⟩ := ops.2.1 (xs (j + 1)) C R hR
      refine lv_aload_n hx hb dd_law_171 rfl (lv_at hl 1 rfl) ?_
      refine lv_aload_n hx hb dd_law_172 rfl (lv_at hl 0 rfl) ?_
      refine lv_iload_n hx hb dd_law_173 rfl (lv_at hl 3 rfl) ?_
      refine lv_iconst (v := nI 1) hx hb dd_law_174 (by decide) ?_
      refine lv_iadd hx hb dd_law_175 ?_
      rw [nI_add]
      refine lw_sld hx hb hXs hbl hbA G (by omega) (by omega) dd_law_176 ?_
      refine W.eq (g2 := F0 m 177 _ _) rfl ?_
      refine gw_ci G (va_runV (As := [.int (xs (j + 1))]) (rest := []) ⟨hx, hb, hml, hown, hts⟩ (ct_am_wipe l X R C 0 (xs (j + 1)) (by decide : gc_k 0 = (2, 0)) _ hc1) (cwV 1 hts (gw_gVL kw_505 kw_506 kw_507 kw_107 kw_508) rfl rfl rfl (by decide +kernel) ⟨Nat.le_of_ble_eq_true rfl, Nat.le_of_ble_eq_true rfl⟩) ⟨gw_blind, gw_recv_am hK G (by decide : gc_k 0 = (2, 0)), gw_pre hK G⟩ rfl rfl hl.1 rfl (Nat.le_of_ble_eq_true rfl) dd_law_177 ⟨Nat.le_of_ble_eq_true rfl, Nat.le_of_ble_eq_true rfl⟩) (fun H locs G => ?_)
      refine lv_aload_n hx hb dd_law_180 rfl (lv_at hl 2 rfl) ?_
      refine lv_aload_n hx hb dd_law_181 rfl (lv_at hl 0 rfl) ?_
      refine lv_iload_n hx hb dd_law_182 rfl (lv_at hl 3 rfl) ?_
      refine lv_iconst (v := nI 1) hx hb dd_law_183 (by decide) ?_
      refine lv_iadd hx hb dd_law_184 ?_
      rw [nI_add]
      refine lw_sld hx hb hXs hbl hbA G (by omega) (by omega) dd_law_185 ?_
      refine W.eq (g2 := F0 m 186 _ _) rfl ?_
      refine gw_ci G (va_runV (As := [.int (xs (j + 1))]) (rest := [.int r]) ⟨hx, hb, hml, hown, hts⟩ (ct_mo_wipe l X C1 R 0 (xs (j + 1)) (by decide : gr_k 0 = (11, 0)) _ hc2) (cwV 1 hts (gw_gVL kw_509 kw_510 kw_511 kw_253 kw_512) rfl rfl rfl (by decide +kernel) ⟨Nat.le_of_ble_eq_true rfl, Nat.le_of_ble_eq_true rfl⟩) ⟨gw_blind, gw_recv_mo hK G (by decide : gr_k 0 = (11, 0)), gw_pre hK G⟩ rfl rfl hl.1 rfl (Nat.le_of_ble_eq_true rfl) dd_law_186 ⟨Nat.le_of_ble_eq_true rfl, Nat.le_of_ble_eq_true rfl⟩) (fun H locs G => ?_)
      refine lv_icmp_eq (tgt := 436) hx hb dd_law_189 (by decide) (fun _ => ?_) (fun h => absurd rfl h)
      exact tail C1 R1 H locs hR1 G
    by_cases q2 : x33 = (2 : Int32)
    · refine lv_tableIn (off := 161) (tgt := 194) hx hb dd_law_33 (by rw [q2]; decide) (by rw [q2]; decide) (by rw [q2]; decide) (by decide) ?_
      obtain ⟨r, C1, R1, hc1, hc2, hR1⟩ := ops.2.2.1 (xs (j + 1)) C R hR
      refine lv_aload_n hx hb dd_law_194 rfl (lv_at hl 1 rfl) ?_
      refine lv_aload_n hx hb dd_law_195 rfl (lv_at hl 0 rfl) ?_
      refine lv_iload_n hx hb dd_law_196 rfl (lv_at hl 3 rfl) ?_
      refine lv_iconst (v := nI 1) hx hb dd_law_197 (by decide) ?_
      refine lv_iadd hx hb dd_law_198 ?_
      rw [nI_add]
      refine lw_sld hx hb hXs hbl hbA G (by omega) (by omega) dd_law_199 ?_
      refine W.eq (g2 := F0 m 200 _ _) rfl ?_
      refine gw_ci G (va_runV (As := [.int (xs (j + 1))]) (rest := []) ⟨hx, hb, hml, hown, hts⟩ (ct_am_load l X R C 0 (xs (j + 1)) (by decide : gc_k 0 = (2, 0)) _ hc1) (cwV 1 hts (gw_gVL kw_513 kw_514 kw_515 kw_107 kw_516) rfl rfl rfl (by decide +kernel) ⟨Nat.le_of_ble_eq_true rfl, Nat.le_of_ble_eq_true rfl⟩) ⟨gw_blind, gw_recv_am hK G (by decide : gc_k 0 = (2, 0)), gw_pre hK G⟩ rfl rfl hl.1 rfl (Nat.le_of_ble_eq_true rfl) dd_law_200 ⟨Nat.le_of_ble_eq_true rfl, Nat.le_of_ble_eq_true rfl⟩) (fun H locs G => ?_)
      refine lv_aload_n hx hb dd_law_203 rfl (lv_at hl 2 rfl) ?_
      refine lv_aload_n hx hb dd_law_204 rfl (lv_at hl 0 rfl) ?_
      refine lv_iload_n hx hb dd_law_205 rfl (lv_at hl 3 rfl) ?_
      refine lv_iconst (v := nI 1) hx hb dd_law_206 (by decide) ?_
      refine lv_iadd hx hb dd_law_207 ?_
      rw [nI_add]
      refine lw_sld hx hb hXs hbl hbA G (by omega) (by omega) dd_law_208 ?_
      refine W.eq (g2 := F0 m 209 _ _) rfl ?_
      refine gw_ci G (va_runV (As := [.int (xs (j + 1))]) (rest := [.int r]) ⟨hx, hb, hml, hown, hts⟩ (ct_mo_load l X C1 R 0 (xs (j + 1)) (by decide : gr_k 0 = (11, 0)) _ hc2) (cwV 1 hts (gw_gVL kw_517 kw_518 kw_519 kw_253 kw_520) rfl rfl rfl (by decide +kernel) ⟨Nat.le_of_ble_eq_true rfl, Nat.le_of_ble_eq_true rfl⟩) ⟨gw_blind, gw_recv_mo hK G (by decide : gr_k 0 = (11, 0)), gw_pre hK G⟩ rfl rfl hl.1 rfl (Nat.le_of_ble_eq_true rfl) dd_law_209 ⟨Nat.le_of_ble_eq_true rfl, Nat.le_of_ble_eq_true rfl⟩) (fun H locs G => ?_)
      refine lv_icmp_eq (tgt := 436) hx hb dd_law_212 (by decide) (fun _ => ?_) (fun h => absurd rfl h)
      exact tail C1 R1 H locs hR1 G
    by_cases q3 : x33 = (3 : Int32)
    · refine lv_tableIn (off := 184) (tgt := 217) hx hb dd_law_33 (by rw [q3]; decide) (by rw [q3]; decide) (by rw [q3]; decide) (by decide) ?_
      obtain ⟨r, C1, R1, hc1, hc2, hR1⟩ := ops.2.2.2.1 (xs (j + 1)) (xs (j + 2)) C R hR
      refine lv_aload_n hx hb dd_law_217 rfl (lv_at hl 1 rfl) ?_
      refine lv_aload_n hx hb dd_law_218 rfl (lv_at hl 0 rfl) ?_
      refine lv_iload_n hx hb dd_law_219 rfl (lv_at hl 3 rfl) ?_
      refine lv_iconst (v := nI 1) hx hb dd_law_220 (by decide) ?_
      refine lv_iadd hx hb dd_law_221 ?_
      rw [nI_add]
      refine lw_sld hx hb hXs hbl hbA G (by omega) (by omega) dd_law_222 ?_
      refine W.eq (g2 := F0 m 223 _ _) rfl ?_
      refine lv_aload_n hx hb dd_law_223 rfl (lv_at hl 0 rfl) ?_
      refine lv_iload_n hx hb dd_law_224 rfl (lv_at hl 3 rfl) ?_
      refine lv_iconst (v := nI 2) hx hb dd_law_225 (by decide) ?_
      refine lv_iadd hx hb dd_law_226 ?_
      rw [nI_add]
      refine lw_sld hx hb hXs hbl hbA G (by omega) (by omega) dd_law_227 ?_
      refine W.eq (g2 := F0 m 228 _ _) rfl ?_
      refine gw_ci G (va_runV (As := [.int (xs (j + 1)), .int (xs (j + 2))]) (rest := []) ⟨hx, hb, hml, hown, hts⟩ (ct_am_order l X R C 0 (xs (j + 1)) (xs (j + 2)) (by decide : gc_k 0 = (2, 0)) _ hc1) (cwV 2 hts (gw_gVL kw_521 kw_522 kw_523 kw_107 kw_524) rfl rfl rfl (by decide +kernel) ⟨Nat.le_of_ble_eq_true rfl, Nat.le_of_ble_eq_true rfl⟩) ⟨gw_blind, gw_recv_am hK G (by decide : gc_k 0 = (2, 0)), gw_pre hK G⟩ rfl rfl hl.1 rfl (Nat.le_of_ble_eq_true rfl) dd_law_228 ⟨Nat.le_of_ble_eq_true rfl, Nat.le_of_ble_eq_true rfl⟩) (fun H locs G => ?_)
      refine lv_aload_n hx hb dd_law_231 rfl (lv_at hl 2 rfl) ?_
      refine lv_aload_n hx hb dd_law_232 rfl (lv_at hl 0 rfl) ?_
      refine lv_iload_n hx hb dd_law_233 rfl (lv_at hl 3 rfl) ?_
      refine lv_iconst (v := nI 1) hx hb dd_law_234 (by decide) ?_
      refine lv_iadd hx hb dd_law_235 ?_
      rw [nI_add]
      refine lw_sld hx hb hXs hbl hbA G (by omega) (by omega) dd_law_236 ?_
      refine W.eq (g2 := F0 m 237 _ _) rfl ?_
      refine lv_aload_n hx hb dd_law_237 rfl (lv_at hl 0 rfl) ?_
      refine lv_iload_n hx hb dd_law_238 rfl (lv_at hl 3 rfl) ?_
      refine lv_iconst (v := nI 2) hx hb dd_law_239 (by decide) ?_
      refine lv_iadd hx hb dd_law_240 ?_
      rw [nI_add]
      refine lw_sld hx hb hXs hbl hbA G (by omega) (by omega) dd_law_241 ?_
      refine W.eq (g2 := F0 m 242 _ _) rfl ?_
      refine gw_ci G (va_runV (As := [.int (xs (j + 1)), .int (xs (j + 2))]) (rest := [.int r]) ⟨hx, hb, hml, hown, hts⟩ (ct_mo_order l X C1 R 0 (xs (j + 1)) (xs (j + 2)) (by decide : gr_k 0 = (11, 0)) _ hc2) (cwV 2 hts (gw_gVL kw_525 kw_526 kw_527 kw_253 kw_528) rfl rfl rfl (by decide +kernel) ⟨Nat.le_of_ble_eq_true rfl, Nat.le_of_ble_eq_true rfl⟩) ⟨gw_blind, gw_recv_mo hK G (by decide : gr_k 0 = (11, 0)), gw_pre hK G⟩ rfl rfl hl.1 rfl (Nat.le_of_ble_eq_true rfl) dd_law_242 ⟨Nat.le_of_ble_eq_true rfl, Nat.le_of_ble_eq_true rfl⟩) (fun H locs G => ?_)
      refine lv_icmp_eq (tgt := 436) hx hb dd_law_245 (by decide) (fun _ => ?_) (fun h => absurd rfl h)
      exact tail C1 R1 H locs hR1 G
    by_cases q4 : x33 = (4 : Int32)
    · refine lv_tableIn (off := 217) (tgt := 250) hx hb dd_law_33 (by rw [q4]; decide) (by rw [q4]; decide) (by rw [q4]; decide) (by decide) ?_
      obtain ⟨r, C1, R1, hc1, hc2, hR1⟩ := ops.2.2.2.2.1 (xs (j + 1)) (xs (j + 2)) C R hR
      refine lv_aload_n hx hb dd_law_250 rfl (lv_at hl 1 rfl) ?_
      refine lv_aload_n hx hb dd_law_251 rfl (lv_at hl 0 rfl) ?_
      refine lv_iload_n hx hb dd_law_252 rfl (lv_at hl 3 rfl) ?_
      refine lv_iconst (v := nI 1) hx hb dd_law_253 (by decide) ?_
      refine lv_iadd hx hb dd_law_254 ?_
      rw [nI_add]
      refine lw_sld hx hb hXs hbl hbA G (by omega) (by omega) dd_law_255 ?_
      refine W.eq (g2 := F0 m 256 _ _) rfl ?_
      refine lv_aload_n hx hb dd_law_256 rfl (lv_at hl 0 rfl) ?_
      refine lv_iload_n hx hb dd_law_257 rfl (lv_at hl 3 rfl) ?_
      refine lv_iconst (v := nI 2) hx hb dd_law_258 (by decide) ?_
      refine lv_iadd hx hb dd_law_259 ?_
      rw [nI_add]
      refine lw_sld hx hb hXs hbl hbA G (by omega) (by omega) dd_law_260 ?_
      refine W.eq (g2 := F0 m 261 _ _) rfl ?_
      refine gw_ci G (va_runV (As := [.int (xs (j + 1)), .int (xs (j + 2))]) (rest := []) ⟨hx, hb, hml, hown, hts⟩ (ct_am_slot l X R C 0 (xs (j + 1)) (xs (j + 2)) (by decide : gc_k 0 = (2, 0)) _ hc1) (cwV 2 hts (gw_gVL kw_529 kw_530 kw_531 kw_107 kw_532) rfl rfl rfl (by decide +kernel) ⟨Nat.le_of_ble_eq_true rfl, Nat.le_of_ble_eq_true rfl⟩) ⟨gw_blind, gw_recv_am hK G (by decide : gc_k 0 = (2, 0)), gw_pre hK G⟩ rfl rfl hl.1 rfl (Nat.le_of_ble_eq_true rfl) dd_law_261 ⟨Nat.le_of_ble_eq_true rfl, Nat.le_of_ble_eq_true rfl⟩) (fun H locs G => ?_)
      refine lv_aload_n hx hb dd_law_264 rfl (lv_at hl 2 rfl) ?_
      refine lv_aload_n hx hb dd_law_265 rfl (lv_at hl 0 rfl) ?_
      refine lv_iload_n hx hb dd_law_266 rfl (lv_at hl 3 rfl) ?_
      refine lv_iconst (v := nI 1) hx hb dd_law_267 (by decide) ?_
      refine lv_iadd hx hb dd_law_268 ?_
      rw [nI_add]
      refine lw_sld hx hb hXs hbl hbA G (by omega) (by omega) dd_law_269 ?_
      refine W.eq (g2 := F0 m 270 _ _) rfl ?_
      refine lv_aload_n hx hb dd_law_270 rfl (lv_at hl 0 rfl) ?_
      refine lv_iload_n hx hb dd_law_271 rfl (lv_at hl 3 rfl) ?_
      refine lv_iconst (v := nI 2) hx hb dd_law_272 (by decide) ?_
      refine lv_iadd hx hb dd_law_273 ?_
      rw [nI_add]
      refine lw_sld hx hb hXs hbl hbA G (by omega) (by omega) dd_law_274 ?_
      refine W.eq (g2 := F0 m 275 _ _) rfl ?_
      refine gw_ci G (va_runV (As := [.int (xs (j + 1)), .int (xs (j + 2))]) (rest := [.int r]) ⟨hx, hb, hml, hown, hts⟩ (ct_mo_slot l X C1 R 0 (xs (j + 1)) (xs (j + 2)) (by decide : gr_k 0 = (11, 0)) _ hc2) (cwV 2 hts (gw_gVL kw_533 kw_534 kw_535 kw_253 kw_536) rfl rfl rfl (by decide +kernel) ⟨Nat.le_of_ble_eq_true rfl, Nat.le_of_ble_eq_true rfl⟩) ⟨gw_blind, gw_recv_mo hK G (by decide : gr_k 0 = (11, 0)), gw_pre hK G⟩ rfl rfl hl.1 rfl (Nat.le_of_ble_eq_true rfl) dd_law_275 ⟨Nat.le_of_ble_eq_true rfl, Nat.le_of_ble_eq_true rfl⟩) (fun H locs G => ?_)
      refine lv_icmp_eq (tgt := 436) hx hb dd_law_278 (by decide) (fun _ => ?_) (fun h => absurd rfl h)
      exact tail C1 R1 H locs hR1 G
    by_cases q5 : x33 = (5 : Int32)
    · refine lv_tableIn (off := 250) (tgt := 283) hx hb dd_law_33 (by rw [q5]; decide) (by rw [q5]; decide) (by rw [q5]; decide) (by decide) ?_
      obtain ⟨r, C1, R1, hc1, hc2, hR1⟩ := ops.2.2.2.2.2.1 (xs (j + 1)) C R hR
      refine lv_aload_n hx hb dd_law_283 rfl (lv_at hl 1 rfl) ?_
      refine lv_aload_n hx hb dd_law_284 rfl (lv_at hl 0 rfl) ?_
      refine lv_iload_n hx hb dd_law_285 rfl (lv_at hl 3 rfl) ?_
      refine lv_iconst (v := nI 1) hx hb dd_law_286 (by decide) ?_
      refine lv_iadd hx hb dd_law_287 ?_
      rw [nI_add]
      refine lw_sld hx hb hXs hbl hbA G (by omega) (by omega) dd_law_288 ?_
      refine W.eq (g2 := F0 m 289 _ _) rfl ?_
      refine gw_ci G (va_runV (As := [.int (xs (j + 1))]) (rest := []) ⟨hx, hb, hml, hown, hts⟩ (ct_am_run l X R C 0 (xs (j + 1)) (by decide : gc_k 0 = (2, 0)) _ hc1) (cwV 1 hts (gw_gVL kw_537 kw_538 kw_539 kw_107 kw_540) rfl rfl rfl (by decide +kernel) ⟨Nat.le_of_ble_eq_true rfl, Nat.le_of_ble_eq_true rfl⟩) ⟨gw_blind, gw_recv_am hK G (by decide : gc_k 0 = (2, 0)), gw_pre hK G⟩ rfl rfl hl.1 rfl (Nat.le_of_ble_eq_true rfl) dd_law_289 ⟨Nat.le_of_ble_eq_true rfl, Nat.le_of_ble_eq_true rfl⟩) (fun H locs G => ?_)
      refine lv_aload_n hx hb dd_law_292 rfl (lv_at hl 2 rfl) ?_
      refine lv_aload_n hx hb dd_law_293 rfl (lv_at hl 0 rfl) ?_
      refine lv_iload_n hx hb dd_law_294 rfl (lv_at hl 3 rfl) ?_
      refine lv_iconst (v := nI 1) hx hb dd_law_295 (by decide) ?_
      refine lv_iadd hx hb dd_law_296 ?_
      rw [nI_add]
      refine lw_sld hx hb hXs hbl hbA G (by omega) (by omega) dd_law_297 ?_
      refine W.eq (g2 := F0 m 298 _ _) rfl ?_
      refine gw_ci G (va_runV (As := [.int (xs (j + 1))]) (rest := [.int r]) ⟨hx, hb, hml, hown, hts⟩ (ct_mo_run l X C1 R 0 (xs (j + 1)) (by decide : gr_k 0 = (11, 0)) _ hc2) (cwV 1 hts (gw_gVL kw_541 kw_542 kw_543 kw_253 kw_544) rfl rfl rfl (by decide +kernel) ⟨Nat.le_of_ble_eq_true rfl, Nat.le_of_ble_eq_true rfl⟩) ⟨gw_blind, gw_recv_mo hK G (by decide : gr_k 0 = (11, 0)), gw_pre hK G⟩ rfl rfl hl.1 rfl (Nat.le_of_ble_eq_true rfl) dd_law_298 ⟨Nat.le_of_ble_eq_true rfl, Nat.le_of_ble_eq_true rfl⟩) (fun H locs G => ?_)
      refine lv_icmp_eq (tgt := 436) hx hb dd_law_301 (by decide) (fun _ => ?_) (fun h => absurd rfl h)
      exact tail C1 R1 H locs hR1 G
    by_cases q6 : x33 = (6 : Int32)
    · refine lv_tableIn (off := 273) (tgt := 306) hx hb dd_law_33 (by rw [q6]; decide) (by rw [q6]; decide) (by rw [q6]; decide) (by decide) ?_
      obtain ⟨r, C1, R1, hc1, hc2, hR1⟩ := ops.2.2.2.2.2.2.1  C R hR
      refine lv_aload_n hx hb dd_law_306 rfl (lv_at hl 1 rfl) ?_
      refine gw_ci G (va_runV (As := []) (rest := []) ⟨hx, hb, hml, hown, hts⟩ (ct_am_units l X R C 0  (by decide : gc_k 0 = (2, 0)) _ hc1) (cwV 0 hts (gw_gVL kw_545 kw_546 kw_547 kw_107 kw_548) rfl rfl rfl (by decide +kernel) ⟨Nat.le_of_ble_eq_true rfl, Nat.le_of_ble_eq_true rfl⟩) ⟨gw_blind, gw_recv_am hK G (by decide : gc_k 0 = (2, 0)), gw_pre hK G⟩ rfl rfl hl.1 rfl (Nat.le_of_ble_eq_true rfl) dd_law_307 ⟨Nat.le_of_ble_eq_true rfl, Nat.le_of_ble_eq_true rfl⟩) (fun H locs G => ?_)
      refine lv_aload_n hx hb dd_law_310 rfl (lv_at hl 2 rfl) ?_
      refine gw_ci G (va_runV (As := []) (rest := [.int r]) ⟨hx, hb, hml, hown, hts⟩ (ct_mo_units l X C1 R 0  (by decide : gr_k 0 = (11, 0)) _ hc2) (cwV 0 hts (gw_gVL kw_549 kw_550 kw_551 kw_253 kw_552) rfl rfl rfl (by decide +kernel) ⟨Nat.le_of_ble_eq_true rfl, Nat.le_of_ble_eq_true rfl⟩) ⟨gw_blind, gw_recv_mo hK G (by decide : gr_k 0 = (11, 0)), gw_pre hK G⟩ rfl rfl hl.1 rfl (Nat.le_of_ble_eq_true rfl) dd_law_311 ⟨Nat.le_of_ble_eq_true rfl, Nat.le_of_ble_eq_true rfl⟩) (fun H locs G => ?_)
      refine lv_icmp_eq (tgt := 436) hx hb dd_law_314 (by decide) (fun _ => ?_) (fun h => absurd rfl h)
      exact tail C1 R1 H locs hR1 G
    by_cases q7 : x33 = (7 : Int32)
    · refine lv_tableIn (off := 286) (tgt := 319) hx hb dd_law_33 (by rw [q7]; decide) (by rw [q7]; decide) (by rw [q7]; decide) (by decide) ?_
      obtain ⟨r, C1, R1, hc1, hc2, hR1⟩ := ops.2.2.2.2.2.2.2.1  C R hR
      refine lv_aload_n hx hb dd_law_319 rfl (lv_at hl 1 rfl) ?_
      refine gw_cl_ G (va_runV (As := []) (rest := []) ⟨hx, hb, hml, hown, hts⟩ (ct_am_result l X R C 0  (by decide : gc_k 0 = (2, 0)) _ hc1) (cwV 0 hts (gw_gVL kw_553 kw_554 kw_555 kw_107 kw_556) rfl rfl rfl (by decide +kernel) ⟨Nat.le_of_ble_eq_true rfl, Nat.le_of_ble_eq_true rfl⟩) ⟨gw_blind, gw_recv_am hK G (by decide : gc_k 0 = (2, 0)), gw_pre hK G⟩ rfl rfl hl.1 rfl (Nat.le_of_ble_eq_true rfl) dd_law_320 ⟨Nat.le_of_ble_eq_true rfl, Nat.le_of_ble_eq_true rfl⟩) (fun H locs G => ?_)
      refine lv_aload_n hx hb dd_law_323 rfl (lv_at hl 2 rfl) ?_
      refine gw_cl_ G (va_runV (As := []) (rest := [.long r]) ⟨hx, hb, hml, hown, hts⟩ (ct_mo_result l X C1 R 0  (by decide : gr_k 0 = (11, 0)) _ hc2) (cwV 0 hts (gw_gVL kw_557 kw_558 kw_559 kw_253 kw_560) rfl rfl rfl (by decide +kernel) ⟨Nat.le_of_ble_eq_true rfl, Nat.le_of_ble_eq_true rfl⟩) ⟨gw_blind, gw_recv_mo hK G (by decide : gr_k 0 = (11, 0)), gw_pre hK G⟩ rfl rfl hl.1 rfl (Nat.le_of_ble_eq_true rfl) dd_law_324 ⟨Nat.le_of_ble_eq_true rfl, Nat.le_of_ble_eq_true rfl⟩) (fun H locs G => ?_)
      refine W.lcmp hx hb dd_law_327 ?_
      refine lv_if_eq (tgt := 436) hx hb dd_law_328 (by decide) (fun _ => ?_) (fun h => absurd (lw_lcmp r) h)
      exact tail C1 R1 H locs hR1 G
    by_cases q8 : x33 = (8 : Int32)
    · refine lv_tableIn (off := 300) (tgt := 333) hx hb dd_law_33 (by rw [q8]; decide) (by rw [q8]; decide) (by rw [q8]; decide) (by decide) ?_
      obtain ⟨r, C1, R1, hc1, hc2, hR1⟩ := ops.2.2.2.2.2.2.2.2.1 (xs (j + 1)) C R hR
      refine lv_aload_n hx hb dd_law_333 rfl (lv_at hl 1 rfl) ?_
      refine lv_aload_n hx hb dd_law_334 rfl (lv_at hl 0 rfl) ?_
      refine lv_iload_n hx hb dd_law_335 rfl (lv_at hl 3 rfl) ?_
      refine lv_iconst (v := nI 1) hx hb dd_law_336 (by decide) ?_
      refine lv_iadd hx hb dd_law_337 ?_
      rw [nI_add]
      refine lw_sld hx hb hXs hbl hbA G (by omega) (by omega) dd_law_338 ?_
      refine W.eq (g2 := F0 m 339 _ _) rfl ?_
      refine gw_cl_ G (va_runV (As := [.int (xs (j + 1))]) (rest := []) ⟨hx, hb, hml, hown, hts⟩ (ct_am_log l X R C 0 (xs (j + 1)) (by decide : gc_k 0 = (2, 0)) _ hc1) (cwV 1 hts (gw_gVL kw_561 kw_562 kw_563 kw_107 kw_564) rfl rfl rfl (by decide +kernel) ⟨Nat.le_of_ble_eq_true rfl, Nat.le_of_ble_eq_true rfl⟩) ⟨gw_blind, gw_recv_am hK G (by decide : gc_k 0 = (2, 0)), gw_pre hK G⟩ rfl rfl hl.1 rfl (Nat.le_of_ble_eq_true rfl) dd_law_339 ⟨Nat.le_of_ble_eq_true rfl, Nat.le_of_ble_eq_true rfl⟩) (fun H locs G => ?_)
      refine lv_aload_n hx hb dd_law_342 rfl (lv_at hl 2 rfl) ?_
      refine lv_aload_n hx hb dd_law_343 rfl (lv_at hl 0 rfl) ?_
      refine lv_iload_n hx hb dd_law_344 rfl (lv_at hl 3 rfl) ?_
      refine lv_iconst (v := nI 1) hx hb dd_law_345 (by decide) ?_
      refine lv_iadd hx hb dd_law_346 ?_
      rw [nI_add]
      refine lw_sld hx hb hXs hbl hbA G (by omega) (by omega) dd_law_347 ?_
      refine W.eq (g2 := F0 m 348 _ _) rfl ?_
      refine gw_cl_ G (va_runV (As := [.int (xs (j + 1))]) (rest := [.long r]) ⟨hx, hb, hml, hown, hts⟩ (ct_mo_log l X C1 R 0 (xs (j + 1)) (by decide : gr_k 0 = (11, 0)) _ hc2) (cwV 1 hts (gw_gVL kw_565 kw_566 kw_567 kw_253 kw_568) rfl rfl rfl (by decide +kernel) ⟨Nat.le_of_ble_eq_true rfl, Nat.le_of_ble_eq_true rfl⟩) ⟨gw_blind, gw_recv_mo hK G (by decide : gr_k 0 = (11, 0)), gw_pre hK G⟩ rfl rfl hl.1 rfl (Nat.le_of_ble_eq_true rfl) dd_law_348 ⟨Nat.le_of_ble_eq_true rfl, Nat.le_of_ble_eq_true rfl⟩) (fun H locs G => ?_)
      refine W.lcmp hx hb dd_law_351 ?_
      refine lv_if_eq (tgt := 436) hx hb dd_law_352 (by decide) (fun _ => ?_) (fun h => absurd (lw_lcmp r) h)
      exact tail C1 R1 H locs hR1 G
    by_cases q9 : x33 = (9 : Int32)
    · refine lv_tableIn (off := 324) (tgt := 357) hx hb dd_law_33 (by rw [q9]; decide) (by rw [q9]; decide) (by rw [q9]; decide) (by decide) ?_
      obtain ⟨r, C1, R1, hc1, hc2, hR1⟩ := ops.2.2.2.2.2.2.2.2.2.1  C R hR
      refine lv_aload_n hx hb dd_law_357 rfl (lv_at hl 1 rfl) ?_
      refine gw_ci G (va_runV (As := []) (rest := []) ⟨hx, hb, hml, hown, hts⟩ (ct_am_logged l X R C 0  (by decide : gc_k 0 = (2, 0)) _ hc1) (cwV 0 hts (gw_gVL kw_569 kw_570 kw_571 kw_107 kw_572) rfl rfl rfl (by decide +kernel) ⟨Nat.le_of_ble_eq_true rfl, Nat.le_of_ble_eq_true rfl⟩) ⟨gw_blind, gw_recv_am hK G (by decide : gc_k 0 = (2, 0)), gw_pre hK G⟩ rfl rfl hl.1 rfl (Nat.le_of_ble_eq_true rfl) dd_law_358 ⟨Nat.le_of_ble_eq_true rfl, Nat.le_of_ble_eq_true rfl⟩) (fun H locs G => ?_)
      refine lv_aload_n hx hb dd_law_361 rfl (lv_at hl 2 rfl) ?_
      refine gw_ci G (va_runV (As := []) (rest := [.int r]) ⟨hx, hb, hml, hown, hts⟩ (ct_mo_logged l X C1 R 0  (by decide : gr_k 0 = (11, 0)) _ hc2) (cwV 0 hts (gw_gVL kw_573 kw_574 kw_575 kw_253 kw_576) rfl rfl rfl (by decide +kernel) ⟨Nat.le_of_ble_eq_true rfl, Nat.le_of_ble_eq_true rfl⟩) ⟨gw_blind, gw_recv_mo hK G (by decide : gr_k 0 = (11, 0)), gw_pre hK G⟩ rfl rfl hl.1 rfl (Nat.le_of_ble_eq_true rfl) dd_law_362 ⟨Nat.le_of_ble_eq_true rfl, Nat.le_of_ble_eq_true rfl⟩) (fun H locs G => ?_)
      refine lv_icmp_eq (tgt := 436) hx hb dd_law_365 (by decide) (fun _ => ?_) (fun h => absurd rfl h)
      exact tail C1 R1 H locs hR1 G
    by_cases q10 : x33 = (10 : Int32)
    · refine lv_tableIn (off := 337) (tgt := 370) hx hb dd_law_33 (by rw [q10]; decide) (by rw [q10]; decide) (by rw [q10]; decide) (by decide) ?_
      obtain ⟨r, C1, R1, hc1, hc2, hR1⟩ := ops.2.2.2.2.2.2.2.2.2.2.1 (xs (j + 1)) (xs (j + 2)) C R hR
      refine lv_aload_n hx hb dd_law_370 rfl (lv_at hl 1 rfl) ?_
      refine lv_aload_n hx hb dd_law_371 rfl (lv_at hl 0 rfl) ?_
      refine lv_iload_n hx hb dd_law_372 rfl (lv_at hl 3 rfl) ?_
      refine lv_iconst (v := nI 1) hx hb dd_law_373 (by decide) ?_
      refine lv_iadd hx hb dd_law_374 ?_
      rw [nI_add]
      refine lw_sld hx hb hXs hbl hbA G (by omega) (by omega) dd_law_375 ?_
      refine W.eq (g2 := F0 m 376 _ _) rfl ?_
      refine lv_aload_n hx hb dd_law_376 rfl (lv_at hl 0 rfl) ?_
      refine lv_iload_n hx hb dd_law_377 rfl (lv_at hl 3 rfl) ?_
      refine lv_iconst (v := nI 2) hx hb dd_law_378 (by decide) ?_
      refine lv_iadd hx hb dd_law_379 ?_
      rw [nI_add]
      refine lw_sld hx hb hXs hbl hbA G (by omega) (by omega) dd_law_380 ?_
      refine W.eq (g2 := F0 m 381 _ _) rfl ?_
      refine gw_ci G (va_runV (As := [.int (xs (j + 1)), .int (xs (j + 2))]) (rest := []) ⟨hx, hb, hml, hown, hts⟩ (ct_am_account l X R C 0 (xs (j + 1)) (xs (j + 2)) (by decide : gc_k 0 = (2, 0)) _ hc1) (cwV 2 hts (gw_gVL kw_577 kw_578 kw_579 kw_107 kw_580) rfl rfl rfl (by decide +kernel) ⟨Nat.le_of_ble_eq_true rfl, Nat.le_of_ble_eq_true rfl⟩) ⟨gw_blind, gw_recv_am hK G (by decide : gc_k 0 = (2, 0)), gw_pre hK G⟩ rfl rfl hl.1 rfl (Nat.le_of_ble_eq_true rfl) dd_law_381 ⟨Nat.le_of_ble_eq_true rfl, Nat.le_of_ble_eq_true rfl⟩) (fun H locs G => ?_)
      refine lv_aload_n hx hb dd_law_384 rfl (lv_at hl 2 rfl) ?_
      refine lv_aload_n hx hb dd_law_385 rfl (lv_at hl 0 rfl) ?_
      refine lv_iload_n hx hb dd_law_386 rfl (lv_at hl 3 rfl) ?_
      refine lv_iconst (v := nI 1) hx hb dd_law_387 (by decide) ?_
      refine lv_iadd hx hb dd_law_388 ?_
      rw [nI_add]
      refine lw_sld hx hb hXs hbl hbA G (by omega) (by omega) dd_law_389 ?_
      refine W.eq (g2 := F0 m 390 _ _) rfl ?_
      refine lv_aload_n hx hb dd_law_390 rfl (lv_at hl 0 rfl) ?_
      refine lv_iload_n hx hb dd_law_391 rfl (lv_at hl 3 rfl) ?_
      refine lv_iconst (v := nI 2) hx hb dd_law_392 (by decide) ?_
      refine lv_iadd hx hb dd_law_393 ?_
      rw [nI_add]
      refine lw_sld hx hb hXs hbl hbA G (by omega) (by omega) dd_law_394 ?_
      refine W.eq (g2 := F0 m 395 _ _) rfl ?_
      refine gw_ci G (va_runV (As := [.int (xs (j + 1)), .int (xs (j + 2))]) (rest := [.int r]) ⟨hx, hb, hml, hown, hts⟩ (ct_mo_account l X C1 R 0 (xs (j + 1)) (xs (j + 2)) (by decide : gr_k 0 = (11, 0)) _ hc2) (cwV 2 hts (gw_gVL kw_581 kw_582 kw_583 kw_253 kw_584) rfl rfl rfl (by decide +kernel) ⟨Nat.le_of_ble_eq_true rfl, Nat.le_of_ble_eq_true rfl⟩) ⟨gw_blind, gw_recv_mo hK G (by decide : gr_k 0 = (11, 0)), gw_pre hK G⟩ rfl rfl hl.1 rfl (Nat.le_of_ble_eq_true rfl) dd_law_395 ⟨Nat.le_of_ble_eq_true rfl, Nat.le_of_ble_eq_true rfl⟩) (fun H locs G => ?_)
      refine lv_icmp_eq (tgt := 436) hx hb dd_law_398 (by decide) (fun _ => ?_) (fun h => absurd rfl h)
      exact tail C1 R1 H locs hR1 G
    by_cases q11 : x33 = (11 : Int32)
    · refine lv_tableIn (off := 370) (tgt := 403) hx hb dd_law_33 (by rw [q11]; decide) (by rw [q11]; decide) (by rw [q11]; decide) (by decide) ?_
      obtain ⟨r, C1, R1, hc1, hc2, hR1⟩ := ops.2.2.2.2.2.2.2.2.2.2.2 (xs (j + 1)) (xs (j + 2)) C R hR
      refine lv_aload_n hx hb dd_law_403 rfl (lv_at hl 1 rfl) ?_
      refine lv_aload_n hx hb dd_law_404 rfl (lv_at hl 0 rfl) ?_
      refine lv_iload_n hx hb dd_law_405 rfl (lv_at hl 3 rfl) ?_
      refine lv_iconst (v := nI 1) hx hb dd_law_406 (by decide) ?_
      refine lv_iadd hx hb dd_law_407 ?_
      rw [nI_add]
      refine lw_sld hx hb hXs hbl hbA G (by omega) (by omega) dd_law_408 ?_
      refine W.eq (g2 := F0 m 409 _ _) rfl ?_
      refine lv_aload_n hx hb dd_law_409 rfl (lv_at hl 0 rfl) ?_
      refine lv_iload_n hx hb dd_law_410 rfl (lv_at hl 3 rfl) ?_
      refine lv_iconst (v := nI 2) hx hb dd_law_411 (by decide) ?_
      refine lv_iadd hx hb dd_law_412 ?_
      rw [nI_add]
      refine lw_sld hx hb hXs hbl hbA G (by omega) (by omega) dd_law_413 ?_
      refine W.eq (g2 := F0 m 414 _ _) rfl ?_
      refine gw_ci G (va_runV (As := [.int (xs (j + 1)), .int (xs (j + 2))]) (rest := []) ⟨hx, hb, hml, hown, hts⟩ (ct_am_data l X R C 0 (xs (j + 1)) (xs (j + 2)) (by decide : gc_k 0 = (2, 0)) _ hc1) (cwV 2 hts (gw_gVL kw_585 kw_586 kw_587 kw_107 kw_588) rfl rfl rfl (by decide +kernel) ⟨Nat.le_of_ble_eq_true rfl, Nat.le_of_ble_eq_true rfl⟩) ⟨gw_blind, gw_recv_am hK G (by decide : gc_k 0 = (2, 0)), gw_pre hK G⟩ rfl rfl hl.1 rfl (Nat.le_of_ble_eq_true rfl) dd_law_414 ⟨Nat.le_of_ble_eq_true rfl, Nat.le_of_ble_eq_true rfl⟩) (fun H locs G => ?_)
      refine lv_aload_n hx hb dd_law_417 rfl (lv_at hl 2 rfl) ?_
      refine lv_aload_n hx hb dd_law_418 rfl (lv_at hl 0 rfl) ?_
      refine lv_iload_n hx hb dd_law_419 rfl (lv_at hl 3 rfl) ?_
      refine lv_iconst (v := nI 1) hx hb dd_law_420 (by decide) ?_
      refine lv_iadd hx hb dd_law_421 ?_
      rw [nI_add]
      refine lw_sld hx hb hXs hbl hbA G (by omega) (by omega) dd_law_422 ?_
      refine W.eq (g2 := F0 m 423 _ _) rfl ?_
      refine lv_aload_n hx hb dd_law_423 rfl (lv_at hl 0 rfl) ?_
      refine lv_iload_n hx hb dd_law_424 rfl (lv_at hl 3 rfl) ?_
      refine lv_iconst (v := nI 2) hx hb dd_law_425 (by decide) ?_
      refine lv_iadd hx hb dd_law_426 ?_
      rw [nI_add]
      refine lw_sld hx hb hXs hbl hbA G (by omega) (by omega) dd_law_427 ?_
      refine W.eq (g2 := F0 m 428 _ _) rfl ?_
      refine gw_ci G (va_runV (As := [.int (xs (j + 1)), .int (xs (j + 2))]) (rest := [.int r]) ⟨hx, hb, hml, hown, hts⟩ (ct_mo_data l X C1 R 0 (xs (j + 1)) (xs (j + 2)) (by decide : gr_k 0 = (11, 0)) _ hc2) (cwV 2 hts (gw_gVL kw_589 kw_590 kw_591 kw_253 kw_592) rfl rfl rfl (by decide +kernel) ⟨Nat.le_of_ble_eq_true rfl, Nat.le_of_ble_eq_true rfl⟩) ⟨gw_blind, gw_recv_mo hK G (by decide : gr_k 0 = (11, 0)), gw_pre hK G⟩ rfl rfl hl.1 rfl (Nat.le_of_ble_eq_true rfl) dd_law_428 ⟨Nat.le_of_ble_eq_true rfl, Nat.le_of_ble_eq_true rfl⟩) (fun H locs G => ?_)
      refine lv_icmp_eq (tgt := 436) hx hb dd_law_431 (by decide) (fun _ => ?_) (fun h => absurd rfl h)
      exact tail C1 R1 H locs hR1 G
    have n0 := gw_ne (c := (0 : Int32)) (n := 0) (by decide) q0
    have n1 := gw_ne (c := (1 : Int32)) (n := 1) (by decide) q1
    have n2 := gw_ne (c := (2 : Int32)) (n := 2) (by decide) q2
    have n3 := gw_ne (c := (3 : Int32)) (n := 3) (by decide) q3
    have n4 := gw_ne (c := (4 : Int32)) (n := 4) (by decide) q4
    have n5 := gw_ne (c := (5 : Int32)) (n := 5) (by decide) q5
    have n6 := gw_ne (c := (6 : Int32)) (n := 6) (by decide) q6
    have n7 := gw_ne (c := (7 : Int32)) (n := 7) (by decide) q7
    have n8 := gw_ne (c := (8 : Int32)) (n := 8) (by decide) q8
    have n9 := gw_ne (c := (9 : Int32)) (n := 9) (by decide) q9
    have n10 := gw_ne (c := (10 : Int32)) (n := 10) (by decide) q10
    have n11 := gw_ne (c := (11 : Int32)) (n := 11) (by decide) q11
    refine lv_tableOut (tgt := 436) hx hb dd_law_33 (by omega) (by decide) ?_
    exact tail C R H locs hR G
