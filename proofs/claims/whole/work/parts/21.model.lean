/-! AccountMachineModel.in(JJJ)Z -/
abbrev rm_mo_in : Room := { frames := 0, cells := 0, slots := 0, locals := 0 }
theorem dd_mo_in_0 : decode by_mo_in 0 = .ok (.lload_n 0, 1) := by decide +kernel
theorem dd_mo_in_1 : decode by_mo_in 1 = .ok (.lload_n 2, 1) := by decide +kernel
theorem dd_mo_in_2 : decode by_mo_in 2 = .ok (.lcmp, 1) := by decide +kernel
theorem dd_mo_in_3 : decode by_mo_in 3 = .ok (.ifCond .lt 14, 3) := by decide +kernel
theorem dd_mo_in_6 : decode by_mo_in 6 = .ok (.lload_n 0, 1) := by decide +kernel
theorem dd_mo_in_7 : decode by_mo_in 7 = .ok (.lload 4, 2) := by decide +kernel
theorem dd_mo_in_9 : decode by_mo_in 9 = .ok (.lcmp, 1) := by decide +kernel
theorem dd_mo_in_10 : decode by_mo_in 10 = .ok (.ifCond .gt 7, 3) := by decide +kernel
theorem dd_mo_in_13 : decode by_mo_in 13 = .ok (.iconst 1, 1) := by decide +kernel
theorem dd_mo_in_14 : decode by_mo_in 14 = .ok (.goto 4, 3) := by decide +kernel
theorem dd_mo_in_17 : decode by_mo_in 17 = .ok (.iconst 0, 1) := by decide +kernel
theorem dd_mo_in_18 : decode by_mo_in 18 = .ok (.ireturn, 1) := by decide +kernel
def mo_in_b0 (M : gw_M) (v0 : Int64) (v2 : Int64) (v4 : Int64) : Option (Int32 × gw_M) :=
  if (lg_cmp v0 v2) < (0 : Int32) then (some ((0 : Int32), M)) else (if (0 : Int32) < (lg_cmp v0 v4) then (some ((0 : Int32), M)) else (some ((1 : Int32), M)))
set_option maxRecDepth 100000 in
set_option maxHeartbeats 4000000 in
theorem wb_mo_in_0 {p : Program} {l : Launch} {e : Env} {s : State} {m : MethodId} {args : Array Value} {below : List Frame} {meth : Method} {c : Code} {X : gw_X} {Y : gw_M} {z : (Int32 × gw_M)} (C0 : gw_C ((Cond.code yy_mo_in by_mo_in 6 (some .boolean)) :: gw_w) by_mo_in 6 (some .boolean) "AccountMachineModel" X p s m args meth c) (M : gw_M) (v0 : Int64) (v2 : Int64) (v4 : Int64) (H : Heap) (locs : List Loc) (ls : Array Slot) (G : gw_G X (gw_E X Y M) s H locs) (hl : lv_has ls 6 [(0, .long v0), (2, .long v2), (4, .long v4)]) (hF : mo_in_b0  M v0 v2 v4 = some z) : W p l e rm_mo_in s m args below meth c H locs 0 0 (MQ below (gw_Qi X (fun M => (gw_E X Y M)) z) args s 0 0 (gw_A X)) (F0 m 0 ls []) := by
  obtain ⟨hx, hb, hml, hown, hts, hr, hlocks, hK⟩ := id C0
  have hg : ∀ w ∈ gw_w, w.before args s = true := fun w h => hts w (List.mem_cons_of_mem _ h)
  unfold mo_in_b0 at hF
  refine lv_lload_n hx hb dd_mo_in_0 rfl (lv_at hl 0 rfl) ?_
  refine lv_lload_n hx hb dd_mo_in_1 rfl (lv_at hl 1 rfl) ?_
  refine W.lcmp hx hb dd_mo_in_2 ?_
  refine lv_if_lt (tgt := 17) hx hb dd_mo_in_3 (by decide) (fun h3 => ?_) (fun h3 => ?_)
  · replace hF := gw_et h3 hF
    refine lv_iconst (v := (0 : Int32)) hx hb dd_mo_in_17 (by decide) ?_
    exact W.zret hx hb hr (by decide) (fun t ht hW => gw_endi (EF := (fun M => (gw_E X Y M))) (M := M) G ht hF) G.2.2.2.2 dd_mo_in_18 hlocks
  · replace hF := gw_ef h3 hF
    refine lv_lload_n hx hb dd_mo_in_6 rfl (lv_at hl 0 rfl) ?_
    refine lv_lload hx hb dd_mo_in_7 (lv_at hl 2 rfl) ?_
    refine W.lcmp hx hb dd_mo_in_9 ?_
    refine lv_if_gt (tgt := 17) hx hb dd_mo_in_10 (by decide) (fun h10 => ?_) (fun h10 => ?_)
    · replace hF := gw_et h10 hF
      refine lv_iconst (v := (0 : Int32)) hx hb dd_mo_in_17 (by decide) ?_
      exact W.zret hx hb hr (by decide) (fun t ht hW => gw_endi (EF := (fun M => (gw_E X Y M))) (M := M) G ht hF) G.2.2.2.2 dd_mo_in_18 hlocks
    · replace hF := gw_ef h10 hF
      refine lv_iconst (v := (1 : Int32)) hx hb dd_mo_in_13 (by decide) ?_
      refine lv_goto (tgt := 18) hx hb dd_mo_in_14 (by decide) ?_
      exact W.zret hx hb hr (by decide) (fun t ht hW => gw_endi (EF := (fun M => (gw_E X Y M))) (M := M) G ht hF) G.2.2.2.2 dd_mo_in_18 hlocks
set_option maxRecDepth 100000 in
set_option maxHeartbeats 4000000 in
theorem ct_mo_in (l : Launch) (X : gw_X) (Y : gw_M) (M : gw_M) (v0 : Int64) (v2 : Int64) (v4 : Int64) (z : (Int32 × gw_M)) (hF : mo_in_b0 M v0 v2 v4 = some z) : Met l yy_mo_in ((Cond.code yy_mo_in by_mo_in 6 (some .boolean)) :: gw_w) rm_mo_in (va_Pc [.long v0, .long v2, .long v4] (gw_B X (gw_E X Y M))) (gw_Qi X (fun M => (gw_E X Y M)) z) 0 0 (gw_A X) := by
  refine Met.ofW (cc := by_mo_in) (maxL := 6) (ret := (some .boolean)) (by decide) rfl ?_
  intro p e s m args below meth c s₁ B hml hv
  obtain ⟨rfl, hB⟩ := hv
  rw [lg_entry_eq]
  have hl := lv_entry ([.long v0, .long v2, .long v4]) (n := 6) (Nat.le_of_ble_eq_true rfl)
  generalize (lg_sl ([.long v0, .long v2, .long v4]) ++ List.replicate (6 - (lg_sl ([.long v0, .long v2, .long v4])).length) Slot.unset).toArray = ls at hl ⊢
  have hl : lv_has ls 6 [(0, .long v0), (2, .long v2), (4, .long v4)] := hl
  exact wb_mo_in_0 (gw_ctx B hml rfl hB) M v0 v2 v4 _ _ _  (gw_start hB) hl hF
/-! AccountMachineModel.code(IIIIII)I -/
abbrev rm_mo_code : Room := { frames := 1, cells := 0, slots := 0, locals := 25 }
theorem dd_mo_code_0 : decode by_mo_code 0 = .ok (.iload_n 1, 1) := by decide +kernel
theorem dd_mo_code_1 : decode by_mo_code 1 = .ok (.i2l, 1) := by decide +kernel
theorem dd_mo_code_2 : decode by_mo_code 2 = .ok (.lconst 1, 1) := by decide +kernel
theorem dd_mo_code_3 : decode by_mo_code 3 = .ok (.ldc2_w 81, 3) := by decide +kernel
theorem dd_mo_code_6 : decode by_mo_code 6 = .ok (.invokestatic 83, 3) := by decide +kernel
theorem dd_mo_code_9 : decode by_mo_code 9 = .ok (.ifCond .ne 5, 3) := by decide +kernel
theorem dd_mo_code_12 : decode by_mo_code 12 = .ok (.iconst (-1), 1) := by decide +kernel
theorem dd_mo_code_13 : decode by_mo_code 13 = .ok (.ireturn, 1) := by decide +kernel
theorem dd_mo_code_14 : decode by_mo_code 14 = .ok (.aload_n 0, 1) := by decide +kernel
theorem dd_mo_code_15 : decode by_mo_code 15 = .ok (.getfield 22, 3) := by decide +kernel
theorem dd_mo_code_18 : decode by_mo_code 18 = .ok (.iload_n 1, 1) := by decide +kernel
theorem dd_mo_code_19 : decode by_mo_code 19 = .ok (.iconst 1, 1) := by decide +kernel
theorem dd_mo_code_20 : decode by_mo_code 20 = .ok (.isub, 1) := by decide +kernel
theorem dd_mo_code_21 : decode by_mo_code 21 = .ok (.iaload, 1) := by decide +kernel
theorem dd_mo_code_22 : decode by_mo_code 22 = .ok (.bipush 32, 2) := by decide +kernel
theorem dd_mo_code_24 : decode by_mo_code 24 = .ok (.if_icmp .ne 5, 3) := by decide +kernel
theorem dd_mo_code_27 : decode by_mo_code 27 = .ok (.iconst (-1), 1) := by decide +kernel
theorem dd_mo_code_28 : decode by_mo_code 28 = .ok (.ireturn, 1) := by decide +kernel
theorem dd_mo_code_29 : decode by_mo_code 29 = .ok (.bipush 32, 2) := by decide +kernel
theorem dd_mo_code_31 : decode by_mo_code 31 = .ok (.iload_n 1, 1) := by decide +kernel
theorem dd_mo_code_32 : decode by_mo_code 32 = .ok (.iconst 1, 1) := by decide +kernel
theorem dd_mo_code_33 : decode by_mo_code 33 = .ok (.isub, 1) := by decide +kernel
theorem dd_mo_code_34 : decode by_mo_code 34 = .ok (.imul, 1) := by decide +kernel
theorem dd_mo_code_35 : decode by_mo_code 35 = .ok (.aload_n 0, 1) := by decide +kernel
theorem dd_mo_code_36 : decode by_mo_code 36 = .ok (.getfield 22, 3) := by decide +kernel
theorem dd_mo_code_39 : decode by_mo_code 39 = .ok (.iload_n 1, 1) := by decide +kernel
theorem dd_mo_code_40 : decode by_mo_code 40 = .ok (.iconst 1, 1) := by decide +kernel
theorem dd_mo_code_41 : decode by_mo_code 41 = .ok (.isub, 1) := by decide +kernel
theorem dd_mo_code_42 : decode by_mo_code 42 = .ok (.iaload, 1) := by decide +kernel
theorem dd_mo_code_43 : decode by_mo_code 43 = .ok (.iadd, 1) := by decide +kernel
theorem dd_mo_code_44 : decode by_mo_code 44 = .ok (.istore 7, 2) := by decide +kernel
theorem dd_mo_code_46 : decode by_mo_code 46 = .ok (.aload_n 0, 1) := by decide +kernel
theorem dd_mo_code_47 : decode by_mo_code 47 = .ok (.getfield 29, 3) := by decide +kernel
theorem dd_mo_code_50 : decode by_mo_code 50 = .ok (.iload 7, 2) := by decide +kernel
theorem dd_mo_code_52 : decode by_mo_code 52 = .ok (.iload_n 2, 1) := by decide +kernel
theorem dd_mo_code_53 : decode by_mo_code 53 = .ok (.iastore, 1) := by decide +kernel
theorem dd_mo_code_54 : decode by_mo_code 54 = .ok (.aload_n 0, 1) := by decide +kernel
theorem dd_mo_code_55 : decode by_mo_code 55 = .ok (.getfield 32, 3) := by decide +kernel
theorem dd_mo_code_58 : decode by_mo_code 58 = .ok (.iload 7, 2) := by decide +kernel
theorem dd_mo_code_60 : decode by_mo_code 60 = .ok (.iload_n 3, 1) := by decide +kernel
theorem dd_mo_code_61 : decode by_mo_code 61 = .ok (.iastore, 1) := by decide +kernel
theorem dd_mo_code_62 : decode by_mo_code 62 = .ok (.aload_n 0, 1) := by decide +kernel
theorem dd_mo_code_63 : decode by_mo_code 63 = .ok (.getfield 35, 3) := by decide +kernel
theorem dd_mo_code_66 : decode by_mo_code 66 = .ok (.iload 7, 2) := by decide +kernel
theorem dd_mo_code_68 : decode by_mo_code 68 = .ok (.iload 4, 2) := by decide +kernel
theorem dd_mo_code_70 : decode by_mo_code 70 = .ok (.iastore, 1) := by decide +kernel
theorem dd_mo_code_71 : decode by_mo_code 71 = .ok (.aload_n 0, 1) := by decide +kernel
theorem dd_mo_code_72 : decode by_mo_code 72 = .ok (.getfield 38, 3) := by decide +kernel
theorem dd_mo_code_75 : decode by_mo_code 75 = .ok (.iload 7, 2) := by decide +kernel
theorem dd_mo_code_77 : decode by_mo_code 77 = .ok (.iload 5, 2) := by decide +kernel
theorem dd_mo_code_79 : decode by_mo_code 79 = .ok (.iastore, 1) := by decide +kernel
theorem dd_mo_code_80 : decode by_mo_code 80 = .ok (.aload_n 0, 1) := by decide +kernel
theorem dd_mo_code_81 : decode by_mo_code 81 = .ok (.getfield 41, 3) := by decide +kernel
theorem dd_mo_code_84 : decode by_mo_code 84 = .ok (.iload 7, 2) := by decide +kernel
theorem dd_mo_code_86 : decode by_mo_code 86 = .ok (.iload 6, 2) := by decide +kernel
theorem dd_mo_code_88 : decode by_mo_code 88 = .ok (.iastore, 1) := by decide +kernel
theorem dd_mo_code_89 : decode by_mo_code 89 = .ok (.aload_n 0, 1) := by decide +kernel
theorem dd_mo_code_90 : decode by_mo_code 90 = .ok (.getfield 22, 3) := by decide +kernel
theorem dd_mo_code_93 : decode by_mo_code 93 = .ok (.iload_n 1, 1) := by decide +kernel
theorem dd_mo_code_94 : decode by_mo_code 94 = .ok (.iconst 1, 1) := by decide +kernel
theorem dd_mo_code_95 : decode by_mo_code 95 = .ok (.isub, 1) := by decide +kernel
theorem dd_mo_code_96 : decode by_mo_code 96 = .ok (.dup2, 1) := by decide +kernel
theorem dd_mo_code_97 : decode by_mo_code 97 = .ok (.iaload, 1) := by decide +kernel
theorem dd_mo_code_98 : decode by_mo_code 98 = .ok (.iconst 1, 1) := by decide +kernel
theorem dd_mo_code_99 : decode by_mo_code 99 = .ok (.iadd, 1) := by decide +kernel
theorem dd_mo_code_100 : decode by_mo_code 100 = .ok (.iastore, 1) := by decide +kernel
theorem dd_mo_code_101 : decode by_mo_code 101 = .ok (.aload_n 0, 1) := by decide +kernel
theorem dd_mo_code_102 : decode by_mo_code 102 = .ok (.getfield 25, 3) := by decide +kernel
theorem dd_mo_code_105 : decode by_mo_code 105 = .ok (.iload_n 1, 1) := by decide +kernel
theorem dd_mo_code_106 : decode by_mo_code 106 = .ok (.iconst 1, 1) := by decide +kernel
theorem dd_mo_code_107 : decode by_mo_code 107 = .ok (.isub, 1) := by decide +kernel
theorem dd_mo_code_108 : decode by_mo_code 108 = .ok (.iconst 0, 1) := by decide +kernel
theorem dd_mo_code_109 : decode by_mo_code 109 = .ok (.bastore, 1) := by decide +kernel
theorem dd_mo_code_110 : decode by_mo_code 110 = .ok (.aload_n 0, 1) := by decide +kernel
theorem dd_mo_code_111 : decode by_mo_code 111 = .ok (.getfield 22, 3) := by decide +kernel
theorem dd_mo_code_114 : decode by_mo_code 114 = .ok (.iload_n 1, 1) := by decide +kernel
theorem dd_mo_code_115 : decode by_mo_code 115 = .ok (.iconst 1, 1) := by decide +kernel
theorem dd_mo_code_116 : decode by_mo_code 116 = .ok (.isub, 1) := by decide +kernel
theorem dd_mo_code_117 : decode by_mo_code 117 = .ok (.iaload, 1) := by decide +kernel
theorem dd_mo_code_118 : decode by_mo_code 118 = .ok (.iconst 1, 1) := by decide +kernel
theorem dd_mo_code_119 : decode by_mo_code 119 = .ok (.isub, 1) := by decide +kernel
theorem dd_mo_code_120 : decode by_mo_code 120 = .ok (.ireturn, 1) := by decide +kernel
def mo_code_b0 (M : gw_M) (a0 : Nat) (v1 : Int32) (v2 : Int32) (v3 : Int32) (v4 : Int32) (v5 : Int32) (v6 : Int32) : Option (Int32 × gw_M) :=
  gw_bd (mo_in_b0 M v1.toInt64 (1 : Int64) (3 : Int64)) (fun r6 M6 => if r6 = (0 : Int32) then (some ((-1 : Int32), M6)) else (gw_gu (gw_in (v1 - (1 : Int32)) 3) (if (M6.1 (a0 + 5) ((v1 - (1 : Int32)).toNatClampNeg)) = (32 : Int32) then (some ((-1 : Int32), M6)) else (gw_gu (gw_in (v1 - (1 : Int32)) 3) (gw_lt (((32 : Int32) * (v1 - (1 : Int32))) + (M6.1 (a0 + 5) ((v1 - (1 : Int32)).toNatClampNeg))) (fun x44 => gw_gu (gw_in x44 96) (gw_lt (gw_sI M6 (a0 + 7) x44.toNatClampNeg v2) (fun M53 => gw_gu (gw_in x44 96) (gw_lt (gw_sI M53 (a0 + 8) x44.toNatClampNeg v3) (fun M61 => gw_gu (gw_in x44 96) (gw_lt (gw_sI M61 (a0 + 9) x44.toNatClampNeg v4) (fun M70 => gw_gu (gw_in x44 96) (gw_lt (gw_sI M70 (a0 + 10) x44.toNatClampNeg v5) (fun M79 => gw_gu (gw_in x44 96) (gw_lt (gw_sI M79 (a0 + 11) x44.toNatClampNeg v6) (fun M88 => gw_gu (gw_in (v1 - (1 : Int32)) 3) (gw_gu (gw_in (v1 - (1 : Int32)) 3) (gw_lt (gw_sI M88 (a0 + 5) ((v1 - (1 : Int32)).toNatClampNeg) ((M88.1 (a0 + 5) ((v1 - (1 : Int32)).toNatClampNeg)) + (1 : Int32))) (fun M100 => gw_gu (gw_in (v1 - (1 : Int32)) 3) (gw_lt (gw_sI M100 (a0 + 6) ((v1 - (1 : Int32)).toNatClampNeg) (vp_nar .boolean (0 : Int32))) (fun M109 => gw_gu (gw_in (v1 - (1 : Int32)) 3) (some ((M109.1 (a0 + 5) ((v1 - (1 : Int32)).toNatClampNeg)) - (1 : Int32), M109)))))))))))))))))))))))
set_option maxRecDepth 100000 in
set_option maxHeartbeats 4000000 in
theorem wb_mo_code_0 {p : Program} {l : Launch} {e : Env} {s : State} {m : MethodId} {args : Array Value} {below : List Frame} {meth : Method} {c : Code} {X : gw_X} {Y : gw_M} {z : (Int32 × gw_M)} (C0 : gw_C ((Cond.code yy_mo_code by_mo_code 8 (some .int)) :: gw_w) by_mo_code 8 (some .int) "AccountMachineModel" X p s m args meth c) (M : gw_M) (a0 : Nat) (v1 : Int32) (v2 : Int32) (v3 : Int32) (v4 : Int32) (v5 : Int32) (v6 : Int32) (H : Heap) (locs : List Loc) (ls : Array Slot) (ha0 : gr_k a0 = (11, 0)) (G : gw_G X (gw_E X Y M) s H locs) (hl : lv_has ls 8 [(0, .ref (gr_a X a0)), (1, .int v1), (2, .int v2), (3, .int v3), (4, .int v4), (5, .int v5), (6, .int v6)]) (hF : mo_code_b0  M a0 v1 v2 v3 v4 v5 v6 = some z) : W p l e rm_mo_code s m args below meth c H locs 0 0 (MQ below (gw_Qi X (fun M => (gw_E X Y M)) z) args s 0 0 (gw_A X)) (F0 m 0 ls []) := by
  obtain ⟨hx, hb, hml, hown, hts, hr, hlocks, hK⟩ := id C0
  have hg : ∀ w ∈ gw_w, w.before args s = true := fun w h => hts w (List.mem_cons_of_mem _ h)
  unfold mo_code_b0 at hF
  refine lv_iload_n hx hb dd_mo_code_0 rfl (lv_at hl 1 rfl) ?_
  refine lv_i2l (v := v1.toInt64) hx hb dd_mo_code_1 rfl ?_
  refine lv_lconst (v := (1 : Int64)) hx hb dd_mo_code_2 (by decide) ?_
  refine lv_ldc2 (v := (3 : Int64)) hx hb hown (hg _ kw_249) dd_mo_code_3 ?_
  obtain ⟨r6, M6, hc6, hF⟩ := gw_be hF
  refine gw_ci G (va_runS (As := [.long v1.toInt64, .long (1 : Int64), .long (3 : Int64)]) (rest := []) ⟨hx, hb, hml, hown, hts⟩ (ct_mo_in l X Y M v1.toInt64 (1 : Int64) (3 : Int64)  _ hc6) (cwS 3 hts (gw_gS kw_251 kw_252 kw_253 kw_250) rfl rfl rfl (by decide +kernel) ⟨Nat.le_of_ble_eq_true rfl, Nat.le_of_ble_eq_true rfl⟩) ⟨gw_blind, gw_pre hK G⟩ rfl rfl hl.1 rfl (Nat.le_of_ble_eq_true rfl) dd_mo_code_6 ⟨Nat.le_of_ble_eq_true rfl, Nat.le_of_ble_eq_true rfl⟩) (fun H locs G => ?_)
  refine lv_if_ne (tgt := 14) hx hb dd_mo_code_9 (by decide) (fun h9 => ?_) (fun h9 => ?_)
  · replace hF := gw_ef h9 hF
    refine lv_aload_n hx hb dd_mo_code_14 rfl (lv_at hl 0 rfl) ?_
    refine gf_mo_length hx hb hg hown (hg _ kw_254) hK G ha0 dd_mo_code_15 ?_
    refine lv_iload_n hx hb dd_mo_code_18 rfl (lv_at hl 1 rfl) ?_
    refine lv_iconst (v := (1 : Int32)) hx hb dd_mo_code_19 (by decide) ?_
    refine lv_isub hx hb dd_mo_code_20 ?_
    obtain ⟨h21, hF⟩ := gw_gd hF
    refine gr_iald hx hb hK G (gq_mo_length ha0) (gw_vp h21) (j := (v1 - (1 : Int32)).toNatClampNeg) rfl dd_mo_code_21 ?_
    refine lv_bipush (v := (32 : Int32)) hx hb dd_mo_code_22 (by decide) ?_
    refine lv_icmp_ne (tgt := 29) hx hb dd_mo_code_24 (by decide) (fun h24 => ?_) (fun h24 => ?_)
    · replace hF := gw_ef h24 hF
      refine lv_bipush (v := (32 : Int32)) hx hb dd_mo_code_29 (by decide) ?_
      refine lv_iload_n hx hb dd_mo_code_31 rfl (lv_at hl 1 rfl) ?_
      refine lv_iconst (v := (1 : Int32)) hx hb dd_mo_code_32 (by decide) ?_
      refine lv_isub hx hb dd_mo_code_33 ?_
      refine lv_imul hx hb dd_mo_code_34 ?_
      refine lv_aload_n hx hb dd_mo_code_35 rfl (lv_at hl 0 rfl) ?_
      refine gf_mo_length hx hb hg hown (hg _ kw_254) hK G ha0 dd_mo_code_36 ?_
      refine lv_iload_n hx hb dd_mo_code_39 rfl (lv_at hl 1 rfl) ?_
      refine lv_iconst (v := (1 : Int32)) hx hb dd_mo_code_40 (by decide) ?_
      refine W.eq (g2 := F0 m 41 _ _) rfl ?_
      refine lv_isub hx hb dd_mo_code_41 ?_
      obtain ⟨h42, hF⟩ := gw_gd hF
      refine gr_iald hx hb hK G (gq_mo_length ha0) (gw_vp h42) (j := (v1 - (1 : Int32)).toNatClampNeg) rfl dd_mo_code_42 ?_
      refine lv_iadd hx hb dd_mo_code_43 ?_
      refine lv_topi (fun x44 e44 => ?_)
      replace hF := gw_ly e44 hF
      refine lv_istore (i := 7) (lv' := [(7, .int x44), (0, .ref (gr_a X a0)), (1, .int v1), (2, .int v2), (3, .int v3), (4, .int v4), (5, .int v5), (6, .int v6)]) hx hb dd_mo_code_44 hl (by decide) rfl (fun ls hl => ?_)
      refine lv_aload_n hx hb dd_mo_code_46 rfl (lv_at hl 1 rfl) ?_
      refine gf_mo_kinds hx hb hg hown (hg _ kw_255) hK G ha0 dd_mo_code_47 ?_
      refine lv_iload hx hb dd_mo_code_50 (lv_at hl 0 rfl) ?_
      refine lv_iload_n hx hb dd_mo_code_52 rfl (lv_at hl 3 rfl) ?_
      obtain ⟨h53, hF⟩ := gw_gd hF
      refine gr_iast hx hb hK G (gq_mo_kinds ha0) (gw_vp h53) (j := x44.toNatClampNeg) rfl dd_mo_code_53 (fun M53 H locs e53 G => ?_)
      replace hF := gw_ly e53 hF
      refine lv_aload_n hx hb dd_mo_code_54 rfl (lv_at hl 1 rfl) ?_
      refine W.eq (g2 := F0 m 55 _ _) rfl ?_
      refine gf_mo_lefts hx hb hg hown (hg _ kw_256) hK G ha0 dd_mo_code_55 ?_
      refine lv_iload hx hb dd_mo_code_58 (lv_at hl 0 rfl) ?_
      refine lv_iload_n hx hb dd_mo_code_60 rfl (lv_at hl 4 rfl) ?_
      obtain ⟨h61, hF⟩ := gw_gd hF
      refine gr_iast hx hb hK G (gq_mo_lefts ha0) (gw_vp h61) (j := x44.toNatClampNeg) rfl dd_mo_code_61 (fun M61 H locs e61 G => ?_)
      replace hF := gw_ly e61 hF
      refine lv_aload_n hx hb dd_mo_code_62 rfl (lv_at hl 1 rfl) ?_
      refine gf_mo_rights hx hb hg hown (hg _ kw_257) hK G ha0 dd_mo_code_63 ?_
      refine lv_iload hx hb dd_mo_code_66 (lv_at hl 0 rfl) ?_
      refine lv_iload hx hb dd_mo_code_68 (lv_at hl 5 rfl) ?_
      obtain ⟨h70, hF⟩ := gw_gd hF
      refine gr_iast hx hb hK G (gq_mo_rights ha0) (gw_vp h70) (j := x44.toNatClampNeg) rfl dd_mo_code_70 (fun M70 H locs e70 G => ?_)
      replace hF := gw_ly e70 hF
      refine lv_aload_n hx hb dd_mo_code_71 rfl (lv_at hl 1 rfl) ?_
      refine W.eq (g2 := F0 m 72 _ _) rfl ?_
      refine gf_mo_offsets hx hb hg hown (hg _ kw_258) hK G ha0 dd_mo_code_72 ?_
      refine lv_iload hx hb dd_mo_code_75 (lv_at hl 0 rfl) ?_
      refine lv_iload hx hb dd_mo_code_77 (lv_at hl 6 rfl) ?_
      obtain ⟨h79, hF⟩ := gw_gd hF
      refine gr_iast hx hb hK G (gq_mo_offsets ha0) (gw_vp h79) (j := x44.toNatClampNeg) rfl dd_mo_code_79 (fun M79 H locs e79 G => ?_)
      replace hF := gw_ly e79 hF
      refine lv_aload_n hx hb dd_mo_code_80 rfl (lv_at hl 1 rfl) ?_
      refine gf_mo_numbers hx hb hg hown (hg _ kw_259) hK G ha0 dd_mo_code_81 ?_
      refine lv_iload hx hb dd_mo_code_84 (lv_at hl 0 rfl) ?_
      refine lv_iload hx hb dd_mo_code_86 (lv_at hl 7 rfl) ?_
      obtain ⟨h88, hF⟩ := gw_gd hF
      refine gr_iast hx hb hK G (gq_mo_numbers ha0) (gw_vp h88) (j := x44.toNatClampNeg) rfl dd_mo_code_88 (fun M88 H locs e88 G => ?_)
      replace hF := gw_ly e88 hF
      refine lv_aload_n hx hb dd_mo_code_89 rfl (lv_at hl 1 rfl) ?_
      refine W.eq (g2 := F0 m 90 _ _) rfl ?_
      refine gf_mo_length hx hb hg hown (hg _ kw_254) hK G ha0 dd_mo_code_90 ?_
      refine lv_iload_n hx hb dd_mo_code_93 rfl (lv_at hl 2 rfl) ?_
      refine lv_iconst (v := (1 : Int32)) hx hb dd_mo_code_94 (by decide) ?_
      refine lv_isub hx hb dd_mo_code_95 ?_
      refine lv_dup2_11 hx hb dd_mo_code_96 rfl rfl ?_
      obtain ⟨h97, hF⟩ := gw_gd hF
      refine gr_iald hx hb hK G (gq_mo_length ha0) (gw_vp h97) (j := (v1 - (1 : Int32)).toNatClampNeg) rfl dd_mo_code_97 ?_
      refine lv_iconst (v := (1 : Int32)) hx hb dd_mo_code_98 (by decide) ?_
      refine lv_iadd hx hb dd_mo_code_99 ?_
      obtain ⟨h100, hF⟩ := gw_gd hF
      refine gr_iast hx hb hK G (gq_mo_length ha0) (gw_vp h100) (j := (v1 - (1 : Int32)).toNatClampNeg) rfl dd_mo_code_100 (fun M100 H locs e100 G => ?_)
      replace hF := gw_ly e100 hF
      refine lv_aload_n hx hb dd_mo_code_101 rfl (lv_at hl 1 rfl) ?_
      refine W.eq (g2 := F0 m 102 _ _) rfl ?_
      refine gf_mo_loaded hx hb hg hown (hg _ kw_260) hK G ha0 dd_mo_code_102 ?_
      refine lv_iload_n hx hb dd_mo_code_105 rfl (lv_at hl 2 rfl) ?_
      refine lv_iconst (v := (1 : Int32)) hx hb dd_mo_code_106 (by decide) ?_
      refine lv_isub hx hb dd_mo_code_107 ?_
      refine lv_iconst (v := (0 : Int32)) hx hb dd_mo_code_108 (by decide) ?_
      obtain ⟨h109, hF⟩ := gw_gd hF
      refine gr_zast hx hb hK G (gq_mo_loaded ha0) (gw_vp h109) (j := (v1 - (1 : Int32)).toNatClampNeg) rfl dd_mo_code_109 (fun M109 H locs e109 G => ?_)
      replace hF := gw_ly e109 hF
      refine lv_aload_n hx hb dd_mo_code_110 rfl (lv_at hl 1 rfl) ?_
      refine gf_mo_length hx hb hg hown (hg _ kw_254) hK G ha0 dd_mo_code_111 ?_
      refine lv_iload_n hx hb dd_mo_code_114 rfl (lv_at hl 2 rfl) ?_
      refine lv_iconst (v := (1 : Int32)) hx hb dd_mo_code_115 (by decide) ?_
      refine W.eq (g2 := F0 m 116 _ _) rfl ?_
      refine lv_isub hx hb dd_mo_code_116 ?_
      obtain ⟨h117, hF⟩ := gw_gd hF
      refine gr_iald hx hb hK G (gq_mo_length ha0) (gw_vp h117) (j := (v1 - (1 : Int32)).toNatClampNeg) rfl dd_mo_code_117 ?_
      refine lv_iconst (v := (1 : Int32)) hx hb dd_mo_code_118 (by decide) ?_
      refine lv_isub hx hb dd_mo_code_119 ?_
      exact W.iret hx hb hr (fun t ht hW => gw_endi (EF := (fun M => (gw_E X Y M))) (M := M109) G ht hF) G.2.2.2.2 dd_mo_code_120 hlocks
    · replace hF := gw_et h24 hF
      refine lv_iconst (v := (-1 : Int32)) hx hb dd_mo_code_27 (by decide) ?_
      exact W.iret hx hb hr (fun t ht hW => gw_endi (EF := (fun M => (gw_E X Y M))) (M := M6) G ht hF) G.2.2.2.2 dd_mo_code_28 hlocks
  · replace hF := gw_et h9 hF
    refine lv_iconst (v := (-1 : Int32)) hx hb dd_mo_code_12 (by decide) ?_
    exact W.iret hx hb hr (fun t ht hW => gw_endi (EF := (fun M => (gw_E X Y M))) (M := M6) G ht hF) G.2.2.2.2 dd_mo_code_13 hlocks
set_option maxRecDepth 100000 in
set_option maxHeartbeats 4000000 in
theorem ct_mo_code (l : Launch) (X : gw_X) (Y : gw_M) (M : gw_M) (a0 : Nat) (v1 : Int32) (v2 : Int32) (v3 : Int32) (v4 : Int32) (v5 : Int32) (v6 : Int32) (ha0 : gr_k a0 = (11, 0)) (z : (Int32 × gw_M)) (hF : mo_code_b0 M a0 v1 v2 v3 v4 v5 v6 = some z) : Met l yy_mo_code ((Cond.code yy_mo_code by_mo_code 8 (some .int)) :: gw_w) rm_mo_code (va_Pc [.ref (gr_a X a0), .int v1, .int v2, .int v3, .int v4, .int v5, .int v6] (gw_B X (gw_E X Y M))) (gw_Qi X (fun M => (gw_E X Y M)) z) 0 0 (gw_A X) := by
  refine Met.ofW (cc := by_mo_code) (maxL := 8) (ret := (some .int)) (by decide) rfl ?_
  intro p e s m args below meth c s₁ B hml hv
  obtain ⟨rfl, hB⟩ := hv
  rw [lg_entry_eq]
  have hl := lv_entry ([.ref (gr_a X a0), .int v1, .int v2, .int v3, .int v4, .int v5, .int v6]) (n := 8) (Nat.le_of_ble_eq_true rfl)
  generalize (lg_sl ([.ref (gr_a X a0), .int v1, .int v2, .int v3, .int v4, .int v5, .int v6]) ++ List.replicate (8 - (lg_sl ([.ref (gr_a X a0), .int v1, .int v2, .int v3, .int v4, .int v5, .int v6])).length) Slot.unset).toArray = ls at hl ⊢
  have hl : lv_has ls 8 [(0, .ref (gr_a X a0)), (1, .int v1), (2, .int v2), (3, .int v3), (4, .int v4), (5, .int v5), (6, .int v6)] := hl
  exact wb_mo_code_0 (gw_ctx B hml rfl hB) M a0 v1 v2 v3 v4 v5 v6 _ _ _ ha0 (gw_start hB) hl hF
/-! AccountMachineModel.wipe(I)I -/
abbrev rm_mo_wipe : Room := { frames := 1, cells := 0, slots := 0, locals := 25 }
theorem dd_mo_wipe_0 : decode by_mo_wipe 0 = .ok (.iload_n 1, 1) := by decide +kernel
theorem dd_mo_wipe_1 : decode by_mo_wipe 1 = .ok (.i2l, 1) := by decide +kernel
theorem dd_mo_wipe_2 : decode by_mo_wipe 2 = .ok (.lconst 1, 1) := by decide +kernel
theorem dd_mo_wipe_3 : decode by_mo_wipe 3 = .ok (.ldc2_w 81, 3) := by decide +kernel
theorem dd_mo_wipe_6 : decode by_mo_wipe 6 = .ok (.invokestatic 83, 3) := by decide +kernel
theorem dd_mo_wipe_9 : decode by_mo_wipe 9 = .ok (.ifCond .ne 5, 3) := by decide +kernel
theorem dd_mo_wipe_12 : decode by_mo_wipe 12 = .ok (.iconst (-1), 1) := by decide +kernel
theorem dd_mo_wipe_13 : decode by_mo_wipe 13 = .ok (.ireturn, 1) := by decide +kernel
theorem dd_mo_wipe_14 : decode by_mo_wipe 14 = .ok (.aload_n 0, 1) := by decide +kernel
theorem dd_mo_wipe_15 : decode by_mo_wipe 15 = .ok (.getfield 22, 3) := by decide +kernel
theorem dd_mo_wipe_18 : decode by_mo_wipe 18 = .ok (.iload_n 1, 1) := by decide +kernel
theorem dd_mo_wipe_19 : decode by_mo_wipe 19 = .ok (.iconst 1, 1) := by decide +kernel
theorem dd_mo_wipe_20 : decode by_mo_wipe 20 = .ok (.isub, 1) := by decide +kernel
theorem dd_mo_wipe_21 : decode by_mo_wipe 21 = .ok (.iaload, 1) := by decide +kernel
theorem dd_mo_wipe_22 : decode by_mo_wipe 22 = .ok (.istore_n 2, 1) := by decide +kernel
theorem dd_mo_wipe_23 : decode by_mo_wipe 23 = .ok (.aload_n 0, 1) := by decide +kernel
theorem dd_mo_wipe_24 : decode by_mo_wipe 24 = .ok (.getfield 22, 3) := by decide +kernel
theorem dd_mo_wipe_27 : decode by_mo_wipe 27 = .ok (.iload_n 1, 1) := by decide +kernel
theorem dd_mo_wipe_28 : decode by_mo_wipe 28 = .ok (.iconst 1, 1) := by decide +kernel
theorem dd_mo_wipe_29 : decode by_mo_wipe 29 = .ok (.isub, 1) := by decide +kernel
theorem dd_mo_wipe_30 : decode by_mo_wipe 30 = .ok (.iconst 0, 1) := by decide +kernel
theorem dd_mo_wipe_31 : decode by_mo_wipe 31 = .ok (.iastore, 1) := by decide +kernel
theorem dd_mo_wipe_32 : decode by_mo_wipe 32 = .ok (.aload_n 0, 1) := by decide +kernel
theorem dd_mo_wipe_33 : decode by_mo_wipe 33 = .ok (.getfield 25, 3) := by decide +kernel
theorem dd_mo_wipe_36 : decode by_mo_wipe 36 = .ok (.iload_n 1, 1) := by decide +kernel
theorem dd_mo_wipe_37 : decode by_mo_wipe 37 = .ok (.iconst 1, 1) := by decide +kernel
theorem dd_mo_wipe_38 : decode by_mo_wipe 38 = .ok (.isub, 1) := by decide +kernel
theorem dd_mo_wipe_39 : decode by_mo_wipe 39 = .ok (.iconst 0, 1) := by decide +kernel
theorem dd_mo_wipe_40 : decode by_mo_wipe 40 = .ok (.bastore, 1) := by decide +kernel
theorem dd_mo_wipe_41 : decode by_mo_wipe 41 = .ok (.iload_n 2, 1) := by decide +kernel
theorem dd_mo_wipe_42 : decode by_mo_wipe 42 = .ok (.ireturn, 1) := by decide +kernel
def mo_wipe_b0 (M : gw_M) (a0 : Nat) (v1 : Int32) : Option (Int32 × gw_M) :=
  gw_bd (mo_in_b0 M v1.toInt64 (1 : Int64) (3 : Int64)) (fun r6 M6 => if r6 = (0 : Int32) then (some ((-1 : Int32), M6)) else (gw_gu (gw_in (v1 - (1 : Int32)) 3) (gw_lt (M6.1 (a0 + 5) ((v1 - (1 : Int32)).toNatClampNeg)) (fun x22 => gw_gu (gw_in (v1 - (1 : Int32)) 3) (gw_lt (gw_sI M6 (a0 + 5) ((v1 - (1 : Int32)).toNatClampNeg) (0 : Int32)) (fun M31 => gw_gu (gw_in (v1 - (1 : Int32)) 3) (gw_lt (gw_sI M31 (a0 + 6) ((v1 - (1 : Int32)).toNatClampNeg) (vp_nar .boolean (0 : Int32))) (fun M40 => some (x22, M40)))))))))
set_option maxRecDepth 100000 in
set_option maxHeartbeats 4000000 in
theorem wb_mo_wipe_0 {p : Program} {l : Launch} {e : Env} {s : State} {m : MethodId} {args : Array Value} {below : List Frame} {meth : Method} {c : Code} {X : gw_X} {Y : gw_M} {z : (Int32 × gw_M)} (C0 : gw_C ((Cond.code yy_mo_wipe by_mo_wipe 3 (some .int)) :: gw_w) by_mo_wipe 3 (some .int) "AccountMachineModel" X p s m args meth c) (M : gw_M) (a0 : Nat) (v1 : Int32) (H : Heap) (locs : List Loc) (ls : Array Slot) (ha0 : gr_k a0 = (11, 0)) (G : gw_G X (gw_E X Y M) s H locs) (hl : lv_has ls 3 [(0, .ref (gr_a X a0)), (1, .int v1)]) (hF : mo_wipe_b0  M a0 v1 = some z) : W p l e rm_mo_wipe s m args below meth c H locs 0 0 (MQ below (gw_Qi X (fun M => (gw_E X Y M)) z) args s 0 0 (gw_A X)) (F0 m 0 ls []) := by
  obtain ⟨hx, hb, hml, hown, hts, hr, hlocks, hK⟩ := id C0
  have hg : ∀ w ∈ gw_w, w.before args s = true := fun w h => hts w (List.mem_cons_of_mem _ h)
  unfold mo_wipe_b0 at hF
  refine lv_iload_n hx hb dd_mo_wipe_0 rfl (lv_at hl 1 rfl) ?_
  refine lv_i2l (v := v1.toInt64) hx hb dd_mo_wipe_1 rfl ?_
  refine lv_lconst (v := (1 : Int64)) hx hb dd_mo_wipe_2 (by decide) ?_
  refine lv_ldc2 (v := (3 : Int64)) hx hb hown (hg _ kw_249) dd_mo_wipe_3 ?_
  obtain ⟨r6, M6, hc6, hF⟩ := gw_be hF
  refine gw_ci G (va_runS (As := [.long v1.toInt64, .long (1 : Int64), .long (3 : Int64)]) (rest := []) ⟨hx, hb, hml, hown, hts⟩ (ct_mo_in l X Y M v1.toInt64 (1 : Int64) (3 : Int64)  _ hc6) (cwS 3 hts (gw_gS kw_251 kw_252 kw_253 kw_250) rfl rfl rfl (by decide +kernel) ⟨Nat.le_of_ble_eq_true rfl, Nat.le_of_ble_eq_true rfl⟩) ⟨gw_blind, gw_pre hK G⟩ rfl rfl hl.1 rfl (Nat.le_of_ble_eq_true rfl) dd_mo_wipe_6 ⟨Nat.le_of_ble_eq_true rfl, Nat.le_of_ble_eq_true rfl⟩) (fun H locs G => ?_)
  refine lv_if_ne (tgt := 14) hx hb dd_mo_wipe_9 (by decide) (fun h9 => ?_) (fun h9 => ?_)
  · replace hF := gw_ef h9 hF
    refine lv_aload_n hx hb dd_mo_wipe_14 rfl (lv_at hl 0 rfl) ?_
    refine gf_mo_length hx hb hg hown (hg _ kw_254) hK G ha0 dd_mo_wipe_15 ?_
    refine lv_iload_n hx hb dd_mo_wipe_18 rfl (lv_at hl 1 rfl) ?_
    refine lv_iconst (v := (1 : Int32)) hx hb dd_mo_wipe_19 (by decide) ?_
    refine lv_isub hx hb dd_mo_wipe_20 ?_
    obtain ⟨h21, hF⟩ := gw_gd hF
    refine gr_iald hx hb hK G (gq_mo_length ha0) (gw_vp h21) (j := (v1 - (1 : Int32)).toNatClampNeg) rfl dd_mo_wipe_21 ?_
    refine lv_topi (fun x22 e22 => ?_)
    replace hF := gw_ly e22 hF
    refine lv_istore_n (i := 2) (lv' := [(2, .int x22), (0, .ref (gr_a X a0)), (1, .int v1)]) hx hb dd_mo_wipe_22 rfl hl (by decide) rfl (fun ls hl => ?_)
    refine lv_aload_n hx hb dd_mo_wipe_23 rfl (lv_at hl 1 rfl) ?_
    refine gf_mo_length hx hb hg hown (hg _ kw_254) hK G ha0 dd_mo_wipe_24 ?_
    refine W.eq (g2 := F0 m 27 _ _) rfl ?_
    refine lv_iload_n hx hb dd_mo_wipe_27 rfl (lv_at hl 2 rfl) ?_
    refine lv_iconst (v := (1 : Int32)) hx hb dd_mo_wipe_28 (by decide) ?_
    refine lv_isub hx hb dd_mo_wipe_29 ?_
    refine lv_iconst (v := (0 : Int32)) hx hb dd_mo_wipe_30 (by decide) ?_
    obtain ⟨h31, hF⟩ := gw_gd hF
    refine gr_iast hx hb hK G (gq_mo_length ha0) (gw_vp h31) (j := (v1 - (1 : Int32)).toNatClampNeg) rfl dd_mo_wipe_31 (fun M31 H locs e31 G => ?_)
    replace hF := gw_ly e31 hF
    refine lv_aload_n hx hb dd_mo_wipe_32 rfl (lv_at hl 1 rfl) ?_
    refine gf_mo_loaded hx hb hg hown (hg _ kw_260) hK G ha0 dd_mo_wipe_33 ?_
    refine lv_iload_n hx hb dd_mo_wipe_36 rfl (lv_at hl 2 rfl) ?_
    refine lv_iconst (v := (1 : Int32)) hx hb dd_mo_wipe_37 (by decide) ?_
    refine lv_isub hx hb dd_mo_wipe_38 ?_
    refine W.eq (g2 := F0 m 39 _ _) rfl ?_
    refine lv_iconst (v := (0 : Int32)) hx hb dd_mo_wipe_39 (by decide) ?_
    obtain ⟨h40, hF⟩ := gw_gd hF
    refine gr_zast hx hb hK G (gq_mo_loaded ha0) (gw_vp h40) (j := (v1 - (1 : Int32)).toNatClampNeg) rfl dd_mo_wipe_40 (fun M40 H locs e40 G => ?_)
    replace hF := gw_ly e40 hF
    refine lv_iload_n hx hb dd_mo_wipe_41 rfl (lv_at hl 0 rfl) ?_
    exact W.iret hx hb hr (fun t ht hW => gw_endi (EF := (fun M => (gw_E X Y M))) (M := M40) G ht hF) G.2.2.2.2 dd_mo_wipe_42 hlocks
  · replace hF := gw_et h9 hF
    refine lv_iconst (v := (-1 : Int32)) hx hb dd_mo_wipe_12 (by decide) ?_
    exact W.iret hx hb hr (fun t ht hW => gw_endi (EF := (fun M => (gw_E X Y M))) (M := M6) G ht hF) G.2.2.2.2 dd_mo_wipe_13 hlocks
set_option maxRecDepth 100000 in
set_option maxHeartbeats 4000000 in
theorem ct_mo_wipe (l : Launch) (X : gw_X) (Y : gw_M) (M : gw_M) (a0 : Nat) (v1 : Int32) (ha0 : gr_k a0 = (11, 0)) (z : (Int32 × gw_M)) (hF : mo_wipe_b0 M a0 v1 = some z) : Met l yy_mo_wipe ((Cond.code yy_mo_wipe by_mo_wipe 3 (some .int)) :: gw_w) rm_mo_wipe (va_Pc [.ref (gr_a X a0), .int v1] (gw_B X (gw_E X Y M))) (gw_Qi X (fun M => (gw_E X Y M)) z) 0 0 (gw_A X) := by
  refine Met.ofW (cc := by_mo_wipe) (maxL := 3) (ret := (some .int)) (by decide) rfl ?_
  intro p e s m args below meth c s₁ B hml hv
  obtain ⟨rfl, hB⟩ := hv
  rw [lg_entry_eq]
  have hl := lv_entry ([.ref (gr_a X a0), .int v1]) (n := 3) (Nat.le_of_ble_eq_true rfl)
  generalize (lg_sl ([.ref (gr_a X a0), .int v1]) ++ List.replicate (3 - (lg_sl ([.ref (gr_a X a0), .int v1])).length) Slot.unset).toArray = ls at hl ⊢
  have hl : lv_has ls 3 [(0, .ref (gr_a X a0)), (1, .int v1)] := hl
  exact wb_mo_wipe_0 (gw_ctx B hml rfl hB) M a0 v1 _ _ _ ha0 (gw_start hB) hl hF
/-! AccountMachineModel.reason(II)I -/
abbrev rm_mo_reason : Room := { frames := 1, cells := 0, slots := 0, locals := 25 }
theorem dd_mo_reason_0 : decode by_mo_reason 0 = .ok (.bipush 32, 2) := by decide +kernel
theorem dd_mo_reason_2 : decode by_mo_reason 2 = .ok (.iload_n 1, 1) := by decide +kernel
theorem dd_mo_reason_3 : decode by_mo_reason 3 = .ok (.iconst 1, 1) := by decide +kernel
theorem dd_mo_reason_4 : decode by_mo_reason 4 = .ok (.isub, 1) := by decide +kernel
theorem dd_mo_reason_5 : decode by_mo_reason 5 = .ok (.imul, 1) := by decide +kernel
theorem dd_mo_reason_6 : decode by_mo_reason 6 = .ok (.iload_n 2, 1) := by decide +kernel
theorem dd_mo_reason_7 : decode by_mo_reason 7 = .ok (.iadd, 1) := by decide +kernel
theorem dd_mo_reason_8 : decode by_mo_reason 8 = .ok (.istore_n 3, 1) := by decide +kernel
theorem dd_mo_reason_9 : decode by_mo_reason 9 = .ok (.aload_n 0, 1) := by decide +kernel
theorem dd_mo_reason_10 : decode by_mo_reason 10 = .ok (.getfield 29, 3) := by decide +kernel
theorem dd_mo_reason_13 : decode by_mo_reason 13 = .ok (.iload_n 3, 1) := by decide +kernel
theorem dd_mo_reason_14 : decode by_mo_reason 14 = .ok (.iaload, 1) := by decide +kernel
theorem dd_mo_reason_15 : decode by_mo_reason 15 = .ok (.istore 4, 2) := by decide +kernel
theorem dd_mo_reason_17 : decode by_mo_reason 17 = .ok (.iload 4, 2) := by decide +kernel
theorem dd_mo_reason_19 : decode by_mo_reason 19 = .ok (.i2l, 1) := by decide +kernel
theorem dd_mo_reason_20 : decode by_mo_reason 20 = .ok (.lconst 0, 1) := by decide +kernel
theorem dd_mo_reason_21 : decode by_mo_reason 21 = .ok (.ldc2_w 87, 3) := by decide +kernel
theorem dd_mo_reason_24 : decode by_mo_reason 24 = .ok (.invokestatic 83, 3) := by decide +kernel
theorem dd_mo_reason_27 : decode by_mo_reason 27 = .ok (.ifCond .eq 37, 3) := by decide +kernel
theorem dd_mo_reason_30 : decode by_mo_reason 30 = .ok (.aload_n 0, 1) := by decide +kernel
theorem dd_mo_reason_31 : decode by_mo_reason 31 = .ok (.getfield 32, 3) := by decide +kernel
theorem dd_mo_reason_34 : decode by_mo_reason 34 = .ok (.iload_n 3, 1) := by decide +kernel
theorem dd_mo_reason_35 : decode by_mo_reason 35 = .ok (.iaload, 1) := by decide +kernel
theorem dd_mo_reason_36 : decode by_mo_reason 36 = .ok (.i2l, 1) := by decide +kernel
theorem dd_mo_reason_37 : decode by_mo_reason 37 = .ok (.lconst 0, 1) := by decide +kernel
theorem dd_mo_reason_38 : decode by_mo_reason 38 = .ok (.ldc2_w 89, 3) := by decide +kernel
theorem dd_mo_reason_41 : decode by_mo_reason 41 = .ok (.invokestatic 83, 3) := by decide +kernel
theorem dd_mo_reason_44 : decode by_mo_reason 44 = .ok (.ifCond .eq 20, 3) := by decide +kernel
theorem dd_mo_reason_47 : decode by_mo_reason 47 = .ok (.aload_n 0, 1) := by decide +kernel
theorem dd_mo_reason_48 : decode by_mo_reason 48 = .ok (.getfield 35, 3) := by decide +kernel
theorem dd_mo_reason_51 : decode by_mo_reason 51 = .ok (.iload_n 3, 1) := by decide +kernel
theorem dd_mo_reason_52 : decode by_mo_reason 52 = .ok (.iaload, 1) := by decide +kernel
theorem dd_mo_reason_53 : decode by_mo_reason 53 = .ok (.i2l, 1) := by decide +kernel
theorem dd_mo_reason_54 : decode by_mo_reason 54 = .ok (.lconst 0, 1) := by decide +kernel
theorem dd_mo_reason_55 : decode by_mo_reason 55 = .ok (.ldc2_w 89, 3) := by decide +kernel
theorem dd_mo_reason_58 : decode by_mo_reason 58 = .ok (.invokestatic 83, 3) := by decide +kernel
theorem dd_mo_reason_61 : decode by_mo_reason 61 = .ok (.ifCond .ne 5, 3) := by decide +kernel
theorem dd_mo_reason_64 : decode by_mo_reason 64 = .ok (.iconst 2, 1) := by decide +kernel
theorem dd_mo_reason_65 : decode by_mo_reason 65 = .ok (.ireturn, 1) := by decide +kernel
theorem dd_mo_reason_66 : decode by_mo_reason 66 = .ok (.iload 4, 2) := by decide +kernel
theorem dd_mo_reason_68 : decode by_mo_reason 68 = .ok (.i2l, 1) := by decide +kernel
theorem dd_mo_reason_69 : decode by_mo_reason 69 = .ok (.ldc2_w 91, 3) := by decide +kernel
theorem dd_mo_reason_72 : decode by_mo_reason 72 = .ok (.ldc2_w 93, 3) := by decide +kernel
theorem dd_mo_reason_75 : decode by_mo_reason 75 = .ok (.invokestatic 83, 3) := by decide +kernel
theorem dd_mo_reason_78 : decode by_mo_reason 78 = .ok (.istore 5, 2) := by decide +kernel
theorem dd_mo_reason_80 : decode by_mo_reason 80 = .ok (.iload 4, 2) := by decide +kernel
theorem dd_mo_reason_82 : decode by_mo_reason 82 = .ok (.bipush 10, 2) := by decide +kernel
theorem dd_mo_reason_84 : decode by_mo_reason 84 = .ok (.if_icmp .eq 14, 3) := by decide +kernel
theorem dd_mo_reason_87 : decode by_mo_reason 87 = .ok (.iload 4, 2) := by decide +kernel
theorem dd_mo_reason_89 : decode by_mo_reason 89 = .ok (.bipush 15, 2) := by decide +kernel
theorem dd_mo_reason_91 : decode by_mo_reason 91 = .ok (.if_icmp .eq 7, 3) := by decide +kernel
theorem dd_mo_reason_94 : decode by_mo_reason 94 = .ok (.iconst 1, 1) := by decide +kernel
theorem dd_mo_reason_95 : decode by_mo_reason 95 = .ok (.goto 4, 3) := by decide +kernel
theorem dd_mo_reason_98 : decode by_mo_reason 98 = .ok (.iconst 0, 1) := by decide +kernel
theorem dd_mo_reason_99 : decode by_mo_reason 99 = .ok (.istore 6, 2) := by decide +kernel
theorem dd_mo_reason_101 : decode by_mo_reason 101 = .ok (.iload 6, 2) := by decide +kernel
theorem dd_mo_reason_103 : decode by_mo_reason 103 = .ok (.ifCond .eq 17, 3) := by decide +kernel
theorem dd_mo_reason_106 : decode by_mo_reason 106 = .ok (.iload_n 2, 1) := by decide +kernel
theorem dd_mo_reason_107 : decode by_mo_reason 107 = .ok (.iconst 1, 1) := by decide +kernel
theorem dd_mo_reason_108 : decode by_mo_reason 108 = .ok (.iadd, 1) := by decide +kernel
theorem dd_mo_reason_109 : decode by_mo_reason 109 = .ok (.aload_n 0, 1) := by decide +kernel
theorem dd_mo_reason_110 : decode by_mo_reason 110 = .ok (.getfield 22, 3) := by decide +kernel
theorem dd_mo_reason_113 : decode by_mo_reason 113 = .ok (.iload_n 1, 1) := by decide +kernel
theorem dd_mo_reason_114 : decode by_mo_reason 114 = .ok (.iconst 1, 1) := by decide +kernel
theorem dd_mo_reason_115 : decode by_mo_reason 115 = .ok (.isub, 1) := by decide +kernel
theorem dd_mo_reason_116 : decode by_mo_reason 116 = .ok (.iaload, 1) := by decide +kernel
theorem dd_mo_reason_117 : decode by_mo_reason 117 = .ok (.if_icmp .ge 38, 3) := by decide +kernel
theorem dd_mo_reason_120 : decode by_mo_reason 120 = .ok (.iload 5, 2) := by decide +kernel
theorem dd_mo_reason_122 : decode by_mo_reason 122 = .ok (.ifCond .eq 35, 3) := by decide +kernel
theorem dd_mo_reason_125 : decode by_mo_reason 125 = .ok (.iload_n 2, 1) := by decide +kernel
theorem dd_mo_reason_126 : decode by_mo_reason 126 = .ok (.i2l, 1) := by decide +kernel
theorem dd_mo_reason_127 : decode by_mo_reason 127 = .ok (.lconst 1, 1) := by decide +kernel
theorem dd_mo_reason_128 : decode by_mo_reason 128 = .ok (.ladd, 1) := by decide +kernel
theorem dd_mo_reason_129 : decode by_mo_reason 129 = .ok (.aload_n 0, 1) := by decide +kernel
theorem dd_mo_reason_130 : decode by_mo_reason 130 = .ok (.getfield 38, 3) := by decide +kernel
theorem dd_mo_reason_133 : decode by_mo_reason 133 = .ok (.iload_n 3, 1) := by decide +kernel
theorem dd_mo_reason_134 : decode by_mo_reason 134 = .ok (.iaload, 1) := by decide +kernel
theorem dd_mo_reason_135 : decode by_mo_reason 135 = .ok (.i2l, 1) := by decide +kernel
theorem dd_mo_reason_136 : decode by_mo_reason 136 = .ok (.ladd, 1) := by decide +kernel
theorem dd_mo_reason_137 : decode by_mo_reason 137 = .ok (.lconst 0, 1) := by decide +kernel
theorem dd_mo_reason_138 : decode by_mo_reason 138 = .ok (.aload_n 0, 1) := by decide +kernel
theorem dd_mo_reason_139 : decode by_mo_reason 139 = .ok (.getfield 22, 3) := by decide +kernel
theorem dd_mo_reason_142 : decode by_mo_reason 142 = .ok (.iload_n 1, 1) := by decide +kernel
theorem dd_mo_reason_143 : decode by_mo_reason 143 = .ok (.iconst 1, 1) := by decide +kernel
theorem dd_mo_reason_144 : decode by_mo_reason 144 = .ok (.isub, 1) := by decide +kernel
theorem dd_mo_reason_145 : decode by_mo_reason 145 = .ok (.iaload, 1) := by decide +kernel
theorem dd_mo_reason_146 : decode by_mo_reason 146 = .ok (.i2l, 1) := by decide +kernel
theorem dd_mo_reason_147 : decode by_mo_reason 147 = .ok (.lconst 1, 1) := by decide +kernel
theorem dd_mo_reason_148 : decode by_mo_reason 148 = .ok (.lsub, 1) := by decide +kernel
theorem dd_mo_reason_149 : decode by_mo_reason 149 = .ok (.invokestatic 83, 3) := by decide +kernel
theorem dd_mo_reason_152 : decode by_mo_reason 152 = .ok (.ifCond .ne 5, 3) := by decide +kernel
theorem dd_mo_reason_155 : decode by_mo_reason 155 = .ok (.iconst 3, 1) := by decide +kernel
theorem dd_mo_reason_156 : decode by_mo_reason 156 = .ok (.ireturn, 1) := by decide +kernel
theorem dd_mo_reason_157 : decode by_mo_reason 157 = .ok (.iload 4, 2) := by decide +kernel
theorem dd_mo_reason_159 : decode by_mo_reason 159 = .ok (.bipush 6, 2) := by decide +kernel
theorem dd_mo_reason_161 : decode by_mo_reason 161 = .ok (.if_icmp .ne 12, 3) := by decide +kernel
theorem dd_mo_reason_164 : decode by_mo_reason 164 = .ok (.aload_n 0, 1) := by decide +kernel
theorem dd_mo_reason_165 : decode by_mo_reason 165 = .ok (.getfield 41, 3) := by decide +kernel
theorem dd_mo_reason_168 : decode by_mo_reason 168 = .ok (.iload_n 3, 1) := by decide +kernel
theorem dd_mo_reason_169 : decode by_mo_reason 169 = .ok (.iaload, 1) := by decide +kernel
theorem dd_mo_reason_170 : decode by_mo_reason 170 = .ok (.ifCond .eq 27, 3) := by decide +kernel
theorem dd_mo_reason_173 : decode by_mo_reason 173 = .ok (.iload 4, 2) := by decide +kernel
theorem dd_mo_reason_175 : decode by_mo_reason 175 = .ok (.bipush 7, 2) := by decide +kernel
theorem dd_mo_reason_177 : decode by_mo_reason 177 = .ok (.if_icmp .ne 22, 3) := by decide +kernel
theorem dd_mo_reason_180 : decode by_mo_reason 180 = .ok (.aload_n 0, 1) := by decide +kernel
theorem dd_mo_reason_181 : decode by_mo_reason 181 = .ok (.getfield 41, 3) := by decide +kernel
theorem dd_mo_reason_184 : decode by_mo_reason 184 = .ok (.iload_n 3, 1) := by decide +kernel
theorem dd_mo_reason_185 : decode by_mo_reason 185 = .ok (.iaload, 1) := by decide +kernel
theorem dd_mo_reason_186 : decode by_mo_reason 186 = .ok (.i2l, 1) := by decide +kernel
theorem dd_mo_reason_187 : decode by_mo_reason 187 = .ok (.lconst 0, 1) := by decide +kernel
theorem dd_mo_reason_188 : decode by_mo_reason 188 = .ok (.ldc2_w 95, 3) := by decide +kernel
theorem dd_mo_reason_191 : decode by_mo_reason 191 = .ok (.invokestatic 83, 3) := by decide +kernel
theorem dd_mo_reason_194 : decode by_mo_reason 194 = .ok (.ifCond .ne 5, 3) := by decide +kernel
theorem dd_mo_reason_197 : decode by_mo_reason 197 = .ok (.iconst 4, 1) := by decide +kernel
theorem dd_mo_reason_198 : decode by_mo_reason 198 = .ok (.ireturn, 1) := by decide +kernel
theorem dd_mo_reason_199 : decode by_mo_reason 199 = .ok (.iload 4, 2) := by decide +kernel
theorem dd_mo_reason_201 : decode by_mo_reason 201 = .ok (.bipush 14, 2) := by decide +kernel
theorem dd_mo_reason_203 : decode by_mo_reason 203 = .ok (.if_icmp .ne 24, 3) := by decide +kernel
theorem dd_mo_reason_206 : decode by_mo_reason 206 = .ok (.aload_n 0, 1) := by decide +kernel
theorem dd_mo_reason_207 : decode by_mo_reason 207 = .ok (.getfield 41, 3) := by decide +kernel
theorem dd_mo_reason_210 : decode by_mo_reason 210 = .ok (.iload_n 3, 1) := by decide +kernel
theorem dd_mo_reason_211 : decode by_mo_reason 211 = .ok (.iaload, 1) := by decide +kernel
theorem dd_mo_reason_212 : decode by_mo_reason 212 = .ok (.i2l, 1) := by decide +kernel
theorem dd_mo_reason_213 : decode by_mo_reason 213 = .ok (.lconst 0, 1) := by decide +kernel
theorem dd_mo_reason_214 : decode by_mo_reason 214 = .ok (.ldc2_w 81, 3) := by decide +kernel
theorem dd_mo_reason_217 : decode by_mo_reason 217 = .ok (.invokestatic 83, 3) := by decide +kernel
theorem dd_mo_reason_220 : decode by_mo_reason 220 = .ok (.ifCond .ne 7, 3) := by decide +kernel
theorem dd_mo_reason_223 : decode by_mo_reason 223 = .ok (.iconst 5, 1) := by decide +kernel
theorem dd_mo_reason_224 : decode by_mo_reason 224 = .ok (.goto 4, 3) := by decide +kernel
theorem dd_mo_reason_227 : decode by_mo_reason 227 = .ok (.iconst 0, 1) := by decide +kernel
theorem dd_mo_reason_228 : decode by_mo_reason 228 = .ok (.ireturn, 1) := by decide +kernel
def mo_reason_b199 (M : gw_M) (a0 : Nat) (v3 : Int32) (v4 : Int32) : Option (Int32 × gw_M) :=
  if v4 = (14 : Int32) then (gw_gu (gw_in v3 96) (gw_bd (mo_in_b0 M ((M.1 (a0 + 11) v3.toNatClampNeg).toInt64) (0 : Int64) (3 : Int64)) (fun r217 M217 => if r217 = (0 : Int32) then (some ((5 : Int32), M217)) else (some ((0 : Int32), M217))))) else (some ((0 : Int32), M))
def mo_reason_b173 (M : gw_M) (a0 : Nat) (v3 : Int32) (v4 : Int32) : Option (Int32 × gw_M) :=
  if v4 = (7 : Int32) then (gw_gu (gw_in v3 96) (gw_bd (mo_in_b0 M ((M.1 (a0 + 11) v3.toNatClampNeg).toInt64) (0 : Int64) (63 : Int64)) (fun r191 M191 => if r191 = (0 : Int32) then (some ((4 : Int32), M191)) else (mo_reason_b199  M191 a0 v3 v4)))) else (mo_reason_b199  M a0 v3 v4)
def mo_reason_b157 (M : gw_M) (a0 : Nat) (v3 : Int32) (v4 : Int32) : Option (Int32 × gw_M) :=
  if v4 = (6 : Int32) then (gw_gu (gw_in v3 96) (if (M.1 (a0 + 11) v3.toNatClampNeg) = (0 : Int32) then (some ((4 : Int32), M)) else (mo_reason_b173  M a0 v3 v4))) else (mo_reason_b173  M a0 v3 v4)
def mo_reason_b120 (M : gw_M) (a0 : Nat) (v1 : Int32) (v2 : Int32) (v3 : Int32) (v4 : Int32) (v5 : Int32) : Option (Int32 × gw_M) :=
  if v5 = (0 : Int32) then (mo_reason_b157  M a0 v3 v4) else (gw_gu (gw_in v3 96) (gw_gu (gw_in (v1 - (1 : Int32)) 3) (gw_bd (mo_in_b0 M ((v2.toInt64 + (1 : Int64)) + ((M.1 (a0 + 10) v3.toNatClampNeg).toInt64)) (0 : Int64) (((M.1 (a0 + 5) ((v1 - (1 : Int32)).toNatClampNeg)).toInt64) - (1 : Int64))) (fun r149 M149 => if r149 = (0 : Int32) then (some ((3 : Int32), M149)) else (mo_reason_b157  M149 a0 v3 v4)))))
def mo_reason_b99 (M : gw_M) (a0 : Nat) (v1 : Int32) (v2 : Int32) (v3 : Int32) (v4 : Int32) (v5 : Int32) (t0 : Int32) : Option (Int32 × gw_M) :=
  if t0 = (0 : Int32) then (mo_reason_b120  M a0 v1 v2 v3 v4 v5) else (gw_gu (gw_in (v1 - (1 : Int32)) 3) (if (M.1 (a0 + 5) ((v1 - (1 : Int32)).toNatClampNeg)) ≤ (v2 + (1 : Int32)) then (some ((3 : Int32), M)) else (mo_reason_b120  M a0 v1 v2 v3 v4 v5)))
def mo_reason_b98 (M : gw_M) (a0 : Nat) (v1 : Int32) (v2 : Int32) (v3 : Int32) (v4 : Int32) (v5 : Int32) : Option (Int32 × gw_M) :=
  mo_reason_b99  M a0 v1 v2 v3 v4 v5 (0 : Int32)
def mo_reason_b0 (M : gw_M) (a0 : Nat) (v1 : Int32) (v2 : Int32) : Option (Int32 × gw_M) :=
  gw_lt (((32 : Int32) * (v1 - (1 : Int32))) + v2) (fun x8 => gw_gu (gw_in x8 96) (gw_lt (M.1 (a0 + 7) x8.toNatClampNeg) (fun x15 => gw_bd (mo_in_b0 M x15.toInt64 (0 : Int64) (15 : Int64)) (fun r24 M24 => if r24 = (0 : Int32) then (some ((2 : Int32), M24)) else (gw_gu (gw_in x8 96) (gw_bd (mo_in_b0 M24 ((M24.1 (a0 + 8) x8.toNatClampNeg).toInt64) (0 : Int64) (9 : Int64)) (fun r41 M41 => if r41 = (0 : Int32) then (some ((2 : Int32), M41)) else (gw_gu (gw_in x8 96) (gw_bd (mo_in_b0 M41 ((M41.1 (a0 + 9) x8.toNatClampNeg).toInt64) (0 : Int64) (9 : Int64)) (fun r58 M58 => if r58 = (0 : Int32) then (some ((2 : Int32), M58)) else (gw_bd (mo_in_b0 M58 x15.toInt64 (10 : Int64) (13 : Int64)) (fun r75 M75 => if x15 = (10 : Int32) then (mo_reason_b98  M75 a0 v1 v2 x8 x15 r75) else (if x15 = (15 : Int32) then (mo_reason_b98  M75 a0 v1 v2 x8 x15 r75) else (mo_reason_b99  M75 a0 v1 v2 x8 x15 r75 (1 : Int32)))))))))))))))
set_option maxRecDepth 100000 in
set_option maxHeartbeats 4000000 in
theorem wb_mo_reason_199 {p : Program} {l : Launch} {e : Env} {s : State} {m : MethodId} {args : Array Value} {below : List Frame} {meth : Method} {c : Code} {X : gw_X} {Y : gw_M} {z : (Int32 × gw_M)} (C0 : gw_C ((Cond.code yy_mo_reason by_mo_reason 7 (some .int)) :: gw_w) by_mo_reason 7 (some .int) "AccountMachineModel" X p s m args meth c) (M : gw_M) (a0 : Nat) (v3 : Int32) (v4 : Int32) (H : Heap) (locs : List Loc) (ls : Array Slot) (ha0 : gr_k a0 = (11, 0)) (G : gw_G X (gw_E X Y M) s H locs) (hl : lv_has ls 7 [(0, .ref (gr_a X a0)), (3, .int v3), (4, .int v4)]) (hF : mo_reason_b199  M a0 v3 v4 = some z) : W p l e rm_mo_reason s m args below meth c H locs 0 0 (MQ below (gw_Qi X (fun M => (gw_E X Y M)) z) args s 0 0 (gw_A X)) (F0 m 199 ls []) := by
  obtain ⟨hx, hb, hml, hown, hts, hr, hlocks, hK⟩ := id C0
  have hg : ∀ w ∈ gw_w, w.before args s = true := fun w h => hts w (List.mem_cons_of_mem _ h)
  unfold mo_reason_b199 at hF
  refine lv_iload hx hb dd_mo_reason_199 (lv_at hl 2 rfl) ?_
  refine lv_bipush (v := (14 : Int32)) hx hb dd_mo_reason_201 (by decide) ?_
  refine lv_icmp_ne (tgt := 227) hx hb dd_mo_reason_203 (by decide) (fun h203 => ?_) (fun h203 => ?_)
  · replace hF := gw_ef h203 hF
    refine lv_iconst (v := (0 : Int32)) hx hb dd_mo_reason_227 (by decide) ?_
    exact W.iret hx hb hr (fun t ht hW => gw_endi (EF := (fun M => (gw_E X Y M))) (M := M) G ht hF) G.2.2.2.2 dd_mo_reason_228 hlocks
  · replace hF := gw_et h203 hF
    refine lv_aload_n hx hb dd_mo_reason_206 rfl (lv_at hl 0 rfl) ?_
    refine gf_mo_numbers hx hb hg hown (hg _ kw_259) hK G ha0 dd_mo_reason_207 ?_
    refine lv_iload_n hx hb dd_mo_reason_210 rfl (lv_at hl 1 rfl) ?_
    obtain ⟨h211, hF⟩ := gw_gd hF
    refine gr_iald hx hb hK G (gq_mo_numbers ha0) (gw_vp h211) (j := v3.toNatClampNeg) rfl dd_mo_reason_211 ?_
    refine lv_i2l (v := (M.1 (a0 + 11) v3.toNatClampNeg).toInt64) hx hb dd_mo_reason_212 rfl ?_
    refine lv_lconst (v := (0 : Int64)) hx hb dd_mo_reason_213 (by decide) ?_
    refine lv_ldc2 (v := (3 : Int64)) hx hb hown (hg _ kw_249) dd_mo_reason_214 ?_
    obtain ⟨r217, M217, hc217, hF⟩ := gw_be hF
    refine gw_ci G (va_runS (As := [.long ((M.1 (a0 + 11) v3.toNatClampNeg).toInt64), .long (0 : Int64), .long (3 : Int64)]) (rest := []) ⟨hx, hb, hml, hown, hts⟩ (ct_mo_in l X Y M ((M.1 (a0 + 11) v3.toNatClampNeg).toInt64) (0 : Int64) (3 : Int64)  _ hc217) (cwS 3 hts (gw_gS kw_251 kw_252 kw_253 kw_250) rfl rfl rfl (by decide +kernel) ⟨Nat.le_of_ble_eq_true rfl, Nat.le_of_ble_eq_true rfl⟩) ⟨gw_blind, gw_pre hK G⟩ rfl rfl hl.1 rfl (Nat.le_of_ble_eq_true rfl) dd_mo_reason_217 ⟨Nat.le_of_ble_eq_true rfl, Nat.le_of_ble_eq_true rfl⟩) (fun H locs G => ?_)
    refine lv_if_ne (tgt := 227) hx hb dd_mo_reason_220 (by decide) (fun h220 => ?_) (fun h220 => ?_)
    · replace hF := gw_ef h220 hF
      refine lv_iconst (v := (0 : Int32)) hx hb dd_mo_reason_227 (by decide) ?_
      exact W.iret hx hb hr (fun t ht hW => gw_endi (EF := (fun M => (gw_E X Y M))) (M := M217) G ht hF) G.2.2.2.2 dd_mo_reason_228 hlocks
    · replace hF := gw_et h220 hF
      refine lv_iconst (v := (5 : Int32)) hx hb dd_mo_reason_223 (by decide) ?_
      refine lv_goto (tgt := 228) hx hb dd_mo_reason_224 (by decide) ?_
      exact W.iret hx hb hr (fun t ht hW => gw_endi (EF := (fun M => (gw_E X Y M))) (M := M217) G ht hF) G.2.2.2.2 dd_mo_reason_228 hlocks
set_option maxRecDepth 100000 in
set_option maxHeartbeats 4000000 in
theorem wb_mo_reason_173 {p : Program} {l : Launch} {e : Env} {s : State} {m : MethodId} {args : Array Value} {below : List Frame} {meth : Method} {c : Code} {X : gw_X} {Y : gw_M} {z : (Int32 × gw_M)} (C0 : gw_C ((Cond.code yy_mo_reason by_mo_reason 7 (some .int)) :: gw_w) by_mo_reason 7 (some .int) "AccountMachineModel" X p s m args meth c) (M : gw_M) (a0 : Nat) (v3 : Int32) (v4 : Int32) (H : Heap) (locs : List Loc) (ls : Array Slot) (ha0 : gr_k a0 = (11, 0)) (G : gw_G X (gw_E X Y M) s H locs) (hl : lv_has ls 7 [(0, .ref (gr_a X a0)), (3, .int v3), (4, .int v4)]) (hF : mo_reason_b173  M a0 v3 v4 = some z) : W p l e rm_mo_reason s m args below meth c H locs 0 0 (MQ below (gw_Qi X (fun M => (gw_E X Y M)) z) args s 0 0 (gw_A X)) (F0 m 173 ls []) := by
  obtain ⟨hx, hb, hml, hown, hts, hr, hlocks, hK⟩ := id C0
  have hg : ∀ w ∈ gw_w, w.before args s = true := fun w h => hts w (List.mem_cons_of_mem _ h)
  unfold mo_reason_b173 at hF
  refine lv_iload hx hb dd_mo_reason_173 (lv_at hl 2 rfl) ?_
  refine lv_bipush (v := (7 : Int32)) hx hb dd_mo_reason_175 (by decide) ?_
  refine lv_icmp_ne (tgt := 199) hx hb dd_mo_reason_177 (by decide) (fun h177 => ?_) (fun h177 => ?_)
  · replace hF := gw_ef h177 hF
    exact wb_mo_reason_199 C0  M a0 v3 v4 _ _ _ ha0 G (lv_sub hl [0, 1, 2] rfl) hF
  · replace hF := gw_et h177 hF
    refine lv_aload_n hx hb dd_mo_reason_180 rfl (lv_at hl 0 rfl) ?_
    refine gf_mo_numbers hx hb hg hown (hg _ kw_259) hK G ha0 dd_mo_reason_181 ?_
    refine lv_iload_n hx hb dd_mo_reason_184 rfl (lv_at hl 1 rfl) ?_
    obtain ⟨h185, hF⟩ := gw_gd hF
    refine gr_iald hx hb hK G (gq_mo_numbers ha0) (gw_vp h185) (j := v3.toNatClampNeg) rfl dd_mo_reason_185 ?_
    refine lv_i2l (v := (M.1 (a0 + 11) v3.toNatClampNeg).toInt64) hx hb dd_mo_reason_186 rfl ?_
    refine lv_lconst (v := (0 : Int64)) hx hb dd_mo_reason_187 (by decide) ?_
    refine lv_ldc2 (v := (63 : Int64)) hx hb hown (hg _ kw_261) dd_mo_reason_188 ?_
    obtain ⟨r191, M191, hc191, hF⟩ := gw_be hF
    refine gw_ci G (va_runS (As := [.long ((M.1 (a0 + 11) v3.toNatClampNeg).toInt64), .long (0 : Int64), .long (63 : Int64)]) (rest := []) ⟨hx, hb, hml, hown, hts⟩ (ct_mo_in l X Y M ((M.1 (a0 + 11) v3.toNatClampNeg).toInt64) (0 : Int64) (63 : Int64)  _ hc191) (cwS 3 hts (gw_gS kw_251 kw_252 kw_253 kw_250) rfl rfl rfl (by decide +kernel) ⟨Nat.le_of_ble_eq_true rfl, Nat.le_of_ble_eq_true rfl⟩) ⟨gw_blind, gw_pre hK G⟩ rfl rfl hl.1 rfl (Nat.le_of_ble_eq_true rfl) dd_mo_reason_191 ⟨Nat.le_of_ble_eq_true rfl, Nat.le_of_ble_eq_true rfl⟩) (fun H locs G => ?_)
    refine lv_if_ne (tgt := 199) hx hb dd_mo_reason_194 (by decide) (fun h194 => ?_) (fun h194 => ?_)
    · replace hF := gw_ef h194 hF
      exact wb_mo_reason_199 C0  M191 a0 v3 v4 _ _ _ ha0 G (lv_sub hl [0, 1, 2] rfl) hF
    · replace hF := gw_et h194 hF
      refine lv_iconst (v := (4 : Int32)) hx hb dd_mo_reason_197 (by decide) ?_
      exact W.iret hx hb hr (fun t ht hW => gw_endi (EF := (fun M => (gw_E X Y M))) (M := M191) G ht hF) G.2.2.2.2 dd_mo_reason_198 hlocks
set_option maxRecDepth 100000 in
set_option maxHeartbeats 4000000 in
theorem wb_mo_reason_157 {p : Program} {l : Launch} {e : Env} {s : State} {m : MethodId} {args : Array Value} {below : List Frame} {meth : Method} {c : Code} {X : gw_X} {Y : gw_M} {z : (Int32 × gw_M)} (C0 : gw_C ((Cond.code yy_mo_reason by_mo_reason 7 (some .int)) :: gw_w) by_mo_reason 7 (some .int) "AccountMachineModel" X p s m args meth c) (M : gw_M) (a0 : Nat) (v3 : Int32) (v4 : Int32) (H : Heap) (locs : List Loc) (ls : Array Slot) (ha0 : gr_k a0 = (11, 0)) (G : gw_G X (gw_E X Y M) s H locs) (hl : lv_has ls 7 [(0, .ref (gr_a X a0)), (3, .int v3), (4, .int v4)]) (hF : mo_reason_b157  M a0 v3 v4 = some z) : W p l e rm_mo_reason s m args below meth c H locs 0 0 (MQ below (gw_Qi X (fun M => (gw_E X Y M)) z) args s 0 0 (gw_A X)) (F0 m 157 ls []) := by
  obtain ⟨hx, hb, hml, hown, hts, hr, hlocks, hK⟩ := id C0
  have hg : ∀ w ∈ gw_w, w.before args s = true := fun w h => hts w (List.mem_cons_of_mem _ h)
  unfold mo_reason_b157 at hF
  refine lv_iload hx hb dd_mo_reason_157 (lv_at hl 2 rfl) ?_
  refine lv_bipush (v := (6 : Int32)) hx hb dd_mo_reason_159 (by decide) ?_
  refine lv_icmp_ne (tgt := 173) hx hb dd_mo_reason_161 (by decide) (fun h161 => ?_) (fun h161 => ?_)
  · replace hF := gw_ef h161 hF
    exact wb_mo_reason_173 C0  M a0 v3 v4 _ _ _ ha0 G (lv_sub hl [0, 1, 2] rfl) hF
  · replace hF := gw_et h161 hF
    refine lv_aload_n hx hb dd_mo_reason_164 rfl (lv_at hl 0 rfl) ?_
    refine gf_mo_numbers hx hb hg hown (hg _ kw_259) hK G ha0 dd_mo_reason_165 ?_
    refine lv_iload_n hx hb dd_mo_reason_168 rfl (lv_at hl 1 rfl) ?_
    obtain ⟨h169, hF⟩ := gw_gd hF
    refine gr_iald hx hb hK G (gq_mo_numbers ha0) (gw_vp h169) (j := v3.toNatClampNeg) rfl dd_mo_reason_169 ?_
    refine lv_if_eq (tgt := 197) hx hb dd_mo_reason_170 (by decide) (fun h170 => ?_) (fun h170 => ?_)
    · replace hF := gw_et h170 hF
      refine lv_iconst (v := (4 : Int32)) hx hb dd_mo_reason_197 (by decide) ?_
      exact W.iret hx hb hr (fun t ht hW => gw_endi (EF := (fun M => (gw_E X Y M))) (M := M) G ht hF) G.2.2.2.2 dd_mo_reason_198 hlocks
    · replace hF := gw_ef h170 hF
      exact wb_mo_reason_173 C0  M a0 v3 v4 _ _ _ ha0 G (lv_sub hl [0, 1, 2] rfl) hF
set_option maxRecDepth 100000 in
set_option maxHeartbeats 4000000 in
theorem wb_mo_reason_120 {p : Program} {l : Launch} {e : Env} {s : State} {m : MethodId} {args : Array Value} {below : List Frame} {meth : Method} {c : Code} {X : gw_X} {Y : gw_M} {z : (Int32 × gw_M)} (C0 : gw_C ((Cond.code yy_mo_reason by_mo_reason 7 (some .int)) :: gw_w) by_mo_reason 7 (some .int) "AccountMachineModel" X p s m args meth c) (M : gw_M) (a0 : Nat) (v1 : Int32) (v2 : Int32) (v3 : Int32) (v4 : Int32) (v5 : Int32) (H : Heap) (locs : List Loc) (ls : Array Slot) (ha0 : gr_k a0 = (11, 0)) (G : gw_G X (gw_E X Y M) s H locs) (hl : lv_has ls 7 [(0, .ref (gr_a X a0)), (1, .int v1), (2, .int v2), (3, .int v3), (4, .int v4), (5, .int v5)]) (hF : mo_reason_b120  M a0 v1 v2 v3 v4 v5 = some z) : W p l e rm_mo_reason s m args below meth c H locs 0 0 (MQ below (gw_Qi X (fun M => (gw_E X Y M)) z) args s 0 0 (gw_A X)) (F0 m 120 ls []) := by
  obtain ⟨hx, hb, hml, hown, hts, hr, hlocks, hK⟩ := id C0
  have hg : ∀ w ∈ gw_w, w.before args s = true := fun w h => hts w (List.mem_cons_of_mem _ h)
  unfold mo_reason_b120 at hF
  refine lv_iload hx hb dd_mo_reason_120 (lv_at hl 5 rfl) ?_
  refine lv_if_eq (tgt := 157) hx hb dd_mo_reason_122 (by decide) (fun h122 => ?_) (fun h122 => ?_)
  · replace hF := gw_et h122 hF
    exact wb_mo_reason_157 C0  M a0 v3 v4 _ _ _ ha0 G (lv_sub hl [0, 3, 4] rfl) hF
  · replace hF := gw_ef h122 hF
    refine lv_iload_n hx hb dd_mo_reason_125 rfl (lv_at hl 2 rfl) ?_
    refine lv_i2l (v := v2.toInt64) hx hb dd_mo_reason_126 rfl ?_
    refine lv_lconst (v := (1 : Int64)) hx hb dd_mo_reason_127 (by decide) ?_
    refine lv_ladd hx hb dd_mo_reason_128 ?_
    refine lv_aload_n hx hb dd_mo_reason_129 rfl (lv_at hl 0 rfl) ?_
    refine gf_mo_offsets hx hb hg hown (hg _ kw_258) hK G ha0 dd_mo_reason_130 ?_
    refine lv_iload_n hx hb dd_mo_reason_133 rfl (lv_at hl 3 rfl) ?_
    obtain ⟨h134, hF⟩ := gw_gd hF
    refine gr_iald hx hb hK G (gq_mo_offsets ha0) (gw_vp h134) (j := v3.toNatClampNeg) rfl dd_mo_reason_134 ?_
    refine lv_i2l (v := (M.1 (a0 + 10) v3.toNatClampNeg).toInt64) hx hb dd_mo_reason_135 rfl ?_
    refine W.eq (g2 := F0 m 136 _ _) rfl ?_
    refine lv_ladd hx hb dd_mo_reason_136 ?_
    refine lv_lconst (v := (0 : Int64)) hx hb dd_mo_reason_137 (by decide) ?_
    refine lv_aload_n hx hb dd_mo_reason_138 rfl (lv_at hl 0 rfl) ?_
    refine gf_mo_length hx hb hg hown (hg _ kw_254) hK G ha0 dd_mo_reason_139 ?_
    refine lv_iload_n hx hb dd_mo_reason_142 rfl (lv_at hl 1 rfl) ?_
    refine lv_iconst (v := (1 : Int32)) hx hb dd_mo_reason_143 (by decide) ?_
    refine lv_isub hx hb dd_mo_reason_144 ?_
    obtain ⟨h145, hF⟩ := gw_gd hF
    refine gr_iald hx hb hK G (gq_mo_length ha0) (gw_vp h145) (j := (v1 - (1 : Int32)).toNatClampNeg) rfl dd_mo_reason_145 ?_
    refine lv_i2l (v := (M.1 (a0 + 5) ((v1 - (1 : Int32)).toNatClampNeg)).toInt64) hx hb dd_mo_reason_146 rfl ?_
    refine lv_lconst (v := (1 : Int64)) hx hb dd_mo_reason_147 (by decide) ?_
    refine W.eq (g2 := F0 m 148 _ _) rfl ?_
    refine lv_lsub hx hb dd_mo_reason_148 ?_
    obtain ⟨r149, M149, hc149, hF⟩ := gw_be hF
    refine gw_ci G (va_runS (As := [.long ((v2.toInt64 + (1 : Int64)) + ((M.1 (a0 + 10) v3.toNatClampNeg).toInt64)), .long (0 : Int64), .long (((M.1 (a0 + 5) ((v1 - (1 : Int32)).toNatClampNeg)).toInt64) - (1 : Int64))]) (rest := []) ⟨hx, hb, hml, hown, hts⟩ (ct_mo_in l X Y M ((v2.toInt64 + (1 : Int64)) + ((M.1 (a0 + 10) v3.toNatClampNeg).toInt64)) (0 : Int64) (((M.1 (a0 + 5) ((v1 - (1 : Int32)).toNatClampNeg)).toInt64) - (1 : Int64))  _ hc149) (cwS 3 hts (gw_gS kw_251 kw_252 kw_253 kw_250) rfl rfl rfl (by decide +kernel) ⟨Nat.le_of_ble_eq_true rfl, Nat.le_of_ble_eq_true rfl⟩) ⟨gw_blind, gw_pre hK G⟩ rfl rfl hl.1 rfl (Nat.le_of_ble_eq_true rfl) dd_mo_reason_149 ⟨Nat.le_of_ble_eq_true rfl, Nat.le_of_ble_eq_true rfl⟩) (fun H locs G => ?_)
    refine lv_if_ne (tgt := 157) hx hb dd_mo_reason_152 (by decide) (fun h152 => ?_) (fun h152 => ?_)
    · replace hF := gw_ef h152 hF
      exact wb_mo_reason_157 C0  M149 a0 v3 v4 _ _ _ ha0 G (lv_sub hl [0, 3, 4] rfl) hF
    · replace hF := gw_et h152 hF
      refine lv_iconst (v := (3 : Int32)) hx hb dd_mo_reason_155 (by decide) ?_
      exact W.iret hx hb hr (fun t ht hW => gw_endi (EF := (fun M => (gw_E X Y M))) (M := M149) G ht hF) G.2.2.2.2 dd_mo_reason_156 hlocks
set_option maxRecDepth 100000 in
set_option maxHeartbeats 4000000 in
theorem wb_mo_reason_99 {p : Program} {l : Launch} {e : Env} {s : State} {m : MethodId} {args : Array Value} {below : List Frame} {meth : Method} {c : Code} {X : gw_X} {Y : gw_M} {z : (Int32 × gw_M)} (C0 : gw_C ((Cond.code yy_mo_reason by_mo_reason 7 (some .int)) :: gw_w) by_mo_reason 7 (some .int) "AccountMachineModel" X p s m args meth c) (M : gw_M) (a0 : Nat) (v1 : Int32) (v2 : Int32) (v3 : Int32) (v4 : Int32) (v5 : Int32) (t0 : Int32) (H : Heap) (locs : List Loc) (ls : Array Slot) (ha0 : gr_k a0 = (11, 0)) (G : gw_G X (gw_E X Y M) s H locs) (hl : lv_has ls 7 [(0, .ref (gr_a X a0)), (1, .int v1), (2, .int v2), (3, .int v3), (4, .int v4), (5, .int v5)]) (hF : mo_reason_b99  M a0 v1 v2 v3 v4 v5 t0 = some z) : W p l e rm_mo_reason s m args below meth c H locs 0 0 (MQ below (gw_Qi X (fun M => (gw_E X Y M)) z) args s 0 0 (gw_A X)) (F0 m 99 ls [.int t0]) := by
  obtain ⟨hx, hb, hml, hown, hts, hr, hlocks, hK⟩ := id C0
  have hg : ∀ w ∈ gw_w, w.before args s = true := fun w h => hts w (List.mem_cons_of_mem _ h)
  unfold mo_reason_b99 at hF
  refine lv_istore (i := 6) (lv' := [(6, .int t0), (0, .ref (gr_a X a0)), (1, .int v1), (2, .int v2), (3, .int v3), (4, .int v4), (5, .int v5)]) hx hb dd_mo_reason_99 hl (by decide) rfl (fun ls hl => ?_)
  refine lv_iload hx hb dd_mo_reason_101 (lv_at hl 0 rfl) ?_
  refine lv_if_eq (tgt := 120) hx hb dd_mo_reason_103 (by decide) (fun h103 => ?_) (fun h103 => ?_)
  · replace hF := gw_et h103 hF
    exact wb_mo_reason_120 C0  M a0 v1 v2 v3 v4 v5 _ _ _ ha0 G (lv_sub hl [1, 2, 3, 4, 5, 6] rfl) hF
  · replace hF := gw_ef h103 hF
    refine lv_iload_n hx hb dd_mo_reason_106 rfl (lv_at hl 3 rfl) ?_
    refine lv_iconst (v := (1 : Int32)) hx hb dd_mo_reason_107 (by decide) ?_
    refine lv_iadd hx hb dd_mo_reason_108 ?_
    refine lv_aload_n hx hb dd_mo_reason_109 rfl (lv_at hl 1 rfl) ?_
    refine gf_mo_length hx hb hg hown (hg _ kw_254) hK G ha0 dd_mo_reason_110 ?_
    refine lv_iload_n hx hb dd_mo_reason_113 rfl (lv_at hl 2 rfl) ?_
    refine lv_iconst (v := (1 : Int32)) hx hb dd_mo_reason_114 (by decide) ?_
    refine lv_isub hx hb dd_mo_reason_115 ?_
    obtain ⟨h116, hF⟩ := gw_gd hF
    refine gr_iald hx hb hK G (gq_mo_length ha0) (gw_vp h116) (j := (v1 - (1 : Int32)).toNatClampNeg) rfl dd_mo_reason_116 ?_
    refine W.eq (g2 := F0 m 117 _ _) rfl ?_
    refine lv_icmp_ge (tgt := 155) hx hb dd_mo_reason_117 (by decide) (fun h117 => ?_) (fun h117 => ?_)
    · replace hF := gw_et h117 hF
      refine lv_iconst (v := (3 : Int32)) hx hb dd_mo_reason_155 (by decide) ?_
      exact W.iret hx hb hr (fun t ht hW => gw_endi (EF := (fun M => (gw_E X Y M))) (M := M) G ht hF) G.2.2.2.2 dd_mo_reason_156 hlocks
    · replace hF := gw_ef h117 hF
      exact wb_mo_reason_120 C0  M a0 v1 v2 v3 v4 v5 _ _ _ ha0 G (lv_sub hl [1, 2, 3, 4, 5, 6] rfl) hF
set_option maxRecDepth 100000 in
set_option maxHeartbeats 4000000 in
theorem wb_mo_reason_98 {p : Program} {l : Launch} {e : Env} {s : State} {m : MethodId} {args : Array Value} {below : List Frame} {meth : Method} {c : Code} {X : gw_X} {Y : gw_M} {z : (Int32 × gw_M)} (C0 : gw_C ((Cond.code yy_mo_reason by_mo_reason 7 (some .int)) :: gw_w) by_mo_reason 7 (some .int) "AccountMachineModel" X p s m args meth c) (M : gw_M) (a0 : Nat) (v1 : Int32) (v2 : Int32) (v3 : Int32) (v4 : Int32) (v5 : Int32) (H : Heap) (locs : List Loc) (ls : Array Slot) (ha0 : gr_k a0 = (11, 0)) (G : gw_G X (gw_E X Y M) s H locs) (hl : lv_has ls 7 [(0, .ref (gr_a X a0)), (1, .int v1), (2, .int v2), (3, .int v3), (4, .int v4), (5, .int v5)]) (hF : mo_reason_b98  M a0 v1 v2 v3 v4 v5 = some z) : W p l e rm_mo_reason s m args below meth c H locs 0 0 (MQ below (gw_Qi X (fun M => (gw_E X Y M)) z) args s 0 0 (gw_A X)) (F0 m 98 ls []) := by
  obtain ⟨hx, hb, hml, hown, hts, hr, hlocks, hK⟩ := id C0
  have hg : ∀ w ∈ gw_w, w.before args s = true := fun w h => hts w (List.mem_cons_of_mem _ h)
  unfold mo_reason_b98 at hF
  refine lv_iconst (v := (0 : Int32)) hx hb dd_mo_reason_98 (by decide) ?_
  exact wb_mo_reason_99 C0  M a0 v1 v2 v3 v4 v5 (0 : Int32) _ _ _ ha0 G (lv_sub hl [0, 1, 2, 3, 4, 5] rfl) hF
set_option maxRecDepth 100000 in
set_option maxHeartbeats 4000000 in
theorem wb_mo_reason_0 {p : Program} {l : Launch} {e : Env} {s : State} {m : MethodId} {args : Array Value} {below : List Frame} {meth : Method} {c : Code} {X : gw_X} {Y : gw_M} {z : (Int32 × gw_M)} (C0 : gw_C ((Cond.code yy_mo_reason by_mo_reason 7 (some .int)) :: gw_w) by_mo_reason 7 (some .int) "AccountMachineModel" X p s m args meth c) (M : gw_M) (a0 : Nat) (v1 : Int32) (v2 : Int32) (H : Heap) (locs : List Loc) (ls : Array Slot) (ha0 : gr_k a0 = (11, 0)) (G : gw_G X (gw_E X Y M) s H locs) (hl : lv_has ls 7 [(0, .ref (gr_a X a0)), (1, .int v1), (2, .int v2)]) (hF : mo_reason_b0  M a0 v1 v2 = some z) : W p l e rm_mo_reason s m args below meth c H locs 0 0 (MQ below (gw_Qi X (fun M => (gw_E X Y M)) z) args s 0 0 (gw_A X)) (F0 m 0 ls []) := by
  obtain ⟨hx, hb, hml, hown, hts, hr, hlocks, hK⟩ := id C0
  have hg : ∀ w ∈ gw_w, w.before args s = true := fun w h => hts w (List.mem_cons_of_mem _ h)
  unfold mo_reason_b0 at hF
  refine lv_bipush (v := (32 : Int32)) hx hb dd_mo_reason_0 (by decide) ?_
  refine lv_iload_n hx hb dd_mo_reason_2 rfl (lv_at hl 1 rfl) ?_
  refine lv_iconst (v := (1 : Int32)) hx hb dd_mo_reason_3 (by decide) ?_
  refine lv_isub hx hb dd_mo_reason_4 ?_
  refine lv_imul hx hb dd_mo_reason_5 ?_
  refine lv_iload_n hx hb dd_mo_reason_6 rfl (lv_at hl 2 rfl) ?_
  refine lv_iadd hx hb dd_mo_reason_7 ?_
  refine lv_topi (fun x8 e8 => ?_)
  replace hF := gw_ly e8 hF
  refine lv_istore_n (i := 3) (lv' := [(3, .int x8), (0, .ref (gr_a X a0)), (1, .int v1), (2, .int v2)]) hx hb dd_mo_reason_8 rfl hl (by decide) rfl (fun ls hl => ?_)
  refine lv_aload_n hx hb dd_mo_reason_9 rfl (lv_at hl 1 rfl) ?_
  refine W.eq (g2 := F0 m 10 _ _) rfl ?_
  refine gf_mo_kinds hx hb hg hown (hg _ kw_255) hK G ha0 dd_mo_reason_10 ?_
  refine lv_iload_n hx hb dd_mo_reason_13 rfl (lv_at hl 0 rfl) ?_
  obtain ⟨h14, hF⟩ := gw_gd hF
  refine gr_iald hx hb hK G (gq_mo_kinds ha0) (gw_vp h14) (j := x8.toNatClampNeg) rfl dd_mo_reason_14 ?_
  refine lv_topi (fun x15 e15 => ?_)
  replace hF := gw_ly e15 hF
  refine lv_istore (i := 4) (lv' := [(4, .int x15), (3, .int x8), (0, .ref (gr_a X a0)), (1, .int v1), (2, .int v2)]) hx hb dd_mo_reason_15 hl (by decide) rfl (fun ls hl => ?_)
  refine lv_iload hx hb dd_mo_reason_17 (lv_at hl 0 rfl) ?_
  refine lv_i2l (v := x15.toInt64) hx hb dd_mo_reason_19 rfl ?_
  refine lv_lconst (v := (0 : Int64)) hx hb dd_mo_reason_20 (by decide) ?_
  refine lv_ldc2 (v := (15 : Int64)) hx hb hown (hg _ kw_262) dd_mo_reason_21 ?_
  obtain ⟨r24, M24, hc24, hF⟩ := gw_be hF
  refine gw_ci G (va_runS (As := [.long x15.toInt64, .long (0 : Int64), .long (15 : Int64)]) (rest := []) ⟨hx, hb, hml, hown, hts⟩ (ct_mo_in l X Y M x15.toInt64 (0 : Int64) (15 : Int64)  _ hc24) (cwS 3 hts (gw_gS kw_251 kw_252 kw_253 kw_250) rfl rfl rfl (by decide +kernel) ⟨Nat.le_of_ble_eq_true rfl, Nat.le_of_ble_eq_true rfl⟩) ⟨gw_blind, gw_pre hK G⟩ rfl rfl hl.1 rfl (Nat.le_of_ble_eq_true rfl) dd_mo_reason_24 ⟨Nat.le_of_ble_eq_true rfl, Nat.le_of_ble_eq_true rfl⟩) (fun H locs G => ?_)
  refine lv_if_eq (tgt := 64) hx hb dd_mo_reason_27 (by decide) (fun h27 => ?_) (fun h27 => ?_)
  · replace hF := gw_et h27 hF
    refine lv_iconst (v := (2 : Int32)) hx hb dd_mo_reason_64 (by decide) ?_
    exact W.iret hx hb hr (fun t ht hW => gw_endi (EF := (fun M => (gw_E X Y M))) (M := M24) G ht hF) G.2.2.2.2 dd_mo_reason_65 hlocks
  · replace hF := gw_ef h27 hF
    refine lv_aload_n hx hb dd_mo_reason_30 rfl (lv_at hl 2 rfl) ?_
    refine gf_mo_lefts hx hb hg hown (hg _ kw_256) hK G ha0 dd_mo_reason_31 ?_
    refine lv_iload_n hx hb dd_mo_reason_34 rfl (lv_at hl 1 rfl) ?_
    obtain ⟨h35, hF⟩ := gw_gd hF
    refine gr_iald hx hb hK G (gq_mo_lefts ha0) (gw_vp h35) (j := x8.toNatClampNeg) rfl dd_mo_reason_35 ?_
    refine lv_i2l (v := (M24.1 (a0 + 8) x8.toNatClampNeg).toInt64) hx hb dd_mo_reason_36 rfl ?_
    refine lv_lconst (v := (0 : Int64)) hx hb dd_mo_reason_37 (by decide) ?_
    refine lv_ldc2 (v := (9 : Int64)) hx hb hown (hg _ kw_263) dd_mo_reason_38 ?_
    obtain ⟨r41, M41, hc41, hF⟩ := gw_be hF
    refine gw_ci G (va_runS (As := [.long ((M24.1 (a0 + 8) x8.toNatClampNeg).toInt64), .long (0 : Int64), .long (9 : Int64)]) (rest := []) ⟨hx, hb, hml, hown, hts⟩ (ct_mo_in l X Y M24 ((M24.1 (a0 + 8) x8.toNatClampNeg).toInt64) (0 : Int64) (9 : Int64)  _ hc41) (cwS 3 hts (gw_gS kw_251 kw_252 kw_253 kw_250) rfl rfl rfl (by decide +kernel) ⟨Nat.le_of_ble_eq_true rfl, Nat.le_of_ble_eq_true rfl⟩) ⟨gw_blind, gw_pre hK G⟩ rfl rfl hl.1 rfl (Nat.le_of_ble_eq_true rfl) dd_mo_reason_41 ⟨Nat.le_of_ble_eq_true rfl, Nat.le_of_ble_eq_true rfl⟩) (fun H locs G => ?_)
    refine lv_if_eq (tgt := 64) hx hb dd_mo_reason_44 (by decide) (fun h44 => ?_) (fun h44 => ?_)
    · replace hF := gw_et h44 hF
      refine lv_iconst (v := (2 : Int32)) hx hb dd_mo_reason_64 (by decide) ?_
      exact W.iret hx hb hr (fun t ht hW => gw_endi (EF := (fun M => (gw_E X Y M))) (M := M41) G ht hF) G.2.2.2.2 dd_mo_reason_65 hlocks
    · replace hF := gw_ef h44 hF
      refine lv_aload_n hx hb dd_mo_reason_47 rfl (lv_at hl 2 rfl) ?_
      refine gf_mo_rights hx hb hg hown (hg _ kw_257) hK G ha0 dd_mo_reason_48 ?_
      refine lv_iload_n hx hb dd_mo_reason_51 rfl (lv_at hl 1 rfl) ?_
      obtain ⟨h52, hF⟩ := gw_gd hF
      refine gr_iald hx hb hK G (gq_mo_rights ha0) (gw_vp h52) (j := x8.toNatClampNeg) rfl dd_mo_reason_52 ?_
      refine lv_i2l (v := (M41.1 (a0 + 9) x8.toNatClampNeg).toInt64) hx hb dd_mo_reason_53 rfl ?_
      refine lv_lconst (v := (0 : Int64)) hx hb dd_mo_reason_54 (by decide) ?_
      refine lv_ldc2 (v := (9 : Int64)) hx hb hown (hg _ kw_263) dd_mo_reason_55 ?_
      obtain ⟨r58, M58, hc58, hF⟩ := gw_be hF
      refine gw_ci G (va_runS (As := [.long ((M41.1 (a0 + 9) x8.toNatClampNeg).toInt64), .long (0 : Int64), .long (9 : Int64)]) (rest := []) ⟨hx, hb, hml, hown, hts⟩ (ct_mo_in l X Y M41 ((M41.1 (a0 + 9) x8.toNatClampNeg).toInt64) (0 : Int64) (9 : Int64)  _ hc58) (cwS 3 hts (gw_gS kw_251 kw_252 kw_253 kw_250) rfl rfl rfl (by decide +kernel) ⟨Nat.le_of_ble_eq_true rfl, Nat.le_of_ble_eq_true rfl⟩) ⟨gw_blind, gw_pre hK G⟩ rfl rfl hl.1 rfl (Nat.le_of_ble_eq_true rfl) dd_mo_reason_58 ⟨Nat.le_of_ble_eq_true rfl, Nat.le_of_ble_eq_true rfl⟩) (fun H locs G => ?_)
      refine lv_if_ne (tgt := 66) hx hb dd_mo_reason_61 (by decide) (fun h61 => ?_) (fun h61 => ?_)
      · replace hF := gw_ef h61 hF
        refine lv_iload hx hb dd_mo_reason_66 (lv_at hl 0 rfl) ?_
        refine lv_i2l (v := x15.toInt64) hx hb dd_mo_reason_68 rfl ?_
        refine lv_ldc2 (v := (10 : Int64)) hx hb hown (hg _ kw_264) dd_mo_reason_69 ?_
        refine lv_ldc2 (v := (13 : Int64)) hx hb hown (hg _ kw_265) dd_mo_reason_72 ?_
        obtain ⟨r75, M75, hc75, hF⟩ := gw_be hF
        refine gw_ci G (va_runS (As := [.long x15.toInt64, .long (10 : Int64), .long (13 : Int64)]) (rest := []) ⟨hx, hb, hml, hown, hts⟩ (ct_mo_in l X Y M58 x15.toInt64 (10 : Int64) (13 : Int64)  _ hc75) (cwS 3 hts (gw_gS kw_251 kw_252 kw_253 kw_250) rfl rfl rfl (by decide +kernel) ⟨Nat.le_of_ble_eq_true rfl, Nat.le_of_ble_eq_true rfl⟩) ⟨gw_blind, gw_pre hK G⟩ rfl rfl hl.1 rfl (Nat.le_of_ble_eq_true rfl) dd_mo_reason_75 ⟨Nat.le_of_ble_eq_true rfl, Nat.le_of_ble_eq_true rfl⟩) (fun H locs G => ?_)
        refine lv_istore (i := 5) (lv' := [(5, .int r75), (4, .int x15), (3, .int x8), (0, .ref (gr_a X a0)), (1, .int v1), (2, .int v2)]) hx hb dd_mo_reason_78 hl (by decide) rfl (fun ls hl => ?_)
        refine lv_iload hx hb dd_mo_reason_80 (lv_at hl 1 rfl) ?_
        refine lv_bipush (v := (10 : Int32)) hx hb dd_mo_reason_82 (by decide) ?_
        refine lv_icmp_eq (tgt := 98) hx hb dd_mo_reason_84 (by decide) (fun h84 => ?_) (fun h84 => ?_)
        · replace hF := gw_et h84 hF
          exact wb_mo_reason_98 C0  M75 a0 v1 v2 x8 x15 r75 _ _ _ ha0 G (lv_sub hl [3, 4, 5, 2, 1, 0] rfl) hF
        · replace hF := gw_ef h84 hF
          refine lv_iload hx hb dd_mo_reason_87 (lv_at hl 1 rfl) ?_
          refine lv_bipush (v := (15 : Int32)) hx hb dd_mo_reason_89 (by decide) ?_
          refine lv_icmp_eq (tgt := 98) hx hb dd_mo_reason_91 (by decide) (fun h91 => ?_) (fun h91 => ?_)
          · replace hF := gw_et h91 hF
            exact wb_mo_reason_98 C0  M75 a0 v1 v2 x8 x15 r75 _ _ _ ha0 G (lv_sub hl [3, 4, 5, 2, 1, 0] rfl) hF
          · replace hF := gw_ef h91 hF
            refine lv_iconst (v := (1 : Int32)) hx hb dd_mo_reason_94 (by decide) ?_
            refine lv_goto (tgt := 99) hx hb dd_mo_reason_95 (by decide) ?_
            exact wb_mo_reason_99 C0  M75 a0 v1 v2 x8 x15 r75 (1 : Int32) _ _ _ ha0 G (lv_sub hl [3, 4, 5, 2, 1, 0] rfl) hF
      · replace hF := gw_et h61 hF
        refine lv_iconst (v := (2 : Int32)) hx hb dd_mo_reason_64 (by decide) ?_
        exact W.iret hx hb hr (fun t ht hW => gw_endi (EF := (fun M => (gw_E X Y M))) (M := M58) G ht hF) G.2.2.2.2 dd_mo_reason_65 hlocks
set_option maxRecDepth 100000 in
set_option maxHeartbeats 4000000 in
theorem ct_mo_reason (l : Launch) (X : gw_X) (Y : gw_M) (M : gw_M) (a0 : Nat) (v1 : Int32) (v2 : Int32) (ha0 : gr_k a0 = (11, 0)) (z : (Int32 × gw_M)) (hF : mo_reason_b0 M a0 v1 v2 = some z) : Met l yy_mo_reason ((Cond.code yy_mo_reason by_mo_reason 7 (some .int)) :: gw_w) rm_mo_reason (va_Pc [.ref (gr_a X a0), .int v1, .int v2] (gw_B X (gw_E X Y M))) (gw_Qi X (fun M => (gw_E X Y M)) z) 0 0 (gw_A X) := by
  refine Met.ofW (cc := by_mo_reason) (maxL := 7) (ret := (some .int)) (by decide) rfl ?_
  intro p e s m args below meth c s₁ B hml hv
  obtain ⟨rfl, hB⟩ := hv
  rw [lg_entry_eq]
  have hl := lv_entry ([.ref (gr_a X a0), .int v1, .int v2]) (n := 7) (Nat.le_of_ble_eq_true rfl)
  generalize (lg_sl ([.ref (gr_a X a0), .int v1, .int v2]) ++ List.replicate (7 - (lg_sl ([.ref (gr_a X a0), .int v1, .int v2])).length) Slot.unset).toArray = ls at hl ⊢
  have hl : lv_has ls 7 [(0, .ref (gr_a X a0)), (1, .int v1), (2, .int v2)] := hl
  exact wb_mo_reason_0 (gw_ctx B hml rfl hB) M a0 v1 v2 _ _ _ ha0 (gw_start hB) hl hF
/-! AccountMachineModel.load(I)I -/
abbrev rm_mo_load : Room := { frames := 2, cells := 0, slots := 0, locals := 51 }
theorem dd_mo_load_0 : decode by_mo_load 0 = .ok (.iload_n 1, 1) := by decide +kernel
theorem dd_mo_load_1 : decode by_mo_load 1 = .ok (.i2l, 1) := by decide +kernel
theorem dd_mo_load_2 : decode by_mo_load 2 = .ok (.lconst 1, 1) := by decide +kernel
theorem dd_mo_load_3 : decode by_mo_load 3 = .ok (.ldc2_w 81, 3) := by decide +kernel
theorem dd_mo_load_6 : decode by_mo_load 6 = .ok (.invokestatic 83, 3) := by decide +kernel
theorem dd_mo_load_9 : decode by_mo_load 9 = .ok (.ifCond .ne 5, 3) := by decide +kernel
theorem dd_mo_load_12 : decode by_mo_load 12 = .ok (.iconst (-1), 1) := by decide +kernel
theorem dd_mo_load_13 : decode by_mo_load 13 = .ok (.ireturn, 1) := by decide +kernel
theorem dd_mo_load_14 : decode by_mo_load 14 = .ok (.aload_n 0, 1) := by decide +kernel
theorem dd_mo_load_15 : decode by_mo_load 15 = .ok (.getfield 22, 3) := by decide +kernel
theorem dd_mo_load_18 : decode by_mo_load 18 = .ok (.iload_n 1, 1) := by decide +kernel
theorem dd_mo_load_19 : decode by_mo_load 19 = .ok (.iconst 1, 1) := by decide +kernel
theorem dd_mo_load_20 : decode by_mo_load 20 = .ok (.isub, 1) := by decide +kernel
theorem dd_mo_load_21 : decode by_mo_load 21 = .ok (.iaload, 1) := by decide +kernel
theorem dd_mo_load_22 : decode by_mo_load 22 = .ok (.ifCond .ne 7, 3) := by decide +kernel
theorem dd_mo_load_25 : decode by_mo_load 25 = .ok (.iconst 1, 1) := by decide +kernel
theorem dd_mo_load_26 : decode by_mo_load 26 = .ok (.goto 4, 3) := by decide +kernel
theorem dd_mo_load_29 : decode by_mo_load 29 = .ok (.iconst 0, 1) := by decide +kernel
theorem dd_mo_load_30 : decode by_mo_load 30 = .ok (.istore_n 2, 1) := by decide +kernel
theorem dd_mo_load_31 : decode by_mo_load 31 = .ok (.aload_n 0, 1) := by decide +kernel
theorem dd_mo_load_32 : decode by_mo_load 32 = .ok (.getfield 22, 3) := by decide +kernel
theorem dd_mo_load_35 : decode by_mo_load 35 = .ok (.iload_n 1, 1) := by decide +kernel
theorem dd_mo_load_36 : decode by_mo_load 36 = .ok (.iconst 1, 1) := by decide +kernel
theorem dd_mo_load_37 : decode by_mo_load 37 = .ok (.isub, 1) := by decide +kernel
theorem dd_mo_load_38 : decode by_mo_load 38 = .ok (.iaload, 1) := by decide +kernel
theorem dd_mo_load_39 : decode by_mo_load 39 = .ok (.iconst 1, 1) := by decide +kernel
theorem dd_mo_load_40 : decode by_mo_load 40 = .ok (.isub, 1) := by decide +kernel
theorem dd_mo_load_41 : decode by_mo_load 41 = .ok (.istore_n 3, 1) := by decide +kernel
theorem dd_mo_load_42 : decode by_mo_load 42 = .ok (.iload_n 3, 1) := by decide +kernel
theorem dd_mo_load_43 : decode by_mo_load 43 = .ok (.ifCond .lt 34, 3) := by decide +kernel
theorem dd_mo_load_46 : decode by_mo_load 46 = .ok (.aload_n 0, 1) := by decide +kernel
theorem dd_mo_load_47 : decode by_mo_load 47 = .ok (.iload_n 1, 1) := by decide +kernel
theorem dd_mo_load_48 : decode by_mo_load 48 = .ok (.iload_n 3, 1) := by decide +kernel
theorem dd_mo_load_49 : decode by_mo_load 49 = .ok (.invokevirtual 97, 3) := by decide +kernel
theorem dd_mo_load_52 : decode by_mo_load 52 = .ok (.istore 4, 2) := by decide +kernel
theorem dd_mo_load_54 : decode by_mo_load 54 = .ok (.iload 4, 2) := by decide +kernel
theorem dd_mo_load_56 : decode by_mo_load 56 = .ok (.ifCond .le 13, 3) := by decide +kernel
theorem dd_mo_load_59 : decode by_mo_load 59 = .ok (.bipush 100, 2) := by decide +kernel
theorem dd_mo_load_61 : decode by_mo_load 61 = .ok (.iload_n 3, 1) := by decide +kernel
theorem dd_mo_load_62 : decode by_mo_load 62 = .ok (.imul, 1) := by decide +kernel
theorem dd_mo_load_63 : decode by_mo_load 63 = .ok (.iload 4, 2) := by decide +kernel
theorem dd_mo_load_65 : decode by_mo_load 65 = .ok (.iadd, 1) := by decide +kernel
theorem dd_mo_load_66 : decode by_mo_load 66 = .ok (.goto 4, 3) := by decide +kernel
theorem dd_mo_load_69 : decode by_mo_load 69 = .ok (.iload_n 2, 1) := by decide +kernel
theorem dd_mo_load_70 : decode by_mo_load 70 = .ok (.istore_n 2, 1) := by decide +kernel
theorem dd_mo_load_71 : decode by_mo_load 71 = .ok (.iinc 3 (-1), 3) := by decide +kernel
theorem dd_mo_load_74 : decode by_mo_load 74 = .ok (.goto (-32), 3) := by decide +kernel
theorem dd_mo_load_77 : decode by_mo_load 77 = .ok (.aload_n 0, 1) := by decide +kernel
theorem dd_mo_load_78 : decode by_mo_load 78 = .ok (.getfield 25, 3) := by decide +kernel
theorem dd_mo_load_81 : decode by_mo_load 81 = .ok (.iload_n 1, 1) := by decide +kernel
theorem dd_mo_load_82 : decode by_mo_load 82 = .ok (.iconst 1, 1) := by decide +kernel
theorem dd_mo_load_83 : decode by_mo_load 83 = .ok (.isub, 1) := by decide +kernel
theorem dd_mo_load_84 : decode by_mo_load 84 = .ok (.iload_n 2, 1) := by decide +kernel
theorem dd_mo_load_85 : decode by_mo_load 85 = .ok (.ifCond .ne 7, 3) := by decide +kernel
theorem dd_mo_load_88 : decode by_mo_load 88 = .ok (.iconst 1, 1) := by decide +kernel
theorem dd_mo_load_89 : decode by_mo_load 89 = .ok (.goto 4, 3) := by decide +kernel
theorem dd_mo_load_92 : decode by_mo_load 92 = .ok (.iconst 0, 1) := by decide +kernel
theorem dd_mo_load_93 : decode by_mo_load 93 = .ok (.bastore, 1) := by decide +kernel
theorem dd_mo_load_94 : decode by_mo_load 94 = .ok (.iload_n 2, 1) := by decide +kernel
theorem dd_mo_load_95 : decode by_mo_load 95 = .ok (.ireturn, 1) := by decide +kernel
def mo_load_b93 (M : gw_M) (v2 : Int32) (t0 : Int32) (t1 : Int32) (b2 : Nat) : Option (Int32 × gw_M) :=
  gw_gu (gw_in t1 3) (gw_lt (gw_sI M b2 t1.toNatClampNeg (vp_nar .boolean t0)) (fun M93 => some (v2, M93)))
def mo_load_b70 (K42 : gw_M → Nat → Int32 → Int32 → Int32 → Option (Int32 × gw_M)) (M : gw_M) (a0 : Nat) (v1 : Int32) (v3 : Int32) (t0 : Int32) : Option (Int32 × gw_M) :=
  K42 M a0 v1 t0 (v3 + (-1 : Int32))
def mo_load_b42 (K42 : gw_M → Nat → Int32 → Int32 → Int32 → Option (Int32 × gw_M)) (M : gw_M) (a0 : Nat) (v1 : Int32) (v2 : Int32) (v3 : Int32) : Option (Int32 × gw_M) :=
  if v3 < (0 : Int32) then (if v2 = (0 : Int32) then (mo_load_b93  M v2 (1 : Int32) (v1 - (1 : Int32)) (a0 + 6)) else (mo_load_b93  M v2 (0 : Int32) (v1 - (1 : Int32)) (a0 + 6))) else (gw_bd (mo_reason_b0 M a0 v1 v3) (fun r49 M49 => if r49 ≤ (0 : Int32) then (mo_load_b70 K42 M49 a0 v1 v3 v2) else (mo_load_b70 K42 M49 a0 v1 v3 (((100 : Int32) * v3) + r49))))
def mo_load_l42 : Nat → gw_M → Nat → Int32 → Int32 → Int32 → Option (Int32 × gw_M)
  | 0 => fun _ _ _ _ _ => none
  | n + 1 => mo_load_b42  (mo_load_l42  n)
def mo_load_b30 (M : gw_M) (a0 : Nat) (v1 : Int32) (t0 : Int32) : Option (Int32 × gw_M) :=
  gw_gu (gw_in (v1 - (1 : Int32)) 3) (gw_lt ((M.1 (a0 + 5) ((v1 - (1 : Int32)).toNatClampNeg)) - (1 : Int32)) (fun x41 => mo_load_l42  2100 M a0 v1 t0 x41))
def mo_load_b0 (M : gw_M) (a0 : Nat) (v1 : Int32) : Option (Int32 × gw_M) :=
  gw_bd (mo_in_b0 M v1.toInt64 (1 : Int64) (3 : Int64)) (fun r6 M6 => if r6 = (0 : Int32) then (some ((-1 : Int32), M6)) else (gw_gu (gw_in (v1 - (1 : Int32)) 3) (if (M6.1 (a0 + 5) ((v1 - (1 : Int32)).toNatClampNeg)) = (0 : Int32) then (mo_load_b30  M6 a0 v1 (1 : Int32)) else (mo_load_b30  M6 a0 v1 (0 : Int32)))))
set_option maxRecDepth 100000 in
set_option maxHeartbeats 4000000 in
theorem wb_mo_load_93 {p : Program} {l : Launch} {e : Env} {s : State} {m : MethodId} {args : Array Value} {below : List Frame} {meth : Method} {c : Code} {X : gw_X} {Y : gw_M} {z : (Int32 × gw_M)} (C0 : gw_C ((Cond.code yy_mo_load by_mo_load 5 (some .int)) :: gw_w) by_mo_load 5 (some .int) "AccountMachineModel" X p s m args meth c) (M : gw_M) (v2 : Int32) (t0 : Int32) (t1 : Int32) (b2 : Nat) (H : Heap) (locs : List Loc) (ls : Array Slot) (hb2 : gr_k b2 = (10, 3)) (G : gw_G X (gw_E X Y M) s H locs) (hl : lv_has ls 5 [(2, .int v2)]) (hF : mo_load_b93  M v2 t0 t1 b2 = some z) : W p l e rm_mo_load s m args below meth c H locs 0 0 (MQ below (gw_Qi X (fun M => (gw_E X Y M)) z) args s 0 0 (gw_A X)) (F0 m 93 ls [.int t0, .int t1, .ref (gr_a X b2)]) := by
  obtain ⟨hx, hb, hml, hown, hts, hr, hlocks, hK⟩ := id C0
  have hg : ∀ w ∈ gw_w, w.before args s = true := fun w h => hts w (List.mem_cons_of_mem _ h)
  unfold mo_load_b93 at hF
  obtain ⟨h93, hF⟩ := gw_gd hF
  refine gr_zast hx hb hK G hb2 (gw_vp h93) (j := t1.toNatClampNeg) rfl dd_mo_load_93 (fun M93 H locs e93 G => ?_)
  replace hF := gw_ly e93 hF
  refine lv_iload_n hx hb dd_mo_load_94 rfl (lv_at hl 0 rfl) ?_
  exact W.iret hx hb hr (fun t ht hW => gw_endi (EF := (fun M => (gw_E X Y M))) (M := M93) G ht hF) G.2.2.2.2 dd_mo_load_95 hlocks
set_option maxRecDepth 100000 in
set_option maxHeartbeats 4000000 in
theorem wb_mo_load_70 {p : Program} {l : Launch} {e : Env} {s : State} {m : MethodId} {args : Array Value} {below : List Frame} {meth : Method} {c : Code} {X : gw_X} {Y : gw_M} {z : (Int32 × gw_M)} (C0 : gw_C ((Cond.code yy_mo_load by_mo_load 5 (some .int)) :: gw_w) by_mo_load 5 (some .int) "AccountMachineModel" X p s m args meth c) {K42 : gw_M → Nat → Int32 → Int32 → Int32 → Option (Int32 × gw_M)} (hK42 : ∀ (M : gw_M) (a0 : Nat) (v1 : Int32) (v2 : Int32) (v3 : Int32) (H : Heap) (locs : List Loc) (ls : Array Slot), gr_k a0 = (11, 0) → gw_G X (gw_E X Y M) s H locs → lv_has ls 5 [(0, .ref (gr_a X a0)), (1, .int v1), (2, .int v2), (3, .int v3)] → K42 M a0 v1 v2 v3 = some z → W p l e rm_mo_load s m args below meth c H locs 0 0 (MQ below (gw_Qi X (fun M => (gw_E X Y M)) z) args s 0 0 (gw_A X)) (F0 m 42 ls [])) (M : gw_M) (a0 : Nat) (v1 : Int32) (v3 : Int32) (t0 : Int32) (H : Heap) (locs : List Loc) (ls : Array Slot) (ha0 : gr_k a0 = (11, 0)) (G : gw_G X (gw_E X Y M) s H locs) (hl : lv_has ls 5 [(0, .ref (gr_a X a0)), (1, .int v1), (3, .int v3)]) (hF : mo_load_b70 K42 M a0 v1 v3 t0 = some z) : W p l e rm_mo_load s m args below meth c H locs 0 0 (MQ below (gw_Qi X (fun M => (gw_E X Y M)) z) args s 0 0 (gw_A X)) (F0 m 70 ls [.int t0]) := by
  obtain ⟨hx, hb, hml, hown, hts, hr, hlocks, hK⟩ := id C0
  have hg : ∀ w ∈ gw_w, w.before args s = true := fun w h => hts w (List.mem_cons_of_mem _ h)
  unfold mo_load_b70 at hF
  refine lv_istore_n (i := 2) (lv' := [(2, .int t0), (0, .ref (gr_a X a0)), (1, .int v1), (3, .int v3)]) hx hb dd_mo_load_70 rfl hl (by decide) rfl (fun ls hl => ?_)
  refine lv_iinc (k := 3) (v := v3 + (-1 : Int32)) (lv' := [(3, .int (v3 + (-1 : Int32))), (2, .int t0), (0, .ref (gr_a X a0)), (1, .int v1)]) hx hb dd_mo_load_71 hl rfl rfl (by decide) rfl (fun ls hl => ?_)
  refine lv_goto (tgt := 42) hx hb dd_mo_load_74 (by decide) ?_
  exact hK42 M a0 v1 t0 (v3 + (-1 : Int32)) _ _ _ ha0 G (lv_sub hl [2, 3, 1, 0] rfl) hF
set_option maxRecDepth 100000 in
set_option maxHeartbeats 4000000 in
theorem wb_mo_load_42 {p : Program} {l : Launch} {e : Env} {s : State} {m : MethodId} {args : Array Value} {below : List Frame} {meth : Method} {c : Code} {X : gw_X} {Y : gw_M} {z : (Int32 × gw_M)} (C0 : gw_C ((Cond.code yy_mo_load by_mo_load 5 (some .int)) :: gw_w) by_mo_load 5 (some .int) "AccountMachineModel" X p s m args meth c) {K42 : gw_M → Nat → Int32 → Int32 → Int32 → Option (Int32 × gw_M)} (hK42 : ∀ (M : gw_M) (a0 : Nat) (v1 : Int32) (v2 : Int32) (v3 : Int32) (H : Heap) (locs : List Loc) (ls : Array Slot), gr_k a0 = (11, 0) → gw_G X (gw_E X Y M) s H locs → lv_has ls 5 [(0, .ref (gr_a X a0)), (1, .int v1), (2, .int v2), (3, .int v3)] → K42 M a0 v1 v2 v3 = some z → W p l e rm_mo_load s m args below meth c H locs 0 0 (MQ below (gw_Qi X (fun M => (gw_E X Y M)) z) args s 0 0 (gw_A X)) (F0 m 42 ls [])) (M : gw_M) (a0 : Nat) (v1 : Int32) (v2 : Int32) (v3 : Int32) (H : Heap) (locs : List Loc) (ls : Array Slot) (ha0 : gr_k a0 = (11, 0)) (G : gw_G X (gw_E X Y M) s H locs) (hl : lv_has ls 5 [(0, .ref (gr_a X a0)), (1, .int v1), (2, .int v2), (3, .int v3)]) (hF : mo_load_b42 K42 M a0 v1 v2 v3 = some z) : W p l e rm_mo_load s m args below meth c H locs 0 0 (MQ below (gw_Qi X (fun M => (gw_E X Y M)) z) args s 0 0 (gw_A X)) (F0 m 42 ls []) := by
  obtain ⟨hx, hb, hml, hown, hts, hr, hlocks, hK⟩ := id C0
  have hg : ∀ w ∈ gw_w, w.before args s = true := fun w h => hts w (List.mem_cons_of_mem _ h)
  unfold mo_load_b42 at hF
  refine lv_iload_n hx hb dd_mo_load_42 rfl (lv_at hl 3 rfl) ?_
  refine lv_if_lt (tgt := 77) hx hb dd_mo_load_43 (by decide) (fun h43 => ?_) (fun h43 => ?_)
  · replace hF := gw_et h43 hF
    refine lv_aload_n hx hb dd_mo_load_77 rfl (lv_at hl 0 rfl) ?_
    refine gf_mo_loaded hx hb hg hown (hg _ kw_260) hK G ha0 dd_mo_load_78 ?_
    refine lv_iload_n hx hb dd_mo_load_81 rfl (lv_at hl 1 rfl) ?_
    refine lv_iconst (v := (1 : Int32)) hx hb dd_mo_load_82 (by decide) ?_
    refine lv_isub hx hb dd_mo_load_83 ?_
    refine lv_iload_n hx hb dd_mo_load_84 rfl (lv_at hl 2 rfl) ?_
    refine lv_if_ne (tgt := 92) hx hb dd_mo_load_85 (by decide) (fun h85 => ?_) (fun h85 => ?_)
    · replace hF := gw_ef h85 hF
      refine lv_iconst (v := (0 : Int32)) hx hb dd_mo_load_92 (by decide) ?_
      exact wb_mo_load_93 C0  M v2 (0 : Int32) (v1 - (1 : Int32)) (a0 + 6) _ _ _ (gq_mo_loaded ha0) G (lv_sub hl [2] rfl) hF
    · replace hF := gw_et h85 hF
      refine lv_iconst (v := (1 : Int32)) hx hb dd_mo_load_88 (by decide) ?_
      refine lv_goto (tgt := 93) hx hb dd_mo_load_89 (by decide) ?_
      exact wb_mo_load_93 C0  M v2 (1 : Int32) (v1 - (1 : Int32)) (a0 + 6) _ _ _ (gq_mo_loaded ha0) G (lv_sub hl [2] rfl) hF
  · replace hF := gw_ef h43 hF
    refine lv_aload_n hx hb dd_mo_load_46 rfl (lv_at hl 0 rfl) ?_
    refine lv_iload_n hx hb dd_mo_load_47 rfl (lv_at hl 1 rfl) ?_
    refine lv_iload_n hx hb dd_mo_load_48 rfl (lv_at hl 3 rfl) ?_
    obtain ⟨r49, M49, hc49, hF⟩ := gw_be hF
    refine gw_ci G (va_runV (As := [.int v1, .int v3]) (rest := []) ⟨hx, hb, hml, hown, hts⟩ (ct_mo_reason l X Y M a0 v1 v3 ha0 _ hc49) (cwV 2 hts (gw_gV kw_267 kw_268 kw_269 kw_253 kw_266) rfl rfl rfl (by decide +kernel) ⟨Nat.le_of_ble_eq_true rfl, Nat.le_of_ble_eq_true rfl⟩) ⟨gw_blind, gw_recv_mo hK G ha0, gw_pre hK G⟩ rfl rfl hl.1 rfl (Nat.le_of_ble_eq_true rfl) dd_mo_load_49 ⟨Nat.le_of_ble_eq_true rfl, Nat.le_of_ble_eq_true rfl⟩) (fun H locs G => ?_)
    refine lv_istore (i := 4) (lv' := [(4, .int r49), (0, .ref (gr_a X a0)), (1, .int v1), (2, .int v2), (3, .int v3)]) hx hb dd_mo_load_52 hl (by decide) rfl (fun ls hl => ?_)
    refine lv_iload hx hb dd_mo_load_54 (lv_at hl 0 rfl) ?_
    refine lv_if_le (tgt := 69) hx hb dd_mo_load_56 (by decide) (fun h56 => ?_) (fun h56 => ?_)
    · replace hF := gw_et h56 hF
      refine lv_iload_n hx hb dd_mo_load_69 rfl (lv_at hl 3 rfl) ?_
      exact wb_mo_load_70 C0 hK42 M49 a0 v1 v3 v2 _ _ _ ha0 G (lv_sub hl [1, 2, 4] rfl) hF
    · replace hF := gw_ef h56 hF
      refine lv_bipush (v := (100 : Int32)) hx hb dd_mo_load_59 (by decide) ?_
      refine lv_iload_n hx hb dd_mo_load_61 rfl (lv_at hl 4 rfl) ?_
      refine lv_imul hx hb dd_mo_load_62 ?_
      refine lv_iload hx hb dd_mo_load_63 (lv_at hl 0 rfl) ?_
      refine lv_iadd hx hb dd_mo_load_65 ?_
      refine lv_goto (tgt := 70) hx hb dd_mo_load_66 (by decide) ?_
      exact wb_mo_load_70 C0 hK42 M49 a0 v1 v3 (((100 : Int32) * v3) + r49) _ _ _ ha0 G (lv_sub hl [1, 2, 4] rfl) hF
theorem wl_mo_load_42 {p : Program} {l : Launch} {e : Env} {s : State} {m : MethodId} {args : Array Value} {below : List Frame} {meth : Method} {c : Code} {X : gw_X} {Y : gw_M} {z : (Int32 × gw_M)} (C0 : gw_C ((Cond.code yy_mo_load by_mo_load 5 (some .int)) :: gw_w) by_mo_load 5 (some .int) "AccountMachineModel" X p s m args meth c) : ∀ n : Nat, ∀ (M : gw_M) (a0 : Nat) (v1 : Int32) (v2 : Int32) (v3 : Int32) (H : Heap) (locs : List Loc) (ls : Array Slot), gr_k a0 = (11, 0) → gw_G X (gw_E X Y M) s H locs → lv_has ls 5 [(0, .ref (gr_a X a0)), (1, .int v1), (2, .int v2), (3, .int v3)] → mo_load_l42  n M a0 v1 v2 v3 = some z → W p l e rm_mo_load s m args below meth c H locs 0 0 (MQ below (gw_Qi X (fun M => (gw_E X Y M)) z) args s 0 0 (gw_A X)) (F0 m 42 ls []) := by
  intro n
  induction n with
  | zero =>
    intro M a0 v1 v2 v3 H locs ls ha0 G hl hF
    have hF : (none : Option (Int32 × gw_M)) = some z := hF
    cases hF
  | succ n ih =>
    intro M a0 v1 v2 v3 H locs ls ha0 G hl hF
    exact wb_mo_load_42 C0  ih M a0 v1 v2 v3 H locs ls ha0 G hl hF
set_option maxRecDepth 100000 in
set_option maxHeartbeats 4000000 in
theorem wb_mo_load_30 {p : Program} {l : Launch} {e : Env} {s : State} {m : MethodId} {args : Array Value} {below : List Frame} {meth : Method} {c : Code} {X : gw_X} {Y : gw_M} {z : (Int32 × gw_M)} (C0 : gw_C ((Cond.code yy_mo_load by_mo_load 5 (some .int)) :: gw_w) by_mo_load 5 (some .int) "AccountMachineModel" X p s m args meth c) (M : gw_M) (a0 : Nat) (v1 : Int32) (t0 : Int32) (H : Heap) (locs : List Loc) (ls : Array Slot) (ha0 : gr_k a0 = (11, 0)) (G : gw_G X (gw_E X Y M) s H locs) (hl : lv_has ls 5 [(0, .ref (gr_a X a0)), (1, .int v1)]) (hF : mo_load_b30  M a0 v1 t0 = some z) : W p l e rm_mo_load s m args below meth c H locs 0 0 (MQ below (gw_Qi X (fun M => (gw_E X Y M)) z) args s 0 0 (gw_A X)) (F0 m 30 ls [.int t0]) := by
  obtain ⟨hx, hb, hml, hown, hts, hr, hlocks, hK⟩ := id C0
  have hg : ∀ w ∈ gw_w, w.before args s = true := fun w h => hts w (List.mem_cons_of_mem _ h)
  unfold mo_load_b30 at hF
  refine lv_istore_n (i := 2) (lv' := [(2, .int t0), (0, .ref (gr_a X a0)), (1, .int v1)]) hx hb dd_mo_load_30 rfl hl (by decide) rfl (fun ls hl => ?_)
  refine lv_aload_n hx hb dd_mo_load_31 rfl (lv_at hl 1 rfl) ?_
  refine gf_mo_length hx hb hg hown (hg _ kw_254) hK G ha0 dd_mo_load_32 ?_
  refine lv_iload_n hx hb dd_mo_load_35 rfl (lv_at hl 2 rfl) ?_
  refine lv_iconst (v := (1 : Int32)) hx hb dd_mo_load_36 (by decide) ?_
  refine lv_isub hx hb dd_mo_load_37 ?_
  obtain ⟨h38, hF⟩ := gw_gd hF
  refine gr_iald hx hb hK G (gq_mo_length ha0) (gw_vp h38) (j := (v1 - (1 : Int32)).toNatClampNeg) rfl dd_mo_load_38 ?_
  refine lv_iconst (v := (1 : Int32)) hx hb dd_mo_load_39 (by decide) ?_
  refine lv_isub hx hb dd_mo_load_40 ?_
  refine W.eq (g2 := F0 m 41 _ _) rfl ?_
  refine lv_topi (fun x41 e41 => ?_)
  replace hF := gw_ly e41 hF
  refine lv_istore_n (i := 3) (lv' := [(3, .int x41), (2, .int t0), (0, .ref (gr_a X a0)), (1, .int v1)]) hx hb dd_mo_load_41 rfl hl (by decide) rfl (fun ls hl => ?_)
  exact wl_mo_load_42 C0  2100 M a0 v1 t0 x41 _ _ _ ha0 G (lv_sub hl [2, 3, 1, 0] rfl) hF
set_option maxRecDepth 100000 in
set_option maxHeartbeats 4000000 in
theorem wb_mo_load_0 {p : Program} {l : Launch} {e : Env} {s : State} {m : MethodId} {args : Array Value} {below : List Frame} {meth : Method} {c : Code} {X : gw_X} {Y : gw_M} {z : (Int32 × gw_M)} (C0 : gw_C ((Cond.code yy_mo_load by_mo_load 5 (some .int)) :: gw_w) by_mo_load 5 (some .int) "AccountMachineModel" X p s m args meth c) (M : gw_M) (a0 : Nat) (v1 : Int32) (H : Heap) (locs : List Loc) (ls : Array Slot) (ha0 : gr_k a0 = (11, 0)) (G : gw_G X (gw_E X Y M) s H locs) (hl : lv_has ls 5 [(0, .ref (gr_a X a0)), (1, .int v1)]) (hF : mo_load_b0  M a0 v1 = some z) : W p l e rm_mo_load s m args below meth c H locs 0 0 (MQ below (gw_Qi X (fun M => (gw_E X Y M)) z) args s 0 0 (gw_A X)) (F0 m 0 ls []) := by
  obtain ⟨hx, hb, hml, hown, hts, hr, hlocks, hK⟩ := id C0
  have hg : ∀ w ∈ gw_w, w.before args s = true := fun w h => hts w (List.mem_cons_of_mem _ h)
  unfold mo_load_b0 at hF
  refine lv_iload_n hx hb dd_mo_load_0 rfl (lv_at hl 1 rfl) ?_
  refine lv_i2l (v := v1.toInt64) hx hb dd_mo_load_1 rfl ?_
  refine lv_lconst (v := (1 : Int64)) hx hb dd_mo_load_2 (by decide) ?_
  refine lv_ldc2 (v := (3 : Int64)) hx hb hown (hg _ kw_249) dd_mo_load_3 ?_
  obtain ⟨r6, M6, hc6, hF⟩ := gw_be hF
  refine gw_ci G (va_runS (As := [.long v1.toInt64, .long (1 : Int64), .long (3 : Int64)]) (rest := []) ⟨hx, hb, hml, hown, hts⟩ (ct_mo_in l X Y M v1.toInt64 (1 : Int64) (3 : Int64)  _ hc6) (cwS 3 hts (gw_gS kw_251 kw_252 kw_253 kw_250) rfl rfl rfl (by decide +kernel) ⟨Nat.le_of_ble_eq_true rfl, Nat.le_of_ble_eq_true rfl⟩) ⟨gw_blind, gw_pre hK G⟩ rfl rfl hl.1 rfl (Nat.le_of_ble_eq_true rfl) dd_mo_load_6 ⟨Nat.le_of_ble_eq_true rfl, Nat.le_of_ble_eq_true rfl⟩) (fun H locs G => ?_)
  refine lv_if_ne (tgt := 14) hx hb dd_mo_load_9 (by decide) (fun h9 => ?_) (fun h9 => ?_)
  · replace hF := gw_ef h9 hF
    refine lv_aload_n hx hb dd_mo_load_14 rfl (lv_at hl 0 rfl) ?_
    refine gf_mo_length hx hb hg hown (hg _ kw_254) hK G ha0 dd_mo_load_15 ?_
    refine lv_iload_n hx hb dd_mo_load_18 rfl (lv_at hl 1 rfl) ?_
    refine lv_iconst (v := (1 : Int32)) hx hb dd_mo_load_19 (by decide) ?_
    refine lv_isub hx hb dd_mo_load_20 ?_
    obtain ⟨h21, hF⟩ := gw_gd hF
    refine gr_iald hx hb hK G (gq_mo_length ha0) (gw_vp h21) (j := (v1 - (1 : Int32)).toNatClampNeg) rfl dd_mo_load_21 ?_
    refine lv_if_ne (tgt := 29) hx hb dd_mo_load_22 (by decide) (fun h22 => ?_) (fun h22 => ?_)
    · replace hF := gw_ef h22 hF
      refine lv_iconst (v := (0 : Int32)) hx hb dd_mo_load_29 (by decide) ?_
      exact wb_mo_load_30 C0  M6 a0 v1 (0 : Int32) _ _ _ ha0 G (lv_sub hl [0, 1] rfl) hF
    · replace hF := gw_et h22 hF
      refine lv_iconst (v := (1 : Int32)) hx hb dd_mo_load_25 (by decide) ?_
      refine lv_goto (tgt := 30) hx hb dd_mo_load_26 (by decide) ?_
      exact wb_mo_load_30 C0  M6 a0 v1 (1 : Int32) _ _ _ ha0 G (lv_sub hl [0, 1] rfl) hF
  · replace hF := gw_et h9 hF
    refine lv_iconst (v := (-1 : Int32)) hx hb dd_mo_load_12 (by decide) ?_
    exact W.iret hx hb hr (fun t ht hW => gw_endi (EF := (fun M => (gw_E X Y M))) (M := M6) G ht hF) G.2.2.2.2 dd_mo_load_13 hlocks
set_option maxRecDepth 100000 in
set_option maxHeartbeats 4000000 in
theorem ct_mo_load (l : Launch) (X : gw_X) (Y : gw_M) (M : gw_M) (a0 : Nat) (v1 : Int32) (ha0 : gr_k a0 = (11, 0)) (z : (Int32 × gw_M)) (hF : mo_load_b0 M a0 v1 = some z) : Met l yy_mo_load ((Cond.code yy_mo_load by_mo_load 5 (some .int)) :: gw_w) rm_mo_load (va_Pc [.ref (gr_a X a0), .int v1] (gw_B X (gw_E X Y M))) (gw_Qi X (fun M => (gw_E X Y M)) z) 0 0 (gw_A X) := by
  refine Met.ofW (cc := by_mo_load) (maxL := 5) (ret := (some .int)) (by decide) rfl ?_
  intro p e s m args below meth c s₁ B hml hv
  obtain ⟨rfl, hB⟩ := hv
  rw [lg_entry_eq]
  have hl := lv_entry ([.ref (gr_a X a0), .int v1]) (n := 5) (Nat.le_of_ble_eq_true rfl)
  generalize (lg_sl ([.ref (gr_a X a0), .int v1]) ++ List.replicate (5 - (lg_sl ([.ref (gr_a X a0), .int v1])).length) Slot.unset).toArray = ls at hl ⊢
  have hl : lv_has ls 5 [(0, .ref (gr_a X a0)), (1, .int v1)] := hl
  exact wb_mo_load_0 (gw_ctx B hml rfl hB) M a0 v1 _ _ _ ha0 (gw_start hB) hl hF
/-! AccountMachineModel.canRun(J)Z -/
abbrev rm_mo_canRun : Room := { frames := 1, cells := 0, slots := 0, locals := 25 }
theorem dd_mo_canRun_0 : decode by_mo_canRun 0 = .ok (.lload_n 1, 1) := by decide +kernel
theorem dd_mo_canRun_1 : decode by_mo_canRun 1 = .ok (.lconst 0, 1) := by decide +kernel
theorem dd_mo_canRun_2 : decode by_mo_canRun 2 = .ok (.lcmp, 1) := by decide +kernel
theorem dd_mo_canRun_3 : decode by_mo_canRun 3 = .ok (.ifCond .eq 26, 3) := by decide +kernel
theorem dd_mo_canRun_6 : decode by_mo_canRun 6 = .ok (.lload_n 1, 1) := by decide +kernel
theorem dd_mo_canRun_7 : decode by_mo_canRun 7 = .ok (.lconst 1, 1) := by decide +kernel
theorem dd_mo_canRun_8 : decode by_mo_canRun 8 = .ok (.ldc2_w 81, 3) := by decide +kernel
theorem dd_mo_canRun_11 : decode by_mo_canRun 11 = .ok (.invokestatic 83, 3) := by decide +kernel
theorem dd_mo_canRun_14 : decode by_mo_canRun 14 = .ok (.ifCond .eq 19, 3) := by decide +kernel
theorem dd_mo_canRun_17 : decode by_mo_canRun 17 = .ok (.aload_n 0, 1) := by decide +kernel
theorem dd_mo_canRun_18 : decode by_mo_canRun 18 = .ok (.getfield 25, 3) := by decide +kernel
theorem dd_mo_canRun_21 : decode by_mo_canRun 21 = .ok (.lload_n 1, 1) := by decide +kernel
theorem dd_mo_canRun_22 : decode by_mo_canRun 22 = .ok (.l2i, 1) := by decide +kernel
theorem dd_mo_canRun_23 : decode by_mo_canRun 23 = .ok (.iconst 1, 1) := by decide +kernel
theorem dd_mo_canRun_24 : decode by_mo_canRun 24 = .ok (.isub, 1) := by decide +kernel
theorem dd_mo_canRun_25 : decode by_mo_canRun 25 = .ok (.baload, 1) := by decide +kernel
theorem dd_mo_canRun_26 : decode by_mo_canRun 26 = .ok (.ifCond .eq 7, 3) := by decide +kernel
theorem dd_mo_canRun_29 : decode by_mo_canRun 29 = .ok (.iconst 1, 1) := by decide +kernel
theorem dd_mo_canRun_30 : decode by_mo_canRun 30 = .ok (.goto 4, 3) := by decide +kernel
theorem dd_mo_canRun_33 : decode by_mo_canRun 33 = .ok (.iconst 0, 1) := by decide +kernel
theorem dd_mo_canRun_34 : decode by_mo_canRun 34 = .ok (.ireturn, 1) := by decide +kernel
def mo_canRun_b29 (M : gw_M) : Option (Int32 × gw_M) :=
  some ((1 : Int32), M)
def mo_canRun_b0 (M : gw_M) (a0 : Nat) (v1 : Int64) : Option (Int32 × gw_M) :=
  if (lg_cmp v1 (0 : Int64)) = (0 : Int32) then (mo_canRun_b29  M) else (gw_bd (mo_in_b0 M v1 (1 : Int64) (3 : Int64)) (fun r11 M11 => if r11 = (0 : Int32) then (some ((0 : Int32), M11)) else (gw_gu (gw_in (v1.toInt32 - (1 : Int32)) 3) (if (M11.1 (a0 + 6) ((v1.toInt32 - (1 : Int32)).toNatClampNeg)) = (0 : Int32) then (some ((0 : Int32), M11)) else (mo_canRun_b29  M11)))))
set_option maxRecDepth 100000 in
set_option maxHeartbeats 4000000 in
theorem wb_mo_canRun_29 {p : Program} {l : Launch} {e : Env} {s : State} {m : MethodId} {args : Array Value} {below : List Frame} {meth : Method} {c : Code} {X : gw_X} {Y : gw_M} {z : (Int32 × gw_M)} (C0 : gw_C ((Cond.code yy_mo_canRun by_mo_canRun 3 (some .boolean)) :: gw_w) by_mo_canRun 3 (some .boolean) "AccountMachineModel" X p s m args meth c) (M : gw_M) (H : Heap) (locs : List Loc) (ls : Array Slot) (G : gw_G X (gw_E X Y M) s H locs) (hl : lv_has ls 3 []) (hF : mo_canRun_b29  M = some z) : W p l e rm_mo_canRun s m args below meth c H locs 0 0 (MQ below (gw_Qi X (fun M => (gw_E X Y M)) z) args s 0 0 (gw_A X)) (F0 m 29 ls []) := by
  obtain ⟨hx, hb, hml, hown, hts, hr, hlocks, hK⟩ := id C0
  have hg : ∀ w ∈ gw_w, w.before args s = true := fun w h => hts w (List.mem_cons_of_mem _ h)
  unfold mo_canRun_b29 at hF
  refine lv_iconst (v := (1 : Int32)) hx hb dd_mo_canRun_29 (by decide) ?_
  refine lv_goto (tgt := 34) hx hb dd_mo_canRun_30 (by decide) ?_
  exact W.zret hx hb hr (by decide) (fun t ht hW => gw_endi (EF := (fun M => (gw_E X Y M))) (M := M) G ht hF) G.2.2.2.2 dd_mo_canRun_34 hlocks
set_option maxRecDepth 100000 in
set_option maxHeartbeats 4000000 in
theorem wb_mo_canRun_0 {p : Program} {l : Launch} {e : Env} {s : State} {m : MethodId} {args : Array Value} {below : List Frame} {meth : Method} {c : Code} {X : gw_X} {Y : gw_M} {z : (Int32 × gw_M)} (C0 : gw_C ((Cond.code yy_mo_canRun by_mo_canRun 3 (some .boolean)) :: gw_w) by_mo_canRun 3 (some .boolean) "AccountMachineModel" X p s m args meth c) (M : gw_M) (a0 : Nat) (v1 : Int64) (H : Heap) (locs : List Loc) (ls : Array Slot) (ha0 : gr_k a0 = (11, 0)) (G : gw_G X (gw_E X Y M) s H locs) (hl : lv_has ls 3 [(0, .ref (gr_a X a0)), (1, .long v1)]) (hF : mo_canRun_b0  M a0 v1 = some z) : W p l e rm_mo_canRun s m args below meth c H locs 0 0 (MQ below (gw_Qi X (fun M => (gw_E X Y M)) z) args s 0 0 (gw_A X)) (F0 m 0 ls []) := by
  obtain ⟨hx, hb, hml, hown, hts, hr, hlocks, hK⟩ := id C0
  have hg : ∀ w ∈ gw_w, w.before args s = true := fun w h => hts w (List.mem_cons_of_mem _ h)
  unfold mo_canRun_b0 at hF
  refine lv_lload_n hx hb dd_mo_canRun_0 rfl (lv_at hl 1 rfl) ?_
  refine lv_lconst (v := (0 : Int64)) hx hb dd_mo_canRun_1 (by decide) ?_
  refine W.lcmp hx hb dd_mo_canRun_2 ?_
  refine lv_if_eq (tgt := 29) hx hb dd_mo_canRun_3 (by decide) (fun h3 => ?_) (fun h3 => ?_)
  · replace hF := gw_et h3 hF
    exact wb_mo_canRun_29 C0  M _ _ _  G (lv_sub hl [] rfl) hF
  · replace hF := gw_ef h3 hF
    refine lv_lload_n hx hb dd_mo_canRun_6 rfl (lv_at hl 1 rfl) ?_
    refine lv_lconst (v := (1 : Int64)) hx hb dd_mo_canRun_7 (by decide) ?_
    refine lv_ldc2 (v := (3 : Int64)) hx hb hown (hg _ kw_249) dd_mo_canRun_8 ?_
    obtain ⟨r11, M11, hc11, hF⟩ := gw_be hF
    refine gw_ci G (va_runS (As := [.long v1, .long (1 : Int64), .long (3 : Int64)]) (rest := []) ⟨hx, hb, hml, hown, hts⟩ (ct_mo_in l X Y M v1 (1 : Int64) (3 : Int64)  _ hc11) (cwS 3 hts (gw_gS kw_251 kw_252 kw_253 kw_250) rfl rfl rfl (by decide +kernel) ⟨Nat.le_of_ble_eq_true rfl, Nat.le_of_ble_eq_true rfl⟩) ⟨gw_blind, gw_pre hK G⟩ rfl rfl hl.1 rfl (Nat.le_of_ble_eq_true rfl) dd_mo_canRun_11 ⟨Nat.le_of_ble_eq_true rfl, Nat.le_of_ble_eq_true rfl⟩) (fun H locs G => ?_)
    refine lv_if_eq (tgt := 33) hx hb dd_mo_canRun_14 (by decide) (fun h14 => ?_) (fun h14 => ?_)
    · replace hF := gw_et h14 hF
      refine lv_iconst (v := (0 : Int32)) hx hb dd_mo_canRun_33 (by decide) ?_
      exact W.zret hx hb hr (by decide) (fun t ht hW => gw_endi (EF := (fun M => (gw_E X Y M))) (M := M11) G ht hF) G.2.2.2.2 dd_mo_canRun_34 hlocks
    · replace hF := gw_ef h14 hF
      refine lv_aload_n hx hb dd_mo_canRun_17 rfl (lv_at hl 0 rfl) ?_
      refine gf_mo_loaded hx hb hg hown (hg _ kw_260) hK G ha0 dd_mo_canRun_18 ?_
      refine lv_lload_n hx hb dd_mo_canRun_21 rfl (lv_at hl 1 rfl) ?_
      refine lv_l2i (v := v1.toInt32) hx hb dd_mo_canRun_22 rfl ?_
      refine lv_iconst (v := (1 : Int32)) hx hb dd_mo_canRun_23 (by decide) ?_
      refine lv_isub hx hb dd_mo_canRun_24 ?_
      obtain ⟨h25, hF⟩ := gw_gd hF
      refine gr_zald hx hb hK G (gq_mo_loaded ha0) (gw_vp h25) (j := (v1.toInt32 - (1 : Int32)).toNatClampNeg) rfl dd_mo_canRun_25 ?_
      refine lv_if_eq (tgt := 33) hx hb dd_mo_canRun_26 (by decide) (fun h26 => ?_) (fun h26 => ?_)
      · replace hF := gw_et h26 hF
        refine lv_iconst (v := (0 : Int32)) hx hb dd_mo_canRun_33 (by decide) ?_
        exact W.zret hx hb hr (by decide) (fun t ht hW => gw_endi (EF := (fun M => (gw_E X Y M))) (M := M11) G ht hF) G.2.2.2.2 dd_mo_canRun_34 hlocks
      · replace hF := gw_ef h26 hF
        exact wb_mo_canRun_29 C0  M11 _ _ _  G (lv_sub hl [] rfl) hF
set_option maxRecDepth 100000 in
set_option maxHeartbeats 4000000 in
theorem ct_mo_canRun (l : Launch) (X : gw_X) (Y : gw_M) (M : gw_M) (a0 : Nat) (v1 : Int64) (ha0 : gr_k a0 = (11, 0)) (z : (Int32 × gw_M)) (hF : mo_canRun_b0 M a0 v1 = some z) : Met l yy_mo_canRun ((Cond.code yy_mo_canRun by_mo_canRun 3 (some .boolean)) :: gw_w) rm_mo_canRun (va_Pc [.ref (gr_a X a0), .long v1] (gw_B X (gw_E X Y M))) (gw_Qi X (fun M => (gw_E X Y M)) z) 0 0 (gw_A X) := by
  refine Met.ofW (cc := by_mo_canRun) (maxL := 3) (ret := (some .boolean)) (by decide) rfl ?_
  intro p e s m args below meth c s₁ B hml hv
  obtain ⟨rfl, hB⟩ := hv
  rw [lg_entry_eq]
  have hl := lv_entry ([.ref (gr_a X a0), .long v1]) (n := 3) (Nat.le_of_ble_eq_true rfl)
  generalize (lg_sl ([.ref (gr_a X a0), .long v1]) ++ List.replicate (3 - (lg_sl ([.ref (gr_a X a0), .long v1])).length) Slot.unset).toArray = ls at hl ⊢
  have hl : lv_has ls 3 [(0, .ref (gr_a X a0)), (1, .long v1)] := hl
  exact wb_mo_canRun_0 (gw_ctx B hml rfl hB) M a0 v1 _ _ _ ha0 (gw_start hB) hl hF
/-! AccountMachineModel.order(II)I -/
abbrev rm_mo_order : Room := { frames := 1, cells := 0, slots := 0, locals := 25 }
theorem dd_mo_order_0 : decode by_mo_order 0 = .ok (.iload_n 1, 1) := by decide +kernel
theorem dd_mo_order_1 : decode by_mo_order 1 = .ok (.i2l, 1) := by decide +kernel
theorem dd_mo_order_2 : decode by_mo_order 2 = .ok (.lconst 0, 1) := by decide +kernel
theorem dd_mo_order_3 : decode by_mo_order 3 = .ok (.ldc2_w 81, 3) := by decide +kernel
theorem dd_mo_order_6 : decode by_mo_order 6 = .ok (.invokestatic 83, 3) := by decide +kernel
theorem dd_mo_order_9 : decode by_mo_order 9 = .ok (.ifCond .eq 11, 3) := by decide +kernel
theorem dd_mo_order_12 : decode by_mo_order 12 = .ok (.aload_n 0, 1) := by decide +kernel
theorem dd_mo_order_13 : decode by_mo_order 13 = .ok (.getfield 101, 3) := by decide +kernel
theorem dd_mo_order_16 : decode by_mo_order 16 = .ok (.iconst 3, 1) := by decide +kernel
theorem dd_mo_order_17 : decode by_mo_order 17 = .ok (.if_icmp .ne 5, 3) := by decide +kernel
theorem dd_mo_order_20 : decode by_mo_order 20 = .ok (.iconst (-1), 1) := by decide +kernel
theorem dd_mo_order_21 : decode by_mo_order 21 = .ok (.ireturn, 1) := by decide +kernel
theorem dd_mo_order_22 : decode by_mo_order 22 = .ok (.aload_n 0, 1) := by decide +kernel
theorem dd_mo_order_23 : decode by_mo_order 23 = .ok (.getfield 44, 3) := by decide +kernel
theorem dd_mo_order_26 : decode by_mo_order 26 = .ok (.aload_n 0, 1) := by decide +kernel
theorem dd_mo_order_27 : decode by_mo_order 27 = .ok (.getfield 101, 3) := by decide +kernel
theorem dd_mo_order_30 : decode by_mo_order 30 = .ok (.iload_n 1, 1) := by decide +kernel
theorem dd_mo_order_31 : decode by_mo_order 31 = .ok (.iastore, 1) := by decide +kernel
theorem dd_mo_order_32 : decode by_mo_order 32 = .ok (.aload_n 0, 1) := by decide +kernel
theorem dd_mo_order_33 : decode by_mo_order 33 = .ok (.getfield 47, 3) := by decide +kernel
theorem dd_mo_order_36 : decode by_mo_order 36 = .ok (.aload_n 0, 1) := by decide +kernel
theorem dd_mo_order_37 : decode by_mo_order 37 = .ok (.getfield 101, 3) := by decide +kernel
theorem dd_mo_order_40 : decode by_mo_order 40 = .ok (.iload_n 2, 1) := by decide +kernel
theorem dd_mo_order_41 : decode by_mo_order 41 = .ok (.iastore, 1) := by decide +kernel
theorem dd_mo_order_42 : decode by_mo_order 42 = .ok (.aload_n 0, 1) := by decide +kernel
theorem dd_mo_order_43 : decode by_mo_order 43 = .ok (.getfield 50, 3) := by decide +kernel
theorem dd_mo_order_46 : decode by_mo_order 46 = .ok (.aload_n 0, 1) := by decide +kernel
theorem dd_mo_order_47 : decode by_mo_order 47 = .ok (.getfield 101, 3) := by decide +kernel
theorem dd_mo_order_50 : decode by_mo_order 50 = .ok (.iconst 0, 1) := by decide +kernel
theorem dd_mo_order_51 : decode by_mo_order 51 = .ok (.iastore, 1) := by decide +kernel
theorem dd_mo_order_52 : decode by_mo_order 52 = .ok (.aload_n 0, 1) := by decide +kernel
theorem dd_mo_order_53 : decode by_mo_order 53 = .ok (.dup, 1) := by decide +kernel
theorem dd_mo_order_54 : decode by_mo_order 54 = .ok (.getfield 101, 3) := by decide +kernel
theorem dd_mo_order_57 : decode by_mo_order 57 = .ok (.iconst 1, 1) := by decide +kernel
theorem dd_mo_order_58 : decode by_mo_order 58 = .ok (.iadd, 1) := by decide +kernel
theorem dd_mo_order_59 : decode by_mo_order 59 = .ok (.putfield 101, 3) := by decide +kernel
theorem dd_mo_order_62 : decode by_mo_order 62 = .ok (.aload_n 0, 1) := by decide +kernel
theorem dd_mo_order_63 : decode by_mo_order 63 = .ok (.getfield 101, 3) := by decide +kernel
theorem dd_mo_order_66 : decode by_mo_order 66 = .ok (.iconst 1, 1) := by decide +kernel
theorem dd_mo_order_67 : decode by_mo_order 67 = .ok (.isub, 1) := by decide +kernel
theorem dd_mo_order_68 : decode by_mo_order 68 = .ok (.ireturn, 1) := by decide +kernel
def mo_order_b0 (M : gw_M) (a0 : Nat) (v1 : Int32) (v2 : Int32) : Option (Int32 × gw_M) :=
  gw_bd (mo_in_b0 M v1.toInt64 (0 : Int64) (3 : Int64)) (fun r6 M6 => if r6 = (0 : Int32) then (some ((-1 : Int32), M6)) else (if (M6.1 a0 11) = (3 : Int32) then (some ((-1 : Int32), M6)) else (gw_gu (gw_in (M6.1 a0 11) 9) (gw_lt (gw_sI M6 (a0 + 12) ((M6.1 a0 11).toNatClampNeg) v1) (fun M31 => gw_gu (gw_in (M31.1 a0 11) 9) (gw_lt (gw_sI M31 (a0 + 13) ((M31.1 a0 11).toNatClampNeg) v2) (fun M41 => gw_gu (gw_in (M41.1 a0 11) 9) (gw_lt (gw_sI M41 (a0 + 14) ((M41.1 a0 11).toNatClampNeg) (0 : Int32)) (fun M51 => gw_lt (gw_sI M51 a0 11 ((M51.1 a0 11) + (1 : Int32))) (fun M59 => some ((M59.1 a0 11) - (1 : Int32), M59)))))))))))
set_option maxRecDepth 100000 in
set_option maxHeartbeats 4000000 in
theorem wb_mo_order_0 {p : Program} {l : Launch} {e : Env} {s : State} {m : MethodId} {args : Array Value} {below : List Frame} {meth : Method} {c : Code} {X : gw_X} {Y : gw_M} {z : (Int32 × gw_M)} (C0 : gw_C ((Cond.code yy_mo_order by_mo_order 3 (some .int)) :: gw_w) by_mo_order 3 (some .int) "AccountMachineModel" X p s m args meth c) (M : gw_M) (a0 : Nat) (v1 : Int32) (v2 : Int32) (H : Heap) (locs : List Loc) (ls : Array Slot) (ha0 : gr_k a0 = (11, 0)) (G : gw_G X (gw_E X Y M) s H locs) (hl : lv_has ls 3 [(0, .ref (gr_a X a0)), (1, .int v1), (2, .int v2)]) (hF : mo_order_b0  M a0 v1 v2 = some z) : W p l e rm_mo_order s m args below meth c H locs 0 0 (MQ below (gw_Qi X (fun M => (gw_E X Y M)) z) args s 0 0 (gw_A X)) (F0 m 0 ls []) := by
  obtain ⟨hx, hb, hml, hown, hts, hr, hlocks, hK⟩ := id C0
  have hg : ∀ w ∈ gw_w, w.before args s = true := fun w h => hts w (List.mem_cons_of_mem _ h)
  unfold mo_order_b0 at hF
  refine lv_iload_n hx hb dd_mo_order_0 rfl (lv_at hl 1 rfl) ?_
  refine lv_i2l (v := v1.toInt64) hx hb dd_mo_order_1 rfl ?_
  refine lv_lconst (v := (0 : Int64)) hx hb dd_mo_order_2 (by decide) ?_
  refine lv_ldc2 (v := (3 : Int64)) hx hb hown (hg _ kw_249) dd_mo_order_3 ?_
  obtain ⟨r6, M6, hc6, hF⟩ := gw_be hF
  refine gw_ci G (va_runS (As := [.long v1.toInt64, .long (0 : Int64), .long (3 : Int64)]) (rest := []) ⟨hx, hb, hml, hown, hts⟩ (ct_mo_in l X Y M v1.toInt64 (0 : Int64) (3 : Int64)  _ hc6) (cwS 3 hts (gw_gS kw_251 kw_252 kw_253 kw_250) rfl rfl rfl (by decide +kernel) ⟨Nat.le_of_ble_eq_true rfl, Nat.le_of_ble_eq_true rfl⟩) ⟨gw_blind, gw_pre hK G⟩ rfl rfl hl.1 rfl (Nat.le_of_ble_eq_true rfl) dd_mo_order_6 ⟨Nat.le_of_ble_eq_true rfl, Nat.le_of_ble_eq_true rfl⟩) (fun H locs G => ?_)
  refine lv_if_eq (tgt := 20) hx hb dd_mo_order_9 (by decide) (fun h9 => ?_) (fun h9 => ?_)
  · replace hF := gw_et h9 hF
    refine lv_iconst (v := (-1 : Int32)) hx hb dd_mo_order_20 (by decide) ?_
    exact W.iret hx hb hr (fun t ht hW => gw_endi (EF := (fun M => (gw_E X Y M))) (M := M6) G ht hF) G.2.2.2.2 dd_mo_order_21 hlocks
  · replace hF := gw_ef h9 hF
    refine lv_aload_n hx hb dd_mo_order_12 rfl (lv_at hl 0 rfl) ?_
    refine gf_mo_orders hx hb hg hown (hg _ kw_270) hK G ha0 dd_mo_order_13 ?_
    refine lv_iconst (v := (3 : Int32)) hx hb dd_mo_order_16 (by decide) ?_
    refine lv_icmp_ne (tgt := 22) hx hb dd_mo_order_17 (by decide) (fun h17 => ?_) (fun h17 => ?_)
    · replace hF := gw_ef h17 hF
      refine lv_aload_n hx hb dd_mo_order_22 rfl (lv_at hl 0 rfl) ?_
      refine gf_mo_program hx hb hg hown (hg _ kw_271) hK G ha0 dd_mo_order_23 ?_
      refine lv_aload_n hx hb dd_mo_order_26 rfl (lv_at hl 0 rfl) ?_
      refine gf_mo_orders hx hb hg hown (hg _ kw_270) hK G ha0 dd_mo_order_27 ?_
      refine lv_iload_n hx hb dd_mo_order_30 rfl (lv_at hl 1 rfl) ?_
      obtain ⟨h31, hF⟩ := gw_gd hF
      refine gr_iast hx hb hK G (gq_mo_program ha0) (gw_vp h31) (j := (M6.1 a0 11).toNatClampNeg) rfl dd_mo_order_31 (fun M31 H locs e31 G => ?_)
      replace hF := gw_ly e31 hF
      refine lv_aload_n hx hb dd_mo_order_32 rfl (lv_at hl 0 rfl) ?_
      refine gf_mo_argument hx hb hg hown (hg _ kw_272) hK G ha0 dd_mo_order_33 ?_
      refine lv_aload_n hx hb dd_mo_order_36 rfl (lv_at hl 0 rfl) ?_
      refine W.eq (g2 := F0 m 37 _ _) rfl ?_
      refine gf_mo_orders hx hb hg hown (hg _ kw_270) hK G ha0 dd_mo_order_37 ?_
      refine lv_iload_n hx hb dd_mo_order_40 rfl (lv_at hl 2 rfl) ?_
      obtain ⟨h41, hF⟩ := gw_gd hF
      refine gr_iast hx hb hK G (gq_mo_argument ha0) (gw_vp h41) (j := (M31.1 a0 11).toNatClampNeg) rfl dd_mo_order_41 (fun M41 H locs e41 G => ?_)
      replace hF := gw_ly e41 hF
      refine lv_aload_n hx hb dd_mo_order_42 rfl (lv_at hl 0 rfl) ?_
      refine gf_mo_slots hx hb hg hown (hg _ kw_273) hK G ha0 dd_mo_order_43 ?_
      refine lv_aload_n hx hb dd_mo_order_46 rfl (lv_at hl 0 rfl) ?_
      refine gf_mo_orders hx hb hg hown (hg _ kw_270) hK G ha0 dd_mo_order_47 ?_
      refine lv_iconst (v := (0 : Int32)) hx hb dd_mo_order_50 (by decide) ?_
      obtain ⟨h51, hF⟩ := gw_gd hF
      refine gr_iast hx hb hK G (gq_mo_slots ha0) (gw_vp h51) (j := (M41.1 a0 11).toNatClampNeg) rfl dd_mo_order_51 (fun M51 H locs e51 G => ?_)
      replace hF := gw_ly e51 hF
      refine lv_aload_n hx hb dd_mo_order_52 rfl (lv_at hl 0 rfl) ?_
      refine W.eq (g2 := F0 m 53 _ _) rfl ?_
      refine lv_dup hx hb dd_mo_order_53 rfl ?_
      refine gf_mo_orders hx hb hg hown (hg _ kw_270) hK G ha0 dd_mo_order_54 ?_
      refine lv_iconst (v := (1 : Int32)) hx hb dd_mo_order_57 (by decide) ?_
      refine lv_iadd hx hb dd_mo_order_58 ?_
      refine gp_mo_orders hx hb hg hown (hg _ kw_270) hK G ha0 dd_mo_order_59 (fun M59 H locs e59 G => ?_)
      replace hF := gw_ly e59 hF
      refine lv_aload_n hx hb dd_mo_order_62 rfl (lv_at hl 0 rfl) ?_
      refine gf_mo_orders hx hb hg hown (hg _ kw_270) hK G ha0 dd_mo_order_63 ?_
      refine lv_iconst (v := (1 : Int32)) hx hb dd_mo_order_66 (by decide) ?_
      refine lv_isub hx hb dd_mo_order_67 ?_
      exact W.iret hx hb hr (fun t ht hW => gw_endi (EF := (fun M => (gw_E X Y M))) (M := M59) G ht hF) G.2.2.2.2 dd_mo_order_68 hlocks
    · replace hF := gw_et h17 hF
      refine lv_iconst (v := (-1 : Int32)) hx hb dd_mo_order_20 (by decide) ?_
      exact W.iret hx hb hr (fun t ht hW => gw_endi (EF := (fun M => (gw_E X Y M))) (M := M6) G ht hF) G.2.2.2.2 dd_mo_order_21 hlocks
set_option maxRecDepth 100000 in
set_option maxHeartbeats 4000000 in
theorem ct_mo_order (l : Launch) (X : gw_X) (Y : gw_M) (M : gw_M) (a0 : Nat) (v1 : Int32) (v2 : Int32) (ha0 : gr_k a0 = (11, 0)) (z : (Int32 × gw_M)) (hF : mo_order_b0 M a0 v1 v2 = some z) : Met l yy_mo_order ((Cond.code yy_mo_order by_mo_order 3 (some .int)) :: gw_w) rm_mo_order (va_Pc [.ref (gr_a X a0), .int v1, .int v2] (gw_B X (gw_E X Y M))) (gw_Qi X (fun M => (gw_E X Y M)) z) 0 0 (gw_A X) := by
  refine Met.ofW (cc := by_mo_order) (maxL := 3) (ret := (some .int)) (by decide) rfl ?_
  intro p e s m args below meth c s₁ B hml hv
  obtain ⟨rfl, hB⟩ := hv
  rw [lg_entry_eq]
  have hl := lv_entry ([.ref (gr_a X a0), .int v1, .int v2]) (n := 3) (Nat.le_of_ble_eq_true rfl)
  generalize (lg_sl ([.ref (gr_a X a0), .int v1, .int v2]) ++ List.replicate (3 - (lg_sl ([.ref (gr_a X a0), .int v1, .int v2])).length) Slot.unset).toArray = ls at hl ⊢
  have hl : lv_has ls 3 [(0, .ref (gr_a X a0)), (1, .int v1), (2, .int v2)] := hl
  exact wb_mo_order_0 (gw_ctx B hml rfl hB) M a0 v1 v2 _ _ _ ha0 (gw_start hB) hl hF
/-! AccountMachineModel.add(III)V -/
abbrev rm_mo_add : Room := { frames := 0, cells := 0, slots := 0, locals := 0 }
theorem dd_mo_add_0 : decode by_mo_add 0 = .ok (.aload_n 0, 1) := by decide +kernel
theorem dd_mo_add_1 : decode by_mo_add 1 = .ok (.getfield 53, 3) := by decide +kernel
theorem dd_mo_add_4 : decode by_mo_add 4 = .ok (.iconst 4, 1) := by decide +kernel
theorem dd_mo_add_5 : decode by_mo_add 5 = .ok (.iload_n 1, 1) := by decide +kernel
theorem dd_mo_add_6 : decode by_mo_add 6 = .ok (.imul, 1) := by decide +kernel
theorem dd_mo_add_7 : decode by_mo_add 7 = .ok (.aload_n 0, 1) := by decide +kernel
theorem dd_mo_add_8 : decode by_mo_add 8 = .ok (.getfield 50, 3) := by decide +kernel
theorem dd_mo_add_11 : decode by_mo_add 11 = .ok (.iload_n 1, 1) := by decide +kernel
theorem dd_mo_add_12 : decode by_mo_add 12 = .ok (.iaload, 1) := by decide +kernel
theorem dd_mo_add_13 : decode by_mo_add 13 = .ok (.iadd, 1) := by decide +kernel
theorem dd_mo_add_14 : decode by_mo_add 14 = .ok (.iload_n 2, 1) := by decide +kernel
theorem dd_mo_add_15 : decode by_mo_add 15 = .ok (.iastore, 1) := by decide +kernel
theorem dd_mo_add_16 : decode by_mo_add 16 = .ok (.aload_n 0, 1) := by decide +kernel
theorem dd_mo_add_17 : decode by_mo_add 17 = .ok (.getfield 56, 3) := by decide +kernel
theorem dd_mo_add_20 : decode by_mo_add 20 = .ok (.iconst 4, 1) := by decide +kernel
theorem dd_mo_add_21 : decode by_mo_add 21 = .ok (.iload_n 1, 1) := by decide +kernel
theorem dd_mo_add_22 : decode by_mo_add 22 = .ok (.imul, 1) := by decide +kernel
theorem dd_mo_add_23 : decode by_mo_add 23 = .ok (.aload_n 0, 1) := by decide +kernel
theorem dd_mo_add_24 : decode by_mo_add 24 = .ok (.getfield 50, 3) := by decide +kernel
theorem dd_mo_add_27 : decode by_mo_add 27 = .ok (.iload_n 1, 1) := by decide +kernel
theorem dd_mo_add_28 : decode by_mo_add 28 = .ok (.iaload, 1) := by decide +kernel
theorem dd_mo_add_29 : decode by_mo_add 29 = .ok (.iadd, 1) := by decide +kernel
theorem dd_mo_add_30 : decode by_mo_add 30 = .ok (.iload_n 3, 1) := by decide +kernel
theorem dd_mo_add_31 : decode by_mo_add 31 = .ok (.iastore, 1) := by decide +kernel
theorem dd_mo_add_32 : decode by_mo_add 32 = .ok (.aload_n 0, 1) := by decide +kernel
theorem dd_mo_add_33 : decode by_mo_add 33 = .ok (.getfield 50, 3) := by decide +kernel
theorem dd_mo_add_36 : decode by_mo_add 36 = .ok (.iload_n 1, 1) := by decide +kernel
theorem dd_mo_add_37 : decode by_mo_add 37 = .ok (.dup2, 1) := by decide +kernel
theorem dd_mo_add_38 : decode by_mo_add 38 = .ok (.iaload, 1) := by decide +kernel
theorem dd_mo_add_39 : decode by_mo_add 39 = .ok (.iconst 1, 1) := by decide +kernel
theorem dd_mo_add_40 : decode by_mo_add 40 = .ok (.iadd, 1) := by decide +kernel
theorem dd_mo_add_41 : decode by_mo_add 41 = .ok (.iastore, 1) := by decide +kernel
theorem dd_mo_add_42 : decode by_mo_add 42 = .ok (.return_, 1) := by decide +kernel
def mo_add_b0 (M : gw_M) (a0 : Nat) (v1 : Int32) (v2 : Int32) (v3 : Int32) : Option (Unit × gw_M) :=
  gw_gu (gw_in v1 9) (gw_gu (gw_in (((4 : Int32) * v1) + (M.1 (a0 + 14) v1.toNatClampNeg)) 36) (gw_lt (gw_sI M (a0 + 15) ((((4 : Int32) * v1) + (M.1 (a0 + 14) v1.toNatClampNeg)).toNatClampNeg) v2) (fun M15 => gw_gu (gw_in v1 9) (gw_gu (gw_in (((4 : Int32) * v1) + (M15.1 (a0 + 14) v1.toNatClampNeg)) 36) (gw_lt (gw_sI M15 (a0 + 16) ((((4 : Int32) * v1) + (M15.1 (a0 + 14) v1.toNatClampNeg)).toNatClampNeg) v3) (fun M31 => gw_gu (gw_in v1 9) (gw_gu (gw_in v1 9) (gw_lt (gw_sI M31 (a0 + 14) v1.toNatClampNeg ((M31.1 (a0 + 14) v1.toNatClampNeg) + (1 : Int32))) (fun M41 => some ((), M41))))))))))
set_option maxRecDepth 100000 in
set_option maxHeartbeats 4000000 in
theorem wb_mo_add_0 {p : Program} {l : Launch} {e : Env} {s : State} {m : MethodId} {args : Array Value} {below : List Frame} {meth : Method} {c : Code} {X : gw_X} {Y : gw_M} {z : (Unit × gw_M)} (C0 : gw_C ((Cond.code yy_mo_add by_mo_add 4 none) :: gw_w) by_mo_add 4 none "AccountMachineModel" X p s m args meth c) (M : gw_M) (a0 : Nat) (v1 : Int32) (v2 : Int32) (v3 : Int32) (H : Heap) (locs : List Loc) (ls : Array Slot) (ha0 : gr_k a0 = (11, 0)) (G : gw_G X (gw_E X Y M) s H locs) (hl : lv_has ls 4 [(0, .ref (gr_a X a0)), (1, .int v1), (2, .int v2), (3, .int v3)]) (hF : mo_add_b0  M a0 v1 v2 v3 = some z) : W p l e rm_mo_add s m args below meth c H locs 0 0 (MQ below (gw_Qv X (fun M => (gw_E X Y M)) z) args s 0 0 (gw_A X)) (F0 m 0 ls []) := by
  obtain ⟨hx, hb, hml, hown, hts, hr, hlocks, hK⟩ := id C0
  have hg : ∀ w ∈ gw_w, w.before args s = true := fun w h => hts w (List.mem_cons_of_mem _ h)
  unfold mo_add_b0 at hF
  refine lv_aload_n hx hb dd_mo_add_0 rfl (lv_at hl 0 rfl) ?_
  refine gf_mo_slotAccount hx hb hg hown (hg _ kw_274) hK G ha0 dd_mo_add_1 ?_
  refine lv_iconst (v := (4 : Int32)) hx hb dd_mo_add_4 (by decide) ?_
  refine lv_iload_n hx hb dd_mo_add_5 rfl (lv_at hl 1 rfl) ?_
  refine lv_imul hx hb dd_mo_add_6 ?_
  refine lv_aload_n hx hb dd_mo_add_7 rfl (lv_at hl 0 rfl) ?_
  refine gf_mo_slots hx hb hg hown (hg _ kw_273) hK G ha0 dd_mo_add_8 ?_
  refine lv_iload_n hx hb dd_mo_add_11 rfl (lv_at hl 1 rfl) ?_
  obtain ⟨h12, hF⟩ := gw_gd hF
  refine gr_iald hx hb hK G (gq_mo_slots ha0) (gw_vp h12) (j := v1.toNatClampNeg) rfl dd_mo_add_12 ?_
  refine W.eq (g2 := F0 m 13 _ _) rfl ?_
  refine lv_iadd hx hb dd_mo_add_13 ?_
  refine lv_iload_n hx hb dd_mo_add_14 rfl (lv_at hl 2 rfl) ?_
  obtain ⟨h15, hF⟩ := gw_gd hF
  refine gr_iast hx hb hK G (gq_mo_slotAccount ha0) (gw_vp h15) (j := (((4 : Int32) * v1) + (M.1 (a0 + 14) v1.toNatClampNeg)).toNatClampNeg) rfl dd_mo_add_15 (fun M15 H locs e15 G => ?_)
  replace hF := gw_ly e15 hF
  refine lv_aload_n hx hb dd_mo_add_16 rfl (lv_at hl 0 rfl) ?_
  refine gf_mo_slotMarks hx hb hg hown (hg _ kw_275) hK G ha0 dd_mo_add_17 ?_
  refine lv_iconst (v := (4 : Int32)) hx hb dd_mo_add_20 (by decide) ?_
  refine lv_iload_n hx hb dd_mo_add_21 rfl (lv_at hl 1 rfl) ?_
  refine lv_imul hx hb dd_mo_add_22 ?_
  refine lv_aload_n hx hb dd_mo_add_23 rfl (lv_at hl 0 rfl) ?_
  refine gf_mo_slots hx hb hg hown (hg _ kw_273) hK G ha0 dd_mo_add_24 ?_
  refine W.eq (g2 := F0 m 27 _ _) rfl ?_
  refine lv_iload_n hx hb dd_mo_add_27 rfl (lv_at hl 1 rfl) ?_
  obtain ⟨h28, hF⟩ := gw_gd hF
  refine gr_iald hx hb hK G (gq_mo_slots ha0) (gw_vp h28) (j := v1.toNatClampNeg) rfl dd_mo_add_28 ?_
  refine lv_iadd hx hb dd_mo_add_29 ?_
  refine lv_iload_n hx hb dd_mo_add_30 rfl (lv_at hl 3 rfl) ?_
  obtain ⟨h31, hF⟩ := gw_gd hF
  refine gr_iast hx hb hK G (gq_mo_slotMarks ha0) (gw_vp h31) (j := (((4 : Int32) * v1) + (M15.1 (a0 + 14) v1.toNatClampNeg)).toNatClampNeg) rfl dd_mo_add_31 (fun M31 H locs e31 G => ?_)
  replace hF := gw_ly e31 hF
  refine lv_aload_n hx hb dd_mo_add_32 rfl (lv_at hl 0 rfl) ?_
  refine gf_mo_slots hx hb hg hown (hg _ kw_273) hK G ha0 dd_mo_add_33 ?_
  refine lv_iload_n hx hb dd_mo_add_36 rfl (lv_at hl 1 rfl) ?_
  refine lv_dup2_11 hx hb dd_mo_add_37 rfl rfl ?_
  obtain ⟨h38, hF⟩ := gw_gd hF
  refine gr_iald hx hb hK G (gq_mo_slots ha0) (gw_vp h38) (j := v1.toNatClampNeg) rfl dd_mo_add_38 ?_
  refine W.eq (g2 := F0 m 39 _ _) rfl ?_
  refine lv_iconst (v := (1 : Int32)) hx hb dd_mo_add_39 (by decide) ?_
  refine lv_iadd hx hb dd_mo_add_40 ?_
  obtain ⟨h41, hF⟩ := gw_gd hF
  refine gr_iast hx hb hK G (gq_mo_slots ha0) (gw_vp h41) (j := v1.toNatClampNeg) rfl dd_mo_add_41 (fun M41 H locs e41 G => ?_)
  replace hF := gw_ly e41 hF
  exact W.vret hx hb hr (fun t ht hW => gw_endv (EF := (fun M => (gw_E X Y M))) (M := M41) G ht hF) G.2.2.2.2 dd_mo_add_42 hlocks
set_option maxRecDepth 100000 in
set_option maxHeartbeats 4000000 in
theorem ct_mo_add (l : Launch) (X : gw_X) (Y : gw_M) (M : gw_M) (a0 : Nat) (v1 : Int32) (v2 : Int32) (v3 : Int32) (ha0 : gr_k a0 = (11, 0)) (z : (Unit × gw_M)) (hF : mo_add_b0 M a0 v1 v2 v3 = some z) : Met l yy_mo_add ((Cond.code yy_mo_add by_mo_add 4 none) :: gw_w) rm_mo_add (va_Pc [.ref (gr_a X a0), .int v1, .int v2, .int v3] (gw_B X (gw_E X Y M))) (gw_Qv X (fun M => (gw_E X Y M)) z) 0 0 (gw_A X) := by
  refine Met.ofW (cc := by_mo_add) (maxL := 4) (ret := none) (by decide) rfl ?_
  intro p e s m args below meth c s₁ B hml hv
  obtain ⟨rfl, hB⟩ := hv
  rw [lg_entry_eq]
  have hl := lv_entry ([.ref (gr_a X a0), .int v1, .int v2, .int v3]) (n := 4) (Nat.le_of_ble_eq_true rfl)
  generalize (lg_sl ([.ref (gr_a X a0), .int v1, .int v2, .int v3]) ++ List.replicate (4 - (lg_sl ([.ref (gr_a X a0), .int v1, .int v2, .int v3])).length) Slot.unset).toArray = ls at hl ⊢
  have hl : lv_has ls 4 [(0, .ref (gr_a X a0)), (1, .int v1), (2, .int v2), (3, .int v3)] := hl
  exact wb_mo_add_0 (gw_ctx B hml rfl hB) M a0 v1 v2 v3 _ _ _ ha0 (gw_start hB) hl hF
/-! AccountMachineModel.slot(II)Z -/
abbrev rm_mo_slot : Room := { frames := 1, cells := 0, slots := 0, locals := 25 }
theorem dd_mo_slot_0 : decode by_mo_slot 0 = .ok (.aload_n 0, 1) := by decide +kernel
theorem dd_mo_slot_1 : decode by_mo_slot 1 = .ok (.getfield 101, 3) := by decide +kernel
theorem dd_mo_slot_4 : decode by_mo_slot 4 = .ok (.ifCond .eq 27, 3) := by decide +kernel
theorem dd_mo_slot_7 : decode by_mo_slot 7 = .ok (.iload_n 1, 1) := by decide +kernel
theorem dd_mo_slot_8 : decode by_mo_slot 8 = .ok (.i2l, 1) := by decide +kernel
theorem dd_mo_slot_9 : decode by_mo_slot 9 = .ok (.lconst 0, 1) := by decide +kernel
theorem dd_mo_slot_10 : decode by_mo_slot 10 = .ok (.ldc2_w 105, 3) := by decide +kernel
theorem dd_mo_slot_13 : decode by_mo_slot 13 = .ok (.invokestatic 83, 3) := by decide +kernel
theorem dd_mo_slot_16 : decode by_mo_slot 16 = .ok (.ifCond .eq 15, 3) := by decide +kernel
theorem dd_mo_slot_19 : decode by_mo_slot 19 = .ok (.iload_n 2, 1) := by decide +kernel
theorem dd_mo_slot_20 : decode by_mo_slot 20 = .ok (.i2l, 1) := by decide +kernel
theorem dd_mo_slot_21 : decode by_mo_slot 21 = .ok (.lconst 0, 1) := by decide +kernel
theorem dd_mo_slot_22 : decode by_mo_slot 22 = .ok (.ldc2_w 81, 3) := by decide +kernel
theorem dd_mo_slot_25 : decode by_mo_slot 25 = .ok (.invokestatic 83, 3) := by decide +kernel
theorem dd_mo_slot_28 : decode by_mo_slot 28 = .ok (.ifCond .ne 5, 3) := by decide +kernel
theorem dd_mo_slot_31 : decode by_mo_slot 31 = .ok (.iconst 0, 1) := by decide +kernel
theorem dd_mo_slot_32 : decode by_mo_slot 32 = .ok (.ireturn, 1) := by decide +kernel
theorem dd_mo_slot_33 : decode by_mo_slot 33 = .ok (.aload_n 0, 1) := by decide +kernel
theorem dd_mo_slot_34 : decode by_mo_slot 34 = .ok (.getfield 50, 3) := by decide +kernel
theorem dd_mo_slot_37 : decode by_mo_slot 37 = .ok (.aload_n 0, 1) := by decide +kernel
theorem dd_mo_slot_38 : decode by_mo_slot 38 = .ok (.getfield 101, 3) := by decide +kernel
theorem dd_mo_slot_41 : decode by_mo_slot 41 = .ok (.iconst 1, 1) := by decide +kernel
theorem dd_mo_slot_42 : decode by_mo_slot 42 = .ok (.isub, 1) := by decide +kernel
theorem dd_mo_slot_43 : decode by_mo_slot 43 = .ok (.iaload, 1) := by decide +kernel
theorem dd_mo_slot_44 : decode by_mo_slot 44 = .ok (.iconst 4, 1) := by decide +kernel
theorem dd_mo_slot_45 : decode by_mo_slot 45 = .ok (.if_icmp .ne 5, 3) := by decide +kernel
theorem dd_mo_slot_48 : decode by_mo_slot 48 = .ok (.iconst 0, 1) := by decide +kernel
theorem dd_mo_slot_49 : decode by_mo_slot 49 = .ok (.ireturn, 1) := by decide +kernel
theorem dd_mo_slot_50 : decode by_mo_slot 50 = .ok (.aload_n 0, 1) := by decide +kernel
theorem dd_mo_slot_51 : decode by_mo_slot 51 = .ok (.aload_n 0, 1) := by decide +kernel
theorem dd_mo_slot_52 : decode by_mo_slot 52 = .ok (.getfield 101, 3) := by decide +kernel
theorem dd_mo_slot_55 : decode by_mo_slot 55 = .ok (.iconst 1, 1) := by decide +kernel
theorem dd_mo_slot_56 : decode by_mo_slot 56 = .ok (.isub, 1) := by decide +kernel
theorem dd_mo_slot_57 : decode by_mo_slot 57 = .ok (.iload_n 1, 1) := by decide +kernel
theorem dd_mo_slot_58 : decode by_mo_slot 58 = .ok (.iload_n 2, 1) := by decide +kernel
theorem dd_mo_slot_59 : decode by_mo_slot 59 = .ok (.invokevirtual 107, 3) := by decide +kernel
theorem dd_mo_slot_62 : decode by_mo_slot 62 = .ok (.iconst 1, 1) := by decide +kernel
theorem dd_mo_slot_63 : decode by_mo_slot 63 = .ok (.ireturn, 1) := by decide +kernel
def mo_slot_b0 (M : gw_M) (a0 : Nat) (v1 : Int32) (v2 : Int32) : Option (Int32 × gw_M) :=
  if (M.1 a0 11) = (0 : Int32) then (some ((0 : Int32), M)) else (gw_bd (mo_in_b0 M v1.toInt64 (0 : Int64) (7 : Int64)) (fun r13 M13 => if r13 = (0 : Int32) then (some ((0 : Int32), M13)) else (gw_bd (mo_in_b0 M13 v2.toInt64 (0 : Int64) (3 : Int64)) (fun r25 M25 => if r25 = (0 : Int32) then (some ((0 : Int32), M25)) else (gw_gu (gw_in ((M25.1 a0 11) - (1 : Int32)) 9) (if (M25.1 (a0 + 14) (((M25.1 a0 11) - (1 : Int32)).toNatClampNeg)) = (4 : Int32) then (some ((0 : Int32), M25)) else (gw_bd (mo_add_b0 M25 a0 ((M25.1 a0 11) - (1 : Int32)) v1 v2) (fun _ M59 => some ((1 : Int32), M59)))))))))
set_option maxRecDepth 100000 in
set_option maxHeartbeats 4000000 in
theorem wb_mo_slot_0 {p : Program} {l : Launch} {e : Env} {s : State} {m : MethodId} {args : Array Value} {below : List Frame} {meth : Method} {c : Code} {X : gw_X} {Y : gw_M} {z : (Int32 × gw_M)} (C0 : gw_C ((Cond.code yy_mo_slot by_mo_slot 3 (some .boolean)) :: gw_w) by_mo_slot 3 (some .boolean) "AccountMachineModel" X p s m args meth c) (M : gw_M) (a0 : Nat) (v1 : Int32) (v2 : Int32) (H : Heap) (locs : List Loc) (ls : Array Slot) (ha0 : gr_k a0 = (11, 0)) (G : gw_G X (gw_E X Y M) s H locs) (hl : lv_has ls 3 [(0, .ref (gr_a X a0)), (1, .int v1), (2, .int v2)]) (hF : mo_slot_b0  M a0 v1 v2 = some z) : W p l e rm_mo_slot s m args below meth c H locs 0 0 (MQ below (gw_Qi X (fun M => (gw_E X Y M)) z) args s 0 0 (gw_A X)) (F0 m 0 ls []) := by
  obtain ⟨hx, hb, hml, hown, hts, hr, hlocks, hK⟩ := id C0
  have hg : ∀ w ∈ gw_w, w.before args s = true := fun w h => hts w (List.mem_cons_of_mem _ h)
  unfold mo_slot_b0 at hF
  refine lv_aload_n hx hb dd_mo_slot_0 rfl (lv_at hl 0 rfl) ?_
  refine gf_mo_orders hx hb hg hown (hg _ kw_270) hK G ha0 dd_mo_slot_1 ?_
  refine lv_if_eq (tgt := 31) hx hb dd_mo_slot_4 (by decide) (fun h4 => ?_) (fun h4 => ?_)
  · replace hF := gw_et h4 hF
    refine lv_iconst (v := (0 : Int32)) hx hb dd_mo_slot_31 (by decide) ?_
    exact W.zret hx hb hr (by decide) (fun t ht hW => gw_endi (EF := (fun M => (gw_E X Y M))) (M := M) G ht hF) G.2.2.2.2 dd_mo_slot_32 hlocks
  · replace hF := gw_ef h4 hF
    refine lv_iload_n hx hb dd_mo_slot_7 rfl (lv_at hl 1 rfl) ?_
    refine lv_i2l (v := v1.toInt64) hx hb dd_mo_slot_8 rfl ?_
    refine lv_lconst (v := (0 : Int64)) hx hb dd_mo_slot_9 (by decide) ?_
    refine lv_ldc2 (v := (7 : Int64)) hx hb hown (hg _ kw_276) dd_mo_slot_10 ?_
    obtain ⟨r13, M13, hc13, hF⟩ := gw_be hF
    refine gw_ci G (va_runS (As := [.long v1.toInt64, .long (0 : Int64), .long (7 : Int64)]) (rest := []) ⟨hx, hb, hml, hown, hts⟩ (ct_mo_in l X Y M v1.toInt64 (0 : Int64) (7 : Int64)  _ hc13) (cwS 3 hts (gw_gS kw_251 kw_252 kw_253 kw_250) rfl rfl rfl (by decide +kernel) ⟨Nat.le_of_ble_eq_true rfl, Nat.le_of_ble_eq_true rfl⟩) ⟨gw_blind, gw_pre hK G⟩ rfl rfl hl.1 rfl (Nat.le_of_ble_eq_true rfl) dd_mo_slot_13 ⟨Nat.le_of_ble_eq_true rfl, Nat.le_of_ble_eq_true rfl⟩) (fun H locs G => ?_)
    refine lv_if_eq (tgt := 31) hx hb dd_mo_slot_16 (by decide) (fun h16 => ?_) (fun h16 => ?_)
    · replace hF := gw_et h16 hF
      refine lv_iconst (v := (0 : Int32)) hx hb dd_mo_slot_31 (by decide) ?_
      exact W.zret hx hb hr (by decide) (fun t ht hW => gw_endi (EF := (fun M => (gw_E X Y M))) (M := M13) G ht hF) G.2.2.2.2 dd_mo_slot_32 hlocks
    · replace hF := gw_ef h16 hF
      refine lv_iload_n hx hb dd_mo_slot_19 rfl (lv_at hl 2 rfl) ?_
      refine lv_i2l (v := v2.toInt64) hx hb dd_mo_slot_20 rfl ?_
      refine lv_lconst (v := (0 : Int64)) hx hb dd_mo_slot_21 (by decide) ?_
      refine lv_ldc2 (v := (3 : Int64)) hx hb hown (hg _ kw_249) dd_mo_slot_22 ?_
      obtain ⟨r25, M25, hc25, hF⟩ := gw_be hF
      refine gw_ci G (va_runS (As := [.long v2.toInt64, .long (0 : Int64), .long (3 : Int64)]) (rest := []) ⟨hx, hb, hml, hown, hts⟩ (ct_mo_in l X Y M13 v2.toInt64 (0 : Int64) (3 : Int64)  _ hc25) (cwS 3 hts (gw_gS kw_251 kw_252 kw_253 kw_250) rfl rfl rfl (by decide +kernel) ⟨Nat.le_of_ble_eq_true rfl, Nat.le_of_ble_eq_true rfl⟩) ⟨gw_blind, gw_pre hK G⟩ rfl rfl hl.1 rfl (Nat.le_of_ble_eq_true rfl) dd_mo_slot_25 ⟨Nat.le_of_ble_eq_true rfl, Nat.le_of_ble_eq_true rfl⟩) (fun H locs G => ?_)
      refine lv_if_ne (tgt := 33) hx hb dd_mo_slot_28 (by decide) (fun h28 => ?_) (fun h28 => ?_)
      · replace hF := gw_ef h28 hF
        refine lv_aload_n hx hb dd_mo_slot_33 rfl (lv_at hl 0 rfl) ?_
        refine gf_mo_slots hx hb hg hown (hg _ kw_273) hK G ha0 dd_mo_slot_34 ?_
        refine lv_aload_n hx hb dd_mo_slot_37 rfl (lv_at hl 0 rfl) ?_
        refine gf_mo_orders hx hb hg hown (hg _ kw_270) hK G ha0 dd_mo_slot_38 ?_
        refine lv_iconst (v := (1 : Int32)) hx hb dd_mo_slot_41 (by decide) ?_
        refine lv_isub hx hb dd_mo_slot_42 ?_
        obtain ⟨h43, hF⟩ := gw_gd hF
        refine gr_iald hx hb hK G (gq_mo_slots ha0) (gw_vp h43) (j := ((M25.1 a0 11) - (1 : Int32)).toNatClampNeg) rfl dd_mo_slot_43 ?_
        refine lv_iconst (v := (4 : Int32)) hx hb dd_mo_slot_44 (by decide) ?_
        refine lv_icmp_ne (tgt := 50) hx hb dd_mo_slot_45 (by decide) (fun h45 => ?_) (fun h45 => ?_)
        · replace hF := gw_ef h45 hF
          refine lv_aload_n hx hb dd_mo_slot_50 rfl (lv_at hl 0 rfl) ?_
          refine lv_aload_n hx hb dd_mo_slot_51 rfl (lv_at hl 0 rfl) ?_
          refine gf_mo_orders hx hb hg hown (hg _ kw_270) hK G ha0 dd_mo_slot_52 ?_
          refine lv_iconst (v := (1 : Int32)) hx hb dd_mo_slot_55 (by decide) ?_
          refine lv_isub hx hb dd_mo_slot_56 ?_
          refine lv_iload_n hx hb dd_mo_slot_57 rfl (lv_at hl 1 rfl) ?_
          refine lv_iload_n hx hb dd_mo_slot_58 rfl (lv_at hl 2 rfl) ?_
          obtain ⟨u59, M59, hc59, hF⟩ := gw_be hF
          refine gw_cv G (va_runV (As := [.int ((M25.1 a0 11) - (1 : Int32)), .int v1, .int v2]) (rest := []) ⟨hx, hb, hml, hown, hts⟩ (ct_mo_add l X Y M25 a0 ((M25.1 a0 11) - (1 : Int32)) v1 v2 ha0 _ hc59) (cwV 3 hts (gw_gV kw_278 kw_279 kw_280 kw_253 kw_277) rfl rfl rfl (by decide +kernel) ⟨Nat.le_of_ble_eq_true rfl, Nat.le_of_ble_eq_true rfl⟩) ⟨gw_blind, gw_recv_mo hK G ha0, gw_pre hK G⟩ rfl rfl hl.1 rfl (Nat.le_of_ble_eq_true rfl) dd_mo_slot_59 ⟨Nat.le_of_ble_eq_true rfl, Nat.le_of_ble_eq_true rfl⟩) (fun H locs G => ?_)
          refine lv_iconst (v := (1 : Int32)) hx hb dd_mo_slot_62 (by decide) ?_
          refine W.eq (g2 := F0 m 63 _ _) rfl ?_
          exact W.zret hx hb hr (by decide) (fun t ht hW => gw_endi (EF := (fun M => (gw_E X Y M))) (M := M59) G ht hF) G.2.2.2.2 dd_mo_slot_63 hlocks
        · replace hF := gw_et h45 hF
          refine lv_iconst (v := (0 : Int32)) hx hb dd_mo_slot_48 (by decide) ?_
          exact W.zret hx hb hr (by decide) (fun t ht hW => gw_endi (EF := (fun M => (gw_E X Y M))) (M := M25) G ht hF) G.2.2.2.2 dd_mo_slot_49 hlocks
      · replace hF := gw_et h28 hF
        refine lv_iconst (v := (0 : Int32)) hx hb dd_mo_slot_31 (by decide) ?_
        exact W.zret hx hb hr (by decide) (fun t ht hW => gw_endi (EF := (fun M => (gw_E X Y M))) (M := M25) G ht hF) G.2.2.2.2 dd_mo_slot_32 hlocks
set_option maxRecDepth 100000 in
set_option maxHeartbeats 4000000 in
theorem ct_mo_slot (l : Launch) (X : gw_X) (Y : gw_M) (M : gw_M) (a0 : Nat) (v1 : Int32) (v2 : Int32) (ha0 : gr_k a0 = (11, 0)) (z : (Int32 × gw_M)) (hF : mo_slot_b0 M a0 v1 v2 = some z) : Met l yy_mo_slot ((Cond.code yy_mo_slot by_mo_slot 3 (some .boolean)) :: gw_w) rm_mo_slot (va_Pc [.ref (gr_a X a0), .int v1, .int v2] (gw_B X (gw_E X Y M))) (gw_Qi X (fun M => (gw_E X Y M)) z) 0 0 (gw_A X) := by
  refine Met.ofW (cc := by_mo_slot) (maxL := 3) (ret := (some .boolean)) (by decide) rfl ?_
  intro p e s m args below meth c s₁ B hml hv
  obtain ⟨rfl, hB⟩ := hv
  rw [lg_entry_eq]
  have hl := lv_entry ([.ref (gr_a X a0), .int v1, .int v2]) (n := 3) (Nat.le_of_ble_eq_true rfl)
  generalize (lg_sl ([.ref (gr_a X a0), .int v1, .int v2]) ++ List.replicate (3 - (lg_sl ([.ref (gr_a X a0), .int v1, .int v2])).length) Slot.unset).toArray = ls at hl ⊢
  have hl : lv_has ls 3 [(0, .ref (gr_a X a0)), (1, .int v1), (2, .int v2)] := hl
  exact wb_mo_slot_0 (gw_ctx B hml rfl hB) M a0 v1 v2 _ _ _ ha0 (gw_start hB) hl hF
/-! AccountMachineModel.marksOf(II)I -/
abbrev rm_mo_marksOf : Room := { frames := 0, cells := 0, slots := 0, locals := 0 }
theorem dd_mo_marksOf_0 : decode by_mo_marksOf 0 = .ok (.iconst 0, 1) := by decide +kernel
theorem dd_mo_marksOf_1 : decode by_mo_marksOf 1 = .ok (.istore_n 3, 1) := by decide +kernel
theorem dd_mo_marksOf_2 : decode by_mo_marksOf 2 = .ok (.iconst 0, 1) := by decide +kernel
theorem dd_mo_marksOf_3 : decode by_mo_marksOf 3 = .ok (.istore 4, 2) := by decide +kernel
theorem dd_mo_marksOf_5 : decode by_mo_marksOf 5 = .ok (.iload 4, 2) := by decide +kernel
theorem dd_mo_marksOf_7 : decode by_mo_marksOf 7 = .ok (.aload_n 0, 1) := by decide +kernel
theorem dd_mo_marksOf_8 : decode by_mo_marksOf 8 = .ok (.getfield 50, 3) := by decide +kernel
theorem dd_mo_marksOf_11 : decode by_mo_marksOf 11 = .ok (.iload_n 1, 1) := by decide +kernel
theorem dd_mo_marksOf_12 : decode by_mo_marksOf 12 = .ok (.iaload, 1) := by decide +kernel
theorem dd_mo_marksOf_13 : decode by_mo_marksOf 13 = .ok (.if_icmp .ge 42, 3) := by decide +kernel
theorem dd_mo_marksOf_16 : decode by_mo_marksOf 16 = .ok (.aload_n 0, 1) := by decide +kernel
theorem dd_mo_marksOf_17 : decode by_mo_marksOf 17 = .ok (.getfield 53, 3) := by decide +kernel
theorem dd_mo_marksOf_20 : decode by_mo_marksOf 20 = .ok (.iconst 4, 1) := by decide +kernel
theorem dd_mo_marksOf_21 : decode by_mo_marksOf 21 = .ok (.iload_n 1, 1) := by decide +kernel
theorem dd_mo_marksOf_22 : decode by_mo_marksOf 22 = .ok (.imul, 1) := by decide +kernel
theorem dd_mo_marksOf_23 : decode by_mo_marksOf 23 = .ok (.iload 4, 2) := by decide +kernel
theorem dd_mo_marksOf_25 : decode by_mo_marksOf 25 = .ok (.iadd, 1) := by decide +kernel
theorem dd_mo_marksOf_26 : decode by_mo_marksOf 26 = .ok (.iaload, 1) := by decide +kernel
theorem dd_mo_marksOf_27 : decode by_mo_marksOf 27 = .ok (.iload_n 2, 1) := by decide +kernel
theorem dd_mo_marksOf_28 : decode by_mo_marksOf 28 = .ok (.if_icmp .ne 19, 3) := by decide +kernel
theorem dd_mo_marksOf_31 : decode by_mo_marksOf 31 = .ok (.iload_n 3, 1) := by decide +kernel
theorem dd_mo_marksOf_32 : decode by_mo_marksOf 32 = .ok (.aload_n 0, 1) := by decide +kernel
theorem dd_mo_marksOf_33 : decode by_mo_marksOf 33 = .ok (.getfield 56, 3) := by decide +kernel
theorem dd_mo_marksOf_36 : decode by_mo_marksOf 36 = .ok (.iconst 4, 1) := by decide +kernel
theorem dd_mo_marksOf_37 : decode by_mo_marksOf 37 = .ok (.iload_n 1, 1) := by decide +kernel
theorem dd_mo_marksOf_38 : decode by_mo_marksOf 38 = .ok (.imul, 1) := by decide +kernel
theorem dd_mo_marksOf_39 : decode by_mo_marksOf 39 = .ok (.iload 4, 2) := by decide +kernel
theorem dd_mo_marksOf_41 : decode by_mo_marksOf 41 = .ok (.iadd, 1) := by decide +kernel
theorem dd_mo_marksOf_42 : decode by_mo_marksOf 42 = .ok (.iaload, 1) := by decide +kernel
theorem dd_mo_marksOf_43 : decode by_mo_marksOf 43 = .ok (.ior, 1) := by decide +kernel
theorem dd_mo_marksOf_44 : decode by_mo_marksOf 44 = .ok (.goto 4, 3) := by decide +kernel
theorem dd_mo_marksOf_47 : decode by_mo_marksOf 47 = .ok (.iload_n 3, 1) := by decide +kernel
theorem dd_mo_marksOf_48 : decode by_mo_marksOf 48 = .ok (.istore_n 3, 1) := by decide +kernel
theorem dd_mo_marksOf_49 : decode by_mo_marksOf 49 = .ok (.iinc 4 1, 3) := by decide +kernel
theorem dd_mo_marksOf_52 : decode by_mo_marksOf 52 = .ok (.goto (-47), 3) := by decide +kernel
theorem dd_mo_marksOf_55 : decode by_mo_marksOf 55 = .ok (.iload_n 3, 1) := by decide +kernel
theorem dd_mo_marksOf_56 : decode by_mo_marksOf 56 = .ok (.ireturn, 1) := by decide +kernel
def mo_marksOf_b48 (K5 : gw_M → Nat → Int32 → Int32 → Int32 → Int32 → Option (Int32 × gw_M)) (M : gw_M) (a0 : Nat) (v1 : Int32) (v2 : Int32) (v4 : Int32) (t0 : Int32) : Option (Int32 × gw_M) :=
  K5 M a0 v1 v2 t0 (v4 + (1 : Int32))
def mo_marksOf_b5 (K5 : gw_M → Nat → Int32 → Int32 → Int32 → Int32 → Option (Int32 × gw_M)) (M : gw_M) (a0 : Nat) (v1 : Int32) (v2 : Int32) (v3 : Int32) (v4 : Int32) : Option (Int32 × gw_M) :=
  gw_gu (gw_in v1 9) (if (M.1 (a0 + 14) v1.toNatClampNeg) ≤ v4 then (some (v3, M)) else (gw_gu (gw_in (((4 : Int32) * v1) + v4) 36) (if (M.1 (a0 + 15) ((((4 : Int32) * v1) + v4).toNatClampNeg)) = v2 then (gw_gu (gw_in (((4 : Int32) * v1) + v4) 36) (mo_marksOf_b48 K5 M a0 v1 v2 v4 (v3 ||| (M.1 (a0 + 16) ((((4 : Int32) * v1) + v4).toNatClampNeg))))) else (mo_marksOf_b48 K5 M a0 v1 v2 v4 v3))))
def mo_marksOf_l5 : Nat → gw_M → Nat → Int32 → Int32 → Int32 → Int32 → Option (Int32 × gw_M)
  | 0 => fun _ _ _ _ _ _ => none
  | n + 1 => mo_marksOf_b5  (mo_marksOf_l5  n)
def mo_marksOf_b0 (M : gw_M) (a0 : Nat) (v1 : Int32) (v2 : Int32) : Option (Int32 × gw_M) :=
  mo_marksOf_l5  2100 M a0 v1 v2 (0 : Int32) (0 : Int32)
set_option maxRecDepth 100000 in
set_option maxHeartbeats 4000000 in
theorem wb_mo_marksOf_48 {p : Program} {l : Launch} {e : Env} {s : State} {m : MethodId} {args : Array Value} {below : List Frame} {meth : Method} {c : Code} {X : gw_X} {Y : gw_M} {z : (Int32 × gw_M)} (C0 : gw_C ((Cond.code yy_mo_marksOf by_mo_marksOf 5 (some .int)) :: gw_w) by_mo_marksOf 5 (some .int) "AccountMachineModel" X p s m args meth c) {K5 : gw_M → Nat → Int32 → Int32 → Int32 → Int32 → Option (Int32 × gw_M)} (hK5 : ∀ (M : gw_M) (a0 : Nat) (v1 : Int32) (v2 : Int32) (v3 : Int32) (v4 : Int32) (H : Heap) (locs : List Loc) (ls : Array Slot), gr_k a0 = (11, 0) → gw_G X (gw_E X Y M) s H locs → lv_has ls 5 [(0, .ref (gr_a X a0)), (1, .int v1), (2, .int v2), (3, .int v3), (4, .int v4)] → K5 M a0 v1 v2 v3 v4 = some z → W p l e rm_mo_marksOf s m args below meth c H locs 0 0 (MQ below (gw_Qi X (fun M => (gw_E X Y M)) z) args s 0 0 (gw_A X)) (F0 m 5 ls [])) (M : gw_M) (a0 : Nat) (v1 : Int32) (v2 : Int32) (v4 : Int32) (t0 : Int32) (H : Heap) (locs : List Loc) (ls : Array Slot) (ha0 : gr_k a0 = (11, 0)) (G : gw_G X (gw_E X Y M) s H locs) (hl : lv_has ls 5 [(0, .ref (gr_a X a0)), (1, .int v1), (2, .int v2), (4, .int v4)]) (hF : mo_marksOf_b48 K5 M a0 v1 v2 v4 t0 = some z) : W p l e rm_mo_marksOf s m args below meth c H locs 0 0 (MQ below (gw_Qi X (fun M => (gw_E X Y M)) z) args s 0 0 (gw_A X)) (F0 m 48 ls [.int t0]) := by
  obtain ⟨hx, hb, hml, hown, hts, hr, hlocks, hK⟩ := id C0
  have hg : ∀ w ∈ gw_w, w.before args s = true := fun w h => hts w (List.mem_cons_of_mem _ h)
  unfold mo_marksOf_b48 at hF
  refine lv_istore_n (i := 3) (lv' := [(3, .int t0), (0, .ref (gr_a X a0)), (1, .int v1), (2, .int v2), (4, .int v4)]) hx hb dd_mo_marksOf_48 rfl hl (by decide) rfl (fun ls hl => ?_)
  refine lv_iinc (k := 4) (v := v4 + (1 : Int32)) (lv' := [(4, .int (v4 + (1 : Int32))), (3, .int t0), (0, .ref (gr_a X a0)), (1, .int v1), (2, .int v2)]) hx hb dd_mo_marksOf_49 hl rfl rfl (by decide) rfl (fun ls hl => ?_)
  refine lv_goto (tgt := 5) hx hb dd_mo_marksOf_52 (by decide) ?_
  exact hK5 M a0 v1 v2 t0 (v4 + (1 : Int32)) _ _ _ ha0 G (lv_sub hl [2, 3, 4, 1, 0] rfl) hF
set_option maxRecDepth 100000 in
set_option maxHeartbeats 4000000 in
theorem wb_mo_marksOf_5 {p : Program} {l : Launch} {e : Env} {s : State} {m : MethodId} {args : Array Value} {below : List Frame} {meth : Method} {c : Code} {X : gw_X} {Y : gw_M} {z : (Int32 × gw_M)} (C0 : gw_C ((Cond.code yy_mo_marksOf by_mo_marksOf 5 (some .int)) :: gw_w) by_mo_marksOf 5 (some .int) "AccountMachineModel" X p s m args meth c) {K5 : gw_M → Nat → Int32 → Int32 → Int32 → Int32 → Option (Int32 × gw_M)} (hK5 : ∀ (M : gw_M) (a0 : Nat) (v1 : Int32) (v2 : Int32) (v3 : Int32) (v4 : Int32) (H : Heap) (locs : List Loc) (ls : Array Slot), gr_k a0 = (11, 0) → gw_G X (gw_E X Y M) s H locs → lv_has ls 5 [(0, .ref (gr_a X a0)), (1, .int v1), (2, .int v2), (3, .int v3), (4, .int v4)] → K5 M a0 v1 v2 v3 v4 = some z → W p l e rm_mo_marksOf s m args below meth c H locs 0 0 (MQ below (gw_Qi X (fun M => (gw_E X Y M)) z) args s 0 0 (gw_A X)) (F0 m 5 ls [])) (M : gw_M) (a0 : Nat) (v1 : Int32) (v2 : Int32) (v3 : Int32) (v4 : Int32) (H : Heap) (locs : List Loc) (ls : Array Slot) (ha0 : gr_k a0 = (11, 0)) (G : gw_G X (gw_E X Y M) s H locs) (hl : lv_has ls 5 [(0, .ref (gr_a X a0)), (1, .int v1), (2, .int v2), (3, .int v3), (4, .int v4)]) (hF : mo_marksOf_b5 K5 M a0 v1 v2 v3 v4 = some z) : W p l e rm_mo_marksOf s m args below meth c H locs 0 0 (MQ below (gw_Qi X (fun M => (gw_E X Y M)) z) args s 0 0 (gw_A X)) (F0 m 5 ls []) := by
  obtain ⟨hx, hb, hml, hown, hts, hr, hlocks, hK⟩ := id C0
  have hg : ∀ w ∈ gw_w, w.before args s = true := fun w h => hts w (List.mem_cons_of_mem _ h)
  unfold mo_marksOf_b5 at hF
  refine lv_iload hx hb dd_mo_marksOf_5 (lv_at hl 4 rfl) ?_
  refine lv_aload_n hx hb dd_mo_marksOf_7 rfl (lv_at hl 0 rfl) ?_
  refine gf_mo_slots hx hb hg hown (hg _ kw_273) hK G ha0 dd_mo_marksOf_8 ?_
  refine lv_iload_n hx hb dd_mo_marksOf_11 rfl (lv_at hl 1 rfl) ?_
  obtain ⟨h12, hF⟩ := gw_gd hF
  refine gr_iald hx hb hK G (gq_mo_slots ha0) (gw_vp h12) (j := v1.toNatClampNeg) rfl dd_mo_marksOf_12 ?_
  refine lv_icmp_ge (tgt := 55) hx hb dd_mo_marksOf_13 (by decide) (fun h13 => ?_) (fun h13 => ?_)
  · replace hF := gw_et h13 hF
    refine lv_iload_n hx hb dd_mo_marksOf_55 rfl (lv_at hl 3 rfl) ?_
    exact W.iret hx hb hr (fun t ht hW => gw_endi (EF := (fun M => (gw_E X Y M))) (M := M) G ht hF) G.2.2.2.2 dd_mo_marksOf_56 hlocks
  · replace hF := gw_ef h13 hF
    refine lv_aload_n hx hb dd_mo_marksOf_16 rfl (lv_at hl 0 rfl) ?_
    refine gf_mo_slotAccount hx hb hg hown (hg _ kw_274) hK G ha0 dd_mo_marksOf_17 ?_
    refine lv_iconst (v := (4 : Int32)) hx hb dd_mo_marksOf_20 (by decide) ?_
    refine lv_iload_n hx hb dd_mo_marksOf_21 rfl (lv_at hl 1 rfl) ?_
    refine lv_imul hx hb dd_mo_marksOf_22 ?_
    refine lv_iload hx hb dd_mo_marksOf_23 (lv_at hl 4 rfl) ?_
    refine lv_iadd hx hb dd_mo_marksOf_25 ?_
    obtain ⟨h26, hF⟩ := gw_gd hF
    refine gr_iald hx hb hK G (gq_mo_slotAccount ha0) (gw_vp h26) (j := (((4 : Int32) * v1) + v4).toNatClampNeg) rfl dd_mo_marksOf_26 ?_
    refine lv_iload_n hx hb dd_mo_marksOf_27 rfl (lv_at hl 2 rfl) ?_
    refine W.eq (g2 := F0 m 28 _ _) rfl ?_
    refine lv_icmp_ne (tgt := 47) hx hb dd_mo_marksOf_28 (by decide) (fun h28 => ?_) (fun h28 => ?_)
    · replace hF := gw_ef h28 hF
      refine lv_iload_n hx hb dd_mo_marksOf_47 rfl (lv_at hl 3 rfl) ?_
      exact wb_mo_marksOf_48 C0 hK5 M a0 v1 v2 v4 v3 _ _ _ ha0 G (lv_sub hl [0, 1, 2, 4] rfl) hF
    · replace hF := gw_et h28 hF
      refine lv_iload_n hx hb dd_mo_marksOf_31 rfl (lv_at hl 3 rfl) ?_
      refine lv_aload_n hx hb dd_mo_marksOf_32 rfl (lv_at hl 0 rfl) ?_
      refine gf_mo_slotMarks hx hb hg hown (hg _ kw_275) hK G ha0 dd_mo_marksOf_33 ?_
      refine lv_iconst (v := (4 : Int32)) hx hb dd_mo_marksOf_36 (by decide) ?_
      refine lv_iload_n hx hb dd_mo_marksOf_37 rfl (lv_at hl 1 rfl) ?_
      refine lv_imul hx hb dd_mo_marksOf_38 ?_
      refine lv_iload hx hb dd_mo_marksOf_39 (lv_at hl 4 rfl) ?_
      refine lv_iadd hx hb dd_mo_marksOf_41 ?_
      obtain ⟨h42, hF⟩ := gw_gd hF
      refine gr_iald hx hb hK G (gq_mo_slotMarks ha0) (gw_vp h42) (j := (((4 : Int32) * v1) + v4).toNatClampNeg) rfl dd_mo_marksOf_42 ?_
      refine W.eq (g2 := F0 m 43 _ _) rfl ?_
      refine lv_ior hx hb dd_mo_marksOf_43 ?_
      refine lv_goto (tgt := 48) hx hb dd_mo_marksOf_44 (by decide) ?_
      exact wb_mo_marksOf_48 C0 hK5 M a0 v1 v2 v4 (v3 ||| (M.1 (a0 + 16) ((((4 : Int32) * v1) + v4).toNatClampNeg))) _ _ _ ha0 G (lv_sub hl [0, 1, 2, 4] rfl) hF
theorem wl_mo_marksOf_5 {p : Program} {l : Launch} {e : Env} {s : State} {m : MethodId} {args : Array Value} {below : List Frame} {meth : Method} {c : Code} {X : gw_X} {Y : gw_M} {z : (Int32 × gw_M)} (C0 : gw_C ((Cond.code yy_mo_marksOf by_mo_marksOf 5 (some .int)) :: gw_w) by_mo_marksOf 5 (some .int) "AccountMachineModel" X p s m args meth c) : ∀ n : Nat, ∀ (M : gw_M) (a0 : Nat) (v1 : Int32) (v2 : Int32) (v3 : Int32) (v4 : Int32) (H : Heap) (locs : List Loc) (ls : Array Slot), gr_k a0 = (11, 0) → gw_G X (gw_E X Y M) s H locs → lv_has ls 5 [(0, .ref (gr_a X a0)), (1, .int v1), (2, .int v2), (3, .int v3), (4, .int v4)] → mo_marksOf_l5  n M a0 v1 v2 v3 v4 = some z → W p l e rm_mo_marksOf s m args below meth c H locs 0 0 (MQ below (gw_Qi X (fun M => (gw_E X Y M)) z) args s 0 0 (gw_A X)) (F0 m 5 ls []) := by
  intro n
  induction n with
  | zero =>
    intro M a0 v1 v2 v3 v4 H locs ls ha0 G hl hF
    have hF : (none : Option (Int32 × gw_M)) = some z := hF
    cases hF
  | succ n ih =>
    intro M a0 v1 v2 v3 v4 H locs ls ha0 G hl hF
    exact wb_mo_marksOf_5 C0  ih M a0 v1 v2 v3 v4 H locs ls ha0 G hl hF
set_option maxRecDepth 100000 in
set_option maxHeartbeats 4000000 in
theorem wb_mo_marksOf_0 {p : Program} {l : Launch} {e : Env} {s : State} {m : MethodId} {args : Array Value} {below : List Frame} {meth : Method} {c : Code} {X : gw_X} {Y : gw_M} {z : (Int32 × gw_M)} (C0 : gw_C ((Cond.code yy_mo_marksOf by_mo_marksOf 5 (some .int)) :: gw_w) by_mo_marksOf 5 (some .int) "AccountMachineModel" X p s m args meth c) (M : gw_M) (a0 : Nat) (v1 : Int32) (v2 : Int32) (H : Heap) (locs : List Loc) (ls : Array Slot) (ha0 : gr_k a0 = (11, 0)) (G : gw_G X (gw_E X Y M) s H locs) (hl : lv_has ls 5 [(0, .ref (gr_a X a0)), (1, .int v1), (2, .int v2)]) (hF : mo_marksOf_b0  M a0 v1 v2 = some z) : W p l e rm_mo_marksOf s m args below meth c H locs 0 0 (MQ below (gw_Qi X (fun M => (gw_E X Y M)) z) args s 0 0 (gw_A X)) (F0 m 0 ls []) := by
  obtain ⟨hx, hb, hml, hown, hts, hr, hlocks, hK⟩ := id C0
  have hg : ∀ w ∈ gw_w, w.before args s = true := fun w h => hts w (List.mem_cons_of_mem _ h)
  unfold mo_marksOf_b0 at hF
  refine lv_iconst (v := (0 : Int32)) hx hb dd_mo_marksOf_0 (by decide) ?_
  refine lv_istore_n (i := 3) (lv' := [(3, .int (0 : Int32)), (0, .ref (gr_a X a0)), (1, .int v1), (2, .int v2)]) hx hb dd_mo_marksOf_1 rfl hl (by decide) rfl (fun ls hl => ?_)
  refine lv_iconst (v := (0 : Int32)) hx hb dd_mo_marksOf_2 (by decide) ?_
  refine lv_istore (i := 4) (lv' := [(4, .int (0 : Int32)), (3, .int (0 : Int32)), (0, .ref (gr_a X a0)), (1, .int v1), (2, .int v2)]) hx hb dd_mo_marksOf_3 hl (by decide) rfl (fun ls hl => ?_)
  exact wl_mo_marksOf_5 C0  2100 M a0 v1 v2 (0 : Int32) (0 : Int32) _ _ _ ha0 G (lv_sub hl [2, 3, 4, 1, 0] rfl) hF
set_option maxRecDepth 100000 in
set_option maxHeartbeats 4000000 in
theorem ct_mo_marksOf (l : Launch) (X : gw_X) (Y : gw_M) (M : gw_M) (a0 : Nat) (v1 : Int32) (v2 : Int32) (ha0 : gr_k a0 = (11, 0)) (z : (Int32 × gw_M)) (hF : mo_marksOf_b0 M a0 v1 v2 = some z) : Met l yy_mo_marksOf ((Cond.code yy_mo_marksOf by_mo_marksOf 5 (some .int)) :: gw_w) rm_mo_marksOf (va_Pc [.ref (gr_a X a0), .int v1, .int v2] (gw_B X (gw_E X Y M))) (gw_Qi X (fun M => (gw_E X Y M)) z) 0 0 (gw_A X) := by
  refine Met.ofW (cc := by_mo_marksOf) (maxL := 5) (ret := (some .int)) (by decide) rfl ?_
  intro p e s m args below meth c s₁ B hml hv
  obtain ⟨rfl, hB⟩ := hv
  rw [lg_entry_eq]
  have hl := lv_entry ([.ref (gr_a X a0), .int v1, .int v2]) (n := 5) (Nat.le_of_ble_eq_true rfl)
  generalize (lg_sl ([.ref (gr_a X a0), .int v1, .int v2]) ++ List.replicate (5 - (lg_sl ([.ref (gr_a X a0), .int v1, .int v2])).length) Slot.unset).toArray = ls at hl ⊢
  have hl : lv_has ls 5 [(0, .ref (gr_a X a0)), (1, .int v1), (2, .int v2)] := hl
  exact wb_mo_marksOf_0 (gw_ctx B hml rfl hB) M a0 v1 v2 _ _ _ ha0 (gw_start hB) hl hF
/-! AccountMachineModel.signed(II)Z -/
abbrev rm_mo_signed : Room := { frames := 1, cells := 0, slots := 0, locals := 24 }
theorem dd_mo_signed_0 : decode by_mo_signed 0 = .ok (.aload_n 0, 1) := by decide +kernel
theorem dd_mo_signed_1 : decode by_mo_signed 1 = .ok (.iload_n 1, 1) := by decide +kernel
theorem dd_mo_signed_2 : decode by_mo_signed 2 = .ok (.iload_n 2, 1) := by decide +kernel
theorem dd_mo_signed_3 : decode by_mo_signed 3 = .ok (.invokevirtual 111, 3) := by decide +kernel
theorem dd_mo_signed_6 : decode by_mo_signed 6 = .ok (.iconst 1, 1) := by decide +kernel
theorem dd_mo_signed_7 : decode by_mo_signed 7 = .ok (.iand, 1) := by decide +kernel
theorem dd_mo_signed_8 : decode by_mo_signed 8 = .ok (.iconst 1, 1) := by decide +kernel
theorem dd_mo_signed_9 : decode by_mo_signed 9 = .ok (.if_icmp .ne 7, 3) := by decide +kernel
theorem dd_mo_signed_12 : decode by_mo_signed 12 = .ok (.iconst 1, 1) := by decide +kernel
theorem dd_mo_signed_13 : decode by_mo_signed 13 = .ok (.goto 4, 3) := by decide +kernel
theorem dd_mo_signed_16 : decode by_mo_signed 16 = .ok (.iconst 0, 1) := by decide +kernel
theorem dd_mo_signed_17 : decode by_mo_signed 17 = .ok (.ireturn, 1) := by decide +kernel
def mo_signed_b0 (M : gw_M) (a0 : Nat) (v1 : Int32) (v2 : Int32) : Option (Int32 × gw_M) :=
  gw_bd (mo_marksOf_b0 M a0 v1 v2) (fun r3 M3 => if (r3 &&& (1 : Int32)) = (1 : Int32) then (some ((1 : Int32), M3)) else (some ((0 : Int32), M3)))
set_option maxRecDepth 100000 in
set_option maxHeartbeats 4000000 in
theorem wb_mo_signed_0 {p : Program} {l : Launch} {e : Env} {s : State} {m : MethodId} {args : Array Value} {below : List Frame} {meth : Method} {c : Code} {X : gw_X} {Y : gw_M} {z : (Int32 × gw_M)} (C0 : gw_C ((Cond.code yy_mo_signed by_mo_signed 3 (some .boolean)) :: gw_w) by_mo_signed 3 (some .boolean) "AccountMachineModel" X p s m args meth c) (M : gw_M) (a0 : Nat) (v1 : Int32) (v2 : Int32) (H : Heap) (locs : List Loc) (ls : Array Slot) (ha0 : gr_k a0 = (11, 0)) (G : gw_G X (gw_E X Y M) s H locs) (hl : lv_has ls 3 [(0, .ref (gr_a X a0)), (1, .int v1), (2, .int v2)]) (hF : mo_signed_b0  M a0 v1 v2 = some z) : W p l e rm_mo_signed s m args below meth c H locs 0 0 (MQ below (gw_Qi X (fun M => (gw_E X Y M)) z) args s 0 0 (gw_A X)) (F0 m 0 ls []) := by
  obtain ⟨hx, hb, hml, hown, hts, hr, hlocks, hK⟩ := id C0
  have hg : ∀ w ∈ gw_w, w.before args s = true := fun w h => hts w (List.mem_cons_of_mem _ h)
  unfold mo_signed_b0 at hF
  refine lv_aload_n hx hb dd_mo_signed_0 rfl (lv_at hl 0 rfl) ?_
  refine lv_iload_n hx hb dd_mo_signed_1 rfl (lv_at hl 1 rfl) ?_
  refine lv_iload_n hx hb dd_mo_signed_2 rfl (lv_at hl 2 rfl) ?_
  obtain ⟨r3, M3, hc3, hF⟩ := gw_be hF
  refine gw_ci G (va_runV (As := [.int v1, .int v2]) (rest := []) ⟨hx, hb, hml, hown, hts⟩ (ct_mo_marksOf l X Y M a0 v1 v2 ha0 _ hc3) (cwV 2 hts (gw_gV kw_282 kw_283 kw_284 kw_253 kw_281) rfl rfl rfl (by decide +kernel) ⟨Nat.le_of_ble_eq_true rfl, Nat.le_of_ble_eq_true rfl⟩) ⟨gw_blind, gw_recv_mo hK G ha0, gw_pre hK G⟩ rfl rfl hl.1 rfl (Nat.le_of_ble_eq_true rfl) dd_mo_signed_3 ⟨Nat.le_of_ble_eq_true rfl, Nat.le_of_ble_eq_true rfl⟩) (fun H locs G => ?_)
  refine lv_iconst (v := (1 : Int32)) hx hb dd_mo_signed_6 (by decide) ?_
  refine lv_iand hx hb dd_mo_signed_7 ?_
  refine lv_iconst (v := (1 : Int32)) hx hb dd_mo_signed_8 (by decide) ?_
  refine lv_icmp_ne (tgt := 16) hx hb dd_mo_signed_9 (by decide) (fun h9 => ?_) (fun h9 => ?_)
  · replace hF := gw_ef h9 hF
    refine lv_iconst (v := (0 : Int32)) hx hb dd_mo_signed_16 (by decide) ?_
    exact W.zret hx hb hr (by decide) (fun t ht hW => gw_endi (EF := (fun M => (gw_E X Y M))) (M := M3) G ht hF) G.2.2.2.2 dd_mo_signed_17 hlocks
  · replace hF := gw_et h9 hF
    refine lv_iconst (v := (1 : Int32)) hx hb dd_mo_signed_12 (by decide) ?_
    refine lv_goto (tgt := 17) hx hb dd_mo_signed_13 (by decide) ?_
    exact W.zret hx hb hr (by decide) (fun t ht hW => gw_endi (EF := (fun M => (gw_E X Y M))) (M := M3) G ht hF) G.2.2.2.2 dd_mo_signed_17 hlocks
set_option maxRecDepth 100000 in
set_option maxHeartbeats 4000000 in
theorem ct_mo_signed (l : Launch) (X : gw_X) (Y : gw_M) (M : gw_M) (a0 : Nat) (v1 : Int32) (v2 : Int32) (ha0 : gr_k a0 = (11, 0)) (z : (Int32 × gw_M)) (hF : mo_signed_b0 M a0 v1 v2 = some z) : Met l yy_mo_signed ((Cond.code yy_mo_signed by_mo_signed 3 (some .boolean)) :: gw_w) rm_mo_signed (va_Pc [.ref (gr_a X a0), .int v1, .int v2] (gw_B X (gw_E X Y M))) (gw_Qi X (fun M => (gw_E X Y M)) z) 0 0 (gw_A X) := by
  refine Met.ofW (cc := by_mo_signed) (maxL := 3) (ret := (some .boolean)) (by decide) rfl ?_
  intro p e s m args below meth c s₁ B hml hv
  obtain ⟨rfl, hB⟩ := hv
  rw [lg_entry_eq]
  have hl := lv_entry ([.ref (gr_a X a0), .int v1, .int v2]) (n := 3) (Nat.le_of_ble_eq_true rfl)
  generalize (lg_sl ([.ref (gr_a X a0), .int v1, .int v2]) ++ List.replicate (3 - (lg_sl ([.ref (gr_a X a0), .int v1, .int v2])).length) Slot.unset).toArray = ls at hl ⊢
  have hl : lv_has ls 3 [(0, .ref (gr_a X a0)), (1, .int v1), (2, .int v2)] := hl
  exact wb_mo_signed_0 (gw_ctx B hml rfl hB) M a0 v1 v2 _ _ _ ha0 (gw_start hB) hl hF
/-! AccountMachineModel.writable(II)Z -/
abbrev rm_mo_writable : Room := { frames := 1, cells := 0, slots := 0, locals := 24 }
theorem dd_mo_writable_0 : decode by_mo_writable 0 = .ok (.aload_n 0, 1) := by decide +kernel
theorem dd_mo_writable_1 : decode by_mo_writable 1 = .ok (.iload_n 1, 1) := by decide +kernel
theorem dd_mo_writable_2 : decode by_mo_writable 2 = .ok (.iload_n 2, 1) := by decide +kernel
theorem dd_mo_writable_3 : decode by_mo_writable 3 = .ok (.invokevirtual 111, 3) := by decide +kernel
theorem dd_mo_writable_6 : decode by_mo_writable 6 = .ok (.iconst 1, 1) := by decide +kernel
theorem dd_mo_writable_7 : decode by_mo_writable 7 = .ok (.if_icmp .le 7, 3) := by decide +kernel
theorem dd_mo_writable_10 : decode by_mo_writable 10 = .ok (.iconst 1, 1) := by decide +kernel
theorem dd_mo_writable_11 : decode by_mo_writable 11 = .ok (.goto 4, 3) := by decide +kernel
theorem dd_mo_writable_14 : decode by_mo_writable 14 = .ok (.iconst 0, 1) := by decide +kernel
theorem dd_mo_writable_15 : decode by_mo_writable 15 = .ok (.ireturn, 1) := by decide +kernel
def mo_writable_b0 (M : gw_M) (a0 : Nat) (v1 : Int32) (v2 : Int32) : Option (Int32 × gw_M) :=
  gw_bd (mo_marksOf_b0 M a0 v1 v2) (fun r3 M3 => if r3 ≤ (1 : Int32) then (some ((0 : Int32), M3)) else (some ((1 : Int32), M3)))
set_option maxRecDepth 100000 in
set_option maxHeartbeats 4000000 in
theorem wb_mo_writable_0 {p : Program} {l : Launch} {e : Env} {s : State} {m : MethodId} {args : Array Value} {below : List Frame} {meth : Method} {c : Code} {X : gw_X} {Y : gw_M} {z : (Int32 × gw_M)} (C0 : gw_C ((Cond.code yy_mo_writable by_mo_writable 3 (some .boolean)) :: gw_w) by_mo_writable 3 (some .boolean) "AccountMachineModel" X p s m args meth c) (M : gw_M) (a0 : Nat) (v1 : Int32) (v2 : Int32) (H : Heap) (locs : List Loc) (ls : Array Slot) (ha0 : gr_k a0 = (11, 0)) (G : gw_G X (gw_E X Y M) s H locs) (hl : lv_has ls 3 [(0, .ref (gr_a X a0)), (1, .int v1), (2, .int v2)]) (hF : mo_writable_b0  M a0 v1 v2 = some z) : W p l e rm_mo_writable s m args below meth c H locs 0 0 (MQ below (gw_Qi X (fun M => (gw_E X Y M)) z) args s 0 0 (gw_A X)) (F0 m 0 ls []) := by
  obtain ⟨hx, hb, hml, hown, hts, hr, hlocks, hK⟩ := id C0
  have hg : ∀ w ∈ gw_w, w.before args s = true := fun w h => hts w (List.mem_cons_of_mem _ h)
  unfold mo_writable_b0 at hF
  refine lv_aload_n hx hb dd_mo_writable_0 rfl (lv_at hl 0 rfl) ?_
  refine lv_iload_n hx hb dd_mo_writable_1 rfl (lv_at hl 1 rfl) ?_
  refine lv_iload_n hx hb dd_mo_writable_2 rfl (lv_at hl 2 rfl) ?_
  obtain ⟨r3, M3, hc3, hF⟩ := gw_be hF
  refine gw_ci G (va_runV (As := [.int v1, .int v2]) (rest := []) ⟨hx, hb, hml, hown, hts⟩ (ct_mo_marksOf l X Y M a0 v1 v2 ha0 _ hc3) (cwV 2 hts (gw_gV kw_282 kw_283 kw_284 kw_253 kw_281) rfl rfl rfl (by decide +kernel) ⟨Nat.le_of_ble_eq_true rfl, Nat.le_of_ble_eq_true rfl⟩) ⟨gw_blind, gw_recv_mo hK G ha0, gw_pre hK G⟩ rfl rfl hl.1 rfl (Nat.le_of_ble_eq_true rfl) dd_mo_writable_3 ⟨Nat.le_of_ble_eq_true rfl, Nat.le_of_ble_eq_true rfl⟩) (fun H locs G => ?_)
  refine lv_iconst (v := (1 : Int32)) hx hb dd_mo_writable_6 (by decide) ?_
  refine lv_icmp_le (tgt := 14) hx hb dd_mo_writable_7 (by decide) (fun h7 => ?_) (fun h7 => ?_)
  · replace hF := gw_et h7 hF
    refine lv_iconst (v := (0 : Int32)) hx hb dd_mo_writable_14 (by decide) ?_
    exact W.zret hx hb hr (by decide) (fun t ht hW => gw_endi (EF := (fun M => (gw_E X Y M))) (M := M3) G ht hF) G.2.2.2.2 dd_mo_writable_15 hlocks
  · replace hF := gw_ef h7 hF
    refine lv_iconst (v := (1 : Int32)) hx hb dd_mo_writable_10 (by decide) ?_
    refine lv_goto (tgt := 15) hx hb dd_mo_writable_11 (by decide) ?_
    exact W.zret hx hb hr (by decide) (fun t ht hW => gw_endi (EF := (fun M => (gw_E X Y M))) (M := M3) G ht hF) G.2.2.2.2 dd_mo_writable_15 hlocks
set_option maxRecDepth 100000 in
set_option maxHeartbeats 4000000 in
theorem ct_mo_writable (l : Launch) (X : gw_X) (Y : gw_M) (M : gw_M) (a0 : Nat) (v1 : Int32) (v2 : Int32) (ha0 : gr_k a0 = (11, 0)) (z : (Int32 × gw_M)) (hF : mo_writable_b0 M a0 v1 v2 = some z) : Met l yy_mo_writable ((Cond.code yy_mo_writable by_mo_writable 3 (some .boolean)) :: gw_w) rm_mo_writable (va_Pc [.ref (gr_a X a0), .int v1, .int v2] (gw_B X (gw_E X Y M))) (gw_Qi X (fun M => (gw_E X Y M)) z) 0 0 (gw_A X) := by
  refine Met.ofW (cc := by_mo_writable) (maxL := 3) (ret := (some .boolean)) (by decide) rfl ?_
  intro p e s m args below meth c s₁ B hml hv
  obtain ⟨rfl, hB⟩ := hv
  rw [lg_entry_eq]
  have hl := lv_entry ([.ref (gr_a X a0), .int v1, .int v2]) (n := 3) (Nat.le_of_ble_eq_true rfl)
  generalize (lg_sl ([.ref (gr_a X a0), .int v1, .int v2]) ++ List.replicate (3 - (lg_sl ([.ref (gr_a X a0), .int v1, .int v2])).length) Slot.unset).toArray = ls at hl ⊢
  have hl : lv_has ls 3 [(0, .ref (gr_a X a0)), (1, .int v1), (2, .int v2)] := hl
  exact wb_mo_writable_0 (gw_ctx B hml rfl hB) M a0 v1 v2 _ _ _ ha0 (gw_start hB) hl hF
/-! AccountMachineModel.mainOf(II)I -/
abbrev rm_mo_mainOf : Room := { frames := 0, cells := 0, slots := 0, locals := 0 }
theorem dd_mo_mainOf_0 : decode by_mo_mainOf 0 = .ok (.iload_n 2, 1) := by decide +kernel
theorem dd_mo_mainOf_1 : decode by_mo_mainOf 1 = .ok (.istore_n 3, 1) := by decide +kernel
theorem dd_mo_mainOf_2 : decode by_mo_mainOf 2 = .ok (.iload_n 2, 1) := by decide +kernel
theorem dd_mo_mainOf_3 : decode by_mo_mainOf 3 = .ok (.istore 4, 2) := by decide +kernel
theorem dd_mo_mainOf_5 : decode by_mo_mainOf 5 = .ok (.iload 4, 2) := by decide +kernel
theorem dd_mo_mainOf_7 : decode by_mo_mainOf 7 = .ok (.ifCond .lt 40, 3) := by decide +kernel
theorem dd_mo_mainOf_10 : decode by_mo_mainOf 10 = .ok (.aload_n 0, 1) := by decide +kernel
theorem dd_mo_mainOf_11 : decode by_mo_mainOf 11 = .ok (.getfield 53, 3) := by decide +kernel
theorem dd_mo_mainOf_14 : decode by_mo_mainOf 14 = .ok (.iconst 4, 1) := by decide +kernel
theorem dd_mo_mainOf_15 : decode by_mo_mainOf 15 = .ok (.iload_n 1, 1) := by decide +kernel
theorem dd_mo_mainOf_16 : decode by_mo_mainOf 16 = .ok (.imul, 1) := by decide +kernel
theorem dd_mo_mainOf_17 : decode by_mo_mainOf 17 = .ok (.iload 4, 2) := by decide +kernel
theorem dd_mo_mainOf_19 : decode by_mo_mainOf 19 = .ok (.iadd, 1) := by decide +kernel
theorem dd_mo_mainOf_20 : decode by_mo_mainOf 20 = .ok (.iaload, 1) := by decide +kernel
theorem dd_mo_mainOf_21 : decode by_mo_mainOf 21 = .ok (.aload_n 0, 1) := by decide +kernel
theorem dd_mo_mainOf_22 : decode by_mo_mainOf 22 = .ok (.getfield 53, 3) := by decide +kernel
theorem dd_mo_mainOf_25 : decode by_mo_mainOf 25 = .ok (.iconst 4, 1) := by decide +kernel
theorem dd_mo_mainOf_26 : decode by_mo_mainOf 26 = .ok (.iload_n 1, 1) := by decide +kernel
theorem dd_mo_mainOf_27 : decode by_mo_mainOf 27 = .ok (.imul, 1) := by decide +kernel
theorem dd_mo_mainOf_28 : decode by_mo_mainOf 28 = .ok (.iload_n 2, 1) := by decide +kernel
theorem dd_mo_mainOf_29 : decode by_mo_mainOf 29 = .ok (.iadd, 1) := by decide +kernel
theorem dd_mo_mainOf_30 : decode by_mo_mainOf 30 = .ok (.iaload, 1) := by decide +kernel
theorem dd_mo_mainOf_31 : decode by_mo_mainOf 31 = .ok (.if_icmp .ne 8, 3) := by decide +kernel
theorem dd_mo_mainOf_34 : decode by_mo_mainOf 34 = .ok (.iload 4, 2) := by decide +kernel
theorem dd_mo_mainOf_36 : decode by_mo_mainOf 36 = .ok (.goto 4, 3) := by decide +kernel
theorem dd_mo_mainOf_39 : decode by_mo_mainOf 39 = .ok (.iload_n 3, 1) := by decide +kernel
theorem dd_mo_mainOf_40 : decode by_mo_mainOf 40 = .ok (.istore_n 3, 1) := by decide +kernel
theorem dd_mo_mainOf_41 : decode by_mo_mainOf 41 = .ok (.iinc 4 (-1), 3) := by decide +kernel
theorem dd_mo_mainOf_44 : decode by_mo_mainOf 44 = .ok (.goto (-39), 3) := by decide +kernel
theorem dd_mo_mainOf_47 : decode by_mo_mainOf 47 = .ok (.iload_n 3, 1) := by decide +kernel
theorem dd_mo_mainOf_48 : decode by_mo_mainOf 48 = .ok (.ireturn, 1) := by decide +kernel
def mo_mainOf_b40 (K5 : gw_M → Nat → Int32 → Int32 → Int32 → Int32 → Option (Int32 × gw_M)) (M : gw_M) (a0 : Nat) (v1 : Int32) (v2 : Int32) (v4 : Int32) (t0 : Int32) : Option (Int32 × gw_M) :=
  K5 M a0 v1 v2 t0 (v4 + (-1 : Int32))
def mo_mainOf_b5 (K5 : gw_M → Nat → Int32 → Int32 → Int32 → Int32 → Option (Int32 × gw_M)) (M : gw_M) (a0 : Nat) (v1 : Int32) (v2 : Int32) (v3 : Int32) (v4 : Int32) : Option (Int32 × gw_M) :=
  if v4 < (0 : Int32) then (some (v3, M)) else (gw_gu (gw_in (((4 : Int32) * v1) + v4) 36) (gw_gu (gw_in (((4 : Int32) * v1) + v2) 36) (if (M.1 (a0 + 15) ((((4 : Int32) * v1) + v4).toNatClampNeg)) = (M.1 (a0 + 15) ((((4 : Int32) * v1) + v2).toNatClampNeg)) then (mo_mainOf_b40 K5 M a0 v1 v2 v4 v4) else (mo_mainOf_b40 K5 M a0 v1 v2 v4 v3))))
def mo_mainOf_l5 : Nat → gw_M → Nat → Int32 → Int32 → Int32 → Int32 → Option (Int32 × gw_M)
  | 0 => fun _ _ _ _ _ _ => none
  | n + 1 => mo_mainOf_b5  (mo_mainOf_l5  n)
def mo_mainOf_b0 (M : gw_M) (a0 : Nat) (v1 : Int32) (v2 : Int32) : Option (Int32 × gw_M) :=
  mo_mainOf_l5  2100 M a0 v1 v2 v2 v2
set_option maxRecDepth 100000 in
set_option maxHeartbeats 4000000 in
theorem wb_mo_mainOf_40 {p : Program} {l : Launch} {e : Env} {s : State} {m : MethodId} {args : Array Value} {below : List Frame} {meth : Method} {c : Code} {X : gw_X} {Y : gw_M} {z : (Int32 × gw_M)} (C0 : gw_C ((Cond.code yy_mo_mainOf by_mo_mainOf 5 (some .int)) :: gw_w) by_mo_mainOf 5 (some .int) "AccountMachineModel" X p s m args meth c) {K5 : gw_M → Nat → Int32 → Int32 → Int32 → Int32 → Option (Int32 × gw_M)} (hK5 : ∀ (M : gw_M) (a0 : Nat) (v1 : Int32) (v2 : Int32) (v3 : Int32) (v4 : Int32) (H : Heap) (locs : List Loc) (ls : Array Slot), gr_k a0 = (11, 0) → gw_G X (gw_E X Y M) s H locs → lv_has ls 5 [(0, .ref (gr_a X a0)), (1, .int v1), (2, .int v2), (3, .int v3), (4, .int v4)] → K5 M a0 v1 v2 v3 v4 = some z → W p l e rm_mo_mainOf s m args below meth c H locs 0 0 (MQ below (gw_Qi X (fun M => (gw_E X Y M)) z) args s 0 0 (gw_A X)) (F0 m 5 ls [])) (M : gw_M) (a0 : Nat) (v1 : Int32) (v2 : Int32) (v4 : Int32) (t0 : Int32) (H : Heap) (locs : List Loc) (ls : Array Slot) (ha0 : gr_k a0 = (11, 0)) (G : gw_G X (gw_E X Y M) s H locs) (hl : lv_has ls 5 [(0, .ref (gr_a X a0)), (1, .int v1), (2, .int v2), (4, .int v4)]) (hF : mo_mainOf_b40 K5 M a0 v1 v2 v4 t0 = some z) : W p l e rm_mo_mainOf s m args below meth c H locs 0 0 (MQ below (gw_Qi X (fun M => (gw_E X Y M)) z) args s 0 0 (gw_A X)) (F0 m 40 ls [.int t0]) := by
  obtain ⟨hx, hb, hml, hown, hts, hr, hlocks, hK⟩ := id C0
  have hg : ∀ w ∈ gw_w, w.before args s = true := fun w h => hts w (List.mem_cons_of_mem _ h)
  unfold mo_mainOf_b40 at hF
  refine lv_istore_n (i := 3) (lv' := [(3, .int t0), (0, .ref (gr_a X a0)), (1, .int v1), (2, .int v2), (4, .int v4)]) hx hb dd_mo_mainOf_40 rfl hl (by decide) rfl (fun ls hl => ?_)
  refine lv_iinc (k := 4) (v := v4 + (-1 : Int32)) (lv' := [(4, .int (v4 + (-1 : Int32))), (3, .int t0), (0, .ref (gr_a X a0)), (1, .int v1), (2, .int v2)]) hx hb dd_mo_mainOf_41 hl rfl rfl (by decide) rfl (fun ls hl => ?_)
  refine lv_goto (tgt := 5) hx hb dd_mo_mainOf_44 (by decide) ?_
  exact hK5 M a0 v1 v2 t0 (v4 + (-1 : Int32)) _ _ _ ha0 G (lv_sub hl [2, 3, 4, 1, 0] rfl) hF
set_option maxRecDepth 100000 in
set_option maxHeartbeats 4000000 in
theorem wb_mo_mainOf_5 {p : Program} {l : Launch} {e : Env} {s : State} {m : MethodId} {args : Array Value} {below : List Frame} {meth : Method} {c : Code} {X : gw_X} {Y : gw_M} {z : (Int32 × gw_M)} (C0 : gw_C ((Cond.code yy_mo_mainOf by_mo_mainOf 5 (some .int)) :: gw_w) by_mo_mainOf 5 (some .int) "AccountMachineModel" X p s m args meth c) {K5 : gw_M → Nat → Int32 → Int32 → Int32 → Int32 → Option (Int32 × gw_M)} (hK5 : ∀ (M : gw_M) (a0 : Nat) (v1 : Int32) (v2 : Int32) (v3 : Int32) (v4 : Int32) (H : Heap) (locs : List Loc) (ls : Array Slot), gr_k a0 = (11, 0) → gw_G X (gw_E X Y M) s H locs → lv_has ls 5 [(0, .ref (gr_a X a0)), (1, .int v1), (2, .int v2), (3, .int v3), (4, .int v4)] → K5 M a0 v1 v2 v3 v4 = some z → W p l e rm_mo_mainOf s m args below meth c H locs 0 0 (MQ below (gw_Qi X (fun M => (gw_E X Y M)) z) args s 0 0 (gw_A X)) (F0 m 5 ls [])) (M : gw_M) (a0 : Nat) (v1 : Int32) (v2 : Int32) (v3 : Int32) (v4 : Int32) (H : Heap) (locs : List Loc) (ls : Array Slot) (ha0 : gr_k a0 = (11, 0)) (G : gw_G X (gw_E X Y M) s H locs) (hl : lv_has ls 5 [(0, .ref (gr_a X a0)), (1, .int v1), (2, .int v2), (3, .int v3), (4, .int v4)]) (hF : mo_mainOf_b5 K5 M a0 v1 v2 v3 v4 = some z) : W p l e rm_mo_mainOf s m args below meth c H locs 0 0 (MQ below (gw_Qi X (fun M => (gw_E X Y M)) z) args s 0 0 (gw_A X)) (F0 m 5 ls []) := by
  obtain ⟨hx, hb, hml, hown, hts, hr, hlocks, hK⟩ := id C0
  have hg : ∀ w ∈ gw_w, w.before args s = true := fun w h => hts w (List.mem_cons_of_mem _ h)
  unfold mo_mainOf_b5 at hF
  refine lv_iload hx hb dd_mo_mainOf_5 (lv_at hl 4 rfl) ?_
  refine lv_if_lt (tgt := 47) hx hb dd_mo_mainOf_7 (by decide) (fun h7 => ?_) (fun h7 => ?_)
  · replace hF := gw_et h7 hF
    refine lv_iload_n hx hb dd_mo_mainOf_47 rfl (lv_at hl 3 rfl) ?_
    exact W.iret hx hb hr (fun t ht hW => gw_endi (EF := (fun M => (gw_E X Y M))) (M := M) G ht hF) G.2.2.2.2 dd_mo_mainOf_48 hlocks
  · replace hF := gw_ef h7 hF
    refine lv_aload_n hx hb dd_mo_mainOf_10 rfl (lv_at hl 0 rfl) ?_
    refine gf_mo_slotAccount hx hb hg hown (hg _ kw_274) hK G ha0 dd_mo_mainOf_11 ?_
    refine lv_iconst (v := (4 : Int32)) hx hb dd_mo_mainOf_14 (by decide) ?_
    refine lv_iload_n hx hb dd_mo_mainOf_15 rfl (lv_at hl 1 rfl) ?_
    refine lv_imul hx hb dd_mo_mainOf_16 ?_
    refine lv_iload hx hb dd_mo_mainOf_17 (lv_at hl 4 rfl) ?_
    refine lv_iadd hx hb dd_mo_mainOf_19 ?_
    obtain ⟨h20, hF⟩ := gw_gd hF
    refine gr_iald hx hb hK G (gq_mo_slotAccount ha0) (gw_vp h20) (j := (((4 : Int32) * v1) + v4).toNatClampNeg) rfl dd_mo_mainOf_20 ?_
    refine lv_aload_n hx hb dd_mo_mainOf_21 rfl (lv_at hl 0 rfl) ?_
    refine W.eq (g2 := F0 m 22 _ _) rfl ?_
    refine gf_mo_slotAccount hx hb hg hown (hg _ kw_274) hK G ha0 dd_mo_mainOf_22 ?_
    refine lv_iconst (v := (4 : Int32)) hx hb dd_mo_mainOf_25 (by decide) ?_
    refine lv_iload_n hx hb dd_mo_mainOf_26 rfl (lv_at hl 1 rfl) ?_
    refine lv_imul hx hb dd_mo_mainOf_27 ?_
    refine lv_iload_n hx hb dd_mo_mainOf_28 rfl (lv_at hl 2 rfl) ?_
    refine lv_iadd hx hb dd_mo_mainOf_29 ?_
    obtain ⟨h30, hF⟩ := gw_gd hF
    refine gr_iald hx hb hK G (gq_mo_slotAccount ha0) (gw_vp h30) (j := (((4 : Int32) * v1) + v2).toNatClampNeg) rfl dd_mo_mainOf_30 ?_
    refine lv_icmp_ne (tgt := 39) hx hb dd_mo_mainOf_31 (by decide) (fun h31 => ?_) (fun h31 => ?_)
    · replace hF := gw_ef h31 hF
      refine lv_iload_n hx hb dd_mo_mainOf_39 rfl (lv_at hl 3 rfl) ?_
      exact wb_mo_mainOf_40 C0 hK5 M a0 v1 v2 v4 v3 _ _ _ ha0 G (lv_sub hl [0, 1, 2, 4] rfl) hF
    · replace hF := gw_et h31 hF
      refine lv_iload hx hb dd_mo_mainOf_34 (lv_at hl 4 rfl) ?_
      refine lv_goto (tgt := 40) hx hb dd_mo_mainOf_36 (by decide) ?_
      exact wb_mo_mainOf_40 C0 hK5 M a0 v1 v2 v4 v4 _ _ _ ha0 G (lv_sub hl [0, 1, 2, 4] rfl) hF
theorem wl_mo_mainOf_5 {p : Program} {l : Launch} {e : Env} {s : State} {m : MethodId} {args : Array Value} {below : List Frame} {meth : Method} {c : Code} {X : gw_X} {Y : gw_M} {z : (Int32 × gw_M)} (C0 : gw_C ((Cond.code yy_mo_mainOf by_mo_mainOf 5 (some .int)) :: gw_w) by_mo_mainOf 5 (some .int) "AccountMachineModel" X p s m args meth c) : ∀ n : Nat, ∀ (M : gw_M) (a0 : Nat) (v1 : Int32) (v2 : Int32) (v3 : Int32) (v4 : Int32) (H : Heap) (locs : List Loc) (ls : Array Slot), gr_k a0 = (11, 0) → gw_G X (gw_E X Y M) s H locs → lv_has ls 5 [(0, .ref (gr_a X a0)), (1, .int v1), (2, .int v2), (3, .int v3), (4, .int v4)] → mo_mainOf_l5  n M a0 v1 v2 v3 v4 = some z → W p l e rm_mo_mainOf s m args below meth c H locs 0 0 (MQ below (gw_Qi X (fun M => (gw_E X Y M)) z) args s 0 0 (gw_A X)) (F0 m 5 ls []) := by
  intro n
  induction n with
  | zero =>
    intro M a0 v1 v2 v3 v4 H locs ls ha0 G hl hF
    have hF : (none : Option (Int32 × gw_M)) = some z := hF
    cases hF
  | succ n ih =>
    intro M a0 v1 v2 v3 v4 H locs ls ha0 G hl hF
    exact wb_mo_mainOf_5 C0  ih M a0 v1 v2 v3 v4 H locs ls ha0 G hl hF
set_option maxRecDepth 100000 in
set_option maxHeartbeats 4000000 in
theorem wb_mo_mainOf_0 {p : Program} {l : Launch} {e : Env} {s : State} {m : MethodId} {args : Array Value} {below : List Frame} {meth : Method} {c : Code} {X : gw_X} {Y : gw_M} {z : (Int32 × gw_M)} (C0 : gw_C ((Cond.code yy_mo_mainOf by_mo_mainOf 5 (some .int)) :: gw_w) by_mo_mainOf 5 (some .int) "AccountMachineModel" X p s m args meth c) (M : gw_M) (a0 : Nat) (v1 : Int32) (v2 : Int32) (H : Heap) (locs : List Loc) (ls : Array Slot) (ha0 : gr_k a0 = (11, 0)) (G : gw_G X (gw_E X Y M) s H locs) (hl : lv_has ls 5 [(0, .ref (gr_a X a0)), (1, .int v1), (2, .int v2)]) (hF : mo_mainOf_b0  M a0 v1 v2 = some z) : W p l e rm_mo_mainOf s m args below meth c H locs 0 0 (MQ below (gw_Qi X (fun M => (gw_E X Y M)) z) args s 0 0 (gw_A X)) (F0 m 0 ls []) := by
  obtain ⟨hx, hb, hml, hown, hts, hr, hlocks, hK⟩ := id C0
  have hg : ∀ w ∈ gw_w, w.before args s = true := fun w h => hts w (List.mem_cons_of_mem _ h)
  unfold mo_mainOf_b0 at hF
  refine lv_iload_n hx hb dd_mo_mainOf_0 rfl (lv_at hl 2 rfl) ?_
  refine lv_istore_n (i := 3) (lv' := [(3, .int v2), (0, .ref (gr_a X a0)), (1, .int v1), (2, .int v2)]) hx hb dd_mo_mainOf_1 rfl hl (by decide) rfl (fun ls hl => ?_)
  refine lv_iload_n hx hb dd_mo_mainOf_2 rfl (lv_at hl 3 rfl) ?_
  refine lv_istore (i := 4) (lv' := [(4, .int v2), (3, .int v2), (0, .ref (gr_a X a0)), (1, .int v1), (2, .int v2)]) hx hb dd_mo_mainOf_3 hl (by decide) rfl (fun ls hl => ?_)
  exact wl_mo_mainOf_5 C0  2100 M a0 v1 v2 v2 v2 _ _ _ ha0 G (lv_sub hl [2, 3, 4, 1, 0] rfl) hF
set_option maxRecDepth 100000 in
set_option maxHeartbeats 4000000 in
theorem ct_mo_mainOf (l : Launch) (X : gw_X) (Y : gw_M) (M : gw_M) (a0 : Nat) (v1 : Int32) (v2 : Int32) (ha0 : gr_k a0 = (11, 0)) (z : (Int32 × gw_M)) (hF : mo_mainOf_b0 M a0 v1 v2 = some z) : Met l yy_mo_mainOf ((Cond.code yy_mo_mainOf by_mo_mainOf 5 (some .int)) :: gw_w) rm_mo_mainOf (va_Pc [.ref (gr_a X a0), .int v1, .int v2] (gw_B X (gw_E X Y M))) (gw_Qi X (fun M => (gw_E X Y M)) z) 0 0 (gw_A X) := by
  refine Met.ofW (cc := by_mo_mainOf) (maxL := 5) (ret := (some .int)) (by decide) rfl ?_
  intro p e s m args below meth c s₁ B hml hv
  obtain ⟨rfl, hB⟩ := hv
  rw [lg_entry_eq]
  have hl := lv_entry ([.ref (gr_a X a0), .int v1, .int v2]) (n := 5) (Nat.le_of_ble_eq_true rfl)
  generalize (lg_sl ([.ref (gr_a X a0), .int v1, .int v2]) ++ List.replicate (5 - (lg_sl ([.ref (gr_a X a0), .int v1, .int v2])).length) Slot.unset).toArray = ls at hl ⊢
  have hl : lv_has ls 5 [(0, .ref (gr_a X a0)), (1, .int v1), (2, .int v2)] := hl
  exact wb_mo_mainOf_0 (gw_ctx B hml rfl hB) M a0 v1 v2 _ _ _ ha0 (gw_start hB) hl hF
/-! AccountMachineModel.pay(I)Z -/
abbrev rm_mo_pay : Room := { frames := 0, cells := 0, slots := 0, locals := 0 }
theorem dd_mo_pay_0 : decode by_mo_pay 0 = .ok (.aload_n 0, 1) := by decide +kernel
theorem dd_mo_pay_1 : decode by_mo_pay 1 = .ok (.getfield 137, 3) := by decide +kernel
theorem dd_mo_pay_4 : decode by_mo_pay 4 = .ok (.iload_n 1, 1) := by decide +kernel
theorem dd_mo_pay_5 : decode by_mo_pay 5 = .ok (.if_icmp .lt 7, 3) := by decide +kernel
theorem dd_mo_pay_8 : decode by_mo_pay 8 = .ok (.iconst 1, 1) := by decide +kernel
theorem dd_mo_pay_9 : decode by_mo_pay 9 = .ok (.goto 4, 3) := by decide +kernel
theorem dd_mo_pay_12 : decode by_mo_pay 12 = .ok (.iconst 0, 1) := by decide +kernel
theorem dd_mo_pay_13 : decode by_mo_pay 13 = .ok (.istore_n 2, 1) := by decide +kernel
theorem dd_mo_pay_14 : decode by_mo_pay 14 = .ok (.aload_n 0, 1) := by decide +kernel
theorem dd_mo_pay_15 : decode by_mo_pay 15 = .ok (.iload_n 2, 1) := by decide +kernel
theorem dd_mo_pay_16 : decode by_mo_pay 16 = .ok (.ifCond .eq 12, 3) := by decide +kernel
theorem dd_mo_pay_19 : decode by_mo_pay 19 = .ok (.aload_n 0, 1) := by decide +kernel
theorem dd_mo_pay_20 : decode by_mo_pay 20 = .ok (.getfield 137, 3) := by decide +kernel
theorem dd_mo_pay_23 : decode by_mo_pay 23 = .ok (.iload_n 1, 1) := by decide +kernel
theorem dd_mo_pay_24 : decode by_mo_pay 24 = .ok (.isub, 1) := by decide +kernel
theorem dd_mo_pay_25 : decode by_mo_pay 25 = .ok (.goto 4, 3) := by decide +kernel
theorem dd_mo_pay_28 : decode by_mo_pay 28 = .ok (.iconst 0, 1) := by decide +kernel
theorem dd_mo_pay_29 : decode by_mo_pay 29 = .ok (.putfield 137, 3) := by decide +kernel
theorem dd_mo_pay_32 : decode by_mo_pay 32 = .ok (.iload_n 2, 1) := by decide +kernel
theorem dd_mo_pay_33 : decode by_mo_pay 33 = .ok (.ireturn, 1) := by decide +kernel
def mo_pay_b29 (M : gw_M) (v2 : Int32) (t0 : Int32) (b1 : Nat) : Option (Int32 × gw_M) :=
  gw_lt (gw_sI M b1 24 t0) (fun M29 => gw_gu (gw_bz v2) (some (v2, M29)))
def mo_pay_b13 (M : gw_M) (a0 : Nat) (v1 : Int32) (t0 : Int32) : Option (Int32 × gw_M) :=
  if t0 = (0 : Int32) then (mo_pay_b29  M t0 (0 : Int32) a0) else (mo_pay_b29  M t0 ((M.1 a0 24) - v1) a0)
def mo_pay_b0 (M : gw_M) (a0 : Nat) (v1 : Int32) : Option (Int32 × gw_M) :=
  if (M.1 a0 24) < v1 then (mo_pay_b13  M a0 v1 (0 : Int32)) else (mo_pay_b13  M a0 v1 (1 : Int32))
set_option maxRecDepth 100000 in
set_option maxHeartbeats 4000000 in
theorem wb_mo_pay_29 {p : Program} {l : Launch} {e : Env} {s : State} {m : MethodId} {args : Array Value} {below : List Frame} {meth : Method} {c : Code} {X : gw_X} {Y : gw_M} {z : (Int32 × gw_M)} (C0 : gw_C ((Cond.code yy_mo_pay by_mo_pay 3 (some .boolean)) :: gw_w) by_mo_pay 3 (some .boolean) "AccountMachineModel" X p s m args meth c) (M : gw_M) (v2 : Int32) (t0 : Int32) (b1 : Nat) (H : Heap) (locs : List Loc) (ls : Array Slot) (hb1 : gr_k b1 = (11, 0)) (G : gw_G X (gw_E X Y M) s H locs) (hl : lv_has ls 3 [(2, .int v2)]) (hF : mo_pay_b29  M v2 t0 b1 = some z) : W p l e rm_mo_pay s m args below meth c H locs 0 0 (MQ below (gw_Qi X (fun M => (gw_E X Y M)) z) args s 0 0 (gw_A X)) (F0 m 29 ls [.int t0, .ref (gr_a X b1)]) := by
  obtain ⟨hx, hb, hml, hown, hts, hr, hlocks, hK⟩ := id C0
  have hg : ∀ w ∈ gw_w, w.before args s = true := fun w h => hts w (List.mem_cons_of_mem _ h)
  unfold mo_pay_b29 at hF
  refine gp_mo_meter hx hb hg hown (hg _ kw_314) hK G hb1 dd_mo_pay_29 (fun M29 H locs e29 G => ?_)
  replace hF := gw_ly e29 hF
  refine lv_iload_n hx hb dd_mo_pay_32 rfl (lv_at hl 0 rfl) ?_
  obtain ⟨h33, hF⟩ := gw_gd hF
  exact W.zret hx hb hr (gw_bn h33) (fun t ht hW => gw_endi (EF := (fun M => (gw_E X Y M))) (M := M29) G ht hF) G.2.2.2.2 dd_mo_pay_33 hlocks
set_option maxRecDepth 100000 in
set_option maxHeartbeats 4000000 in
theorem wb_mo_pay_13 {p : Program} {l : Launch} {e : Env} {s : State} {m : MethodId} {args : Array Value} {below : List Frame} {meth : Method} {c : Code} {X : gw_X} {Y : gw_M} {z : (Int32 × gw_M)} (C0 : gw_C ((Cond.code yy_mo_pay by_mo_pay 3 (some .boolean)) :: gw_w) by_mo_pay 3 (some .boolean) "AccountMachineModel" X p s m args meth c) (M : gw_M) (a0 : Nat) (v1 : Int32) (t0 : Int32) (H : Heap) (locs : List Loc) (ls : Array Slot) (ha0 : gr_k a0 = (11, 0)) (G : gw_G X (gw_E X Y M) s H locs) (hl : lv_has ls 3 [(0, .ref (gr_a X a0)), (1, .int v1)]) (hF : mo_pay_b13  M a0 v1 t0 = some z) : W p l e rm_mo_pay s m args below meth c H locs 0 0 (MQ below (gw_Qi X (fun M => (gw_E X Y M)) z) args s 0 0 (gw_A X)) (F0 m 13 ls [.int t0]) := by
  obtain ⟨hx, hb, hml, hown, hts, hr, hlocks, hK⟩ := id C0
  have hg : ∀ w ∈ gw_w, w.before args s = true := fun w h => hts w (List.mem_cons_of_mem _ h)
  unfold mo_pay_b13 at hF
  refine lv_istore_n (i := 2) (lv' := [(2, .int t0), (0, .ref (gr_a X a0)), (1, .int v1)]) hx hb dd_mo_pay_13 rfl hl (by decide) rfl (fun ls hl => ?_)
  refine lv_aload_n hx hb dd_mo_pay_14 rfl (lv_at hl 1 rfl) ?_
  refine lv_iload_n hx hb dd_mo_pay_15 rfl (lv_at hl 0 rfl) ?_
  refine lv_if_eq (tgt := 28) hx hb dd_mo_pay_16 (by decide) (fun h16 => ?_) (fun h16 => ?_)
  · replace hF := gw_et h16 hF
    refine lv_iconst (v := (0 : Int32)) hx hb dd_mo_pay_28 (by decide) ?_
    exact wb_mo_pay_29 C0  M t0 (0 : Int32) a0 _ _ _ ha0 G (lv_sub hl [0] rfl) hF
  · replace hF := gw_ef h16 hF
    refine lv_aload_n hx hb dd_mo_pay_19 rfl (lv_at hl 1 rfl) ?_
    refine gf_mo_meter hx hb hg hown (hg _ kw_314) hK G ha0 dd_mo_pay_20 ?_
    refine lv_iload_n hx hb dd_mo_pay_23 rfl (lv_at hl 2 rfl) ?_
    refine lv_isub hx hb dd_mo_pay_24 ?_
    refine lv_goto (tgt := 29) hx hb dd_mo_pay_25 (by decide) ?_
    exact wb_mo_pay_29 C0  M t0 ((M.1 a0 24) - v1) a0 _ _ _ ha0 G (lv_sub hl [0] rfl) hF
set_option maxRecDepth 100000 in
set_option maxHeartbeats 4000000 in
theorem wb_mo_pay_0 {p : Program} {l : Launch} {e : Env} {s : State} {m : MethodId} {args : Array Value} {below : List Frame} {meth : Method} {c : Code} {X : gw_X} {Y : gw_M} {z : (Int32 × gw_M)} (C0 : gw_C ((Cond.code yy_mo_pay by_mo_pay 3 (some .boolean)) :: gw_w) by_mo_pay 3 (some .boolean) "AccountMachineModel" X p s m args meth c) (M : gw_M) (a0 : Nat) (v1 : Int32) (H : Heap) (locs : List Loc) (ls : Array Slot) (ha0 : gr_k a0 = (11, 0)) (G : gw_G X (gw_E X Y M) s H locs) (hl : lv_has ls 3 [(0, .ref (gr_a X a0)), (1, .int v1)]) (hF : mo_pay_b0  M a0 v1 = some z) : W p l e rm_mo_pay s m args below meth c H locs 0 0 (MQ below (gw_Qi X (fun M => (gw_E X Y M)) z) args s 0 0 (gw_A X)) (F0 m 0 ls []) := by
  obtain ⟨hx, hb, hml, hown, hts, hr, hlocks, hK⟩ := id C0
  have hg : ∀ w ∈ gw_w, w.before args s = true := fun w h => hts w (List.mem_cons_of_mem _ h)
  unfold mo_pay_b0 at hF
  refine lv_aload_n hx hb dd_mo_pay_0 rfl (lv_at hl 0 rfl) ?_
  refine gf_mo_meter hx hb hg hown (hg _ kw_314) hK G ha0 dd_mo_pay_1 ?_
  refine lv_iload_n hx hb dd_mo_pay_4 rfl (lv_at hl 1 rfl) ?_
  refine lv_icmp_lt (tgt := 12) hx hb dd_mo_pay_5 (by decide) (fun h5 => ?_) (fun h5 => ?_)
  · replace hF := gw_et h5 hF
    refine lv_iconst (v := (0 : Int32)) hx hb dd_mo_pay_12 (by decide) ?_
    exact wb_mo_pay_13 C0  M a0 v1 (0 : Int32) _ _ _ ha0 G (lv_sub hl [0, 1] rfl) hF
  · replace hF := gw_ef h5 hF
    refine lv_iconst (v := (1 : Int32)) hx hb dd_mo_pay_8 (by decide) ?_
    refine lv_goto (tgt := 13) hx hb dd_mo_pay_9 (by decide) ?_
    exact wb_mo_pay_13 C0  M a0 v1 (1 : Int32) _ _ _ ha0 G (lv_sub hl [0, 1] rfl) hF
set_option maxRecDepth 100000 in
set_option maxHeartbeats 4000000 in
theorem ct_mo_pay (l : Launch) (X : gw_X) (Y : gw_M) (M : gw_M) (a0 : Nat) (v1 : Int32) (ha0 : gr_k a0 = (11, 0)) (z : (Int32 × gw_M)) (hF : mo_pay_b0 M a0 v1 = some z) : Met l yy_mo_pay ((Cond.code yy_mo_pay by_mo_pay 3 (some .boolean)) :: gw_w) rm_mo_pay (va_Pc [.ref (gr_a X a0), .int v1] (gw_B X (gw_E X Y M))) (gw_Qi X (fun M => (gw_E X Y M)) z) 0 0 (gw_A X) := by
  refine Met.ofW (cc := by_mo_pay) (maxL := 3) (ret := (some .boolean)) (by decide) rfl ?_
  intro p e s m args below meth c s₁ B hml hv
  obtain ⟨rfl, hB⟩ := hv
  rw [lg_entry_eq]
  have hl := lv_entry ([.ref (gr_a X a0), .int v1]) (n := 3) (Nat.le_of_ble_eq_true rfl)
  generalize (lg_sl ([.ref (gr_a X a0), .int v1]) ++ List.replicate (3 - (lg_sl ([.ref (gr_a X a0), .int v1])).length) Slot.unset).toArray = ls at hl ⊢
  have hl : lv_has ls 3 [(0, .ref (gr_a X a0)), (1, .int v1)] := hl
  exact wb_mo_pay_0 (gw_ctx B hml rfl hB) M a0 v1 _ _ _ ha0 (gw_start hB) hl hF
/-! AccountMachineModel.seat(IJ)I -/
abbrev rm_mo_seat : Room := { frames := 0, cells := 0, slots := 0, locals := 0 }
theorem dd_mo_seat_0 : decode by_mo_seat 0 = .ok (.ldc2_w 81, 3) := by decide +kernel
theorem dd_mo_seat_3 : decode by_mo_seat 3 = .ok (.aload_n 0, 1) := by decide +kernel
theorem dd_mo_seat_4 : decode by_mo_seat 4 = .ok (.getfield 44, 3) := by decide +kernel
theorem dd_mo_seat_7 : decode by_mo_seat 7 = .ok (.iconst 3, 1) := by decide +kernel
theorem dd_mo_seat_8 : decode by_mo_seat 8 = .ok (.iload_n 1, 1) := by decide +kernel
theorem dd_mo_seat_9 : decode by_mo_seat 9 = .ok (.iadd, 1) := by decide +kernel
theorem dd_mo_seat_10 : decode by_mo_seat 10 = .ok (.iaload, 1) := by decide +kernel
theorem dd_mo_seat_11 : decode by_mo_seat 11 = .ok (.i2l, 1) := by decide +kernel
theorem dd_mo_seat_12 : decode by_mo_seat 12 = .ok (.lmul, 1) := by decide +kernel
theorem dd_mo_seat_13 : decode by_mo_seat 13 = .ok (.lload_n 2, 1) := by decide +kernel
theorem dd_mo_seat_14 : decode by_mo_seat 14 = .ok (.ladd, 1) := by decide +kernel
theorem dd_mo_seat_15 : decode by_mo_seat 15 = .ok (.ldc2_w 105, 3) := by decide +kernel
theorem dd_mo_seat_18 : decode by_mo_seat 18 = .ok (.land, 1) := by decide +kernel
theorem dd_mo_seat_19 : decode by_mo_seat 19 = .ok (.l2i, 1) := by decide +kernel
theorem dd_mo_seat_20 : decode by_mo_seat 20 = .ok (.ireturn, 1) := by decide +kernel
def mo_seat_b0 (M : gw_M) (a0 : Nat) (v1 : Int32) (v2 : Int64) : Option (Int32 × gw_M) :=
  gw_gu (gw_in ((3 : Int32) + v1) 9) (some (((((3 : Int64) * ((M.1 (a0 + 12) (((3 : Int32) + v1).toNatClampNeg)).toInt64)) + v2) &&& (7 : Int64)).toInt32, M))
set_option maxRecDepth 100000 in
set_option maxHeartbeats 4000000 in
theorem wb_mo_seat_0 {p : Program} {l : Launch} {e : Env} {s : State} {m : MethodId} {args : Array Value} {below : List Frame} {meth : Method} {c : Code} {X : gw_X} {Y : gw_M} {z : (Int32 × gw_M)} (C0 : gw_C ((Cond.code yy_mo_seat by_mo_seat 4 (some .int)) :: gw_w) by_mo_seat 4 (some .int) "AccountMachineModel" X p s m args meth c) (M : gw_M) (a0 : Nat) (v1 : Int32) (v2 : Int64) (H : Heap) (locs : List Loc) (ls : Array Slot) (ha0 : gr_k a0 = (11, 0)) (G : gw_G X (gw_E X Y M) s H locs) (hl : lv_has ls 4 [(0, .ref (gr_a X a0)), (1, .int v1), (2, .long v2)]) (hF : mo_seat_b0  M a0 v1 v2 = some z) : W p l e rm_mo_seat s m args below meth c H locs 0 0 (MQ below (gw_Qi X (fun M => (gw_E X Y M)) z) args s 0 0 (gw_A X)) (F0 m 0 ls []) := by
  obtain ⟨hx, hb, hml, hown, hts, hr, hlocks, hK⟩ := id C0
  have hg : ∀ w ∈ gw_w, w.before args s = true := fun w h => hts w (List.mem_cons_of_mem _ h)
  unfold mo_seat_b0 at hF
  refine lv_ldc2 (v := (3 : Int64)) hx hb hown (hg _ kw_249) dd_mo_seat_0 ?_
  refine lv_aload_n hx hb dd_mo_seat_3 rfl (lv_at hl 0 rfl) ?_
  refine gf_mo_program hx hb hg hown (hg _ kw_271) hK G ha0 dd_mo_seat_4 ?_
  refine lv_iconst (v := (3 : Int32)) hx hb dd_mo_seat_7 (by decide) ?_
  refine lv_iload_n hx hb dd_mo_seat_8 rfl (lv_at hl 1 rfl) ?_
  refine lv_iadd hx hb dd_mo_seat_9 ?_
  obtain ⟨h10, hF⟩ := gw_gd hF
  refine gr_iald hx hb hK G (gq_mo_program ha0) (gw_vp h10) (j := ((3 : Int32) + v1).toNatClampNeg) rfl dd_mo_seat_10 ?_
  refine lv_i2l (v := (M.1 (a0 + 12) (((3 : Int32) + v1).toNatClampNeg)).toInt64) hx hb dd_mo_seat_11 rfl ?_
  refine lv_lmul hx hb dd_mo_seat_12 ?_
  refine W.eq (g2 := F0 m 13 _ _) rfl ?_
  refine lv_lload_n hx hb dd_mo_seat_13 rfl (lv_at hl 2 rfl) ?_
  refine lv_ladd hx hb dd_mo_seat_14 ?_
  refine lv_ldc2 (v := (7 : Int64)) hx hb hown (hg _ kw_276) dd_mo_seat_15 ?_
  refine lv_land hx hb dd_mo_seat_18 ?_
  refine lv_l2i (v := ((((3 : Int64) * ((M.1 (a0 + 12) (((3 : Int32) + v1).toNatClampNeg)).toInt64)) + v2) &&& (7 : Int64)).toInt32) hx hb dd_mo_seat_19 rfl ?_
  exact W.iret hx hb hr (fun t ht hW => gw_endi (EF := (fun M => (gw_E X Y M))) (M := M) G ht hF) G.2.2.2.2 dd_mo_seat_20 hlocks
set_option maxRecDepth 100000 in
set_option maxHeartbeats 4000000 in
theorem ct_mo_seat (l : Launch) (X : gw_X) (Y : gw_M) (M : gw_M) (a0 : Nat) (v1 : Int32) (v2 : Int64) (ha0 : gr_k a0 = (11, 0)) (z : (Int32 × gw_M)) (hF : mo_seat_b0 M a0 v1 v2 = some z) : Met l yy_mo_seat ((Cond.code yy_mo_seat by_mo_seat 4 (some .int)) :: gw_w) rm_mo_seat (va_Pc [.ref (gr_a X a0), .int v1, .long v2] (gw_B X (gw_E X Y M))) (gw_Qi X (fun M => (gw_E X Y M)) z) 0 0 (gw_A X) := by
  refine Met.ofW (cc := by_mo_seat) (maxL := 4) (ret := (some .int)) (by decide) rfl ?_
  intro p e s m args below meth c s₁ B hml hv
  obtain ⟨rfl, hB⟩ := hv
  rw [lg_entry_eq]
  have hl := lv_entry ([.ref (gr_a X a0), .int v1, .long v2]) (n := 4) (Nat.le_of_ble_eq_true rfl)
  generalize (lg_sl ([.ref (gr_a X a0), .int v1, .long v2]) ++ List.replicate (4 - (lg_sl ([.ref (gr_a X a0), .int v1, .long v2])).length) Slot.unset).toArray = ls at hl ⊢
  have hl : lv_has ls 4 [(0, .ref (gr_a X a0)), (1, .int v1), (2, .long v2)] := hl
  exact wb_mo_seat_0 (gw_ctx B hml rfl hB) M a0 v1 v2 _ _ _ ha0 (gw_start hB) hl hF
/-! AccountMachineModel.reckon(IJJI)J -/
abbrev rm_mo_reckon : Room := { frames := 0, cells := 0, slots := 0, locals := 0 }
theorem dd_mo_reckon_0 : decode by_mo_reckon 0 = .ok (.iload_n 0, 1) := by decide +kernel
theorem dd_mo_reckon_1 : decode by_mo_reckon 1 = .ok (.tableswitch 75 0 6 #[43, 47, 49, 55, 59, 63, 69], 43) := by decide +kernel
theorem dd_mo_reckon_44 : decode by_mo_reckon 44 = .ok (.iload 5, 2) := by decide +kernel
theorem dd_mo_reckon_46 : decode by_mo_reckon 46 = .ok (.i2l, 1) := by decide +kernel
theorem dd_mo_reckon_47 : decode by_mo_reckon 47 = .ok (.lreturn, 1) := by decide +kernel
theorem dd_mo_reckon_48 : decode by_mo_reckon 48 = .ok (.lload_n 3, 1) := by decide +kernel
theorem dd_mo_reckon_49 : decode by_mo_reckon 49 = .ok (.lreturn, 1) := by decide +kernel
theorem dd_mo_reckon_50 : decode by_mo_reckon 50 = .ok (.lload_n 1, 1) := by decide +kernel
theorem dd_mo_reckon_51 : decode by_mo_reckon 51 = .ok (.iload 5, 2) := by decide +kernel
theorem dd_mo_reckon_53 : decode by_mo_reckon 53 = .ok (.i2l, 1) := by decide +kernel
theorem dd_mo_reckon_54 : decode by_mo_reckon 54 = .ok (.ladd, 1) := by decide +kernel
theorem dd_mo_reckon_55 : decode by_mo_reckon 55 = .ok (.lreturn, 1) := by decide +kernel
theorem dd_mo_reckon_56 : decode by_mo_reckon 56 = .ok (.lload_n 1, 1) := by decide +kernel
theorem dd_mo_reckon_57 : decode by_mo_reckon 57 = .ok (.lload_n 3, 1) := by decide +kernel
theorem dd_mo_reckon_58 : decode by_mo_reckon 58 = .ok (.ladd, 1) := by decide +kernel
theorem dd_mo_reckon_59 : decode by_mo_reckon 59 = .ok (.lreturn, 1) := by decide +kernel
theorem dd_mo_reckon_60 : decode by_mo_reckon 60 = .ok (.lload_n 1, 1) := by decide +kernel
theorem dd_mo_reckon_61 : decode by_mo_reckon 61 = .ok (.lload_n 3, 1) := by decide +kernel
theorem dd_mo_reckon_62 : decode by_mo_reckon 62 = .ok (.lsub, 1) := by decide +kernel
theorem dd_mo_reckon_63 : decode by_mo_reckon 63 = .ok (.lreturn, 1) := by decide +kernel
theorem dd_mo_reckon_64 : decode by_mo_reckon 64 = .ok (.lload_n 1, 1) := by decide +kernel
theorem dd_mo_reckon_65 : decode by_mo_reckon 65 = .ok (.iload 5, 2) := by decide +kernel
theorem dd_mo_reckon_67 : decode by_mo_reckon 67 = .ok (.i2l, 1) := by decide +kernel
theorem dd_mo_reckon_68 : decode by_mo_reckon 68 = .ok (.lmul, 1) := by decide +kernel
theorem dd_mo_reckon_69 : decode by_mo_reckon 69 = .ok (.lreturn, 1) := by decide +kernel
theorem dd_mo_reckon_70 : decode by_mo_reckon 70 = .ok (.lload_n 1, 1) := by decide +kernel
theorem dd_mo_reckon_71 : decode by_mo_reckon 71 = .ok (.iload 5, 2) := by decide +kernel
theorem dd_mo_reckon_73 : decode by_mo_reckon 73 = .ok (.i2l, 1) := by decide +kernel
theorem dd_mo_reckon_74 : decode by_mo_reckon 74 = .ok (.ldiv, 1) := by decide +kernel
theorem dd_mo_reckon_75 : decode by_mo_reckon 75 = .ok (.lreturn, 1) := by decide +kernel
theorem dd_mo_reckon_76 : decode by_mo_reckon 76 = .ok (.lload_n 1, 1) := by decide +kernel
theorem dd_mo_reckon_77 : decode by_mo_reckon 77 = .ok (.iload 5, 2) := by decide +kernel
theorem dd_mo_reckon_79 : decode by_mo_reckon 79 = .ok (.lshl, 1) := by decide +kernel
theorem dd_mo_reckon_80 : decode by_mo_reckon 80 = .ok (.lreturn, 1) := by decide +kernel
def mo_reckon_b0 (M : gw_M) (v0 : Int32) (v1 : Int64) (v3 : Int64) (v5 : Int32) : Option (Int64 × gw_M) :=
  if v0 = (0 : Int32) then (some (v5.toInt64, M)) else (if v0 = (1 : Int32) then (some (v3, M)) else (if v0 = (2 : Int32) then (some (v1 + v5.toInt64, M)) else (if v0 = (3 : Int32) then (some (v1 + v3, M)) else (if v0 = (4 : Int32) then (some (v1 - v3, M)) else (if v0 = (5 : Int32) then (some (v1 * v5.toInt64, M)) else (if v0 = (6 : Int32) then (gw_gu (gw_zj v5.toInt64) (some (v1 / v5.toInt64, M))) else (some (v1 <<< (v5.toInt64 &&& 63), M))))))))
set_option maxRecDepth 100000 in
set_option maxHeartbeats 4000000 in
theorem wb_mo_reckon_0 {p : Program} {l : Launch} {e : Env} {s : State} {m : MethodId} {args : Array Value} {below : List Frame} {meth : Method} {c : Code} {X : gw_X} {Y : gw_M} {z : (Int64 × gw_M)} (C0 : gw_C ((Cond.code yy_mo_reckon by_mo_reckon 6 (some .long)) :: gw_w) by_mo_reckon 6 (some .long) "AccountMachineModel" X p s m args meth c) (M : gw_M) (v0 : Int32) (v1 : Int64) (v3 : Int64) (v5 : Int32) (H : Heap) (locs : List Loc) (ls : Array Slot) (G : gw_G X (gw_E X Y M) s H locs) (hl : lv_has ls 6 [(0, .int v0), (1, .long v1), (3, .long v3), (5, .int v5)]) (hF : mo_reckon_b0  M v0 v1 v3 v5 = some z) : W p l e rm_mo_reckon s m args below meth c H locs 0 0 (MQ below (gw_Ql X (fun M => (gw_E X Y M)) z) args s 0 0 (gw_A X)) (F0 m 0 ls []) := by
  obtain ⟨hx, hb, hml, hown, hts, hr, hlocks, hK⟩ := id C0
  have hg : ∀ w ∈ gw_w, w.before args s = true := fun w h => hts w (List.mem_cons_of_mem _ h)
  unfold mo_reckon_b0 at hF
  refine lv_iload_n hx hb dd_mo_reckon_0 rfl (lv_at hl 0 rfl) ?_
  by_cases q1_0 : v0 = (0 : Int32)
  · replace hF := gw_et q1_0 hF
    refine lv_tableIn (off := 43) (tgt := 44) hx hb dd_mo_reckon_1 (by rw [q1_0]; decide) (by rw [q1_0]; decide) (by rw [q1_0]; decide) (by decide) ?_
    refine lv_iload hx hb dd_mo_reckon_44 (lv_at hl 3 rfl) ?_
    refine lv_i2l (v := v5.toInt64) hx hb dd_mo_reckon_46 rfl ?_
    exact W.lret hx hb hr (fun t ht hW => gw_endl (EF := (fun M => (gw_E X Y M))) (M := M) G ht hF) G.2.2.2.2 dd_mo_reckon_47 hlocks
  replace hF := gw_ef q1_0 hF
  by_cases q1_1 : v0 = (1 : Int32)
  · replace hF := gw_et q1_1 hF
    refine lv_tableIn (off := 47) (tgt := 48) hx hb dd_mo_reckon_1 (by rw [q1_1]; decide) (by rw [q1_1]; decide) (by rw [q1_1]; decide) (by decide) ?_
    refine lv_lload_n hx hb dd_mo_reckon_48 rfl (lv_at hl 2 rfl) ?_
    exact W.lret hx hb hr (fun t ht hW => gw_endl (EF := (fun M => (gw_E X Y M))) (M := M) G ht hF) G.2.2.2.2 dd_mo_reckon_49 hlocks
  replace hF := gw_ef q1_1 hF
  by_cases q1_2 : v0 = (2 : Int32)
  · replace hF := gw_et q1_2 hF
    refine lv_tableIn (off := 49) (tgt := 50) hx hb dd_mo_reckon_1 (by rw [q1_2]; decide) (by rw [q1_2]; decide) (by rw [q1_2]; decide) (by decide) ?_
    refine lv_lload_n hx hb dd_mo_reckon_50 rfl (lv_at hl 1 rfl) ?_
    refine lv_iload hx hb dd_mo_reckon_51 (lv_at hl 3 rfl) ?_
    refine lv_i2l (v := v5.toInt64) hx hb dd_mo_reckon_53 rfl ?_
    refine lv_ladd hx hb dd_mo_reckon_54 ?_
    exact W.lret hx hb hr (fun t ht hW => gw_endl (EF := (fun M => (gw_E X Y M))) (M := M) G ht hF) G.2.2.2.2 dd_mo_reckon_55 hlocks
  replace hF := gw_ef q1_2 hF
  by_cases q1_3 : v0 = (3 : Int32)
  · replace hF := gw_et q1_3 hF
    refine lv_tableIn (off := 55) (tgt := 56) hx hb dd_mo_reckon_1 (by rw [q1_3]; decide) (by rw [q1_3]; decide) (by rw [q1_3]; decide) (by decide) ?_
    refine lv_lload_n hx hb dd_mo_reckon_56 rfl (lv_at hl 1 rfl) ?_
    refine lv_lload_n hx hb dd_mo_reckon_57 rfl (lv_at hl 2 rfl) ?_
    refine lv_ladd hx hb dd_mo_reckon_58 ?_
    exact W.lret hx hb hr (fun t ht hW => gw_endl (EF := (fun M => (gw_E X Y M))) (M := M) G ht hF) G.2.2.2.2 dd_mo_reckon_59 hlocks
  replace hF := gw_ef q1_3 hF
  by_cases q1_4 : v0 = (4 : Int32)
  · replace hF := gw_et q1_4 hF
    refine lv_tableIn (off := 59) (tgt := 60) hx hb dd_mo_reckon_1 (by rw [q1_4]; decide) (by rw [q1_4]; decide) (by rw [q1_4]; decide) (by decide) ?_
    refine lv_lload_n hx hb dd_mo_reckon_60 rfl (lv_at hl 1 rfl) ?_
    refine lv_lload_n hx hb dd_mo_reckon_61 rfl (lv_at hl 2 rfl) ?_
    refine lv_lsub hx hb dd_mo_reckon_62 ?_
    exact W.lret hx hb hr (fun t ht hW => gw_endl (EF := (fun M => (gw_E X Y M))) (M := M) G ht hF) G.2.2.2.2 dd_mo_reckon_63 hlocks
  replace hF := gw_ef q1_4 hF
  by_cases q1_5 : v0 = (5 : Int32)
  · replace hF := gw_et q1_5 hF
    refine lv_tableIn (off := 63) (tgt := 64) hx hb dd_mo_reckon_1 (by rw [q1_5]; decide) (by rw [q1_5]; decide) (by rw [q1_5]; decide) (by decide) ?_
    refine lv_lload_n hx hb dd_mo_reckon_64 rfl (lv_at hl 1 rfl) ?_
    refine lv_iload hx hb dd_mo_reckon_65 (lv_at hl 3 rfl) ?_
    refine lv_i2l (v := v5.toInt64) hx hb dd_mo_reckon_67 rfl ?_
    refine lv_lmul hx hb dd_mo_reckon_68 ?_
    exact W.lret hx hb hr (fun t ht hW => gw_endl (EF := (fun M => (gw_E X Y M))) (M := M) G ht hF) G.2.2.2.2 dd_mo_reckon_69 hlocks
  replace hF := gw_ef q1_5 hF
  by_cases q1_6 : v0 = (6 : Int32)
  · replace hF := gw_et q1_6 hF
    refine lv_tableIn (off := 69) (tgt := 70) hx hb dd_mo_reckon_1 (by rw [q1_6]; decide) (by rw [q1_6]; decide) (by rw [q1_6]; decide) (by decide) ?_
    refine lv_lload_n hx hb dd_mo_reckon_70 rfl (lv_at hl 1 rfl) ?_
    refine lv_iload hx hb dd_mo_reckon_71 (lv_at hl 3 rfl) ?_
    refine lv_i2l (v := v5.toInt64) hx hb dd_mo_reckon_73 rfl ?_
    obtain ⟨h74, hF⟩ := gw_gd hF
    refine lv_ldiv hx hb dd_mo_reckon_74 (gw_nzj h74) ?_
    exact W.lret hx hb hr (fun t ht hW => gw_endl (EF := (fun M => (gw_E X Y M))) (M := M) G ht hF) G.2.2.2.2 dd_mo_reckon_75 hlocks
  replace hF := gw_ef q1_6 hF
  have n1_0 := gw_ne (c := (0 : Int32)) (n := 0) (by decide) q1_0
  have n1_1 := gw_ne (c := (1 : Int32)) (n := 1) (by decide) q1_1
  have n1_2 := gw_ne (c := (2 : Int32)) (n := 2) (by decide) q1_2
  have n1_3 := gw_ne (c := (3 : Int32)) (n := 3) (by decide) q1_3
  have n1_4 := gw_ne (c := (4 : Int32)) (n := 4) (by decide) q1_4
  have n1_5 := gw_ne (c := (5 : Int32)) (n := 5) (by decide) q1_5
  have n1_6 := gw_ne (c := (6 : Int32)) (n := 6) (by decide) q1_6
  refine lv_tableOut (tgt := 76) hx hb dd_mo_reckon_1 (by omega) (by decide) ?_
  refine lv_lload_n hx hb dd_mo_reckon_76 rfl (lv_at hl 1 rfl) ?_
  refine lv_iload hx hb dd_mo_reckon_77 (lv_at hl 3 rfl) ?_
  refine lv_lshl (v := v1 <<< (v5.toInt64 &&& 63)) hx hb dd_mo_reckon_79 rfl ?_
  exact W.lret hx hb hr (fun t ht hW => gw_endl (EF := (fun M => (gw_E X Y M))) (M := M) G ht hF) G.2.2.2.2 dd_mo_reckon_80 hlocks
set_option maxRecDepth 100000 in
set_option maxHeartbeats 4000000 in
theorem ct_mo_reckon (l : Launch) (X : gw_X) (Y : gw_M) (M : gw_M) (v0 : Int32) (v1 : Int64) (v3 : Int64) (v5 : Int32) (z : (Int64 × gw_M)) (hF : mo_reckon_b0 M v0 v1 v3 v5 = some z) : Met l yy_mo_reckon ((Cond.code yy_mo_reckon by_mo_reckon 6 (some .long)) :: gw_w) rm_mo_reckon (va_Pc [.int v0, .long v1, .long v3, .int v5] (gw_B X (gw_E X Y M))) (gw_Ql X (fun M => (gw_E X Y M)) z) 0 0 (gw_A X) := by
  refine Met.ofW (cc := by_mo_reckon) (maxL := 6) (ret := (some .long)) (by decide) rfl ?_
  intro p e s m args below meth c s₁ B hml hv
  obtain ⟨rfl, hB⟩ := hv
  rw [lg_entry_eq]
  have hl := lv_entry ([.int v0, .long v1, .long v3, .int v5]) (n := 6) (Nat.le_of_ble_eq_true rfl)
  generalize (lg_sl ([.int v0, .long v1, .long v3, .int v5]) ++ List.replicate (6 - (lg_sl ([.int v0, .long v1, .long v3, .int v5])).length) Slot.unset).toArray = ls at hl ⊢
  have hl : lv_has ls 6 [(0, .int v0), (1, .long v1), (3, .long v3), (5, .int v5)] := hl
  exact wb_mo_reckon_0 (gw_ctx B hml rfl hB) M v0 v1 v3 v5 _ _ _  (gw_start hB) hl hF
