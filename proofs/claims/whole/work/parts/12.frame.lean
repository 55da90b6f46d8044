/-! AccountMachine$Frame.baseOf(I)I -/
abbrev rm_fr_baseOf : Room := { frames := 0, cells := 0, slots := 0, locals := 0 }
theorem dd_fr_baseOf_0 : decode by_fr_baseOf 0 = .ok (.bipush 16, 2) := by decide +kernel
theorem dd_fr_baseOf_2 : decode by_fr_baseOf 2 = .ok (.iload_n 0, 1) := by decide +kernel
theorem dd_fr_baseOf_3 : decode by_fr_baseOf 3 = .ok (.bipush 10, 2) := by decide +kernel
theorem dd_fr_baseOf_5 : decode by_fr_baseOf 5 = .ok (.imul, 1) := by decide +kernel
theorem dd_fr_baseOf_6 : decode by_fr_baseOf 6 = .ok (.iadd, 1) := by decide +kernel
theorem dd_fr_baseOf_7 : decode by_fr_baseOf 7 = .ok (.ireturn, 1) := by decide +kernel
def fr_baseOf_b0 (M : gw_M) (v0 : Int32) : Option (Int32 × gw_M) :=
  some ((16 : Int32) + (v0 * (10 : Int32)), M)
set_option maxRecDepth 100000 in
set_option maxHeartbeats 4000000 in
theorem wb_fr_baseOf_0 {p : Program} {l : Launch} {e : Env} {s : State} {m : MethodId} {args : Array Value} {below : List Frame} {meth : Method} {c : Code} {X : gw_X} {Y : gw_M} {z : (Int32 × gw_M)} (C0 : gw_C ((Cond.code yy_fr_baseOf by_fr_baseOf 1 (some .int)) :: gw_w) by_fr_baseOf 1 (some .int) "AccountMachine$Frame" X p s m args meth c) (M : gw_M) (v0 : Int32) (H : Heap) (locs : List Loc) (ls : Array Slot) (G : gw_G X (gw_E X M Y) s H locs) (hl : lv_has ls 1 [(0, .int v0)]) (hF : fr_baseOf_b0  M v0 = some z) : W p l e rm_fr_baseOf s m args below meth c H locs 0 0 (MQ below (gw_Qi X (fun M => (gw_E X M Y)) z) args s 0 0 (gw_A X)) (F0 m 0 ls []) := by
  obtain ⟨hx, hb, hml, hown, hts, hr, hlocks, hK⟩ := id C0
  have hg : ∀ w ∈ gw_w, w.before args s = true := fun w h => hts w (List.mem_cons_of_mem _ h)
  unfold fr_baseOf_b0 at hF
  refine lv_bipush (v := (16 : Int32)) hx hb dd_fr_baseOf_0 (by decide) ?_
  refine lv_iload_n hx hb dd_fr_baseOf_2 rfl (lv_at hl 0 rfl) ?_
  refine lv_bipush (v := (10 : Int32)) hx hb dd_fr_baseOf_3 (by decide) ?_
  refine lv_imul hx hb dd_fr_baseOf_5 ?_
  refine lv_iadd hx hb dd_fr_baseOf_6 ?_
  exact W.iret hx hb hr (fun t ht hW => gw_endi (EF := (fun M => (gw_E X M Y))) (M := M) G ht hF) G.2.2.2.2 dd_fr_baseOf_7 hlocks
set_option maxRecDepth 100000 in
set_option maxHeartbeats 4000000 in
theorem ct_fr_baseOf (l : Launch) (X : gw_X) (Y : gw_M) (M : gw_M) (v0 : Int32) (z : (Int32 × gw_M)) (hF : fr_baseOf_b0 M v0 = some z) : Met l yy_fr_baseOf ((Cond.code yy_fr_baseOf by_fr_baseOf 1 (some .int)) :: gw_w) rm_fr_baseOf (va_Pc [.int v0] (gw_B X (gw_E X M Y))) (gw_Qi X (fun M => (gw_E X M Y)) z) 0 0 (gw_A X) := by
  refine Met.ofW (cc := by_fr_baseOf) (maxL := 1) (ret := (some .int)) (by decide) rfl ?_
  intro p e s m args below meth c s₁ B hml hv
  obtain ⟨rfl, hB⟩ := hv
  rw [lg_entry_eq]
  have hl := lv_entry ([.int v0]) (n := 1) (Nat.le_of_ble_eq_true rfl)
  generalize (lg_sl ([.int v0]) ++ List.replicate (1 - (lg_sl ([.int v0])).length) Slot.unset).toArray = ls at hl ⊢
  have hl : lv_has ls 1 [(0, .int v0)] := hl
  exact wb_fr_baseOf_0 (gw_ctx B hml rfl hB) M v0 _ _ _  (gw_start hB) hl hF
/-! AccountMachine$Frame.isMain(I)Z -/
abbrev rm_fr_isMain : Room := { frames := 0, cells := 0, slots := 0, locals := 0 }
theorem dd_fr_isMain_0 : decode by_fr_isMain 0 = .ok (.aload_n 0, 1) := by decide +kernel
theorem dd_fr_isMain_1 : decode by_fr_isMain 1 = .ok (.getfield 22, 3) := by decide +kernel
theorem dd_fr_isMain_4 : decode by_fr_isMain 4 = .ok (.iload_n 1, 1) := by decide +kernel
theorem dd_fr_isMain_5 : decode by_fr_isMain 5 = .ok (.iconst 0, 1) := by decide +kernel
theorem dd_fr_isMain_6 : decode by_fr_isMain 6 = .ok (.iadd, 1) := by decide +kernel
theorem dd_fr_isMain_7 : decode by_fr_isMain 7 = .ok (.laload, 1) := by decide +kernel
theorem dd_fr_isMain_8 : decode by_fr_isMain 8 = .ok (.lconst 0, 1) := by decide +kernel
theorem dd_fr_isMain_9 : decode by_fr_isMain 9 = .ok (.lcmp, 1) := by decide +kernel
theorem dd_fr_isMain_10 : decode by_fr_isMain 10 = .ok (.ifCond .lt 7, 3) := by decide +kernel
theorem dd_fr_isMain_13 : decode by_fr_isMain 13 = .ok (.iconst 1, 1) := by decide +kernel
theorem dd_fr_isMain_14 : decode by_fr_isMain 14 = .ok (.goto 4, 3) := by decide +kernel
theorem dd_fr_isMain_17 : decode by_fr_isMain 17 = .ok (.iconst 0, 1) := by decide +kernel
theorem dd_fr_isMain_18 : decode by_fr_isMain 18 = .ok (.ireturn, 1) := by decide +kernel
def fr_isMain_b0 (M : gw_M) (a0 : Nat) (v1 : Int32) : Option (Int32 × gw_M) :=
  gw_gu (gw_in (v1 + (0 : Int32)) 56) (if (lg_cmp (M.2 (a0 + 5) ((v1 + (0 : Int32)).toNatClampNeg)) (0 : Int64)) < (0 : Int32) then (some ((0 : Int32), M)) else (some ((1 : Int32), M)))
set_option maxRecDepth 100000 in
set_option maxHeartbeats 4000000 in
theorem wb_fr_isMain_0 {p : Program} {l : Launch} {e : Env} {s : State} {m : MethodId} {args : Array Value} {below : List Frame} {meth : Method} {c : Code} {X : gw_X} {Y : gw_M} {z : (Int32 × gw_M)} (C0 : gw_C ((Cond.code yy_fr_isMain by_fr_isMain 2 (some .boolean)) :: gw_w) by_fr_isMain 2 (some .boolean) "AccountMachine$Frame" X p s m args meth c) (M : gw_M) (a0 : Nat) (v1 : Int32) (H : Heap) (locs : List Loc) (ls : Array Slot) (ha0 : gc_k a0 = (6, 0)) (G : gw_G X (gw_E X M Y) s H locs) (hl : lv_has ls 2 [(0, .ref (gc_a X a0)), (1, .int v1)]) (hF : fr_isMain_b0  M a0 v1 = some z) : W p l e rm_fr_isMain s m args below meth c H locs 0 0 (MQ below (gw_Qi X (fun M => (gw_E X M Y)) z) args s 0 0 (gw_A X)) (F0 m 0 ls []) := by
  obtain ⟨hx, hb, hml, hown, hts, hr, hlocks, hK⟩ := id C0
  have hg : ∀ w ∈ gw_w, w.before args s = true := fun w h => hts w (List.mem_cons_of_mem _ h)
  unfold fr_isMain_b0 at hF
  refine lv_aload_n hx hb dd_fr_isMain_0 rfl (lv_at hl 0 rfl) ?_
  refine gf_fr_memory hx hb hg hown (hg _ kw_3) hK G ha0 dd_fr_isMain_1 ?_
  refine lv_iload_n hx hb dd_fr_isMain_4 rfl (lv_at hl 1 rfl) ?_
  refine lv_iconst (v := (0 : Int32)) hx hb dd_fr_isMain_5 (by decide) ?_
  refine lv_iadd hx hb dd_fr_isMain_6 ?_
  obtain ⟨h7, hF⟩ := gw_gd hF
  refine gc_lald hx hb hK G (gq_fr_memory ha0) (gw_vp h7) (j := (v1 + (0 : Int32)).toNatClampNeg) rfl dd_fr_isMain_7 ?_
  refine lv_lconst (v := (0 : Int64)) hx hb dd_fr_isMain_8 (by decide) ?_
  refine W.lcmp hx hb dd_fr_isMain_9 ?_
  refine lv_if_lt (tgt := 17) hx hb dd_fr_isMain_10 (by decide) (fun h10 => ?_) (fun h10 => ?_)
  · replace hF := gw_et h10 hF
    refine lv_iconst (v := (0 : Int32)) hx hb dd_fr_isMain_17 (by decide) ?_
    exact W.zret hx hb hr (by decide) (fun t ht hW => gw_endi (EF := (fun M => (gw_E X M Y))) (M := M) G ht hF) G.2.2.2.2 dd_fr_isMain_18 hlocks
  · replace hF := gw_ef h10 hF
    refine lv_iconst (v := (1 : Int32)) hx hb dd_fr_isMain_13 (by decide) ?_
    refine lv_goto (tgt := 18) hx hb dd_fr_isMain_14 (by decide) ?_
    exact W.zret hx hb hr (by decide) (fun t ht hW => gw_endi (EF := (fun M => (gw_E X M Y))) (M := M) G ht hF) G.2.2.2.2 dd_fr_isMain_18 hlocks
set_option maxRecDepth 100000 in
set_option maxHeartbeats 4000000 in
theorem ct_fr_isMain (l : Launch) (X : gw_X) (Y : gw_M) (M : gw_M) (a0 : Nat) (v1 : Int32) (ha0 : gc_k a0 = (6, 0)) (z : (Int32 × gw_M)) (hF : fr_isMain_b0 M a0 v1 = some z) : Met l yy_fr_isMain ((Cond.code yy_fr_isMain by_fr_isMain 2 (some .boolean)) :: gw_w) rm_fr_isMain (va_Pc [.ref (gc_a X a0), .int v1] (gw_B X (gw_E X M Y))) (gw_Qi X (fun M => (gw_E X M Y)) z) 0 0 (gw_A X) := by
  refine Met.ofW (cc := by_fr_isMain) (maxL := 2) (ret := (some .boolean)) (by decide) rfl ?_
  intro p e s m args below meth c s₁ B hml hv
  obtain ⟨rfl, hB⟩ := hv
  rw [lg_entry_eq]
  have hl := lv_entry ([.ref (gc_a X a0), .int v1]) (n := 2) (Nat.le_of_ble_eq_true rfl)
  generalize (lg_sl ([.ref (gc_a X a0), .int v1]) ++ List.replicate (2 - (lg_sl ([.ref (gc_a X a0), .int v1])).length) Slot.unset).toArray = ls at hl ⊢
  have hl : lv_has ls 2 [(0, .ref (gc_a X a0)), (1, .int v1)] := hl
  exact wb_fr_isMain_0 (gw_ctx B hml rfl hB) M a0 v1 _ _ _ ha0 (gw_start hB) hl hF
/-! AccountMachine$Frame.seeAccounts(LAccountMachine$Ledger;)V -/
abbrev rm_fr_seeAccounts : Room := { frames := 1, cells := 0, slots := 0, locals := 21 }
theorem dd_fr_seeAccounts_0 : decode by_fr_seeAccounts 0 = .ok (.iconst 0, 1) := by decide +kernel
theorem dd_fr_seeAccounts_1 : decode by_fr_seeAccounts 1 = .ok (.istore_n 2, 1) := by decide +kernel
theorem dd_fr_seeAccounts_2 : decode by_fr_seeAccounts 2 = .ok (.iload_n 2, 1) := by decide +kernel
theorem dd_fr_seeAccounts_3 : decode by_fr_seeAccounts 3 = .ok (.aload_n 0, 1) := by decide +kernel
theorem dd_fr_seeAccounts_4 : decode by_fr_seeAccounts 4 = .ok (.getfield 12, 3) := by decide +kernel
theorem dd_fr_seeAccounts_7 : decode by_fr_seeAccounts 7 = .ok (.getfield 44, 3) := by decide +kernel
theorem dd_fr_seeAccounts_10 : decode by_fr_seeAccounts 10 = .ok (.if_icmp .ge 120, 3) := by decide +kernel
theorem dd_fr_seeAccounts_13 : decode by_fr_seeAccounts 13 = .ok (.iload_n 2, 1) := by decide +kernel
theorem dd_fr_seeAccounts_14 : decode by_fr_seeAccounts 14 = .ok (.invokestatic 57, 3) := by decide +kernel
theorem dd_fr_seeAccounts_17 : decode by_fr_seeAccounts 17 = .ok (.istore_n 3, 1) := by decide +kernel
theorem dd_fr_seeAccounts_18 : decode by_fr_seeAccounts 18 = .ok (.aload_n 0, 1) := by decide +kernel
theorem dd_fr_seeAccounts_19 : decode by_fr_seeAccounts 19 = .ok (.iload_n 3, 1) := by decide +kernel
theorem dd_fr_seeAccounts_20 : decode by_fr_seeAccounts 20 = .ok (.invokevirtual 67, 3) := by decide +kernel
theorem dd_fr_seeAccounts_23 : decode by_fr_seeAccounts 23 = .ok (.ifCond .eq 101, 3) := by decide +kernel
theorem dd_fr_seeAccounts_26 : decode by_fr_seeAccounts 26 = .ok (.aload_n 0, 1) := by decide +kernel
theorem dd_fr_seeAccounts_27 : decode by_fr_seeAccounts 27 = .ok (.getfield 12, 3) := by decide +kernel
theorem dd_fr_seeAccounts_30 : decode by_fr_seeAccounts 30 = .ok (.getfield 50, 3) := by decide +kernel
theorem dd_fr_seeAccounts_33 : decode by_fr_seeAccounts 33 = .ok (.iload_n 2, 1) := by decide +kernel
theorem dd_fr_seeAccounts_34 : decode by_fr_seeAccounts 34 = .ok (.iaload, 1) := by decide +kernel
theorem dd_fr_seeAccounts_35 : decode by_fr_seeAccounts 35 = .ok (.istore 4, 2) := by decide +kernel
theorem dd_fr_seeAccounts_37 : decode by_fr_seeAccounts 37 = .ok (.aload_n 0, 1) := by decide +kernel
theorem dd_fr_seeAccounts_38 : decode by_fr_seeAccounts 38 = .ok (.getfield 22, 3) := by decide +kernel
theorem dd_fr_seeAccounts_41 : decode by_fr_seeAccounts 41 = .ok (.iload_n 3, 1) := by decide +kernel
theorem dd_fr_seeAccounts_42 : decode by_fr_seeAccounts 42 = .ok (.iconst 2, 1) := by decide +kernel
theorem dd_fr_seeAccounts_43 : decode by_fr_seeAccounts 43 = .ok (.iadd, 1) := by decide +kernel
theorem dd_fr_seeAccounts_44 : decode by_fr_seeAccounts 44 = .ok (.aload_n 1, 1) := by decide +kernel
theorem dd_fr_seeAccounts_45 : decode by_fr_seeAccounts 45 = .ok (.getfield 71, 3) := by decide +kernel
theorem dd_fr_seeAccounts_48 : decode by_fr_seeAccounts 48 = .ok (.iload 4, 2) := by decide +kernel
theorem dd_fr_seeAccounts_50 : decode by_fr_seeAccounts 50 = .ok (.iaload, 1) := by decide +kernel
theorem dd_fr_seeAccounts_51 : decode by_fr_seeAccounts 51 = .ok (.i2l, 1) := by decide +kernel
theorem dd_fr_seeAccounts_52 : decode by_fr_seeAccounts 52 = .ok (.lastore, 1) := by decide +kernel
theorem dd_fr_seeAccounts_53 : decode by_fr_seeAccounts 53 = .ok (.aload_n 0, 1) := by decide +kernel
theorem dd_fr_seeAccounts_54 : decode by_fr_seeAccounts 54 = .ok (.getfield 22, 3) := by decide +kernel
theorem dd_fr_seeAccounts_57 : decode by_fr_seeAccounts 57 = .ok (.iload_n 3, 1) := by decide +kernel
theorem dd_fr_seeAccounts_58 : decode by_fr_seeAccounts 58 = .ok (.iconst 3, 1) := by decide +kernel
theorem dd_fr_seeAccounts_59 : decode by_fr_seeAccounts 59 = .ok (.iadd, 1) := by decide +kernel
theorem dd_fr_seeAccounts_60 : decode by_fr_seeAccounts 60 = .ok (.aload_n 1, 1) := by decide +kernel
theorem dd_fr_seeAccounts_61 : decode by_fr_seeAccounts 61 = .ok (.getfield 76, 3) := by decide +kernel
theorem dd_fr_seeAccounts_64 : decode by_fr_seeAccounts 64 = .ok (.iload 4, 2) := by decide +kernel
theorem dd_fr_seeAccounts_66 : decode by_fr_seeAccounts 66 = .ok (.iaload, 1) := by decide +kernel
theorem dd_fr_seeAccounts_67 : decode by_fr_seeAccounts 67 = .ok (.i2l, 1) := by decide +kernel
theorem dd_fr_seeAccounts_68 : decode by_fr_seeAccounts 68 = .ok (.lastore, 1) := by decide +kernel
theorem dd_fr_seeAccounts_69 : decode by_fr_seeAccounts 69 = .ok (.aload_n 0, 1) := by decide +kernel
theorem dd_fr_seeAccounts_70 : decode by_fr_seeAccounts 70 = .ok (.getfield 22, 3) := by decide +kernel
theorem dd_fr_seeAccounts_73 : decode by_fr_seeAccounts 73 = .ok (.iload_n 3, 1) := by decide +kernel
theorem dd_fr_seeAccounts_74 : decode by_fr_seeAccounts 74 = .ok (.iconst 4, 1) := by decide +kernel
theorem dd_fr_seeAccounts_75 : decode by_fr_seeAccounts 75 = .ok (.iadd, 1) := by decide +kernel
theorem dd_fr_seeAccounts_76 : decode by_fr_seeAccounts 76 = .ok (.aload_n 1, 1) := by decide +kernel
theorem dd_fr_seeAccounts_77 : decode by_fr_seeAccounts 77 = .ok (.getfield 79, 3) := by decide +kernel
theorem dd_fr_seeAccounts_80 : decode by_fr_seeAccounts 80 = .ok (.iload 4, 2) := by decide +kernel
theorem dd_fr_seeAccounts_82 : decode by_fr_seeAccounts 82 = .ok (.iaload, 1) := by decide +kernel
theorem dd_fr_seeAccounts_83 : decode by_fr_seeAccounts 83 = .ok (.i2l, 1) := by decide +kernel
theorem dd_fr_seeAccounts_84 : decode by_fr_seeAccounts 84 = .ok (.lastore, 1) := by decide +kernel
theorem dd_fr_seeAccounts_85 : decode by_fr_seeAccounts 85 = .ok (.iconst 0, 1) := by decide +kernel
theorem dd_fr_seeAccounts_86 : decode by_fr_seeAccounts 86 = .ok (.istore 5, 2) := by decide +kernel
theorem dd_fr_seeAccounts_88 : decode by_fr_seeAccounts 88 = .ok (.iload 5, 2) := by decide +kernel
theorem dd_fr_seeAccounts_90 : decode by_fr_seeAccounts 90 = .ok (.iconst 4, 1) := by decide +kernel
theorem dd_fr_seeAccounts_91 : decode by_fr_seeAccounts 91 = .ok (.if_icmp .ge 33, 3) := by decide +kernel
theorem dd_fr_seeAccounts_94 : decode by_fr_seeAccounts 94 = .ok (.aload_n 0, 1) := by decide +kernel
theorem dd_fr_seeAccounts_95 : decode by_fr_seeAccounts 95 = .ok (.getfield 22, 3) := by decide +kernel
theorem dd_fr_seeAccounts_98 : decode by_fr_seeAccounts 98 = .ok (.iload_n 3, 1) := by decide +kernel
theorem dd_fr_seeAccounts_99 : decode by_fr_seeAccounts 99 = .ok (.iconst 5, 1) := by decide +kernel
theorem dd_fr_seeAccounts_100 : decode by_fr_seeAccounts 100 = .ok (.iadd, 1) := by decide +kernel
theorem dd_fr_seeAccounts_101 : decode by_fr_seeAccounts 101 = .ok (.iload 5, 2) := by decide +kernel
theorem dd_fr_seeAccounts_103 : decode by_fr_seeAccounts 103 = .ok (.iadd, 1) := by decide +kernel
theorem dd_fr_seeAccounts_104 : decode by_fr_seeAccounts 104 = .ok (.aload_n 1, 1) := by decide +kernel
theorem dd_fr_seeAccounts_105 : decode by_fr_seeAccounts 105 = .ok (.getfield 82, 3) := by decide +kernel
theorem dd_fr_seeAccounts_108 : decode by_fr_seeAccounts 108 = .ok (.iload 4, 2) := by decide +kernel
theorem dd_fr_seeAccounts_110 : decode by_fr_seeAccounts 110 = .ok (.iconst 4, 1) := by decide +kernel
theorem dd_fr_seeAccounts_111 : decode by_fr_seeAccounts 111 = .ok (.imul, 1) := by decide +kernel
theorem dd_fr_seeAccounts_112 : decode by_fr_seeAccounts 112 = .ok (.iload 5, 2) := by decide +kernel
theorem dd_fr_seeAccounts_114 : decode by_fr_seeAccounts 114 = .ok (.iadd, 1) := by decide +kernel
theorem dd_fr_seeAccounts_115 : decode by_fr_seeAccounts 115 = .ok (.iaload, 1) := by decide +kernel
theorem dd_fr_seeAccounts_116 : decode by_fr_seeAccounts 116 = .ok (.i2l, 1) := by decide +kernel
theorem dd_fr_seeAccounts_117 : decode by_fr_seeAccounts 117 = .ok (.lastore, 1) := by decide +kernel
theorem dd_fr_seeAccounts_118 : decode by_fr_seeAccounts 118 = .ok (.iinc 5 1, 3) := by decide +kernel
theorem dd_fr_seeAccounts_121 : decode by_fr_seeAccounts 121 = .ok (.goto (-33), 3) := by decide +kernel
theorem dd_fr_seeAccounts_124 : decode by_fr_seeAccounts 124 = .ok (.iinc 2 1, 3) := by decide +kernel
theorem dd_fr_seeAccounts_127 : decode by_fr_seeAccounts 127 = .ok (.goto (-125), 3) := by decide +kernel
theorem dd_fr_seeAccounts_130 : decode by_fr_seeAccounts 130 = .ok (.return_, 1) := by decide +kernel
def fr_seeAccounts_b124 (K2 : gw_M → Nat → Nat → Int32 → Option (Unit × gw_M)) (M : gw_M) (a0 : Nat) (a1 : Nat) (v2 : Int32) : Option (Unit × gw_M) :=
  K2 M a0 a1 (v2 + (1 : Int32))
def fr_seeAccounts_b88 (K2 : gw_M → Nat → Nat → Int32 → Option (Unit × gw_M)) (K88 : gw_M → Nat → Nat → Int32 → Int32 → Int32 → Int32 → Option (Unit × gw_M)) (M : gw_M) (a0 : Nat) (a1 : Nat) (v2 : Int32) (v3 : Int32) (v4 : Int32) (v5 : Int32) : Option (Unit × gw_M) :=
  if (4 : Int32) ≤ v5 then (fr_seeAccounts_b124 K2 M a0 a1 v2) else (gw_gu (gw_in ((v4 * (4 : Int32)) + v5) 32) (gw_gu (gw_in ((v3 + (5 : Int32)) + v5) 56) (gw_lt (gw_sL M (a0 + 5) (((v3 + (5 : Int32)) + v5).toNatClampNeg) ((M.1 (a1 + 4) (((v4 * (4 : Int32)) + v5).toNatClampNeg)).toInt64)) (fun M117 => K88 M117 a0 a1 v2 v3 v4 (v5 + (1 : Int32))))))
def fr_seeAccounts_l88 (K2 : gw_M → Nat → Nat → Int32 → Option (Unit × gw_M)) : Nat → gw_M → Nat → Nat → Int32 → Int32 → Int32 → Int32 → Option (Unit × gw_M)
  | 0 => fun _ _ _ _ _ _ _ => none
  | n + 1 => fr_seeAccounts_b88 K2 (fr_seeAccounts_l88 K2 n)
def fr_seeAccounts_b2 (K2 : gw_M → Nat → Nat → Int32 → Option (Unit × gw_M)) (M : gw_M) (a0 : Nat) (a1 : Nat) (v2 : Int32) : Option (Unit × gw_M) :=
  if (M.1 (a0 + 1) 2) ≤ v2 then (some ((), M)) else (gw_bd (fr_baseOf_b0 M v2) (fun r14 M14 => gw_bd (fr_isMain_b0 M14 a0 r14) (fun r20 M20 => if r20 = (0 : Int32) then (fr_seeAccounts_b124 K2 M20 a0 a1 v2) else (gw_gu (gw_in v2 4) (gw_lt (M20.1 ((a0 + 1) + 1) v2.toNatClampNeg) (fun x35 => gw_gu (gw_in x35 8) (gw_gu (gw_in (r14 + (2 : Int32)) 56) (gw_lt (gw_sL M20 (a0 + 5) ((r14 + (2 : Int32)).toNatClampNeg) ((M20.1 (a1 + 2) x35.toNatClampNeg).toInt64)) (fun M52 => gw_gu (gw_in x35 8) (gw_gu (gw_in (r14 + (3 : Int32)) 56) (gw_lt (gw_sL M52 (a0 + 5) ((r14 + (3 : Int32)).toNatClampNeg) ((M52.1 (a1 + 1) x35.toNatClampNeg).toInt64)) (fun M68 => gw_gu (gw_in x35 8) (gw_gu (gw_in (r14 + (4 : Int32)) 56) (gw_lt (gw_sL M68 (a0 + 5) ((r14 + (4 : Int32)).toNatClampNeg) ((M68.1 (a1 + 3) x35.toNatClampNeg).toInt64)) (fun M84 => fr_seeAccounts_l88 K2 2100 M84 a0 a1 v2 r14 x35 (0 : Int32))))))))))))))))
def fr_seeAccounts_l2 : Nat → gw_M → Nat → Nat → Int32 → Option (Unit × gw_M)
  | 0 => fun _ _ _ _ => none
  | n + 1 => fr_seeAccounts_b2  (fr_seeAccounts_l2  n)
def fr_seeAccounts_b0 (M : gw_M) (a0 : Nat) (a1 : Nat) : Option (Unit × gw_M) :=
  fr_seeAccounts_l2  2100 M a0 a1 (0 : Int32)
set_option maxRecDepth 100000 in
set_option maxHeartbeats 4000000 in
theorem wb_fr_seeAccounts_124 {p : Program} {l : Launch} {e : Env} {s : State} {m : MethodId} {args : Array Value} {below : List Frame} {meth : Method} {c : Code} {X : gw_X} {Y : gw_M} {z : (Unit × gw_M)} (C0 : gw_C ((Cond.code yy_fr_seeAccounts by_fr_seeAccounts 6 none) :: gw_w) by_fr_seeAccounts 6 none "AccountMachine$Frame" X p s m args meth c) {K2 : gw_M → Nat → Nat → Int32 → Option (Unit × gw_M)} (hK2 : ∀ (M : gw_M) (a0 : Nat) (a1 : Nat) (v2 : Int32) (H : Heap) (locs : List Loc) (ls : Array Slot), gc_k a0 = (6, 0) → gc_k a1 = (3, 0) → gw_G X (gw_E X M Y) s H locs → lv_has ls 6 [(0, .ref (gc_a X a0)), (1, .ref (gc_a X a1)), (2, .int v2)] → K2 M a0 a1 v2 = some z → W p l e rm_fr_seeAccounts s m args below meth c H locs 0 0 (MQ below (gw_Qv X (fun M => (gw_E X M Y)) z) args s 0 0 (gw_A X)) (F0 m 2 ls [])) (M : gw_M) (a0 : Nat) (a1 : Nat) (v2 : Int32) (H : Heap) (locs : List Loc) (ls : Array Slot) (ha0 : gc_k a0 = (6, 0)) (ha1 : gc_k a1 = (3, 0)) (G : gw_G X (gw_E X M Y) s H locs) (hl : lv_has ls 6 [(0, .ref (gc_a X a0)), (1, .ref (gc_a X a1)), (2, .int v2)]) (hF : fr_seeAccounts_b124 K2 M a0 a1 v2 = some z) : W p l e rm_fr_seeAccounts s m args below meth c H locs 0 0 (MQ below (gw_Qv X (fun M => (gw_E X M Y)) z) args s 0 0 (gw_A X)) (F0 m 124 ls []) := by
  obtain ⟨hx, hb, hml, hown, hts, hr, hlocks, hK⟩ := id C0
  have hg : ∀ w ∈ gw_w, w.before args s = true := fun w h => hts w (List.mem_cons_of_mem _ h)
  unfold fr_seeAccounts_b124 at hF
  refine lv_iinc (k := 2) (v := v2 + (1 : Int32)) (lv' := [(2, .int (v2 + (1 : Int32))), (0, .ref (gc_a X a0)), (1, .ref (gc_a X a1))]) hx hb dd_fr_seeAccounts_124 hl rfl rfl (by decide) rfl (fun ls hl => ?_)
  refine lv_goto (tgt := 2) hx hb dd_fr_seeAccounts_127 (by decide) ?_
  exact hK2 M a0 a1 (v2 + (1 : Int32)) _ _ _ ha0 ha1 G (lv_sub hl [1, 2, 0] rfl) hF
set_option maxRecDepth 100000 in
set_option maxHeartbeats 4000000 in
theorem wb_fr_seeAccounts_88 {p : Program} {l : Launch} {e : Env} {s : State} {m : MethodId} {args : Array Value} {below : List Frame} {meth : Method} {c : Code} {X : gw_X} {Y : gw_M} {z : (Unit × gw_M)} (C0 : gw_C ((Cond.code yy_fr_seeAccounts by_fr_seeAccounts 6 none) :: gw_w) by_fr_seeAccounts 6 none "AccountMachine$Frame" X p s m args meth c) {K2 : gw_M → Nat → Nat → Int32 → Option (Unit × gw_M)} {K88 : gw_M → Nat → Nat → Int32 → Int32 → Int32 → Int32 → Option (Unit × gw_M)} (hK2 : ∀ (M : gw_M) (a0 : Nat) (a1 : Nat) (v2 : Int32) (H : Heap) (locs : List Loc) (ls : Array Slot), gc_k a0 = (6, 0) → gc_k a1 = (3, 0) → gw_G X (gw_E X M Y) s H locs → lv_has ls 6 [(0, .ref (gc_a X a0)), (1, .ref (gc_a X a1)), (2, .int v2)] → K2 M a0 a1 v2 = some z → W p l e rm_fr_seeAccounts s m args below meth c H locs 0 0 (MQ below (gw_Qv X (fun M => (gw_E X M Y)) z) args s 0 0 (gw_A X)) (F0 m 2 ls [])) (hK88 : ∀ (M : gw_M) (a0 : Nat) (a1 : Nat) (v2 : Int32) (v3 : Int32) (v4 : Int32) (v5 : Int32) (H : Heap) (locs : List Loc) (ls : Array Slot), gc_k a0 = (6, 0) → gc_k a1 = (3, 0) → gw_G X (gw_E X M Y) s H locs → lv_has ls 6 [(0, .ref (gc_a X a0)), (1, .ref (gc_a X a1)), (2, .int v2), (3, .int v3), (4, .int v4), (5, .int v5)] → K88 M a0 a1 v2 v3 v4 v5 = some z → W p l e rm_fr_seeAccounts s m args below meth c H locs 0 0 (MQ below (gw_Qv X (fun M => (gw_E X M Y)) z) args s 0 0 (gw_A X)) (F0 m 88 ls [])) (M : gw_M) (a0 : Nat) (a1 : Nat) (v2 : Int32) (v3 : Int32) (v4 : Int32) (v5 : Int32) (H : Heap) (locs : List Loc) (ls : Array Slot) (ha0 : gc_k a0 = (6, 0)) (ha1 : gc_k a1 = (3, 0)) (G : gw_G X (gw_E X M Y) s H locs) (hl : lv_has ls 6 [(0, .ref (gc_a X a0)), (1, .ref (gc_a X a1)), (2, .int v2), (3, .int v3), (4, .int v4), (5, .int v5)]) (hF : fr_seeAccounts_b88 K2 K88 M a0 a1 v2 v3 v4 v5 = some z) : W p l e rm_fr_seeAccounts s m args below meth c H locs 0 0 (MQ below (gw_Qv X (fun M => (gw_E X M Y)) z) args s 0 0 (gw_A X)) (F0 m 88 ls []) := by
  obtain ⟨hx, hb, hml, hown, hts, hr, hlocks, hK⟩ := id C0
  have hg : ∀ w ∈ gw_w, w.before args s = true := fun w h => hts w (List.mem_cons_of_mem _ h)
  unfold fr_seeAccounts_b88 at hF
  refine lv_iload hx hb dd_fr_seeAccounts_88 (lv_at hl 5 rfl) ?_
  refine lv_iconst (v := (4 : Int32)) hx hb dd_fr_seeAccounts_90 (by decide) ?_
  refine lv_icmp_ge (tgt := 124) hx hb dd_fr_seeAccounts_91 (by decide) (fun h91 => ?_) (fun h91 => ?_)
  · replace hF := gw_et h91 hF
    exact wb_fr_seeAccounts_124 C0 hK2 M a0 a1 v2 _ _ _ ha0 ha1 G (lv_sub hl [0, 1, 2] rfl) hF
  · replace hF := gw_ef h91 hF
    refine lv_aload_n hx hb dd_fr_seeAccounts_94 rfl (lv_at hl 0 rfl) ?_
    refine gf_fr_memory hx hb hg hown (hg _ kw_3) hK G ha0 dd_fr_seeAccounts_95 ?_
    refine lv_iload_n hx hb dd_fr_seeAccounts_98 rfl (lv_at hl 3 rfl) ?_
    refine lv_iconst (v := (5 : Int32)) hx hb dd_fr_seeAccounts_99 (by decide) ?_
    refine lv_iadd hx hb dd_fr_seeAccounts_100 ?_
    refine lv_iload hx hb dd_fr_seeAccounts_101 (lv_at hl 5 rfl) ?_
    refine lv_iadd hx hb dd_fr_seeAccounts_103 ?_
    refine lv_aload_n hx hb dd_fr_seeAccounts_104 rfl (lv_at hl 1 rfl) ?_
    refine gn_le_words hx hb hg hown (gw_nw hK kn_0) hK G ha1 dd_fr_seeAccounts_105 ?_
    refine W.eq (g2 := F0 m 108 _ _) rfl ?_
    refine lv_iload hx hb dd_fr_seeAccounts_108 (lv_at hl 4 rfl) ?_
    refine lv_iconst (v := (4 : Int32)) hx hb dd_fr_seeAccounts_110 (by decide) ?_
    refine lv_imul hx hb dd_fr_seeAccounts_111 ?_
    refine lv_iload hx hb dd_fr_seeAccounts_112 (lv_at hl 5 rfl) ?_
    refine lv_iadd hx hb dd_fr_seeAccounts_114 ?_
    obtain ⟨h115, hF⟩ := gw_gd hF
    refine gc_iald hx hb hK G (gq_le_words ha1) (gw_vp h115) (j := ((v4 * (4 : Int32)) + v5).toNatClampNeg) rfl dd_fr_seeAccounts_115 ?_
    refine lv_i2l (v := (M.1 (a1 + 4) (((v4 * (4 : Int32)) + v5).toNatClampNeg)).toInt64) hx hb dd_fr_seeAccounts_116 rfl ?_
    obtain ⟨h117, hF⟩ := gw_gd hF
    refine gc_last hx hb hK G (gq_fr_memory ha0) (gw_vp h117) (j := ((v3 + (5 : Int32)) + v5).toNatClampNeg) rfl dd_fr_seeAccounts_117 (fun M117 H locs e117 G => ?_)
    replace hF := gw_ly e117 hF
    refine lv_iinc (k := 5) (v := v5 + (1 : Int32)) (lv' := [(5, .int (v5 + (1 : Int32))), (0, .ref (gc_a X a0)), (1, .ref (gc_a X a1)), (2, .int v2), (3, .int v3), (4, .int v4)]) hx hb dd_fr_seeAccounts_118 hl rfl rfl (by decide) rfl (fun ls hl => ?_)
    refine lv_goto (tgt := 88) hx hb dd_fr_seeAccounts_121 (by decide) ?_
    exact hK88 M117 a0 a1 v2 v3 v4 (v5 + (1 : Int32)) _ _ _ ha0 ha1 G (lv_sub hl [1, 2, 3, 4, 5, 0] rfl) hF
theorem wl_fr_seeAccounts_88 {p : Program} {l : Launch} {e : Env} {s : State} {m : MethodId} {args : Array Value} {below : List Frame} {meth : Method} {c : Code} {X : gw_X} {Y : gw_M} {z : (Unit × gw_M)} (C0 : gw_C ((Cond.code yy_fr_seeAccounts by_fr_seeAccounts 6 none) :: gw_w) by_fr_seeAccounts 6 none "AccountMachine$Frame" X p s m args meth c) {K2 : gw_M → Nat → Nat → Int32 → Option (Unit × gw_M)} (hK2 : ∀ (M : gw_M) (a0 : Nat) (a1 : Nat) (v2 : Int32) (H : Heap) (locs : List Loc) (ls : Array Slot), gc_k a0 = (6, 0) → gc_k a1 = (3, 0) → gw_G X (gw_E X M Y) s H locs → lv_has ls 6 [(0, .ref (gc_a X a0)), (1, .ref (gc_a X a1)), (2, .int v2)] → K2 M a0 a1 v2 = some z → W p l e rm_fr_seeAccounts s m args below meth c H locs 0 0 (MQ below (gw_Qv X (fun M => (gw_E X M Y)) z) args s 0 0 (gw_A X)) (F0 m 2 ls [])) : ∀ n : Nat, ∀ (M : gw_M) (a0 : Nat) (a1 : Nat) (v2 : Int32) (v3 : Int32) (v4 : Int32) (v5 : Int32) (H : Heap) (locs : List Loc) (ls : Array Slot), gc_k a0 = (6, 0) → gc_k a1 = (3, 0) → gw_G X (gw_E X M Y) s H locs → lv_has ls 6 [(0, .ref (gc_a X a0)), (1, .ref (gc_a X a1)), (2, .int v2), (3, .int v3), (4, .int v4), (5, .int v5)] → fr_seeAccounts_l88 K2 n M a0 a1 v2 v3 v4 v5 = some z → W p l e rm_fr_seeAccounts s m args below meth c H locs 0 0 (MQ below (gw_Qv X (fun M => (gw_E X M Y)) z) args s 0 0 (gw_A X)) (F0 m 88 ls []) := by
  intro n
  induction n with
  | zero =>
    intro M a0 a1 v2 v3 v4 v5 H locs ls ha0 ha1 G hl hF
    have hF : (none : Option (Unit × gw_M)) = some z := hF
    cases hF
  | succ n ih =>
    intro M a0 a1 v2 v3 v4 v5 H locs ls ha0 ha1 G hl hF
    exact wb_fr_seeAccounts_88 C0 hK2 ih M a0 a1 v2 v3 v4 v5 H locs ls ha0 ha1 G hl hF
set_option maxRecDepth 100000 in
set_option maxHeartbeats 4000000 in
theorem wb_fr_seeAccounts_2 {p : Program} {l : Launch} {e : Env} {s : State} {m : MethodId} {args : Array Value} {below : List Frame} {meth : Method} {c : Code} {X : gw_X} {Y : gw_M} {z : (Unit × gw_M)} (C0 : gw_C ((Cond.code yy_fr_seeAccounts by_fr_seeAccounts 6 none) :: gw_w) by_fr_seeAccounts 6 none "AccountMachine$Frame" X p s m args meth c) {K2 : gw_M → Nat → Nat → Int32 → Option (Unit × gw_M)} (hK2 : ∀ (M : gw_M) (a0 : Nat) (a1 : Nat) (v2 : Int32) (H : Heap) (locs : List Loc) (ls : Array Slot), gc_k a0 = (6, 0) → gc_k a1 = (3, 0) → gw_G X (gw_E X M Y) s H locs → lv_has ls 6 [(0, .ref (gc_a X a0)), (1, .ref (gc_a X a1)), (2, .int v2)] → K2 M a0 a1 v2 = some z → W p l e rm_fr_seeAccounts s m args below meth c H locs 0 0 (MQ below (gw_Qv X (fun M => (gw_E X M Y)) z) args s 0 0 (gw_A X)) (F0 m 2 ls [])) (M : gw_M) (a0 : Nat) (a1 : Nat) (v2 : Int32) (H : Heap) (locs : List Loc) (ls : Array Slot) (ha0 : gc_k a0 = (6, 0)) (ha1 : gc_k a1 = (3, 0)) (G : gw_G X (gw_E X M Y) s H locs) (hl : lv_has ls 6 [(0, .ref (gc_a X a0)), (1, .ref (gc_a X a1)), (2, .int v2)]) (hF : fr_seeAccounts_b2 K2 M a0 a1 v2 = some z) : W p l e rm_fr_seeAccounts s m args below meth c H locs 0 0 (MQ below (gw_Qv X (fun M => (gw_E X M Y)) z) args s 0 0 (gw_A X)) (F0 m 2 ls []) := by
  obtain ⟨hx, hb, hml, hown, hts, hr, hlocks, hK⟩ := id C0
  have hg : ∀ w ∈ gw_w, w.before args s = true := fun w h => hts w (List.mem_cons_of_mem _ h)
  unfold fr_seeAccounts_b2 at hF
  refine lv_iload_n hx hb dd_fr_seeAccounts_2 rfl (lv_at hl 2 rfl) ?_
  refine lv_aload_n hx hb dd_fr_seeAccounts_3 rfl (lv_at hl 0 rfl) ?_
  refine gf_fr_order hx hb hg hown (hg _ kw_4) hK G ha0 dd_fr_seeAccounts_4 ?_
  refine gn_od_count hx hb hg hown (gw_nw hK kn_1) hK G (gq_fr_order ha0) dd_fr_seeAccounts_7 ?_
  refine lv_icmp_ge (tgt := 130) hx hb dd_fr_seeAccounts_10 (by decide) (fun h10 => ?_) (fun h10 => ?_)
  · replace hF := gw_et h10 hF
    exact W.vret hx hb hr (fun t ht hW => gw_endv (EF := (fun M => (gw_E X M Y))) (M := M) G ht hF) G.2.2.2.2 dd_fr_seeAccounts_130 hlocks
  · replace hF := gw_ef h10 hF
    refine lv_iload_n hx hb dd_fr_seeAccounts_13 rfl (lv_at hl 2 rfl) ?_
    obtain ⟨r14, M14, hc14, hF⟩ := gw_be hF
    refine gw_ci G (va_runS (As := [.int v2]) (rest := []) ⟨hx, hb, hml, hown, hts⟩ (ct_fr_baseOf l X Y M v2  _ hc14) (cwS 1 hts (gw_gS kw_6 kw_7 kw_8 kw_5) rfl rfl rfl (by decide +kernel) ⟨Nat.le_of_ble_eq_true rfl, Nat.le_of_ble_eq_true rfl⟩) ⟨gw_blind, gw_pre hK G⟩ rfl rfl hl.1 rfl (Nat.le_of_ble_eq_true rfl) dd_fr_seeAccounts_14 ⟨Nat.le_of_ble_eq_true rfl, Nat.le_of_ble_eq_true rfl⟩) (fun H locs G => ?_)
    refine lv_istore_n (i := 3) (lv' := [(3, .int r14), (0, .ref (gc_a X a0)), (1, .ref (gc_a X a1)), (2, .int v2)]) hx hb dd_fr_seeAccounts_17 rfl hl (by decide) rfl (fun ls hl => ?_)
    refine lv_aload_n hx hb dd_fr_seeAccounts_18 rfl (lv_at hl 1 rfl) ?_
    refine lv_iload_n hx hb dd_fr_seeAccounts_19 rfl (lv_at hl 0 rfl) ?_
    obtain ⟨r20, M20, hc20, hF⟩ := gw_be hF
    refine gw_ci G (va_runV (As := [.int r14]) (rest := []) ⟨hx, hb, hml, hown, hts⟩ (ct_fr_isMain l X Y M14 a0 r14 ha0 _ hc20) (cwV 1 hts (gw_gV kw_10 kw_11 kw_12 kw_8 kw_9) rfl rfl rfl (by decide +kernel) ⟨Nat.le_of_ble_eq_true rfl, Nat.le_of_ble_eq_true rfl⟩) ⟨gw_blind, gw_recv_fr hK G ha0, gw_pre hK G⟩ rfl rfl hl.1 rfl (Nat.le_of_ble_eq_true rfl) dd_fr_seeAccounts_20 ⟨Nat.le_of_ble_eq_true rfl, Nat.le_of_ble_eq_true rfl⟩) (fun H locs G => ?_)
    refine lv_if_eq (tgt := 124) hx hb dd_fr_seeAccounts_23 (by decide) (fun h23 => ?_) (fun h23 => ?_)
    · replace hF := gw_et h23 hF
      exact wb_fr_seeAccounts_124 C0 hK2 M20 a0 a1 v2 _ _ _ ha0 ha1 G (lv_sub hl [1, 2, 3] rfl) hF
    · replace hF := gw_ef h23 hF
      refine lv_aload_n hx hb dd_fr_seeAccounts_26 rfl (lv_at hl 1 rfl) ?_
      refine gf_fr_order hx hb hg hown (hg _ kw_4) hK G ha0 dd_fr_seeAccounts_27 ?_
      refine gn_od_accounts hx hb hg hown (gw_nw hK kn_2) hK G (gq_fr_order ha0) dd_fr_seeAccounts_30 ?_
      refine lv_iload_n hx hb dd_fr_seeAccounts_33 rfl (lv_at hl 3 rfl) ?_
      obtain ⟨h34, hF⟩ := gw_gd hF
      refine gc_iald hx hb hK G (gq_od_accounts (gq_fr_order ha0)) (gw_vp h34) (j := v2.toNatClampNeg) rfl dd_fr_seeAccounts_34 ?_
      refine lv_topi (fun x35 e35 => ?_)
      replace hF := gw_ly e35 hF
      refine lv_istore (i := 4) (lv' := [(4, .int x35), (3, .int r14), (0, .ref (gc_a X a0)), (1, .ref (gc_a X a1)), (2, .int v2)]) hx hb dd_fr_seeAccounts_35 hl (by decide) rfl (fun ls hl => ?_)
      refine lv_aload_n hx hb dd_fr_seeAccounts_37 rfl (lv_at hl 2 rfl) ?_
      refine gf_fr_memory hx hb hg hown (hg _ kw_3) hK G ha0 dd_fr_seeAccounts_38 ?_
      refine lv_iload_n hx hb dd_fr_seeAccounts_41 rfl (lv_at hl 1 rfl) ?_
      refine W.eq (g2 := F0 m 42 _ _) rfl ?_
      refine lv_iconst (v := (2 : Int32)) hx hb dd_fr_seeAccounts_42 (by decide) ?_
      refine lv_iadd hx hb dd_fr_seeAccounts_43 ?_
      refine lv_aload_n hx hb dd_fr_seeAccounts_44 rfl (lv_at hl 3 rfl) ?_
      refine gn_le_owners hx hb hg hown (gw_nw hK kn_3) hK G ha1 dd_fr_seeAccounts_45 ?_
      refine lv_iload hx hb dd_fr_seeAccounts_48 (lv_at hl 0 rfl) ?_
      obtain ⟨h50, hF⟩ := gw_gd hF
      refine gc_iald hx hb hK G (gq_le_owners ha1) (gw_vp h50) (j := x35.toNatClampNeg) rfl dd_fr_seeAccounts_50 ?_
      refine lv_i2l (v := (M20.1 (a1 + 2) x35.toNatClampNeg).toInt64) hx hb dd_fr_seeAccounts_51 rfl ?_
      obtain ⟨h52, hF⟩ := gw_gd hF
      refine gc_last hx hb hK G (gq_fr_memory ha0) (gw_vp h52) (j := (r14 + (2 : Int32)).toNatClampNeg) rfl dd_fr_seeAccounts_52 (fun M52 H locs e52 G => ?_)
      replace hF := gw_ly e52 hF
      refine lv_aload_n hx hb dd_fr_seeAccounts_53 rfl (lv_at hl 2 rfl) ?_
      refine gf_fr_memory hx hb hg hown (hg _ kw_3) hK G ha0 dd_fr_seeAccounts_54 ?_
      refine W.eq (g2 := F0 m 57 _ _) rfl ?_
      refine lv_iload_n hx hb dd_fr_seeAccounts_57 rfl (lv_at hl 1 rfl) ?_
      refine lv_iconst (v := (3 : Int32)) hx hb dd_fr_seeAccounts_58 (by decide) ?_
      refine lv_iadd hx hb dd_fr_seeAccounts_59 ?_
      refine lv_aload_n hx hb dd_fr_seeAccounts_60 rfl (lv_at hl 3 rfl) ?_
      refine gn_le_balances hx hb hg hown (gw_nw hK kn_4) hK G ha1 dd_fr_seeAccounts_61 ?_
      refine lv_iload hx hb dd_fr_seeAccounts_64 (lv_at hl 0 rfl) ?_
      obtain ⟨h66, hF⟩ := gw_gd hF
      refine gc_iald hx hb hK G (gq_le_balances ha1) (gw_vp h66) (j := x35.toNatClampNeg) rfl dd_fr_seeAccounts_66 ?_
      refine lv_i2l (v := (M52.1 (a1 + 1) x35.toNatClampNeg).toInt64) hx hb dd_fr_seeAccounts_67 rfl ?_
      obtain ⟨h68, hF⟩ := gw_gd hF
      refine gc_last hx hb hK G (gq_fr_memory ha0) (gw_vp h68) (j := (r14 + (3 : Int32)).toNatClampNeg) rfl dd_fr_seeAccounts_68 (fun M68 H locs e68 G => ?_)
      replace hF := gw_ly e68 hF
      refine lv_aload_n hx hb dd_fr_seeAccounts_69 rfl (lv_at hl 2 rfl) ?_
      refine W.eq (g2 := F0 m 70 _ _) rfl ?_
      refine gf_fr_memory hx hb hg hown (hg _ kw_3) hK G ha0 dd_fr_seeAccounts_70 ?_
      refine lv_iload_n hx hb dd_fr_seeAccounts_73 rfl (lv_at hl 1 rfl) ?_
      refine lv_iconst (v := (4 : Int32)) hx hb dd_fr_seeAccounts_74 (by decide) ?_
      refine lv_iadd hx hb dd_fr_seeAccounts_75 ?_
      refine lv_aload_n hx hb dd_fr_seeAccounts_76 rfl (lv_at hl 3 rfl) ?_
      refine gn_le_sizes hx hb hg hown (gw_nw hK kn_5) hK G ha1 dd_fr_seeAccounts_77 ?_
      refine lv_iload hx hb dd_fr_seeAccounts_80 (lv_at hl 0 rfl) ?_
      obtain ⟨h82, hF⟩ := gw_gd hF
      refine gc_iald hx hb hK G (gq_le_sizes ha1) (gw_vp h82) (j := x35.toNatClampNeg) rfl dd_fr_seeAccounts_82 ?_
      refine lv_i2l (v := (M68.1 (a1 + 3) x35.toNatClampNeg).toInt64) hx hb dd_fr_seeAccounts_83 rfl ?_
      obtain ⟨h84, hF⟩ := gw_gd hF
      refine gc_last hx hb hK G (gq_fr_memory ha0) (gw_vp h84) (j := (r14 + (4 : Int32)).toNatClampNeg) rfl dd_fr_seeAccounts_84 (fun M84 H locs e84 G => ?_)
      replace hF := gw_ly e84 hF
      refine W.eq (g2 := F0 m 85 _ _) rfl ?_
      refine lv_iconst (v := (0 : Int32)) hx hb dd_fr_seeAccounts_85 (by decide) ?_
      refine lv_istore (i := 5) (lv' := [(5, .int (0 : Int32)), (4, .int x35), (3, .int r14), (0, .ref (gc_a X a0)), (1, .ref (gc_a X a1)), (2, .int v2)]) hx hb dd_fr_seeAccounts_86 hl (by decide) rfl (fun ls hl => ?_)
      exact wl_fr_seeAccounts_88 C0 hK2 2100 M84 a0 a1 v2 r14 x35 (0 : Int32) _ _ _ ha0 ha1 G (lv_sub hl [3, 4, 5, 2, 1, 0] rfl) hF
theorem wl_fr_seeAccounts_2 {p : Program} {l : Launch} {e : Env} {s : State} {m : MethodId} {args : Array Value} {below : List Frame} {meth : Method} {c : Code} {X : gw_X} {Y : gw_M} {z : (Unit × gw_M)} (C0 : gw_C ((Cond.code yy_fr_seeAccounts by_fr_seeAccounts 6 none) :: gw_w) by_fr_seeAccounts 6 none "AccountMachine$Frame" X p s m args meth c) : ∀ n : Nat, ∀ (M : gw_M) (a0 : Nat) (a1 : Nat) (v2 : Int32) (H : Heap) (locs : List Loc) (ls : Array Slot), gc_k a0 = (6, 0) → gc_k a1 = (3, 0) → gw_G X (gw_E X M Y) s H locs → lv_has ls 6 [(0, .ref (gc_a X a0)), (1, .ref (gc_a X a1)), (2, .int v2)] → fr_seeAccounts_l2  n M a0 a1 v2 = some z → W p l e rm_fr_seeAccounts s m args below meth c H locs 0 0 (MQ below (gw_Qv X (fun M => (gw_E X M Y)) z) args s 0 0 (gw_A X)) (F0 m 2 ls []) := by
  intro n
  induction n with
  | zero =>
    intro M a0 a1 v2 H locs ls ha0 ha1 G hl hF
    have hF : (none : Option (Unit × gw_M)) = some z := hF
    cases hF
  | succ n ih =>
    intro M a0 a1 v2 H locs ls ha0 ha1 G hl hF
    exact wb_fr_seeAccounts_2 C0  ih M a0 a1 v2 H locs ls ha0 ha1 G hl hF
set_option maxRecDepth 100000 in
set_option maxHeartbeats 4000000 in
theorem wb_fr_seeAccounts_0 {p : Program} {l : Launch} {e : Env} {s : State} {m : MethodId} {args : Array Value} {below : List Frame} {meth : Method} {c : Code} {X : gw_X} {Y : gw_M} {z : (Unit × gw_M)} (C0 : gw_C ((Cond.code yy_fr_seeAccounts by_fr_seeAccounts 6 none) :: gw_w) by_fr_seeAccounts 6 none "AccountMachine$Frame" X p s m args meth c) (M : gw_M) (a0 : Nat) (a1 : Nat) (H : Heap) (locs : List Loc) (ls : Array Slot) (ha0 : gc_k a0 = (6, 0)) (ha1 : gc_k a1 = (3, 0)) (G : gw_G X (gw_E X M Y) s H locs) (hl : lv_has ls 6 [(0, .ref (gc_a X a0)), (1, .ref (gc_a X a1))]) (hF : fr_seeAccounts_b0  M a0 a1 = some z) : W p l e rm_fr_seeAccounts s m args below meth c H locs 0 0 (MQ below (gw_Qv X (fun M => (gw_E X M Y)) z) args s 0 0 (gw_A X)) (F0 m 0 ls []) := by
  obtain ⟨hx, hb, hml, hown, hts, hr, hlocks, hK⟩ := id C0
  have hg : ∀ w ∈ gw_w, w.before args s = true := fun w h => hts w (List.mem_cons_of_mem _ h)
  unfold fr_seeAccounts_b0 at hF
  refine lv_iconst (v := (0 : Int32)) hx hb dd_fr_seeAccounts_0 (by decide) ?_
  refine lv_istore_n (i := 2) (lv' := [(2, .int (0 : Int32)), (0, .ref (gc_a X a0)), (1, .ref (gc_a X a1))]) hx hb dd_fr_seeAccounts_1 rfl hl (by decide) rfl (fun ls hl => ?_)
  exact wl_fr_seeAccounts_2 C0  2100 M a0 a1 (0 : Int32) _ _ _ ha0 ha1 G (lv_sub hl [1, 2, 0] rfl) hF
set_option maxRecDepth 100000 in
set_option maxHeartbeats 4000000 in
theorem ct_fr_seeAccounts (l : Launch) (X : gw_X) (Y : gw_M) (M : gw_M) (a0 : Nat) (a1 : Nat) (ha0 : gc_k a0 = (6, 0)) (ha1 : gc_k a1 = (3, 0)) (z : (Unit × gw_M)) (hF : fr_seeAccounts_b0 M a0 a1 = some z) : Met l yy_fr_seeAccounts ((Cond.code yy_fr_seeAccounts by_fr_seeAccounts 6 none) :: gw_w) rm_fr_seeAccounts (va_Pc [.ref (gc_a X a0), .ref (gc_a X a1)] (gw_B X (gw_E X M Y))) (gw_Qv X (fun M => (gw_E X M Y)) z) 0 0 (gw_A X) := by
  refine Met.ofW (cc := by_fr_seeAccounts) (maxL := 6) (ret := none) (by decide) rfl ?_
  intro p e s m args below meth c s₁ B hml hv
  obtain ⟨rfl, hB⟩ := hv
  rw [lg_entry_eq]
  have hl := lv_entry ([.ref (gc_a X a0), .ref (gc_a X a1)]) (n := 6) (Nat.le_of_ble_eq_true rfl)
  generalize (lg_sl ([.ref (gc_a X a0), .ref (gc_a X a1)]) ++ List.replicate (6 - (lg_sl ([.ref (gc_a X a0), .ref (gc_a X a1)])).length) Slot.unset).toArray = ls at hl ⊢
  have hl : lv_has ls 6 [(0, .ref (gc_a X a0)), (1, .ref (gc_a X a1))] := hl
  exact wb_fr_seeAccounts_0 (gw_ctx B hml rfl hB) M a0 a1 _ _ _ ha0 ha1 (gw_start hB) hl hF
/-! AccountMachine$Frame.begin(LAccountMachine$Ledger;)V -/
abbrev rm_fr_begin : Room := { frames := 2, cells := 0, slots := 0, locals := 46 }
theorem dd_fr_begin_0 : decode by_fr_begin 0 = .ok (.aload_n 0, 1) := by decide +kernel
theorem dd_fr_begin_1 : decode by_fr_begin 1 = .ok (.getfield 22, 3) := by decide +kernel
theorem dd_fr_begin_4 : decode by_fr_begin 4 = .ok (.lconst 0, 1) := by decide +kernel
theorem dd_fr_begin_5 : decode by_fr_begin 5 = .ok (.invokestatic 36, 3) := by decide +kernel
theorem dd_fr_begin_8 : decode by_fr_begin 8 = .ok (.aload_n 0, 1) := by decide +kernel
theorem dd_fr_begin_9 : decode by_fr_begin 9 = .ok (.getfield 18, 3) := by decide +kernel
theorem dd_fr_begin_12 : decode by_fr_begin 12 = .ok (.lconst 0, 1) := by decide +kernel
theorem dd_fr_begin_13 : decode by_fr_begin 13 = .ok (.invokestatic 36, 3) := by decide +kernel
theorem dd_fr_begin_16 : decode by_fr_begin 16 = .ok (.aload_n 0, 1) := by decide +kernel
theorem dd_fr_begin_17 : decode by_fr_begin 17 = .ok (.getfield 18, 3) := by decide +kernel
theorem dd_fr_begin_20 : decode by_fr_begin 20 = .ok (.iconst 1, 1) := by decide +kernel
theorem dd_fr_begin_21 : decode by_fr_begin 21 = .ok (.ldc2_w 42, 3) := by decide +kernel
theorem dd_fr_begin_24 : decode by_fr_begin 24 = .ok (.lastore, 1) := by decide +kernel
theorem dd_fr_begin_25 : decode by_fr_begin 25 = .ok (.aload_n 0, 1) := by decide +kernel
theorem dd_fr_begin_26 : decode by_fr_begin 26 = .ok (.getfield 18, 3) := by decide +kernel
theorem dd_fr_begin_29 : decode by_fr_begin 29 = .ok (.iconst 2, 1) := by decide +kernel
theorem dd_fr_begin_30 : decode by_fr_begin 30 = .ok (.aload_n 0, 1) := by decide +kernel
theorem dd_fr_begin_31 : decode by_fr_begin 31 = .ok (.getfield 12, 3) := by decide +kernel
theorem dd_fr_begin_34 : decode by_fr_begin 34 = .ok (.getfield 44, 3) := by decide +kernel
theorem dd_fr_begin_37 : decode by_fr_begin 37 = .ok (.i2l, 1) := by decide +kernel
theorem dd_fr_begin_38 : decode by_fr_begin 38 = .ok (.lastore, 1) := by decide +kernel
theorem dd_fr_begin_39 : decode by_fr_begin 39 = .ok (.aload_n 0, 1) := by decide +kernel
theorem dd_fr_begin_40 : decode by_fr_begin 40 = .ok (.getfield 18, 3) := by decide +kernel
theorem dd_fr_begin_43 : decode by_fr_begin 43 = .ok (.iconst 3, 1) := by decide +kernel
theorem dd_fr_begin_44 : decode by_fr_begin 44 = .ok (.aload_n 0, 1) := by decide +kernel
theorem dd_fr_begin_45 : decode by_fr_begin 45 = .ok (.getfield 12, 3) := by decide +kernel
theorem dd_fr_begin_48 : decode by_fr_begin 48 = .ok (.getfield 47, 3) := by decide +kernel
theorem dd_fr_begin_51 : decode by_fr_begin 51 = .ok (.i2l, 1) := by decide +kernel
theorem dd_fr_begin_52 : decode by_fr_begin 52 = .ok (.lastore, 1) := by decide +kernel
theorem dd_fr_begin_53 : decode by_fr_begin 53 = .ok (.aload_n 0, 1) := by decide +kernel
theorem dd_fr_begin_54 : decode by_fr_begin 54 = .ok (.iconst 0, 1) := by decide +kernel
theorem dd_fr_begin_55 : decode by_fr_begin 55 = .ok (.putfield 29, 3) := by decide +kernel
theorem dd_fr_begin_58 : decode by_fr_begin 58 = .ok (.aload_n 0, 1) := by decide +kernel
theorem dd_fr_begin_59 : decode by_fr_begin 59 = .ok (.iconst 0, 1) := by decide +kernel
theorem dd_fr_begin_60 : decode by_fr_begin 60 = .ok (.putfield 33, 3) := by decide +kernel
theorem dd_fr_begin_63 : decode by_fr_begin 63 = .ok (.iconst 0, 1) := by decide +kernel
theorem dd_fr_begin_64 : decode by_fr_begin 64 = .ok (.istore_n 2, 1) := by decide +kernel
theorem dd_fr_begin_65 : decode by_fr_begin 65 = .ok (.iload_n 2, 1) := by decide +kernel
theorem dd_fr_begin_66 : decode by_fr_begin 66 = .ok (.aload_n 0, 1) := by decide +kernel
theorem dd_fr_begin_67 : decode by_fr_begin 67 = .ok (.getfield 12, 3) := by decide +kernel
theorem dd_fr_begin_70 : decode by_fr_begin 70 = .ok (.getfield 44, 3) := by decide +kernel
theorem dd_fr_begin_73 : decode by_fr_begin 73 = .ok (.if_icmp .ge 86, 3) := by decide +kernel
theorem dd_fr_begin_76 : decode by_fr_begin 76 = .ok (.aload_n 0, 1) := by decide +kernel
theorem dd_fr_begin_77 : decode by_fr_begin 77 = .ok (.getfield 12, 3) := by decide +kernel
theorem dd_fr_begin_80 : decode by_fr_begin 80 = .ok (.getfield 50, 3) := by decide +kernel
theorem dd_fr_begin_83 : decode by_fr_begin 83 = .ok (.iload_n 2, 1) := by decide +kernel
theorem dd_fr_begin_84 : decode by_fr_begin 84 = .ok (.iaload, 1) := by decide +kernel
theorem dd_fr_begin_85 : decode by_fr_begin 85 = .ok (.istore_n 3, 1) := by decide +kernel
theorem dd_fr_begin_86 : decode by_fr_begin 86 = .ok (.aload_n 0, 1) := by decide +kernel
theorem dd_fr_begin_87 : decode by_fr_begin 87 = .ok (.getfield 12, 3) := by decide +kernel
theorem dd_fr_begin_90 : decode by_fr_begin 90 = .ok (.iload_n 3, 1) := by decide +kernel
theorem dd_fr_begin_91 : decode by_fr_begin 91 = .ok (.invokevirtual 53, 3) := by decide +kernel
theorem dd_fr_begin_94 : decode by_fr_begin 94 = .ok (.istore 4, 2) := by decide +kernel
theorem dd_fr_begin_96 : decode by_fr_begin 96 = .ok (.aload_n 0, 1) := by decide +kernel
theorem dd_fr_begin_97 : decode by_fr_begin 97 = .ok (.getfield 22, 3) := by decide +kernel
theorem dd_fr_begin_100 : decode by_fr_begin 100 = .ok (.iload_n 2, 1) := by decide +kernel
theorem dd_fr_begin_101 : decode by_fr_begin 101 = .ok (.invokestatic 57, 3) := by decide +kernel
theorem dd_fr_begin_104 : decode by_fr_begin 104 = .ok (.iconst 0, 1) := by decide +kernel
theorem dd_fr_begin_105 : decode by_fr_begin 105 = .ok (.iadd, 1) := by decide +kernel
theorem dd_fr_begin_106 : decode by_fr_begin 106 = .ok (.iload 4, 2) := by decide +kernel
theorem dd_fr_begin_108 : decode by_fr_begin 108 = .ok (.iload_n 2, 1) := by decide +kernel
theorem dd_fr_begin_109 : decode by_fr_begin 109 = .ok (.if_icmp .ne 8, 3) := by decide +kernel
theorem dd_fr_begin_112 : decode by_fr_begin 112 = .ok (.iload_n 3, 1) := by decide +kernel
theorem dd_fr_begin_113 : decode by_fr_begin 113 = .ok (.i2l, 1) := by decide +kernel
theorem dd_fr_begin_114 : decode by_fr_begin 114 = .ok (.goto 8, 3) := by decide +kernel
theorem dd_fr_begin_117 : decode by_fr_begin 117 = .ok (.iconst (-1), 1) := by decide +kernel
theorem dd_fr_begin_118 : decode by_fr_begin 118 = .ok (.iload 4, 2) := by decide +kernel
theorem dd_fr_begin_120 : decode by_fr_begin 120 = .ok (.isub, 1) := by decide +kernel
theorem dd_fr_begin_121 : decode by_fr_begin 121 = .ok (.i2l, 1) := by decide +kernel
theorem dd_fr_begin_122 : decode by_fr_begin 122 = .ok (.lastore, 1) := by decide +kernel
theorem dd_fr_begin_123 : decode by_fr_begin 123 = .ok (.aload_n 0, 1) := by decide +kernel
theorem dd_fr_begin_124 : decode by_fr_begin 124 = .ok (.getfield 22, 3) := by decide +kernel
theorem dd_fr_begin_127 : decode by_fr_begin 127 = .ok (.iload_n 2, 1) := by decide +kernel
theorem dd_fr_begin_128 : decode by_fr_begin 128 = .ok (.invokestatic 57, 3) := by decide +kernel
theorem dd_fr_begin_131 : decode by_fr_begin 131 = .ok (.iconst 1, 1) := by decide +kernel
theorem dd_fr_begin_132 : decode by_fr_begin 132 = .ok (.iadd, 1) := by decide +kernel
theorem dd_fr_begin_133 : decode by_fr_begin 133 = .ok (.iload 4, 2) := by decide +kernel
theorem dd_fr_begin_135 : decode by_fr_begin 135 = .ok (.iload_n 2, 1) := by decide +kernel
theorem dd_fr_begin_136 : decode by_fr_begin 136 = .ok (.if_icmp .ne 15, 3) := by decide +kernel
theorem dd_fr_begin_139 : decode by_fr_begin 139 = .ok (.aload_n 0, 1) := by decide +kernel
theorem dd_fr_begin_140 : decode by_fr_begin 140 = .ok (.getfield 12, 3) := by decide +kernel
theorem dd_fr_begin_143 : decode by_fr_begin 143 = .ok (.iload_n 3, 1) := by decide +kernel
theorem dd_fr_begin_144 : decode by_fr_begin 144 = .ok (.invokevirtual 60, 3) := by decide +kernel
theorem dd_fr_begin_147 : decode by_fr_begin 147 = .ok (.i2l, 1) := by decide +kernel
theorem dd_fr_begin_148 : decode by_fr_begin 148 = .ok (.goto 4, 3) := by decide +kernel
theorem dd_fr_begin_151 : decode by_fr_begin 151 = .ok (.lconst 0, 1) := by decide +kernel
theorem dd_fr_begin_152 : decode by_fr_begin 152 = .ok (.lastore, 1) := by decide +kernel
theorem dd_fr_begin_153 : decode by_fr_begin 153 = .ok (.iinc 2 1, 3) := by decide +kernel
theorem dd_fr_begin_156 : decode by_fr_begin 156 = .ok (.goto (-91), 3) := by decide +kernel
theorem dd_fr_begin_159 : decode by_fr_begin 159 = .ok (.aload_n 0, 1) := by decide +kernel
theorem dd_fr_begin_160 : decode by_fr_begin 160 = .ok (.aload_n 1, 1) := by decide +kernel
theorem dd_fr_begin_161 : decode by_fr_begin 161 = .ok (.invokevirtual 63, 3) := by decide +kernel
theorem dd_fr_begin_164 : decode by_fr_begin 164 = .ok (.return_, 1) := by decide +kernel
def fr_begin_b152 (K65 : gw_M → Nat → Nat → Int32 → Option (Unit × gw_M)) (M : gw_M) (a0 : Nat) (a1 : Nat) (v2 : Int32) (t0 : Int64) (t1 : Int32) (b2 : Nat) : Option (Unit × gw_M) :=
  gw_gu (gw_in t1 56) (gw_lt (gw_sL M b2 t1.toNatClampNeg t0) (fun M152 => K65 M152 a0 a1 (v2 + (1 : Int32))))
def fr_begin_b122 (K65 : gw_M → Nat → Nat → Int32 → Option (Unit × gw_M)) (M : gw_M) (a0 : Nat) (a1 : Nat) (v2 : Int32) (v3 : Int32) (v4 : Int32) (t0 : Int64) (t1 : Int32) (b2 : Nat) : Option (Unit × gw_M) :=
  gw_gu (gw_in t1 56) (gw_lt (gw_sL M b2 t1.toNatClampNeg t0) (fun M122 => gw_bd (fr_baseOf_b0 M122 v2) (fun r128 M128 => if v4 = v2 then (gw_bd (od_marksOf_b0 M128 (a0 + 1) v3) (fun r144 M144 => fr_begin_b152 K65 M144 a0 a1 v2 r144.toInt64 (r128 + (1 : Int32)) (a0 + 5))) else (fr_begin_b152 K65 M128 a0 a1 v2 (0 : Int64) (r128 + (1 : Int32)) (a0 + 5)))))
def fr_begin_b65 (K65 : gw_M → Nat → Nat → Int32 → Option (Unit × gw_M)) (M : gw_M) (a0 : Nat) (a1 : Nat) (v2 : Int32) : Option (Unit × gw_M) :=
  if (M.1 (a0 + 1) 2) ≤ v2 then (gw_bd (fr_seeAccounts_b0 M a0 a1) (fun _ M161 => some ((), M161))) else (gw_gu (gw_in v2 4) (gw_lt (M.1 ((a0 + 1) + 1) v2.toNatClampNeg) (fun x85 => gw_bd (od_mainSlotOf_b0 M (a0 + 1) x85) (fun r91 M91 => gw_bd (fr_baseOf_b0 M91 v2) (fun r101 M101 => if r91 = v2 then (fr_begin_b122 K65 M101 a0 a1 v2 x85 r91 x85.toInt64 (r101 + (0 : Int32)) (a0 + 5)) else (fr_begin_b122 K65 M101 a0 a1 v2 x85 r91 (((-1 : Int32) - r91).toInt64) (r101 + (0 : Int32)) (a0 + 5)))))))
def fr_begin_l65 : Nat → gw_M → Nat → Nat → Int32 → Option (Unit × gw_M)
  | 0 => fun _ _ _ _ => none
  | n + 1 => fr_begin_b65  (fr_begin_l65  n)
def fr_begin_b0 (M : gw_M) (a0 : Nat) (a1 : Nat) : Option (Unit × gw_M) :=
  gw_bd (ar_fillL_b0 M 56 (a0 + 5) (0 : Int64)) (fun _ M5 => gw_bd (ar_fillL_b0 M5 10 (a0 + 4) (0 : Int64)) (fun _ M13 => gw_lt (gw_sL M13 (a0 + 4) 1 (2000 : Int64)) (fun M24 => gw_lt (gw_sL M24 (a0 + 4) 2 ((M24.1 (a0 + 1) 2).toInt64)) (fun M38 => gw_lt (gw_sL M38 (a0 + 4) 3 ((M38.1 (a0 + 1) 1).toInt64)) (fun M52 => gw_lt (gw_sI M52 a0 4 (0 : Int32)) (fun M55 => gw_lt (gw_sI M55 a0 5 (0 : Int32)) (fun M60 => fr_begin_l65  2100 M60 a0 a1 (0 : Int32))))))))
set_option maxRecDepth 100000 in
set_option maxHeartbeats 4000000 in
theorem wb_fr_begin_152 {p : Program} {l : Launch} {e : Env} {s : State} {m : MethodId} {args : Array Value} {below : List Frame} {meth : Method} {c : Code} {X : gw_X} {Y : gw_M} {z : (Unit × gw_M)} (C0 : gw_C ((Cond.code yy_fr_begin by_fr_begin 5 none) :: gw_w) by_fr_begin 5 none "AccountMachine$Frame" X p s m args meth c) {K65 : gw_M → Nat → Nat → Int32 → Option (Unit × gw_M)} (hK65 : ∀ (M : gw_M) (a0 : Nat) (a1 : Nat) (v2 : Int32) (H : Heap) (locs : List Loc) (ls : Array Slot), gc_k a0 = (6, 0) → gc_k a1 = (3, 0) → gw_G X (gw_E X M Y) s H locs → lv_has ls 5 [(0, .ref (gc_a X a0)), (1, .ref (gc_a X a1)), (2, .int v2)] → K65 M a0 a1 v2 = some z → W p l e rm_fr_begin s m args below meth c H locs 0 0 (MQ below (gw_Qv X (fun M => (gw_E X M Y)) z) args s 0 0 (gw_A X)) (F0 m 65 ls [])) (M : gw_M) (a0 : Nat) (a1 : Nat) (v2 : Int32) (t0 : Int64) (t1 : Int32) (b2 : Nat) (H : Heap) (locs : List Loc) (ls : Array Slot) (ha0 : gc_k a0 = (6, 0)) (ha1 : gc_k a1 = (3, 0)) (hb2 : gc_k b2 = (1, 56)) (G : gw_G X (gw_E X M Y) s H locs) (hl : lv_has ls 5 [(0, .ref (gc_a X a0)), (1, .ref (gc_a X a1)), (2, .int v2)]) (hF : fr_begin_b152 K65 M a0 a1 v2 t0 t1 b2 = some z) : W p l e rm_fr_begin s m args below meth c H locs 0 0 (MQ below (gw_Qv X (fun M => (gw_E X M Y)) z) args s 0 0 (gw_A X)) (F0 m 152 ls [.long t0, .int t1, .ref (gc_a X b2)]) := by
  obtain ⟨hx, hb, hml, hown, hts, hr, hlocks, hK⟩ := id C0
  have hg : ∀ w ∈ gw_w, w.before args s = true := fun w h => hts w (List.mem_cons_of_mem _ h)
  unfold fr_begin_b152 at hF
  obtain ⟨h152, hF⟩ := gw_gd hF
  refine gc_last hx hb hK G hb2 (gw_vp h152) (j := t1.toNatClampNeg) rfl dd_fr_begin_152 (fun M152 H locs e152 G => ?_)
  replace hF := gw_ly e152 hF
  refine lv_iinc (k := 2) (v := v2 + (1 : Int32)) (lv' := [(2, .int (v2 + (1 : Int32))), (0, .ref (gc_a X a0)), (1, .ref (gc_a X a1))]) hx hb dd_fr_begin_153 hl rfl rfl (by decide) rfl (fun ls hl => ?_)
  refine lv_goto (tgt := 65) hx hb dd_fr_begin_156 (by decide) ?_
  exact hK65 M152 a0 a1 (v2 + (1 : Int32)) _ _ _ ha0 ha1 G (lv_sub hl [1, 2, 0] rfl) hF
set_option maxRecDepth 100000 in
set_option maxHeartbeats 4000000 in
theorem wb_fr_begin_122 {p : Program} {l : Launch} {e : Env} {s : State} {m : MethodId} {args : Array Value} {below : List Frame} {meth : Method} {c : Code} {X : gw_X} {Y : gw_M} {z : (Unit × gw_M)} (C0 : gw_C ((Cond.code yy_fr_begin by_fr_begin 5 none) :: gw_w) by_fr_begin 5 none "AccountMachine$Frame" X p s m args meth c) {K65 : gw_M → Nat → Nat → Int32 → Option (Unit × gw_M)} (hK65 : ∀ (M : gw_M) (a0 : Nat) (a1 : Nat) (v2 : Int32) (H : Heap) (locs : List Loc) (ls : Array Slot), gc_k a0 = (6, 0) → gc_k a1 = (3, 0) → gw_G X (gw_E X M Y) s H locs → lv_has ls 5 [(0, .ref (gc_a X a0)), (1, .ref (gc_a X a1)), (2, .int v2)] → K65 M a0 a1 v2 = some z → W p l e rm_fr_begin s m args below meth c H locs 0 0 (MQ below (gw_Qv X (fun M => (gw_E X M Y)) z) args s 0 0 (gw_A X)) (F0 m 65 ls [])) (M : gw_M) (a0 : Nat) (a1 : Nat) (v2 : Int32) (v3 : Int32) (v4 : Int32) (t0 : Int64) (t1 : Int32) (b2 : Nat) (H : Heap) (locs : List Loc) (ls : Array Slot) (ha0 : gc_k a0 = (6, 0)) (ha1 : gc_k a1 = (3, 0)) (hb2 : gc_k b2 = (1, 56)) (G : gw_G X (gw_E X M Y) s H locs) (hl : lv_has ls 5 [(0, .ref (gc_a X a0)), (1, .ref (gc_a X a1)), (2, .int v2), (3, .int v3), (4, .int v4)]) (hF : fr_begin_b122 K65 M a0 a1 v2 v3 v4 t0 t1 b2 = some z) : W p l e rm_fr_begin s m args below meth c H locs 0 0 (MQ below (gw_Qv X (fun M => (gw_E X M Y)) z) args s 0 0 (gw_A X)) (F0 m 122 ls [.long t0, .int t1, .ref (gc_a X b2)]) := by
  obtain ⟨hx, hb, hml, hown, hts, hr, hlocks, hK⟩ := id C0
  have hg : ∀ w ∈ gw_w, w.before args s = true := fun w h => hts w (List.mem_cons_of_mem _ h)
  unfold fr_begin_b122 at hF
  obtain ⟨h122, hF⟩ := gw_gd hF
  refine gc_last hx hb hK G hb2 (gw_vp h122) (j := t1.toNatClampNeg) rfl dd_fr_begin_122 (fun M122 H locs e122 G => ?_)
  replace hF := gw_ly e122 hF
  refine lv_aload_n hx hb dd_fr_begin_123 rfl (lv_at hl 0 rfl) ?_
  refine gf_fr_memory hx hb hg hown (hg _ kw_3) hK G ha0 dd_fr_begin_124 ?_
  refine lv_iload_n hx hb dd_fr_begin_127 rfl (lv_at hl 2 rfl) ?_
  obtain ⟨r128, M128, hc128, hF⟩ := gw_be hF
  refine gw_ci G (va_runS (As := [.int v2]) (rest := [.ref (gc_a X (a0 + 5))]) ⟨hx, hb, hml, hown, hts⟩ (ct_fr_baseOf l X Y M122 v2  _ hc128) (cwS 1 hts (gw_gS kw_6 kw_7 kw_8 kw_5) rfl rfl rfl (by decide +kernel) ⟨Nat.le_of_ble_eq_true rfl, Nat.le_of_ble_eq_true rfl⟩) ⟨gw_blind, gw_pre hK G⟩ rfl rfl hl.1 rfl (Nat.le_of_ble_eq_true rfl) dd_fr_begin_128 ⟨Nat.le_of_ble_eq_true rfl, Nat.le_of_ble_eq_true rfl⟩) (fun H locs G => ?_)
  refine lv_iconst (v := (1 : Int32)) hx hb dd_fr_begin_131 (by decide) ?_
  refine lv_iadd hx hb dd_fr_begin_132 ?_
  refine lv_iload hx hb dd_fr_begin_133 (lv_at hl 4 rfl) ?_
  refine lv_iload_n hx hb dd_fr_begin_135 rfl (lv_at hl 2 rfl) ?_
  refine W.eq (g2 := F0 m 136 _ _) rfl ?_
  refine lv_icmp_ne (tgt := 151) hx hb dd_fr_begin_136 (by decide) (fun h136 => ?_) (fun h136 => ?_)
  · replace hF := gw_ef h136 hF
    refine lv_lconst (v := (0 : Int64)) hx hb dd_fr_begin_151 (by decide) ?_
    exact wb_fr_begin_152 C0 hK65 M128 a0 a1 v2 (0 : Int64) (r128 + (1 : Int32)) (a0 + 5) _ _ _ ha0 ha1 (gq_fr_memory ha0) G (lv_sub hl [0, 1, 2] rfl) hF
  · replace hF := gw_et h136 hF
    refine lv_aload_n hx hb dd_fr_begin_139 rfl (lv_at hl 0 rfl) ?_
    refine gf_fr_order hx hb hg hown (hg _ kw_4) hK G ha0 dd_fr_begin_140 ?_
    refine lv_iload_n hx hb dd_fr_begin_143 rfl (lv_at hl 3 rfl) ?_
    obtain ⟨r144, M144, hc144, hF⟩ := gw_be hF
    refine gw_ci G (va_runVN (As := [.int v3]) (rest := [.int (r128 + (1 : Int32)), .ref (gc_a X (a0 + 5))]) ⟨hx, hb, hml, hown, hts⟩ (ct_od_marksOf l X Y M128 (a0 + 1) v3 (gq_fr_order ha0) _ hc144) ⟨va_cnB 1 hts (gw_gN kw_13) rfl rfl rfl (hK.2.1 _ kn_6) (hg _ kw_14) (by decide +kernel) ⟨Nat.le_of_ble_eq_true rfl, Nat.le_of_ble_eq_true rfl⟩, hg _ kw_15, hg _ kw_16⟩ ⟨gw_blind, gw_recv_od hK G (gq_fr_order ha0), gw_pre hK G⟩ rfl rfl hl.1 rfl (Nat.le_of_ble_eq_true rfl) dd_fr_begin_144 ⟨Nat.le_of_ble_eq_true rfl, Nat.le_of_ble_eq_true rfl⟩) (fun H locs G => ?_)
    refine lv_i2l (v := r144.toInt64) hx hb dd_fr_begin_147 rfl ?_
    refine lv_goto (tgt := 152) hx hb dd_fr_begin_148 (by decide) ?_
    exact wb_fr_begin_152 C0 hK65 M144 a0 a1 v2 r144.toInt64 (r128 + (1 : Int32)) (a0 + 5) _ _ _ ha0 ha1 (gq_fr_memory ha0) G (lv_sub hl [0, 1, 2] rfl) hF
set_option maxRecDepth 100000 in
set_option maxHeartbeats 4000000 in
theorem wb_fr_begin_65 {p : Program} {l : Launch} {e : Env} {s : State} {m : MethodId} {args : Array Value} {below : List Frame} {meth : Method} {c : Code} {X : gw_X} {Y : gw_M} {z : (Unit × gw_M)} (C0 : gw_C ((Cond.code yy_fr_begin by_fr_begin 5 none) :: gw_w) by_fr_begin 5 none "AccountMachine$Frame" X p s m args meth c) {K65 : gw_M → Nat → Nat → Int32 → Option (Unit × gw_M)} (hK65 : ∀ (M : gw_M) (a0 : Nat) (a1 : Nat) (v2 : Int32) (H : Heap) (locs : List Loc) (ls : Array Slot), gc_k a0 = (6, 0) → gc_k a1 = (3, 0) → gw_G X (gw_E X M Y) s H locs → lv_has ls 5 [(0, .ref (gc_a X a0)), (1, .ref (gc_a X a1)), (2, .int v2)] → K65 M a0 a1 v2 = some z → W p l e rm_fr_begin s m args below meth c H locs 0 0 (MQ below (gw_Qv X (fun M => (gw_E X M Y)) z) args s 0 0 (gw_A X)) (F0 m 65 ls [])) (M : gw_M) (a0 : Nat) (a1 : Nat) (v2 : Int32) (H : Heap) (locs : List Loc) (ls : Array Slot) (ha0 : gc_k a0 = (6, 0)) (ha1 : gc_k a1 = (3, 0)) (G : gw_G X (gw_E X M Y) s H locs) (hl : lv_has ls 5 [(0, .ref (gc_a X a0)), (1, .ref (gc_a X a1)), (2, .int v2)]) (hF : fr_begin_b65 K65 M a0 a1 v2 = some z) : W p l e rm_fr_begin s m args below meth c H locs 0 0 (MQ below (gw_Qv X (fun M => (gw_E X M Y)) z) args s 0 0 (gw_A X)) (F0 m 65 ls []) := by
  obtain ⟨hx, hb, hml, hown, hts, hr, hlocks, hK⟩ := id C0
  have hg : ∀ w ∈ gw_w, w.before args s = true := fun w h => hts w (List.mem_cons_of_mem _ h)
  unfold fr_begin_b65 at hF
  refine lv_iload_n hx hb dd_fr_begin_65 rfl (lv_at hl 2 rfl) ?_
  refine lv_aload_n hx hb dd_fr_begin_66 rfl (lv_at hl 0 rfl) ?_
  refine gf_fr_order hx hb hg hown (hg _ kw_4) hK G ha0 dd_fr_begin_67 ?_
  refine gn_od_count hx hb hg hown (gw_nw hK kn_1) hK G (gq_fr_order ha0) dd_fr_begin_70 ?_
  refine lv_icmp_ge (tgt := 159) hx hb dd_fr_begin_73 (by decide) (fun h73 => ?_) (fun h73 => ?_)
  · replace hF := gw_et h73 hF
    refine lv_aload_n hx hb dd_fr_begin_159 rfl (lv_at hl 0 rfl) ?_
    refine lv_aload_n hx hb dd_fr_begin_160 rfl (lv_at hl 1 rfl) ?_
    obtain ⟨u161, M161, hc161, hF⟩ := gw_be hF
    refine gw_cv G (va_runV (As := [.ref (gc_a X a1)]) (rest := []) ⟨hx, hb, hml, hown, hts⟩ (ct_fr_seeAccounts l X Y M a0 a1 ha0 ha1 _ hc161) (cwV 1 hts (gw_gV kw_18 kw_19 kw_20 kw_8 kw_17) rfl rfl rfl (by decide +kernel) ⟨Nat.le_of_ble_eq_true rfl, Nat.le_of_ble_eq_true rfl⟩) ⟨gw_blind, gw_recv_fr hK G ha0, gw_pre hK G⟩ rfl rfl hl.1 rfl (Nat.le_of_ble_eq_true rfl) dd_fr_begin_161 ⟨Nat.le_of_ble_eq_true rfl, Nat.le_of_ble_eq_true rfl⟩) (fun H locs G => ?_)
    exact W.vret hx hb hr (fun t ht hW => gw_endv (EF := (fun M => (gw_E X M Y))) (M := M161) G ht hF) G.2.2.2.2 dd_fr_begin_164 hlocks
  · replace hF := gw_ef h73 hF
    refine lv_aload_n hx hb dd_fr_begin_76 rfl (lv_at hl 0 rfl) ?_
    refine gf_fr_order hx hb hg hown (hg _ kw_4) hK G ha0 dd_fr_begin_77 ?_
    refine gn_od_accounts hx hb hg hown (gw_nw hK kn_2) hK G (gq_fr_order ha0) dd_fr_begin_80 ?_
    refine lv_iload_n hx hb dd_fr_begin_83 rfl (lv_at hl 2 rfl) ?_
    obtain ⟨h84, hF⟩ := gw_gd hF
    refine gc_iald hx hb hK G (gq_od_accounts (gq_fr_order ha0)) (gw_vp h84) (j := v2.toNatClampNeg) rfl dd_fr_begin_84 ?_
    refine lv_topi (fun x85 e85 => ?_)
    replace hF := gw_ly e85 hF
    refine lv_istore_n (i := 3) (lv' := [(3, .int x85), (0, .ref (gc_a X a0)), (1, .ref (gc_a X a1)), (2, .int v2)]) hx hb dd_fr_begin_85 rfl hl (by decide) rfl (fun ls hl => ?_)
    refine lv_aload_n hx hb dd_fr_begin_86 rfl (lv_at hl 1 rfl) ?_
    refine gf_fr_order hx hb hg hown (hg _ kw_4) hK G ha0 dd_fr_begin_87 ?_
    refine lv_iload_n hx hb dd_fr_begin_90 rfl (lv_at hl 0 rfl) ?_
    refine W.eq (g2 := F0 m 91 _ _) rfl ?_
    obtain ⟨r91, M91, hc91, hF⟩ := gw_be hF
    refine gw_ci G (va_runVN (As := [.int x85]) (rest := []) ⟨hx, hb, hml, hown, hts⟩ (ct_od_mainSlotOf l X Y M (a0 + 1) x85 (gq_fr_order ha0) _ hc91) ⟨va_cnB 1 hts (gw_gN kw_21) rfl rfl rfl (hK.2.1 _ kn_7) (hg _ kw_14) (by decide +kernel) ⟨Nat.le_of_ble_eq_true rfl, Nat.le_of_ble_eq_true rfl⟩, hg _ kw_22, hg _ kw_23⟩ ⟨gw_blind, gw_recv_od hK G (gq_fr_order ha0), gw_pre hK G⟩ rfl rfl hl.1 rfl (Nat.le_of_ble_eq_true rfl) dd_fr_begin_91 ⟨Nat.le_of_ble_eq_true rfl, Nat.le_of_ble_eq_true rfl⟩) (fun H locs G => ?_)
    refine lv_istore (i := 4) (lv' := [(4, .int r91), (3, .int x85), (0, .ref (gc_a X a0)), (1, .ref (gc_a X a1)), (2, .int v2)]) hx hb dd_fr_begin_94 hl (by decide) rfl (fun ls hl => ?_)
    refine lv_aload_n hx hb dd_fr_begin_96 rfl (lv_at hl 2 rfl) ?_
    refine gf_fr_memory hx hb hg hown (hg _ kw_3) hK G ha0 dd_fr_begin_97 ?_
    refine lv_iload_n hx hb dd_fr_begin_100 rfl (lv_at hl 4 rfl) ?_
    obtain ⟨r101, M101, hc101, hF⟩ := gw_be hF
    refine gw_ci G (va_runS (As := [.int v2]) (rest := [.ref (gc_a X (a0 + 5))]) ⟨hx, hb, hml, hown, hts⟩ (ct_fr_baseOf l X Y M91 v2  _ hc101) (cwS 1 hts (gw_gS kw_6 kw_7 kw_8 kw_5) rfl rfl rfl (by decide +kernel) ⟨Nat.le_of_ble_eq_true rfl, Nat.le_of_ble_eq_true rfl⟩) ⟨gw_blind, gw_pre hK G⟩ rfl rfl hl.1 rfl (Nat.le_of_ble_eq_true rfl) dd_fr_begin_101 ⟨Nat.le_of_ble_eq_true rfl, Nat.le_of_ble_eq_true rfl⟩) (fun H locs G => ?_)
    refine lv_iconst (v := (0 : Int32)) hx hb dd_fr_begin_104 (by decide) ?_
    refine lv_iadd hx hb dd_fr_begin_105 ?_
    refine lv_iload hx hb dd_fr_begin_106 (lv_at hl 0 rfl) ?_
    refine lv_iload_n hx hb dd_fr_begin_108 rfl (lv_at hl 4 rfl) ?_
    refine W.eq (g2 := F0 m 109 _ _) rfl ?_
    refine lv_icmp_ne (tgt := 117) hx hb dd_fr_begin_109 (by decide) (fun h109 => ?_) (fun h109 => ?_)
    · replace hF := gw_ef h109 hF
      refine lv_iconst (v := (-1 : Int32)) hx hb dd_fr_begin_117 (by decide) ?_
      refine lv_iload hx hb dd_fr_begin_118 (lv_at hl 0 rfl) ?_
      refine lv_isub hx hb dd_fr_begin_120 ?_
      refine lv_i2l (v := ((-1 : Int32) - r91).toInt64) hx hb dd_fr_begin_121 rfl ?_
      exact wb_fr_begin_122 C0 hK65 M101 a0 a1 v2 x85 r91 (((-1 : Int32) - r91).toInt64) (r101 + (0 : Int32)) (a0 + 5) _ _ _ ha0 ha1 (gq_fr_memory ha0) G (lv_sub hl [2, 3, 4, 1, 0] rfl) hF
    · replace hF := gw_et h109 hF
      refine lv_iload_n hx hb dd_fr_begin_112 rfl (lv_at hl 1 rfl) ?_
      refine lv_i2l (v := x85.toInt64) hx hb dd_fr_begin_113 rfl ?_
      refine lv_goto (tgt := 122) hx hb dd_fr_begin_114 (by decide) ?_
      exact wb_fr_begin_122 C0 hK65 M101 a0 a1 v2 x85 r91 x85.toInt64 (r101 + (0 : Int32)) (a0 + 5) _ _ _ ha0 ha1 (gq_fr_memory ha0) G (lv_sub hl [2, 3, 4, 1, 0] rfl) hF
theorem wl_fr_begin_65 {p : Program} {l : Launch} {e : Env} {s : State} {m : MethodId} {args : Array Value} {below : List Frame} {meth : Method} {c : Code} {X : gw_X} {Y : gw_M} {z : (Unit × gw_M)} (C0 : gw_C ((Cond.code yy_fr_begin by_fr_begin 5 none) :: gw_w) by_fr_begin 5 none "AccountMachine$Frame" X p s m args meth c) : ∀ n : Nat, ∀ (M : gw_M) (a0 : Nat) (a1 : Nat) (v2 : Int32) (H : Heap) (locs : List Loc) (ls : Array Slot), gc_k a0 = (6, 0) → gc_k a1 = (3, 0) → gw_G X (gw_E X M Y) s H locs → lv_has ls 5 [(0, .ref (gc_a X a0)), (1, .ref (gc_a X a1)), (2, .int v2)] → fr_begin_l65  n M a0 a1 v2 = some z → W p l e rm_fr_begin s m args below meth c H locs 0 0 (MQ below (gw_Qv X (fun M => (gw_E X M Y)) z) args s 0 0 (gw_A X)) (F0 m 65 ls []) := by
  intro n
  induction n with
  | zero =>
    intro M a0 a1 v2 H locs ls ha0 ha1 G hl hF
    have hF : (none : Option (Unit × gw_M)) = some z := hF
    cases hF
  | succ n ih =>
    intro M a0 a1 v2 H locs ls ha0 ha1 G hl hF
    exact wb_fr_begin_65 C0  ih M a0 a1 v2 H locs ls ha0 ha1 G hl hF
set_option maxRecDepth 100000 in
set_option maxHeartbeats 4000000 in
theorem wb_fr_begin_0 {p : Program} {l : Launch} {e : Env} {s : State} {m : MethodId} {args : Array Value} {below : List Frame} {meth : Method} {c : Code} {X : gw_X} {Y : gw_M} {z : (Unit × gw_M)} (C0 : gw_C ((Cond.code yy_fr_begin by_fr_begin 5 none) :: gw_w) by_fr_begin 5 none "AccountMachine$Frame" X p s m args meth c) (M : gw_M) (a0 : Nat) (a1 : Nat) (H : Heap) (locs : List Loc) (ls : Array Slot) (ha0 : gc_k a0 = (6, 0)) (ha1 : gc_k a1 = (3, 0)) (G : gw_G X (gw_E X M Y) s H locs) (hl : lv_has ls 5 [(0, .ref (gc_a X a0)), (1, .ref (gc_a X a1))]) (hF : fr_begin_b0  M a0 a1 = some z) : W p l e rm_fr_begin s m args below meth c H locs 0 0 (MQ below (gw_Qv X (fun M => (gw_E X M Y)) z) args s 0 0 (gw_A X)) (F0 m 0 ls []) := by
  obtain ⟨hx, hb, hml, hown, hts, hr, hlocks, hK⟩ := id C0
  have hg : ∀ w ∈ gw_w, w.before args s = true := fun w h => hts w (List.mem_cons_of_mem _ h)
  unfold fr_begin_b0 at hF
  refine lv_aload_n hx hb dd_fr_begin_0 rfl (lv_at hl 0 rfl) ?_
  refine gf_fr_memory hx hb hg hown (hg _ kw_3) hK G ha0 dd_fr_begin_1 ?_
  refine lv_lconst (v := (0 : Int64)) hx hb dd_fr_begin_4 (by decide) ?_
  obtain ⟨u5, M5, hc5, hF⟩ := gw_be hF
  refine gw_cv G (va_runS (As := [.ref (gc_a X (a0 + 5)), .long (0 : Int64)]) (rest := []) ⟨hx, hb, hml, hown, hts⟩ (ct_ar_fillL l X Y M 56 (a0 + 5) (0 : Int64) (gq_fr_memory ha0) _ hc5) (va_cwS 2 hts (gw_gT kw_25 kw_26 kw_27 kw_24) rfl rfl rfl (by decide +kernel) ⟨Nat.le_of_ble_eq_true rfl, Nat.le_of_ble_eq_true rfl⟩) ⟨gw_blind, gw_pre hK G⟩ rfl rfl hl.1 rfl (Nat.le_of_ble_eq_true rfl) dd_fr_begin_5 ⟨Nat.le_of_ble_eq_true rfl, Nat.le_of_ble_eq_true rfl⟩) (fun H locs G => ?_)
  refine lv_aload_n hx hb dd_fr_begin_8 rfl (lv_at hl 0 rfl) ?_
  refine gf_fr_registers hx hb hg hown (hg _ kw_28) hK G ha0 dd_fr_begin_9 ?_
  refine lv_lconst (v := (0 : Int64)) hx hb dd_fr_begin_12 (by decide) ?_
  obtain ⟨u13, M13, hc13, hF⟩ := gw_be hF
  refine gw_cv G (va_runS (As := [.ref (gc_a X (a0 + 4)), .long (0 : Int64)]) (rest := []) ⟨hx, hb, hml, hown, hts⟩ (ct_ar_fillL l X Y M5 10 (a0 + 4) (0 : Int64) (gq_fr_registers ha0) _ hc13) (va_cwS 2 hts (gw_gT kw_25 kw_26 kw_27 kw_24) rfl rfl rfl (by decide +kernel) ⟨Nat.le_of_ble_eq_true rfl, Nat.le_of_ble_eq_true rfl⟩) ⟨gw_blind, gw_pre hK G⟩ rfl rfl hl.1 rfl (Nat.le_of_ble_eq_true rfl) dd_fr_begin_13 ⟨Nat.le_of_ble_eq_true rfl, Nat.le_of_ble_eq_true rfl⟩) (fun H locs G => ?_)
  refine lv_aload_n hx hb dd_fr_begin_16 rfl (lv_at hl 0 rfl) ?_
  refine W.eq (g2 := F0 m 17 _ _) rfl ?_
  refine gf_fr_registers hx hb hg hown (hg _ kw_28) hK G ha0 dd_fr_begin_17 ?_
  refine lv_iconst (v := (1 : Int32)) hx hb dd_fr_begin_20 (by decide) ?_
  refine lv_ldc2 (v := (2000 : Int64)) hx hb hown (hg _ kw_29) dd_fr_begin_21 ?_
  refine gc_last hx hb hK G (gq_fr_registers ha0) (gw_vp (by decide)) (j := 1) (by decide) dd_fr_begin_24 (fun M24 H locs e24 G => ?_)
  replace hF := gw_ly e24 hF
  refine lv_aload_n hx hb dd_fr_begin_25 rfl (lv_at hl 0 rfl) ?_
  refine gf_fr_registers hx hb hg hown (hg _ kw_28) hK G ha0 dd_fr_begin_26 ?_
  refine lv_iconst (v := (2 : Int32)) hx hb dd_fr_begin_29 (by decide) ?_
  refine lv_aload_n hx hb dd_fr_begin_30 rfl (lv_at hl 0 rfl) ?_
  refine gf_fr_order hx hb hg hown (hg _ kw_4) hK G ha0 dd_fr_begin_31 ?_
  refine gn_od_count hx hb hg hown (gw_nw hK kn_1) hK G (gq_fr_order ha0) dd_fr_begin_34 ?_
  refine W.eq (g2 := F0 m 37 _ _) rfl ?_
  refine lv_i2l (v := (M24.1 (a0 + 1) 2).toInt64) hx hb dd_fr_begin_37 rfl ?_
  refine gc_last hx hb hK G (gq_fr_registers ha0) (gw_vp (by decide)) (j := 2) (by decide) dd_fr_begin_38 (fun M38 H locs e38 G => ?_)
  replace hF := gw_ly e38 hF
  refine lv_aload_n hx hb dd_fr_begin_39 rfl (lv_at hl 0 rfl) ?_
  refine gf_fr_registers hx hb hg hown (hg _ kw_28) hK G ha0 dd_fr_begin_40 ?_
  refine lv_iconst (v := (3 : Int32)) hx hb dd_fr_begin_43 (by decide) ?_
  refine lv_aload_n hx hb dd_fr_begin_44 rfl (lv_at hl 0 rfl) ?_
  refine gf_fr_order hx hb hg hown (hg _ kw_4) hK G ha0 dd_fr_begin_45 ?_
  refine gn_od_argument hx hb hg hown (gw_nw hK kn_8) hK G (gq_fr_order ha0) dd_fr_begin_48 ?_
  refine lv_i2l (v := (M38.1 (a0 + 1) 1).toInt64) hx hb dd_fr_begin_51 rfl ?_
  refine gc_last hx hb hK G (gq_fr_registers ha0) (gw_vp (by decide)) (j := 3) (by decide) dd_fr_begin_52 (fun M52 H locs e52 G => ?_)
  replace hF := gw_ly e52 hF
  refine W.eq (g2 := F0 m 53 _ _) rfl ?_
  refine lv_aload_n hx hb dd_fr_begin_53 rfl (lv_at hl 0 rfl) ?_
  refine lv_iconst (v := (0 : Int32)) hx hb dd_fr_begin_54 (by decide) ?_
  refine gp_fr_rememberedCount hx hb hg hown (hg _ kw_30) hK G ha0 dd_fr_begin_55 (fun M55 H locs e55 G => ?_)
  replace hF := gw_ly e55 hF
  refine lv_aload_n hx hb dd_fr_begin_58 rfl (lv_at hl 0 rfl) ?_
  refine lv_iconst (v := (0 : Int32)) hx hb dd_fr_begin_59 (by decide) ?_
  refine gp_fr_place hx hb hg hown (hg _ kw_31) hK G ha0 dd_fr_begin_60 (fun M60 H locs e60 G => ?_)
  replace hF := gw_ly e60 hF
  refine lv_iconst (v := (0 : Int32)) hx hb dd_fr_begin_63 (by decide) ?_
  refine lv_istore_n (i := 2) (lv' := [(2, .int (0 : Int32)), (0, .ref (gc_a X a0)), (1, .ref (gc_a X a1))]) hx hb dd_fr_begin_64 rfl hl (by decide) rfl (fun ls hl => ?_)
  exact wl_fr_begin_65 C0  2100 M60 a0 a1 (0 : Int32) _ _ _ ha0 ha1 G (lv_sub hl [1, 2, 0] rfl) hF
set_option maxRecDepth 100000 in
set_option maxHeartbeats 4000000 in
theorem ct_fr_begin (l : Launch) (X : gw_X) (Y : gw_M) (M : gw_M) (a0 : Nat) (a1 : Nat) (ha0 : gc_k a0 = (6, 0)) (ha1 : gc_k a1 = (3, 0)) (z : (Unit × gw_M)) (hF : fr_begin_b0 M a0 a1 = some z) : Met l yy_fr_begin ((Cond.code yy_fr_begin by_fr_begin 5 none) :: gw_w) rm_fr_begin (va_Pc [.ref (gc_a X a0), .ref (gc_a X a1)] (gw_B X (gw_E X M Y))) (gw_Qv X (fun M => (gw_E X M Y)) z) 0 0 (gw_A X) := by
  refine Met.ofW (cc := by_fr_begin) (maxL := 5) (ret := none) (by decide) rfl ?_
  intro p e s m args below meth c s₁ B hml hv
  obtain ⟨rfl, hB⟩ := hv
  rw [lg_entry_eq]
  have hl := lv_entry ([.ref (gc_a X a0), .ref (gc_a X a1)]) (n := 5) (Nat.le_of_ble_eq_true rfl)
  generalize (lg_sl ([.ref (gc_a X a0), .ref (gc_a X a1)]) ++ List.replicate (5 - (lg_sl ([.ref (gc_a X a0), .ref (gc_a X a1)])).length) Slot.unset).toArray = ls at hl ⊢
  have hl : lv_has ls 5 [(0, .ref (gc_a X a0)), (1, .ref (gc_a X a1))] := hl
  exact wb_fr_begin_0 (gw_ctx B hml rfl hB) M a0 a1 _ _ _ ha0 ha1 (gw_start hB) hl hF
/-! AccountMachine$Frame.resume(LAccountMachine$Ledger;)V -/
abbrev rm_fr_resume : Room := { frames := 2, cells := 0, slots := 0, locals := 46 }
theorem dd_fr_resume_0 : decode by_fr_resume 0 = .ok (.aload_n 0, 1) := by decide +kernel
theorem dd_fr_resume_1 : decode by_fr_resume 1 = .ok (.aload_n 1, 1) := by decide +kernel
theorem dd_fr_resume_2 : decode by_fr_resume 2 = .ok (.invokevirtual 63, 3) := by decide +kernel
theorem dd_fr_resume_5 : decode by_fr_resume 5 = .ok (.aload_n 0, 1) := by decide +kernel
theorem dd_fr_resume_6 : decode by_fr_resume 6 = .ok (.getfield 18, 3) := by decide +kernel
theorem dd_fr_resume_9 : decode by_fr_resume 9 = .ok (.iconst 0, 1) := by decide +kernel
theorem dd_fr_resume_10 : decode by_fr_resume 10 = .ok (.lconst 0, 1) := by decide +kernel
theorem dd_fr_resume_11 : decode by_fr_resume 11 = .ok (.lastore, 1) := by decide +kernel
theorem dd_fr_resume_12 : decode by_fr_resume 12 = .ok (.return_, 1) := by decide +kernel
def fr_resume_b0 (M : gw_M) (a0 : Nat) (a1 : Nat) : Option (Unit × gw_M) :=
  gw_bd (fr_seeAccounts_b0 M a0 a1) (fun _ M2 => gw_lt (gw_sL M2 (a0 + 4) 0 (0 : Int64)) (fun M11 => some ((), M11)))
set_option maxRecDepth 100000 in
set_option maxHeartbeats 4000000 in
theorem wb_fr_resume_0 {p : Program} {l : Launch} {e : Env} {s : State} {m : MethodId} {args : Array Value} {below : List Frame} {meth : Method} {c : Code} {X : gw_X} {Y : gw_M} {z : (Unit × gw_M)} (C0 : gw_C ((Cond.code yy_fr_resume by_fr_resume 2 none) :: gw_w) by_fr_resume 2 none "AccountMachine$Frame" X p s m args meth c) (M : gw_M) (a0 : Nat) (a1 : Nat) (H : Heap) (locs : List Loc) (ls : Array Slot) (ha0 : gc_k a0 = (6, 0)) (ha1 : gc_k a1 = (3, 0)) (G : gw_G X (gw_E X M Y) s H locs) (hl : lv_has ls 2 [(0, .ref (gc_a X a0)), (1, .ref (gc_a X a1))]) (hF : fr_resume_b0  M a0 a1 = some z) : W p l e rm_fr_resume s m args below meth c H locs 0 0 (MQ below (gw_Qv X (fun M => (gw_E X M Y)) z) args s 0 0 (gw_A X)) (F0 m 0 ls []) := by
  obtain ⟨hx, hb, hml, hown, hts, hr, hlocks, hK⟩ := id C0
  have hg : ∀ w ∈ gw_w, w.before args s = true := fun w h => hts w (List.mem_cons_of_mem _ h)
  unfold fr_resume_b0 at hF
  refine lv_aload_n hx hb dd_fr_resume_0 rfl (lv_at hl 0 rfl) ?_
  refine lv_aload_n hx hb dd_fr_resume_1 rfl (lv_at hl 1 rfl) ?_
  obtain ⟨u2, M2, hc2, hF⟩ := gw_be hF
  refine gw_cv G (va_runV (As := [.ref (gc_a X a1)]) (rest := []) ⟨hx, hb, hml, hown, hts⟩ (ct_fr_seeAccounts l X Y M a0 a1 ha0 ha1 _ hc2) (cwV 1 hts (gw_gV kw_18 kw_19 kw_20 kw_8 kw_17) rfl rfl rfl (by decide +kernel) ⟨Nat.le_of_ble_eq_true rfl, Nat.le_of_ble_eq_true rfl⟩) ⟨gw_blind, gw_recv_fr hK G ha0, gw_pre hK G⟩ rfl rfl hl.1 rfl (Nat.le_of_ble_eq_true rfl) dd_fr_resume_2 ⟨Nat.le_of_ble_eq_true rfl, Nat.le_of_ble_eq_true rfl⟩) (fun H locs G => ?_)
  refine lv_aload_n hx hb dd_fr_resume_5 rfl (lv_at hl 0 rfl) ?_
  refine gf_fr_registers hx hb hg hown (hg _ kw_28) hK G ha0 dd_fr_resume_6 ?_
  refine lv_iconst (v := (0 : Int32)) hx hb dd_fr_resume_9 (by decide) ?_
  refine lv_lconst (v := (0 : Int64)) hx hb dd_fr_resume_10 (by decide) ?_
  refine gc_last hx hb hK G (gq_fr_registers ha0) (gw_vp (by decide)) (j := 0) (by decide) dd_fr_resume_11 (fun M11 H locs e11 G => ?_)
  replace hF := gw_ly e11 hF
  exact W.vret hx hb hr (fun t ht hW => gw_endv (EF := (fun M => (gw_E X M Y))) (M := M11) G ht hF) G.2.2.2.2 dd_fr_resume_12 hlocks
set_option maxRecDepth 100000 in
set_option maxHeartbeats 4000000 in
theorem ct_fr_resume (l : Launch) (X : gw_X) (Y : gw_M) (M : gw_M) (a0 : Nat) (a1 : Nat) (ha0 : gc_k a0 = (6, 0)) (ha1 : gc_k a1 = (3, 0)) (z : (Unit × gw_M)) (hF : fr_resume_b0 M a0 a1 = some z) : Met l yy_fr_resume ((Cond.code yy_fr_resume by_fr_resume 2 none) :: gw_w) rm_fr_resume (va_Pc [.ref (gc_a X a0), .ref (gc_a X a1)] (gw_B X (gw_E X M Y))) (gw_Qv X (fun M => (gw_E X M Y)) z) 0 0 (gw_A X) := by
  refine Met.ofW (cc := by_fr_resume) (maxL := 2) (ret := none) (by decide) rfl ?_
  intro p e s m args below meth c s₁ B hml hv
  obtain ⟨rfl, hB⟩ := hv
  rw [lg_entry_eq]
  have hl := lv_entry ([.ref (gc_a X a0), .ref (gc_a X a1)]) (n := 2) (Nat.le_of_ble_eq_true rfl)
  generalize (lg_sl ([.ref (gc_a X a0), .ref (gc_a X a1)]) ++ List.replicate (2 - (lg_sl ([.ref (gc_a X a0), .ref (gc_a X a1)])).length) Slot.unset).toArray = ls at hl ⊢
  have hl : lv_has ls 2 [(0, .ref (gc_a X a0)), (1, .ref (gc_a X a1))] := hl
  exact wb_fr_resume_0 (gw_ctx B hml rfl hB) M a0 a1 _ _ _ ha0 ha1 (gw_start hB) hl hF
/-! AccountMachine$Frame.reckon(LAccountMachine$Program;I)V -/
abbrev rm_fr_reckon : Room := { frames := 0, cells := 0, slots := 0, locals := 0 }
theorem dd_fr_reckon_0 : decode by_fr_reckon 0 = .ok (.aload_n 1, 1) := by decide +kernel
theorem dd_fr_reckon_1 : decode by_fr_reckon 1 = .ok (.getfield 85, 3) := by decide +kernel
theorem dd_fr_reckon_4 : decode by_fr_reckon 4 = .ok (.iload_n 2, 1) := by decide +kernel
theorem dd_fr_reckon_5 : decode by_fr_reckon 5 = .ok (.iaload, 1) := by decide +kernel
theorem dd_fr_reckon_6 : decode by_fr_reckon 6 = .ok (.istore_n 3, 1) := by decide +kernel
theorem dd_fr_reckon_7 : decode by_fr_reckon 7 = .ok (.aload_n 1, 1) := by decide +kernel
theorem dd_fr_reckon_8 : decode by_fr_reckon 8 = .ok (.getfield 90, 3) := by decide +kernel
theorem dd_fr_reckon_11 : decode by_fr_reckon 11 = .ok (.iload_n 2, 1) := by decide +kernel
theorem dd_fr_reckon_12 : decode by_fr_reckon 12 = .ok (.iaload, 1) := by decide +kernel
theorem dd_fr_reckon_13 : decode by_fr_reckon 13 = .ok (.istore 4, 2) := by decide +kernel
theorem dd_fr_reckon_15 : decode by_fr_reckon 15 = .ok (.aload_n 1, 1) := by decide +kernel
theorem dd_fr_reckon_16 : decode by_fr_reckon 16 = .ok (.getfield 93, 3) := by decide +kernel
theorem dd_fr_reckon_19 : decode by_fr_reckon 19 = .ok (.iload_n 2, 1) := by decide +kernel
theorem dd_fr_reckon_20 : decode by_fr_reckon 20 = .ok (.iaload, 1) := by decide +kernel
theorem dd_fr_reckon_21 : decode by_fr_reckon 21 = .ok (.istore 5, 2) := by decide +kernel
theorem dd_fr_reckon_23 : decode by_fr_reckon 23 = .ok (.aload_n 1, 1) := by decide +kernel
theorem dd_fr_reckon_24 : decode by_fr_reckon 24 = .ok (.getfield 96, 3) := by decide +kernel
theorem dd_fr_reckon_27 : decode by_fr_reckon 27 = .ok (.iload_n 2, 1) := by decide +kernel
theorem dd_fr_reckon_28 : decode by_fr_reckon 28 = .ok (.iaload, 1) := by decide +kernel
theorem dd_fr_reckon_29 : decode by_fr_reckon 29 = .ok (.tableswitch 185 0 7 #[47, 59, 75, 90, 109, 128, 143, 171], 47) := by decide +kernel
theorem dd_fr_reckon_76 : decode by_fr_reckon 76 = .ok (.aload_n 0, 1) := by decide +kernel
theorem dd_fr_reckon_77 : decode by_fr_reckon 77 = .ok (.getfield 18, 3) := by decide +kernel
theorem dd_fr_reckon_80 : decode by_fr_reckon 80 = .ok (.iload_n 3, 1) := by decide +kernel
theorem dd_fr_reckon_81 : decode by_fr_reckon 81 = .ok (.iload 5, 2) := by decide +kernel
theorem dd_fr_reckon_83 : decode by_fr_reckon 83 = .ok (.i2l, 1) := by decide +kernel
theorem dd_fr_reckon_84 : decode by_fr_reckon 84 = .ok (.lastore, 1) := by decide +kernel
theorem dd_fr_reckon_85 : decode by_fr_reckon 85 = .ok (.goto 129, 3) := by decide +kernel
theorem dd_fr_reckon_88 : decode by_fr_reckon 88 = .ok (.aload_n 0, 1) := by decide +kernel
theorem dd_fr_reckon_89 : decode by_fr_reckon 89 = .ok (.getfield 18, 3) := by decide +kernel
theorem dd_fr_reckon_92 : decode by_fr_reckon 92 = .ok (.iload_n 3, 1) := by decide +kernel
theorem dd_fr_reckon_93 : decode by_fr_reckon 93 = .ok (.aload_n 0, 1) := by decide +kernel
theorem dd_fr_reckon_94 : decode by_fr_reckon 94 = .ok (.getfield 18, 3) := by decide +kernel
theorem dd_fr_reckon_97 : decode by_fr_reckon 97 = .ok (.iload 4, 2) := by decide +kernel
theorem dd_fr_reckon_99 : decode by_fr_reckon 99 = .ok (.laload, 1) := by decide +kernel
theorem dd_fr_reckon_100 : decode by_fr_reckon 100 = .ok (.lastore, 1) := by decide +kernel
theorem dd_fr_reckon_101 : decode by_fr_reckon 101 = .ok (.goto 113, 3) := by decide +kernel
theorem dd_fr_reckon_104 : decode by_fr_reckon 104 = .ok (.aload_n 0, 1) := by decide +kernel
theorem dd_fr_reckon_105 : decode by_fr_reckon 105 = .ok (.getfield 18, 3) := by decide +kernel
theorem dd_fr_reckon_108 : decode by_fr_reckon 108 = .ok (.iload_n 3, 1) := by decide +kernel
theorem dd_fr_reckon_109 : decode by_fr_reckon 109 = .ok (.dup2, 1) := by decide +kernel
theorem dd_fr_reckon_110 : decode by_fr_reckon 110 = .ok (.laload, 1) := by decide +kernel
theorem dd_fr_reckon_111 : decode by_fr_reckon 111 = .ok (.iload 5, 2) := by decide +kernel
theorem dd_fr_reckon_113 : decode by_fr_reckon 113 = .ok (.i2l, 1) := by decide +kernel
theorem dd_fr_reckon_114 : decode by_fr_reckon 114 = .ok (.ladd, 1) := by decide +kernel
theorem dd_fr_reckon_115 : decode by_fr_reckon 115 = .ok (.lastore, 1) := by decide +kernel
theorem dd_fr_reckon_116 : decode by_fr_reckon 116 = .ok (.goto 98, 3) := by decide +kernel
theorem dd_fr_reckon_119 : decode by_fr_reckon 119 = .ok (.aload_n 0, 1) := by decide +kernel
theorem dd_fr_reckon_120 : decode by_fr_reckon 120 = .ok (.getfield 18, 3) := by decide +kernel
theorem dd_fr_reckon_123 : decode by_fr_reckon 123 = .ok (.iload_n 3, 1) := by decide +kernel
theorem dd_fr_reckon_124 : decode by_fr_reckon 124 = .ok (.dup2, 1) := by decide +kernel
theorem dd_fr_reckon_125 : decode by_fr_reckon 125 = .ok (.laload, 1) := by decide +kernel
theorem dd_fr_reckon_126 : decode by_fr_reckon 126 = .ok (.aload_n 0, 1) := by decide +kernel
theorem dd_fr_reckon_127 : decode by_fr_reckon 127 = .ok (.getfield 18, 3) := by decide +kernel
theorem dd_fr_reckon_130 : decode by_fr_reckon 130 = .ok (.iload 4, 2) := by decide +kernel
theorem dd_fr_reckon_132 : decode by_fr_reckon 132 = .ok (.laload, 1) := by decide +kernel
theorem dd_fr_reckon_133 : decode by_fr_reckon 133 = .ok (.ladd, 1) := by decide +kernel
theorem dd_fr_reckon_134 : decode by_fr_reckon 134 = .ok (.lastore, 1) := by decide +kernel
theorem dd_fr_reckon_135 : decode by_fr_reckon 135 = .ok (.goto 79, 3) := by decide +kernel
theorem dd_fr_reckon_138 : decode by_fr_reckon 138 = .ok (.aload_n 0, 1) := by decide +kernel
theorem dd_fr_reckon_139 : decode by_fr_reckon 139 = .ok (.getfield 18, 3) := by decide +kernel
theorem dd_fr_reckon_142 : decode by_fr_reckon 142 = .ok (.iload_n 3, 1) := by decide +kernel
theorem dd_fr_reckon_143 : decode by_fr_reckon 143 = .ok (.dup2, 1) := by decide +kernel
theorem dd_fr_reckon_144 : decode by_fr_reckon 144 = .ok (.laload, 1) := by decide +kernel
theorem dd_fr_reckon_145 : decode by_fr_reckon 145 = .ok (.aload_n 0, 1) := by decide +kernel
theorem dd_fr_reckon_146 : decode by_fr_reckon 146 = .ok (.getfield 18, 3) := by decide +kernel
theorem dd_fr_reckon_149 : decode by_fr_reckon 149 = .ok (.iload 4, 2) := by decide +kernel
theorem dd_fr_reckon_151 : decode by_fr_reckon 151 = .ok (.laload, 1) := by decide +kernel
theorem dd_fr_reckon_152 : decode by_fr_reckon 152 = .ok (.lsub, 1) := by decide +kernel
theorem dd_fr_reckon_153 : decode by_fr_reckon 153 = .ok (.lastore, 1) := by decide +kernel
theorem dd_fr_reckon_154 : decode by_fr_reckon 154 = .ok (.goto 60, 3) := by decide +kernel
theorem dd_fr_reckon_157 : decode by_fr_reckon 157 = .ok (.aload_n 0, 1) := by decide +kernel
theorem dd_fr_reckon_158 : decode by_fr_reckon 158 = .ok (.getfield 18, 3) := by decide +kernel
theorem dd_fr_reckon_161 : decode by_fr_reckon 161 = .ok (.iload_n 3, 1) := by decide +kernel
theorem dd_fr_reckon_162 : decode by_fr_reckon 162 = .ok (.dup2, 1) := by decide +kernel
theorem dd_fr_reckon_163 : decode by_fr_reckon 163 = .ok (.laload, 1) := by decide +kernel
theorem dd_fr_reckon_164 : decode by_fr_reckon 164 = .ok (.iload 5, 2) := by decide +kernel
theorem dd_fr_reckon_166 : decode by_fr_reckon 166 = .ok (.i2l, 1) := by decide +kernel
theorem dd_fr_reckon_167 : decode by_fr_reckon 167 = .ok (.lmul, 1) := by decide +kernel
theorem dd_fr_reckon_168 : decode by_fr_reckon 168 = .ok (.lastore, 1) := by decide +kernel
theorem dd_fr_reckon_169 : decode by_fr_reckon 169 = .ok (.goto 45, 3) := by decide +kernel
theorem dd_fr_reckon_172 : decode by_fr_reckon 172 = .ok (.aload_n 0, 1) := by decide +kernel
theorem dd_fr_reckon_173 : decode by_fr_reckon 173 = .ok (.getfield 18, 3) := by decide +kernel
theorem dd_fr_reckon_176 : decode by_fr_reckon 176 = .ok (.iload_n 3, 1) := by decide +kernel
theorem dd_fr_reckon_177 : decode by_fr_reckon 177 = .ok (.iload 5, 2) := by decide +kernel
theorem dd_fr_reckon_179 : decode by_fr_reckon 179 = .ok (.ifCond .ne 7, 3) := by decide +kernel
theorem dd_fr_reckon_182 : decode by_fr_reckon 182 = .ok (.lconst 0, 1) := by decide +kernel
theorem dd_fr_reckon_183 : decode by_fr_reckon 183 = .ok (.goto 13, 3) := by decide +kernel
theorem dd_fr_reckon_186 : decode by_fr_reckon 186 = .ok (.aload_n 0, 1) := by decide +kernel
theorem dd_fr_reckon_187 : decode by_fr_reckon 187 = .ok (.getfield 18, 3) := by decide +kernel
theorem dd_fr_reckon_190 : decode by_fr_reckon 190 = .ok (.iload_n 3, 1) := by decide +kernel
theorem dd_fr_reckon_191 : decode by_fr_reckon 191 = .ok (.laload, 1) := by decide +kernel
theorem dd_fr_reckon_192 : decode by_fr_reckon 192 = .ok (.iload 5, 2) := by decide +kernel
theorem dd_fr_reckon_194 : decode by_fr_reckon 194 = .ok (.i2l, 1) := by decide +kernel
theorem dd_fr_reckon_195 : decode by_fr_reckon 195 = .ok (.ldiv, 1) := by decide +kernel
theorem dd_fr_reckon_196 : decode by_fr_reckon 196 = .ok (.lastore, 1) := by decide +kernel
theorem dd_fr_reckon_197 : decode by_fr_reckon 197 = .ok (.goto 17, 3) := by decide +kernel
theorem dd_fr_reckon_200 : decode by_fr_reckon 200 = .ok (.aload_n 0, 1) := by decide +kernel
theorem dd_fr_reckon_201 : decode by_fr_reckon 201 = .ok (.getfield 18, 3) := by decide +kernel
theorem dd_fr_reckon_204 : decode by_fr_reckon 204 = .ok (.iload_n 3, 1) := by decide +kernel
theorem dd_fr_reckon_205 : decode by_fr_reckon 205 = .ok (.dup2, 1) := by decide +kernel
theorem dd_fr_reckon_206 : decode by_fr_reckon 206 = .ok (.laload, 1) := by decide +kernel
theorem dd_fr_reckon_207 : decode by_fr_reckon 207 = .ok (.iload 5, 2) := by decide +kernel
theorem dd_fr_reckon_209 : decode by_fr_reckon 209 = .ok (.lshl, 1) := by decide +kernel
theorem dd_fr_reckon_210 : decode by_fr_reckon 210 = .ok (.lastore, 1) := by decide +kernel
theorem dd_fr_reckon_211 : decode by_fr_reckon 211 = .ok (.goto 3, 3) := by decide +kernel
theorem dd_fr_reckon_214 : decode by_fr_reckon 214 = .ok (.return_, 1) := by decide +kernel
def fr_reckon_b196 (M : gw_M) (t0 : Int64) (t1 : Int32) (b2 : Nat) : Option (Unit × gw_M) :=
  gw_gu (gw_in t1 10) (gw_lt (gw_sL M b2 t1.toNatClampNeg t0) (fun M196 => some ((), M196)))
def fr_reckon_b0 (M : gw_M) (a0 : Nat) (a1 : Nat) (v2 : Int32) : Option (Unit × gw_M) :=
  gw_gu (gw_in v2 32) (gw_lt (M.1 (a1 + 2) v2.toNatClampNeg) (fun x6 => gw_gu (gw_in v2 32) (gw_lt (M.1 (a1 + 3) v2.toNatClampNeg) (fun x13 => gw_gu (gw_in v2 32) (gw_lt (M.1 (a1 + 5) v2.toNatClampNeg) (fun x21 => gw_gu (gw_in v2 32) (gw_lt (M.1 (a1 + 1) v2.toNatClampNeg) (fun x29 => if x29 = (0 : Int32) then (gw_gu (gw_in x6 10) (gw_lt (gw_sL M (a0 + 4) x6.toNatClampNeg x21.toInt64) (fun M84 => some ((), M84)))) else (if x29 = (1 : Int32) then (gw_gu (gw_in x13 10) (gw_gu (gw_in x6 10) (gw_lt (gw_sL M (a0 + 4) x6.toNatClampNeg (M.2 (a0 + 4) x13.toNatClampNeg)) (fun M100 => some ((), M100))))) else (if x29 = (2 : Int32) then (gw_gu (gw_in x6 10) (gw_gu (gw_in x6 10) (gw_lt (gw_sL M (a0 + 4) x6.toNatClampNeg ((M.2 (a0 + 4) x6.toNatClampNeg) + x21.toInt64)) (fun M115 => some ((), M115))))) else (if x29 = (3 : Int32) then (gw_gu (gw_in x6 10) (gw_gu (gw_in x13 10) (gw_gu (gw_in x6 10) (gw_lt (gw_sL M (a0 + 4) x6.toNatClampNeg ((M.2 (a0 + 4) x6.toNatClampNeg) + (M.2 (a0 + 4) x13.toNatClampNeg))) (fun M134 => some ((), M134)))))) else (if x29 = (4 : Int32) then (gw_gu (gw_in x6 10) (gw_gu (gw_in x13 10) (gw_gu (gw_in x6 10) (gw_lt (gw_sL M (a0 + 4) x6.toNatClampNeg ((M.2 (a0 + 4) x6.toNatClampNeg) - (M.2 (a0 + 4) x13.toNatClampNeg))) (fun M153 => some ((), M153)))))) else (if x29 = (5 : Int32) then (gw_gu (gw_in x6 10) (gw_gu (gw_in x6 10) (gw_lt (gw_sL M (a0 + 4) x6.toNatClampNeg ((M.2 (a0 + 4) x6.toNatClampNeg) * x21.toInt64)) (fun M168 => some ((), M168))))) else (if x29 = (6 : Int32) then (if x21 = (0 : Int32) then (fr_reckon_b196  M (0 : Int64) x6 (a0 + 4)) else (gw_gu (gw_in x6 10) (gw_gu (gw_zj x21.toInt64) (fr_reckon_b196  M ((M.2 (a0 + 4) x6.toNatClampNeg) / x21.toInt64) x6 (a0 + 4))))) else (if x29 = (7 : Int32) then (gw_gu (gw_in x6 10) (gw_gu (gw_in x6 10) (gw_lt (gw_sL M (a0 + 4) x6.toNatClampNeg ((M.2 (a0 + 4) x6.toNatClampNeg) <<< (x21.toInt64 &&& 63))) (fun M210 => some ((), M210))))) else (some ((), M)))))))))))))))))
set_option maxRecDepth 100000 in
set_option maxHeartbeats 4000000 in
theorem wb_fr_reckon_196 {p : Program} {l : Launch} {e : Env} {s : State} {m : MethodId} {args : Array Value} {below : List Frame} {meth : Method} {c : Code} {X : gw_X} {Y : gw_M} {z : (Unit × gw_M)} (C0 : gw_C ((Cond.code yy_fr_reckon by_fr_reckon 6 none) :: gw_w) by_fr_reckon 6 none "AccountMachine$Frame" X p s m args meth c) (M : gw_M) (t0 : Int64) (t1 : Int32) (b2 : Nat) (H : Heap) (locs : List Loc) (ls : Array Slot) (hb2 : gc_k b2 = (1, 10)) (G : gw_G X (gw_E X M Y) s H locs) (hl : lv_has ls 6 []) (hF : fr_reckon_b196  M t0 t1 b2 = some z) : W p l e rm_fr_reckon s m args below meth c H locs 0 0 (MQ below (gw_Qv X (fun M => (gw_E X M Y)) z) args s 0 0 (gw_A X)) (F0 m 196 ls [.long t0, .int t1, .ref (gc_a X b2)]) := by
  obtain ⟨hx, hb, hml, hown, hts, hr, hlocks, hK⟩ := id C0
  have hg : ∀ w ∈ gw_w, w.before args s = true := fun w h => hts w (List.mem_cons_of_mem _ h)
  unfold fr_reckon_b196 at hF
  obtain ⟨h196, hF⟩ := gw_gd hF
  refine gc_last hx hb hK G hb2 (gw_vp h196) (j := t1.toNatClampNeg) rfl dd_fr_reckon_196 (fun M196 H locs e196 G => ?_)
  replace hF := gw_ly e196 hF
  refine lv_goto (tgt := 214) hx hb dd_fr_reckon_197 (by decide) ?_
  exact W.vret hx hb hr (fun t ht hW => gw_endv (EF := (fun M => (gw_E X M Y))) (M := M196) G ht hF) G.2.2.2.2 dd_fr_reckon_214 hlocks
set_option maxRecDepth 100000 in
set_option maxHeartbeats 4000000 in
theorem wb_fr_reckon_0 {p : Program} {l : Launch} {e : Env} {s : State} {m : MethodId} {args : Array Value} {below : List Frame} {meth : Method} {c : Code} {X : gw_X} {Y : gw_M} {z : (Unit × gw_M)} (C0 : gw_C ((Cond.code yy_fr_reckon by_fr_reckon 6 none) :: gw_w) by_fr_reckon 6 none "AccountMachine$Frame" X p s m args meth c) (M : gw_M) (a0 : Nat) (a1 : Nat) (v2 : Int32) (H : Heap) (locs : List Loc) (ls : Array Slot) (ha0 : gc_k a0 = (6, 0)) (ha1 : gc_k a1 = (5, 0)) (G : gw_G X (gw_E X M Y) s H locs) (hl : lv_has ls 6 [(0, .ref (gc_a X a0)), (1, .ref (gc_a X a1)), (2, .int v2)]) (hF : fr_reckon_b0  M a0 a1 v2 = some z) : W p l e rm_fr_reckon s m args below meth c H locs 0 0 (MQ below (gw_Qv X (fun M => (gw_E X M Y)) z) args s 0 0 (gw_A X)) (F0 m 0 ls []) := by
  obtain ⟨hx, hb, hml, hown, hts, hr, hlocks, hK⟩ := id C0
  have hg : ∀ w ∈ gw_w, w.before args s = true := fun w h => hts w (List.mem_cons_of_mem _ h)
  unfold fr_reckon_b0 at hF
  refine lv_aload_n hx hb dd_fr_reckon_0 rfl (lv_at hl 1 rfl) ?_
  refine gn_pr_targets hx hb hg hown (gw_nw hK kn_9) hK G ha1 dd_fr_reckon_1 ?_
  refine lv_iload_n hx hb dd_fr_reckon_4 rfl (lv_at hl 2 rfl) ?_
  obtain ⟨h5, hF⟩ := gw_gd hF
  refine gc_iald hx hb hK G (gq_pr_targets ha1) (gw_vp h5) (j := v2.toNatClampNeg) rfl dd_fr_reckon_5 ?_
  refine lv_topi (fun x6 e6 => ?_)
  replace hF := gw_ly e6 hF
  refine lv_istore_n (i := 3) (lv' := [(3, .int x6), (0, .ref (gc_a X a0)), (1, .ref (gc_a X a1)), (2, .int v2)]) hx hb dd_fr_reckon_6 rfl hl (by decide) rfl (fun ls hl => ?_)
  refine lv_aload_n hx hb dd_fr_reckon_7 rfl (lv_at hl 2 rfl) ?_
  refine gn_pr_sources hx hb hg hown (gw_nw hK kn_10) hK G ha1 dd_fr_reckon_8 ?_
  refine lv_iload_n hx hb dd_fr_reckon_11 rfl (lv_at hl 3 rfl) ?_
  obtain ⟨h12, hF⟩ := gw_gd hF
  refine gc_iald hx hb hK G (gq_pr_sources ha1) (gw_vp h12) (j := v2.toNatClampNeg) rfl dd_fr_reckon_12 ?_
  refine W.eq (g2 := F0 m 13 _ _) rfl ?_
  refine lv_topi (fun x13 e13 => ?_)
  replace hF := gw_ly e13 hF
  refine lv_istore (i := 4) (lv' := [(4, .int x13), (3, .int x6), (0, .ref (gc_a X a0)), (1, .ref (gc_a X a1)), (2, .int v2)]) hx hb dd_fr_reckon_13 hl (by decide) rfl (fun ls hl => ?_)
  refine lv_aload_n hx hb dd_fr_reckon_15 rfl (lv_at hl 3 rfl) ?_
  refine gn_pr_numbers hx hb hg hown (gw_nw hK kn_11) hK G ha1 dd_fr_reckon_16 ?_
  refine lv_iload_n hx hb dd_fr_reckon_19 rfl (lv_at hl 4 rfl) ?_
  obtain ⟨h20, hF⟩ := gw_gd hF
  refine gc_iald hx hb hK G (gq_pr_numbers ha1) (gw_vp h20) (j := v2.toNatClampNeg) rfl dd_fr_reckon_20 ?_
  refine lv_topi (fun x21 e21 => ?_)
  replace hF := gw_ly e21 hF
  refine lv_istore (i := 5) (lv' := [(5, .int x21), (4, .int x13), (3, .int x6), (0, .ref (gc_a X a0)), (1, .ref (gc_a X a1)), (2, .int v2)]) hx hb dd_fr_reckon_21 hl (by decide) rfl (fun ls hl => ?_)
  refine lv_aload_n hx hb dd_fr_reckon_23 rfl (lv_at hl 4 rfl) ?_
  refine gn_pr_kinds hx hb hg hown (gw_nw hK kn_12) hK G ha1 dd_fr_reckon_24 ?_
  refine lv_iload_n hx hb dd_fr_reckon_27 rfl (lv_at hl 5 rfl) ?_
  obtain ⟨h28, hF⟩ := gw_gd hF
  refine gc_iald hx hb hK G (gq_pr_kinds ha1) (gw_vp h28) (j := v2.toNatClampNeg) rfl dd_fr_reckon_28 ?_
  refine W.eq (g2 := F0 m 29 _ _) rfl ?_
  refine lv_topi (fun x29 e29 => ?_)
  replace hF := gw_ly e29 hF
  by_cases q29_0 : x29 = (0 : Int32)
  · replace hF := gw_et q29_0 hF
    refine lv_tableIn (off := 47) (tgt := 76) hx hb dd_fr_reckon_29 (by rw [q29_0]; decide) (by rw [q29_0]; decide) (by rw [q29_0]; decide) (by decide) ?_
    refine lv_aload_n hx hb dd_fr_reckon_76 rfl (lv_at hl 3 rfl) ?_
    refine gf_fr_registers hx hb hg hown (hg _ kw_28) hK G ha0 dd_fr_reckon_77 ?_
    refine lv_iload_n hx hb dd_fr_reckon_80 rfl (lv_at hl 2 rfl) ?_
    refine lv_iload hx hb dd_fr_reckon_81 (lv_at hl 0 rfl) ?_
    refine lv_i2l (v := x21.toInt64) hx hb dd_fr_reckon_83 rfl ?_
    obtain ⟨h84, hF⟩ := gw_gd hF
    refine gc_last hx hb hK G (gq_fr_registers ha0) (gw_vp h84) (j := x6.toNatClampNeg) rfl dd_fr_reckon_84 (fun M84 H locs e84 G => ?_)
    replace hF := gw_ly e84 hF
    refine lv_goto (tgt := 214) hx hb dd_fr_reckon_85 (by decide) ?_
    exact W.vret hx hb hr (fun t ht hW => gw_endv (EF := (fun M => (gw_E X M Y))) (M := M84) G ht hF) G.2.2.2.2 dd_fr_reckon_214 hlocks
  replace hF := gw_ef q29_0 hF
  by_cases q29_1 : x29 = (1 : Int32)
  · replace hF := gw_et q29_1 hF
    refine lv_tableIn (off := 59) (tgt := 88) hx hb dd_fr_reckon_29 (by rw [q29_1]; decide) (by rw [q29_1]; decide) (by rw [q29_1]; decide) (by decide) ?_
    refine lv_aload_n hx hb dd_fr_reckon_88 rfl (lv_at hl 3 rfl) ?_
    refine gf_fr_registers hx hb hg hown (hg _ kw_28) hK G ha0 dd_fr_reckon_89 ?_
    refine lv_iload_n hx hb dd_fr_reckon_92 rfl (lv_at hl 2 rfl) ?_
    refine lv_aload_n hx hb dd_fr_reckon_93 rfl (lv_at hl 3 rfl) ?_
    refine gf_fr_registers hx hb hg hown (hg _ kw_28) hK G ha0 dd_fr_reckon_94 ?_
    refine lv_iload hx hb dd_fr_reckon_97 (lv_at hl 1 rfl) ?_
    obtain ⟨h99, hF⟩ := gw_gd hF
    refine gc_lald hx hb hK G (gq_fr_registers ha0) (gw_vp h99) (j := x13.toNatClampNeg) rfl dd_fr_reckon_99 ?_
    obtain ⟨h100, hF⟩ := gw_gd hF
    refine gc_last hx hb hK G (gq_fr_registers ha0) (gw_vp h100) (j := x6.toNatClampNeg) rfl dd_fr_reckon_100 (fun M100 H locs e100 G => ?_)
    replace hF := gw_ly e100 hF
    refine lv_goto (tgt := 214) hx hb dd_fr_reckon_101 (by decide) ?_
    refine W.eq (g2 := F0 m 214 _ _) rfl ?_
    exact W.vret hx hb hr (fun t ht hW => gw_endv (EF := (fun M => (gw_E X M Y))) (M := M100) G ht hF) G.2.2.2.2 dd_fr_reckon_214 hlocks
  replace hF := gw_ef q29_1 hF
  by_cases q29_2 : x29 = (2 : Int32)
  · replace hF := gw_et q29_2 hF
    refine lv_tableIn (off := 75) (tgt := 104) hx hb dd_fr_reckon_29 (by rw [q29_2]; decide) (by rw [q29_2]; decide) (by rw [q29_2]; decide) (by decide) ?_
    refine lv_aload_n hx hb dd_fr_reckon_104 rfl (lv_at hl 3 rfl) ?_
    refine gf_fr_registers hx hb hg hown (hg _ kw_28) hK G ha0 dd_fr_reckon_105 ?_
    refine lv_iload_n hx hb dd_fr_reckon_108 rfl (lv_at hl 2 rfl) ?_
    refine lv_dup2_11 hx hb dd_fr_reckon_109 rfl rfl ?_
    obtain ⟨h110, hF⟩ := gw_gd hF
    refine gc_lald hx hb hK G (gq_fr_registers ha0) (gw_vp h110) (j := x6.toNatClampNeg) rfl dd_fr_reckon_110 ?_
    refine lv_iload hx hb dd_fr_reckon_111 (lv_at hl 0 rfl) ?_
    refine lv_i2l (v := x21.toInt64) hx hb dd_fr_reckon_113 rfl ?_
    refine lv_ladd hx hb dd_fr_reckon_114 ?_
    obtain ⟨h115, hF⟩ := gw_gd hF
    refine gc_last hx hb hK G (gq_fr_registers ha0) (gw_vp h115) (j := x6.toNatClampNeg) rfl dd_fr_reckon_115 (fun M115 H locs e115 G => ?_)
    replace hF := gw_ly e115 hF
    refine W.eq (g2 := F0 m 116 _ _) rfl ?_
    refine lv_goto (tgt := 214) hx hb dd_fr_reckon_116 (by decide) ?_
    exact W.vret hx hb hr (fun t ht hW => gw_endv (EF := (fun M => (gw_E X M Y))) (M := M115) G ht hF) G.2.2.2.2 dd_fr_reckon_214 hlocks
  replace hF := gw_ef q29_2 hF
  by_cases q29_3 : x29 = (3 : Int32)
  · replace hF := gw_et q29_3 hF
    refine lv_tableIn (off := 90) (tgt := 119) hx hb dd_fr_reckon_29 (by rw [q29_3]; decide) (by rw [q29_3]; decide) (by rw [q29_3]; decide) (by decide) ?_
    refine lv_aload_n hx hb dd_fr_reckon_119 rfl (lv_at hl 3 rfl) ?_
    refine gf_fr_registers hx hb hg hown (hg _ kw_28) hK G ha0 dd_fr_reckon_120 ?_
    refine lv_iload_n hx hb dd_fr_reckon_123 rfl (lv_at hl 2 rfl) ?_
    refine lv_dup2_11 hx hb dd_fr_reckon_124 rfl rfl ?_
    obtain ⟨h125, hF⟩ := gw_gd hF
    refine gc_lald hx hb hK G (gq_fr_registers ha0) (gw_vp h125) (j := x6.toNatClampNeg) rfl dd_fr_reckon_125 ?_
    refine lv_aload_n hx hb dd_fr_reckon_126 rfl (lv_at hl 3 rfl) ?_
    refine gf_fr_registers hx hb hg hown (hg _ kw_28) hK G ha0 dd_fr_reckon_127 ?_
    refine lv_iload hx hb dd_fr_reckon_130 (lv_at hl 1 rfl) ?_
    obtain ⟨h132, hF⟩ := gw_gd hF
    refine gc_lald hx hb hK G (gq_fr_registers ha0) (gw_vp h132) (j := x13.toNatClampNeg) rfl dd_fr_reckon_132 ?_
    refine W.eq (g2 := F0 m 133 _ _) rfl ?_
    refine lv_ladd hx hb dd_fr_reckon_133 ?_
    obtain ⟨h134, hF⟩ := gw_gd hF
    refine gc_last hx hb hK G (gq_fr_registers ha0) (gw_vp h134) (j := x6.toNatClampNeg) rfl dd_fr_reckon_134 (fun M134 H locs e134 G => ?_)
    replace hF := gw_ly e134 hF
    refine lv_goto (tgt := 214) hx hb dd_fr_reckon_135 (by decide) ?_
    exact W.vret hx hb hr (fun t ht hW => gw_endv (EF := (fun M => (gw_E X M Y))) (M := M134) G ht hF) G.2.2.2.2 dd_fr_reckon_214 hlocks
  replace hF := gw_ef q29_3 hF
  by_cases q29_4 : x29 = (4 : Int32)
  · replace hF := gw_et q29_4 hF
    refine lv_tableIn (off := 109) (tgt := 138) hx hb dd_fr_reckon_29 (by rw [q29_4]; decide) (by rw [q29_4]; decide) (by rw [q29_4]; decide) (by decide) ?_
    refine lv_aload_n hx hb dd_fr_reckon_138 rfl (lv_at hl 3 rfl) ?_
    refine gf_fr_registers hx hb hg hown (hg _ kw_28) hK G ha0 dd_fr_reckon_139 ?_
    refine lv_iload_n hx hb dd_fr_reckon_142 rfl (lv_at hl 2 rfl) ?_
    refine lv_dup2_11 hx hb dd_fr_reckon_143 rfl rfl ?_
    obtain ⟨h144, hF⟩ := gw_gd hF
    refine gc_lald hx hb hK G (gq_fr_registers ha0) (gw_vp h144) (j := x6.toNatClampNeg) rfl dd_fr_reckon_144 ?_
    refine lv_aload_n hx hb dd_fr_reckon_145 rfl (lv_at hl 3 rfl) ?_
    refine gf_fr_registers hx hb hg hown (hg _ kw_28) hK G ha0 dd_fr_reckon_146 ?_
    refine lv_iload hx hb dd_fr_reckon_149 (lv_at hl 1 rfl) ?_
    obtain ⟨h151, hF⟩ := gw_gd hF
    refine gc_lald hx hb hK G (gq_fr_registers ha0) (gw_vp h151) (j := x13.toNatClampNeg) rfl dd_fr_reckon_151 ?_
    refine W.eq (g2 := F0 m 152 _ _) rfl ?_
    refine lv_lsub hx hb dd_fr_reckon_152 ?_
    obtain ⟨h153, hF⟩ := gw_gd hF
    refine gc_last hx hb hK G (gq_fr_registers ha0) (gw_vp h153) (j := x6.toNatClampNeg) rfl dd_fr_reckon_153 (fun M153 H locs e153 G => ?_)
    replace hF := gw_ly e153 hF
    refine lv_goto (tgt := 214) hx hb dd_fr_reckon_154 (by decide) ?_
    exact W.vret hx hb hr (fun t ht hW => gw_endv (EF := (fun M => (gw_E X M Y))) (M := M153) G ht hF) G.2.2.2.2 dd_fr_reckon_214 hlocks
  replace hF := gw_ef q29_4 hF
  by_cases q29_5 : x29 = (5 : Int32)
  · replace hF := gw_et q29_5 hF
    refine lv_tableIn (off := 128) (tgt := 157) hx hb dd_fr_reckon_29 (by rw [q29_5]; decide) (by rw [q29_5]; decide) (by rw [q29_5]; decide) (by decide) ?_
    refine lv_aload_n hx hb dd_fr_reckon_157 rfl (lv_at hl 3 rfl) ?_
    refine gf_fr_registers hx hb hg hown (hg _ kw_28) hK G ha0 dd_fr_reckon_158 ?_
    refine lv_iload_n hx hb dd_fr_reckon_161 rfl (lv_at hl 2 rfl) ?_
    refine lv_dup2_11 hx hb dd_fr_reckon_162 rfl rfl ?_
    obtain ⟨h163, hF⟩ := gw_gd hF
    refine gc_lald hx hb hK G (gq_fr_registers ha0) (gw_vp h163) (j := x6.toNatClampNeg) rfl dd_fr_reckon_163 ?_
    refine lv_iload hx hb dd_fr_reckon_164 (lv_at hl 0 rfl) ?_
    refine lv_i2l (v := x21.toInt64) hx hb dd_fr_reckon_166 rfl ?_
    refine lv_lmul hx hb dd_fr_reckon_167 ?_
    obtain ⟨h168, hF⟩ := gw_gd hF
    refine gc_last hx hb hK G (gq_fr_registers ha0) (gw_vp h168) (j := x6.toNatClampNeg) rfl dd_fr_reckon_168 (fun M168 H locs e168 G => ?_)
    replace hF := gw_ly e168 hF
    refine W.eq (g2 := F0 m 169 _ _) rfl ?_
    refine lv_goto (tgt := 214) hx hb dd_fr_reckon_169 (by decide) ?_
    exact W.vret hx hb hr (fun t ht hW => gw_endv (EF := (fun M => (gw_E X M Y))) (M := M168) G ht hF) G.2.2.2.2 dd_fr_reckon_214 hlocks
  replace hF := gw_ef q29_5 hF
  by_cases q29_6 : x29 = (6 : Int32)
  · replace hF := gw_et q29_6 hF
    refine lv_tableIn (off := 143) (tgt := 172) hx hb dd_fr_reckon_29 (by rw [q29_6]; decide) (by rw [q29_6]; decide) (by rw [q29_6]; decide) (by decide) ?_
    refine lv_aload_n hx hb dd_fr_reckon_172 rfl (lv_at hl 3 rfl) ?_
    refine gf_fr_registers hx hb hg hown (hg _ kw_28) hK G ha0 dd_fr_reckon_173 ?_
    refine lv_iload_n hx hb dd_fr_reckon_176 rfl (lv_at hl 2 rfl) ?_
    refine lv_iload hx hb dd_fr_reckon_177 (lv_at hl 0 rfl) ?_
    refine lv_if_ne (tgt := 186) hx hb dd_fr_reckon_179 (by decide) (fun h179 => ?_) (fun h179 => ?_)
    · replace hF := gw_ef h179 hF
      refine lv_aload_n hx hb dd_fr_reckon_186 rfl (lv_at hl 3 rfl) ?_
      refine gf_fr_registers hx hb hg hown (hg _ kw_28) hK G ha0 dd_fr_reckon_187 ?_
      refine lv_iload_n hx hb dd_fr_reckon_190 rfl (lv_at hl 2 rfl) ?_
      obtain ⟨h191, hF⟩ := gw_gd hF
      refine gc_lald hx hb hK G (gq_fr_registers ha0) (gw_vp h191) (j := x6.toNatClampNeg) rfl dd_fr_reckon_191 ?_
      refine lv_iload hx hb dd_fr_reckon_192 (lv_at hl 0 rfl) ?_
      refine lv_i2l (v := x21.toInt64) hx hb dd_fr_reckon_194 rfl ?_
      obtain ⟨h195, hF⟩ := gw_gd hF
      refine lv_ldiv hx hb dd_fr_reckon_195 (gw_nzj h195) ?_
      exact wb_fr_reckon_196 C0  M ((M.2 (a0 + 4) x6.toNatClampNeg) / x21.toInt64) x6 (a0 + 4) _ _ _ (gq_fr_registers ha0) G (lv_sub hl [] rfl) hF
    · replace hF := gw_et h179 hF
      refine lv_lconst (v := (0 : Int64)) hx hb dd_fr_reckon_182 (by decide) ?_
      refine lv_goto (tgt := 196) hx hb dd_fr_reckon_183 (by decide) ?_
      exact wb_fr_reckon_196 C0  M (0 : Int64) x6 (a0 + 4) _ _ _ (gq_fr_registers ha0) G (lv_sub hl [] rfl) hF
  replace hF := gw_ef q29_6 hF
  by_cases q29_7 : x29 = (7 : Int32)
  · replace hF := gw_et q29_7 hF
    refine lv_tableIn (off := 171) (tgt := 200) hx hb dd_fr_reckon_29 (by rw [q29_7]; decide) (by rw [q29_7]; decide) (by rw [q29_7]; decide) (by decide) ?_
    refine lv_aload_n hx hb dd_fr_reckon_200 rfl (lv_at hl 3 rfl) ?_
    refine gf_fr_registers hx hb hg hown (hg _ kw_28) hK G ha0 dd_fr_reckon_201 ?_
    refine lv_iload_n hx hb dd_fr_reckon_204 rfl (lv_at hl 2 rfl) ?_
    refine lv_dup2_11 hx hb dd_fr_reckon_205 rfl rfl ?_
    obtain ⟨h206, hF⟩ := gw_gd hF
    refine gc_lald hx hb hK G (gq_fr_registers ha0) (gw_vp h206) (j := x6.toNatClampNeg) rfl dd_fr_reckon_206 ?_
    refine lv_iload hx hb dd_fr_reckon_207 (lv_at hl 0 rfl) ?_
    refine lv_lshl (v := (M.2 (a0 + 4) x6.toNatClampNeg) <<< (x21.toInt64 &&& 63)) hx hb dd_fr_reckon_209 rfl ?_
    obtain ⟨h210, hF⟩ := gw_gd hF
    refine gc_last hx hb hK G (gq_fr_registers ha0) (gw_vp h210) (j := x6.toNatClampNeg) rfl dd_fr_reckon_210 (fun M210 H locs e210 G => ?_)
    replace hF := gw_ly e210 hF
    refine lv_goto (tgt := 214) hx hb dd_fr_reckon_211 (by decide) ?_
    refine W.eq (g2 := F0 m 214 _ _) rfl ?_
    exact W.vret hx hb hr (fun t ht hW => gw_endv (EF := (fun M => (gw_E X M Y))) (M := M210) G ht hF) G.2.2.2.2 dd_fr_reckon_214 hlocks
  replace hF := gw_ef q29_7 hF
  have n29_0 := gw_ne (c := (0 : Int32)) (n := 0) (by decide) q29_0
  have n29_1 := gw_ne (c := (1 : Int32)) (n := 1) (by decide) q29_1
  have n29_2 := gw_ne (c := (2 : Int32)) (n := 2) (by decide) q29_2
  have n29_3 := gw_ne (c := (3 : Int32)) (n := 3) (by decide) q29_3
  have n29_4 := gw_ne (c := (4 : Int32)) (n := 4) (by decide) q29_4
  have n29_5 := gw_ne (c := (5 : Int32)) (n := 5) (by decide) q29_5
  have n29_6 := gw_ne (c := (6 : Int32)) (n := 6) (by decide) q29_6
  have n29_7 := gw_ne (c := (7 : Int32)) (n := 7) (by decide) q29_7
  refine lv_tableOut (tgt := 214) hx hb dd_fr_reckon_29 (by omega) (by decide) ?_
  exact W.vret hx hb hr (fun t ht hW => gw_endv (EF := (fun M => (gw_E X M Y))) (M := M) G ht hF) G.2.2.2.2 dd_fr_reckon_214 hlocks
set_option maxRecDepth 100000 in
set_option maxHeartbeats 4000000 in
theorem ct_fr_reckon (l : Launch) (X : gw_X) (Y : gw_M) (M : gw_M) (a0 : Nat) (a1 : Nat) (v2 : Int32) (ha0 : gc_k a0 = (6, 0)) (ha1 : gc_k a1 = (5, 0)) (z : (Unit × gw_M)) (hF : fr_reckon_b0 M a0 a1 v2 = some z) : Met l yy_fr_reckon ((Cond.code yy_fr_reckon by_fr_reckon 6 none) :: gw_w) rm_fr_reckon (va_Pc [.ref (gc_a X a0), .ref (gc_a X a1), .int v2] (gw_B X (gw_E X M Y))) (gw_Qv X (fun M => (gw_E X M Y)) z) 0 0 (gw_A X) := by
  refine Met.ofW (cc := by_fr_reckon) (maxL := 6) (ret := none) (by decide) rfl ?_
  intro p e s m args below meth c s₁ B hml hv
  obtain ⟨rfl, hB⟩ := hv
  rw [lg_entry_eq]
  have hl := lv_entry ([.ref (gc_a X a0), .ref (gc_a X a1), .int v2]) (n := 6) (Nat.le_of_ble_eq_true rfl)
  generalize (lg_sl ([.ref (gc_a X a0), .ref (gc_a X a1), .int v2]) ++ List.replicate (6 - (lg_sl ([.ref (gc_a X a0), .ref (gc_a X a1), .int v2])).length) Slot.unset).toArray = ls at hl ⊢
  have hl : lv_has ls 6 [(0, .ref (gc_a X a0)), (1, .ref (gc_a X a1)), (2, .int v2)] := hl
  exact wb_fr_reckon_0 (gw_ctx B hml rfl hB) M a0 a1 v2 _ _ _ ha0 ha1 (gw_start hB) hl hF
/-! AccountMachine$Frame.indexOf(J)I -/
abbrev rm_fr_indexOf : Room := { frames := 1, cells := 0, slots := 0, locals := 20 }
theorem dd_fr_indexOf_0 : decode by_fr_indexOf 0 = .ok (.lload_n 1, 1) := by decide +kernel
theorem dd_fr_indexOf_1 : decode by_fr_indexOf 1 = .ok (.ldc2_w 109, 3) := by decide +kernel
theorem dd_fr_indexOf_4 : decode by_fr_indexOf 4 = .ok (.lcmp, 1) := by decide +kernel
theorem dd_fr_indexOf_5 : decode by_fr_indexOf 5 = .ok (.ifCond .lt 18, 3) := by decide +kernel
theorem dd_fr_indexOf_8 : decode by_fr_indexOf 8 = .ok (.lload_n 1, 1) := by decide +kernel
theorem dd_fr_indexOf_9 : decode by_fr_indexOf 9 = .ok (.ldc2_w 111, 3) := by decide +kernel
theorem dd_fr_indexOf_12 : decode by_fr_indexOf 12 = .ok (.lcmp, 1) := by decide +kernel
theorem dd_fr_indexOf_13 : decode by_fr_indexOf 13 = .ok (.ifCond .ge 10, 3) := by decide +kernel
theorem dd_fr_indexOf_16 : decode by_fr_indexOf 16 = .ok (.lload_n 1, 1) := by decide +kernel
theorem dd_fr_indexOf_17 : decode by_fr_indexOf 17 = .ok (.l2i, 1) := by decide +kernel
theorem dd_fr_indexOf_18 : decode by_fr_indexOf 18 = .ok (.sipush 1000, 3) := by decide +kernel
theorem dd_fr_indexOf_21 : decode by_fr_indexOf 21 = .ok (.isub, 1) := by decide +kernel
theorem dd_fr_indexOf_22 : decode by_fr_indexOf 22 = .ok (.ireturn, 1) := by decide +kernel
theorem dd_fr_indexOf_23 : decode by_fr_indexOf 23 = .ok (.lload_n 1, 1) := by decide +kernel
theorem dd_fr_indexOf_24 : decode by_fr_indexOf 24 = .ok (.ldc2_w 42, 3) := by decide +kernel
theorem dd_fr_indexOf_27 : decode by_fr_indexOf 27 = .ok (.lcmp, 1) := by decide +kernel
theorem dd_fr_indexOf_28 : decode by_fr_indexOf 28 = .ok (.ifCond .lt 35, 3) := by decide +kernel
theorem dd_fr_indexOf_31 : decode by_fr_indexOf 31 = .ok (.lload_n 1, 1) := by decide +kernel
theorem dd_fr_indexOf_32 : decode by_fr_indexOf 32 = .ok (.sipush 2000, 3) := by decide +kernel
theorem dd_fr_indexOf_35 : decode by_fr_indexOf 35 = .ok (.aload_n 0, 1) := by decide +kernel
theorem dd_fr_indexOf_36 : decode by_fr_indexOf 36 = .ok (.getfield 12, 3) := by decide +kernel
theorem dd_fr_indexOf_39 : decode by_fr_indexOf 39 = .ok (.getfield 44, 3) := by decide +kernel
theorem dd_fr_indexOf_42 : decode by_fr_indexOf 42 = .ok (.bipush 10, 2) := by decide +kernel
theorem dd_fr_indexOf_44 : decode by_fr_indexOf 44 = .ok (.imul, 1) := by decide +kernel
theorem dd_fr_indexOf_45 : decode by_fr_indexOf 45 = .ok (.iadd, 1) := by decide +kernel
theorem dd_fr_indexOf_46 : decode by_fr_indexOf 46 = .ok (.i2l, 1) := by decide +kernel
theorem dd_fr_indexOf_47 : decode by_fr_indexOf 47 = .ok (.lcmp, 1) := by decide +kernel
theorem dd_fr_indexOf_48 : decode by_fr_indexOf 48 = .ok (.ifCond .ge 15, 3) := by decide +kernel
theorem dd_fr_indexOf_51 : decode by_fr_indexOf 51 = .ok (.iconst 0, 1) := by decide +kernel
theorem dd_fr_indexOf_52 : decode by_fr_indexOf 52 = .ok (.invokestatic 57, 3) := by decide +kernel
theorem dd_fr_indexOf_55 : decode by_fr_indexOf 55 = .ok (.lload_n 1, 1) := by decide +kernel
theorem dd_fr_indexOf_56 : decode by_fr_indexOf 56 = .ok (.l2i, 1) := by decide +kernel
theorem dd_fr_indexOf_57 : decode by_fr_indexOf 57 = .ok (.iadd, 1) := by decide +kernel
theorem dd_fr_indexOf_58 : decode by_fr_indexOf 58 = .ok (.sipush 2000, 3) := by decide +kernel
theorem dd_fr_indexOf_61 : decode by_fr_indexOf 61 = .ok (.isub, 1) := by decide +kernel
theorem dd_fr_indexOf_62 : decode by_fr_indexOf 62 = .ok (.ireturn, 1) := by decide +kernel
theorem dd_fr_indexOf_63 : decode by_fr_indexOf 63 = .ok (.iconst (-1), 1) := by decide +kernel
theorem dd_fr_indexOf_64 : decode by_fr_indexOf 64 = .ok (.ireturn, 1) := by decide +kernel
def fr_indexOf_b23 (M : gw_M) (a0 : Nat) (v1 : Int64) : Option (Int32 × gw_M) :=
  if (lg_cmp v1 (2000 : Int64)) < (0 : Int32) then (some ((-1 : Int32), M)) else (if (0 : Int32) ≤ (lg_cmp v1 (((2000 : Int32) + ((M.1 (a0 + 1) 2) * (10 : Int32))).toInt64)) then (some ((-1 : Int32), M)) else (gw_bd (fr_baseOf_b0 M (0 : Int32)) (fun r52 M52 => some ((r52 + v1.toInt32) - (2000 : Int32), M52))))
def fr_indexOf_b0 (M : gw_M) (a0 : Nat) (v1 : Int64) : Option (Int32 × gw_M) :=
  if (lg_cmp v1 (1000 : Int64)) < (0 : Int32) then (fr_indexOf_b23  M a0 v1) else (if (0 : Int32) ≤ (lg_cmp v1 (1016 : Int64)) then (fr_indexOf_b23  M a0 v1) else (some (v1.toInt32 - (1000 : Int32), M)))
set_option maxRecDepth 100000 in
set_option maxHeartbeats 4000000 in
theorem wb_fr_indexOf_23 {p : Program} {l : Launch} {e : Env} {s : State} {m : MethodId} {args : Array Value} {below : List Frame} {meth : Method} {c : Code} {X : gw_X} {Y : gw_M} {z : (Int32 × gw_M)} (C0 : gw_C ((Cond.code yy_fr_indexOf by_fr_indexOf 3 (some .int)) :: gw_w) by_fr_indexOf 3 (some .int) "AccountMachine$Frame" X p s m args meth c) (M : gw_M) (a0 : Nat) (v1 : Int64) (H : Heap) (locs : List Loc) (ls : Array Slot) (ha0 : gc_k a0 = (6, 0)) (G : gw_G X (gw_E X M Y) s H locs) (hl : lv_has ls 3 [(0, .ref (gc_a X a0)), (1, .long v1)]) (hF : fr_indexOf_b23  M a0 v1 = some z) : W p l e rm_fr_indexOf s m args below meth c H locs 0 0 (MQ below (gw_Qi X (fun M => (gw_E X M Y)) z) args s 0 0 (gw_A X)) (F0 m 23 ls []) := by
  obtain ⟨hx, hb, hml, hown, hts, hr, hlocks, hK⟩ := id C0
  have hg : ∀ w ∈ gw_w, w.before args s = true := fun w h => hts w (List.mem_cons_of_mem _ h)
  unfold fr_indexOf_b23 at hF
  refine lv_lload_n hx hb dd_fr_indexOf_23 rfl (lv_at hl 1 rfl) ?_
  refine lv_ldc2 (v := (2000 : Int64)) hx hb hown (hg _ kw_29) dd_fr_indexOf_24 ?_
  refine W.lcmp hx hb dd_fr_indexOf_27 ?_
  refine lv_if_lt (tgt := 63) hx hb dd_fr_indexOf_28 (by decide) (fun h28 => ?_) (fun h28 => ?_)
  · replace hF := gw_et h28 hF
    refine lv_iconst (v := (-1 : Int32)) hx hb dd_fr_indexOf_63 (by decide) ?_
    exact W.iret hx hb hr (fun t ht hW => gw_endi (EF := (fun M => (gw_E X M Y))) (M := M) G ht hF) G.2.2.2.2 dd_fr_indexOf_64 hlocks
  · replace hF := gw_ef h28 hF
    refine lv_lload_n hx hb dd_fr_indexOf_31 rfl (lv_at hl 1 rfl) ?_
    refine lv_sipush (v := (2000 : Int32)) hx hb dd_fr_indexOf_32 (by decide) ?_
    refine lv_aload_n hx hb dd_fr_indexOf_35 rfl (lv_at hl 0 rfl) ?_
    refine gf_fr_order hx hb hg hown (hg _ kw_4) hK G ha0 dd_fr_indexOf_36 ?_
    refine gn_od_count hx hb hg hown (gw_nw hK kn_1) hK G (gq_fr_order ha0) dd_fr_indexOf_39 ?_
    refine lv_bipush (v := (10 : Int32)) hx hb dd_fr_indexOf_42 (by decide) ?_
    refine lv_imul hx hb dd_fr_indexOf_44 ?_
    refine lv_iadd hx hb dd_fr_indexOf_45 ?_
    refine lv_i2l (v := ((2000 : Int32) + ((M.1 (a0 + 1) 2) * (10 : Int32))).toInt64) hx hb dd_fr_indexOf_46 rfl ?_
    refine W.eq (g2 := F0 m 47 _ _) rfl ?_
    refine W.lcmp hx hb dd_fr_indexOf_47 ?_
    refine lv_if_ge (tgt := 63) hx hb dd_fr_indexOf_48 (by decide) (fun h48 => ?_) (fun h48 => ?_)
    · replace hF := gw_et h48 hF
      refine lv_iconst (v := (-1 : Int32)) hx hb dd_fr_indexOf_63 (by decide) ?_
      exact W.iret hx hb hr (fun t ht hW => gw_endi (EF := (fun M => (gw_E X M Y))) (M := M) G ht hF) G.2.2.2.2 dd_fr_indexOf_64 hlocks
    · replace hF := gw_ef h48 hF
      refine lv_iconst (v := (0 : Int32)) hx hb dd_fr_indexOf_51 (by decide) ?_
      obtain ⟨r52, M52, hc52, hF⟩ := gw_be hF
      refine gw_ci G (va_runS (As := [.int (0 : Int32)]) (rest := []) ⟨hx, hb, hml, hown, hts⟩ (ct_fr_baseOf l X Y M (0 : Int32)  _ hc52) (cwS 1 hts (gw_gS kw_6 kw_7 kw_8 kw_5) rfl rfl rfl (by decide +kernel) ⟨Nat.le_of_ble_eq_true rfl, Nat.le_of_ble_eq_true rfl⟩) ⟨gw_blind, gw_pre hK G⟩ rfl rfl hl.1 rfl (Nat.le_of_ble_eq_true rfl) dd_fr_indexOf_52 ⟨Nat.le_of_ble_eq_true rfl, Nat.le_of_ble_eq_true rfl⟩) (fun H locs G => ?_)
      refine lv_lload_n hx hb dd_fr_indexOf_55 rfl (lv_at hl 1 rfl) ?_
      refine lv_l2i (v := v1.toInt32) hx hb dd_fr_indexOf_56 rfl ?_
      refine lv_iadd hx hb dd_fr_indexOf_57 ?_
      refine lv_sipush (v := (2000 : Int32)) hx hb dd_fr_indexOf_58 (by decide) ?_
      refine lv_isub hx hb dd_fr_indexOf_61 ?_
      exact W.iret hx hb hr (fun t ht hW => gw_endi (EF := (fun M => (gw_E X M Y))) (M := M52) G ht hF) G.2.2.2.2 dd_fr_indexOf_62 hlocks
set_option maxRecDepth 100000 in
set_option maxHeartbeats 4000000 in
theorem wb_fr_indexOf_0 {p : Program} {l : Launch} {e : Env} {s : State} {m : MethodId} {args : Array Value} {below : List Frame} {meth : Method} {c : Code} {X : gw_X} {Y : gw_M} {z : (Int32 × gw_M)} (C0 : gw_C ((Cond.code yy_fr_indexOf by_fr_indexOf 3 (some .int)) :: gw_w) by_fr_indexOf 3 (some .int) "AccountMachine$Frame" X p s m args meth c) (M : gw_M) (a0 : Nat) (v1 : Int64) (H : Heap) (locs : List Loc) (ls : Array Slot) (ha0 : gc_k a0 = (6, 0)) (G : gw_G X (gw_E X M Y) s H locs) (hl : lv_has ls 3 [(0, .ref (gc_a X a0)), (1, .long v1)]) (hF : fr_indexOf_b0  M a0 v1 = some z) : W p l e rm_fr_indexOf s m args below meth c H locs 0 0 (MQ below (gw_Qi X (fun M => (gw_E X M Y)) z) args s 0 0 (gw_A X)) (F0 m 0 ls []) := by
  obtain ⟨hx, hb, hml, hown, hts, hr, hlocks, hK⟩ := id C0
  have hg : ∀ w ∈ gw_w, w.before args s = true := fun w h => hts w (List.mem_cons_of_mem _ h)
  unfold fr_indexOf_b0 at hF
  refine lv_lload_n hx hb dd_fr_indexOf_0 rfl (lv_at hl 1 rfl) ?_
  refine lv_ldc2 (v := (1000 : Int64)) hx hb hown (hg _ kw_32) dd_fr_indexOf_1 ?_
  refine W.lcmp hx hb dd_fr_indexOf_4 ?_
  refine lv_if_lt (tgt := 23) hx hb dd_fr_indexOf_5 (by decide) (fun h5 => ?_) (fun h5 => ?_)
  · replace hF := gw_et h5 hF
    exact wb_fr_indexOf_23 C0  M a0 v1 _ _ _ ha0 G (lv_sub hl [0, 1] rfl) hF
  · replace hF := gw_ef h5 hF
    refine lv_lload_n hx hb dd_fr_indexOf_8 rfl (lv_at hl 1 rfl) ?_
    refine lv_ldc2 (v := (1016 : Int64)) hx hb hown (hg _ kw_33) dd_fr_indexOf_9 ?_
    refine W.lcmp hx hb dd_fr_indexOf_12 ?_
    refine lv_if_ge (tgt := 23) hx hb dd_fr_indexOf_13 (by decide) (fun h13 => ?_) (fun h13 => ?_)
    · replace hF := gw_et h13 hF
      exact wb_fr_indexOf_23 C0  M a0 v1 _ _ _ ha0 G (lv_sub hl [0, 1] rfl) hF
    · replace hF := gw_ef h13 hF
      refine lv_lload_n hx hb dd_fr_indexOf_16 rfl (lv_at hl 1 rfl) ?_
      refine lv_l2i (v := v1.toInt32) hx hb dd_fr_indexOf_17 rfl ?_
      refine lv_sipush (v := (1000 : Int32)) hx hb dd_fr_indexOf_18 (by decide) ?_
      refine lv_isub hx hb dd_fr_indexOf_21 ?_
      exact W.iret hx hb hr (fun t ht hW => gw_endi (EF := (fun M => (gw_E X M Y))) (M := M) G ht hF) G.2.2.2.2 dd_fr_indexOf_22 hlocks
set_option maxRecDepth 100000 in
set_option maxHeartbeats 4000000 in
theorem ct_fr_indexOf (l : Launch) (X : gw_X) (Y : gw_M) (M : gw_M) (a0 : Nat) (v1 : Int64) (ha0 : gc_k a0 = (6, 0)) (z : (Int32 × gw_M)) (hF : fr_indexOf_b0 M a0 v1 = some z) : Met l yy_fr_indexOf ((Cond.code yy_fr_indexOf by_fr_indexOf 3 (some .int)) :: gw_w) rm_fr_indexOf (va_Pc [.ref (gc_a X a0), .long v1] (gw_B X (gw_E X M Y))) (gw_Qi X (fun M => (gw_E X M Y)) z) 0 0 (gw_A X) := by
  refine Met.ofW (cc := by_fr_indexOf) (maxL := 3) (ret := (some .int)) (by decide) rfl ?_
  intro p e s m args below meth c s₁ B hml hv
  obtain ⟨rfl, hB⟩ := hv
  rw [lg_entry_eq]
  have hl := lv_entry ([.ref (gc_a X a0), .long v1]) (n := 3) (Nat.le_of_ble_eq_true rfl)
  generalize (lg_sl ([.ref (gc_a X a0), .long v1]) ++ List.replicate (3 - (lg_sl ([.ref (gc_a X a0), .long v1])).length) Slot.unset).toArray = ls at hl ⊢
  have hl : lv_has ls 3 [(0, .ref (gc_a X a0)), (1, .long v1)] := hl
  exact wb_fr_indexOf_0 (gw_ctx B hml rfl hB) M a0 v1 _ _ _ ha0 (gw_start hB) hl hF
/-! AccountMachine$Frame.mayStore(I)Z -/
abbrev rm_fr_mayStore : Room := { frames := 1, cells := 0, slots := 0, locals := 21 }
theorem dd_fr_mayStore_0 : decode by_fr_mayStore 0 = .ok (.iload_n 1, 1) := by decide +kernel
theorem dd_fr_mayStore_1 : decode by_fr_mayStore 1 = .ok (.bipush 16, 2) := by decide +kernel
theorem dd_fr_mayStore_3 : decode by_fr_mayStore 3 = .ok (.if_icmp .ge 5, 3) := by decide +kernel
theorem dd_fr_mayStore_6 : decode by_fr_mayStore 6 = .ok (.iconst 1, 1) := by decide +kernel
theorem dd_fr_mayStore_7 : decode by_fr_mayStore 7 = .ok (.ireturn, 1) := by decide +kernel
theorem dd_fr_mayStore_8 : decode by_fr_mayStore 8 = .ok (.iload_n 1, 1) := by decide +kernel
theorem dd_fr_mayStore_9 : decode by_fr_mayStore 9 = .ok (.bipush 16, 2) := by decide +kernel
theorem dd_fr_mayStore_11 : decode by_fr_mayStore 11 = .ok (.isub, 1) := by decide +kernel
theorem dd_fr_mayStore_12 : decode by_fr_mayStore 12 = .ok (.bipush 10, 2) := by decide +kernel
theorem dd_fr_mayStore_14 : decode by_fr_mayStore 14 = .ok (.irem, 1) := by decide +kernel
theorem dd_fr_mayStore_15 : decode by_fr_mayStore 15 = .ok (.istore_n 2, 1) := by decide +kernel
theorem dd_fr_mayStore_16 : decode by_fr_mayStore 16 = .ok (.iload_n 1, 1) := by decide +kernel
theorem dd_fr_mayStore_17 : decode by_fr_mayStore 17 = .ok (.iload_n 2, 1) := by decide +kernel
theorem dd_fr_mayStore_18 : decode by_fr_mayStore 18 = .ok (.isub, 1) := by decide +kernel
theorem dd_fr_mayStore_19 : decode by_fr_mayStore 19 = .ok (.istore_n 3, 1) := by decide +kernel
theorem dd_fr_mayStore_20 : decode by_fr_mayStore 20 = .ok (.iload_n 2, 1) := by decide +kernel
theorem dd_fr_mayStore_21 : decode by_fr_mayStore 21 = .ok (.iconst 5, 1) := by decide +kernel
theorem dd_fr_mayStore_22 : decode by_fr_mayStore 22 = .ok (.if_icmp .lt 25, 3) := by decide +kernel
theorem dd_fr_mayStore_25 : decode by_fr_mayStore 25 = .ok (.iload_n 2, 1) := by decide +kernel
theorem dd_fr_mayStore_26 : decode by_fr_mayStore 26 = .ok (.i2l, 1) := by decide +kernel
theorem dd_fr_mayStore_27 : decode by_fr_mayStore 27 = .ok (.ldc2_w 113, 3) := by decide +kernel
theorem dd_fr_mayStore_30 : decode by_fr_mayStore 30 = .ok (.aload_n 0, 1) := by decide +kernel
theorem dd_fr_mayStore_31 : decode by_fr_mayStore 31 = .ok (.getfield 22, 3) := by decide +kernel
theorem dd_fr_mayStore_34 : decode by_fr_mayStore 34 = .ok (.iload_n 3, 1) := by decide +kernel
theorem dd_fr_mayStore_35 : decode by_fr_mayStore 35 = .ok (.iconst 4, 1) := by decide +kernel
theorem dd_fr_mayStore_36 : decode by_fr_mayStore 36 = .ok (.iadd, 1) := by decide +kernel
theorem dd_fr_mayStore_37 : decode by_fr_mayStore 37 = .ok (.laload, 1) := by decide +kernel
theorem dd_fr_mayStore_38 : decode by_fr_mayStore 38 = .ok (.ladd, 1) := by decide +kernel
theorem dd_fr_mayStore_39 : decode by_fr_mayStore 39 = .ok (.lcmp, 1) := by decide +kernel
theorem dd_fr_mayStore_40 : decode by_fr_mayStore 40 = .ok (.ifCond .ge 7, 3) := by decide +kernel
theorem dd_fr_mayStore_43 : decode by_fr_mayStore 43 = .ok (.iconst 1, 1) := by decide +kernel
theorem dd_fr_mayStore_44 : decode by_fr_mayStore 44 = .ok (.goto 4, 3) := by decide +kernel
theorem dd_fr_mayStore_47 : decode by_fr_mayStore 47 = .ok (.iconst 0, 1) := by decide +kernel
theorem dd_fr_mayStore_48 : decode by_fr_mayStore 48 = .ok (.istore 4, 2) := by decide +kernel
theorem dd_fr_mayStore_50 : decode by_fr_mayStore 50 = .ok (.aload_n 0, 1) := by decide +kernel
theorem dd_fr_mayStore_51 : decode by_fr_mayStore 51 = .ok (.iload_n 3, 1) := by decide +kernel
theorem dd_fr_mayStore_52 : decode by_fr_mayStore 52 = .ok (.invokevirtual 67, 3) := by decide +kernel
theorem dd_fr_mayStore_55 : decode by_fr_mayStore 55 = .ok (.ifCond .eq 22, 3) := by decide +kernel
theorem dd_fr_mayStore_58 : decode by_fr_mayStore 58 = .ok (.iload_n 2, 1) := by decide +kernel
theorem dd_fr_mayStore_59 : decode by_fr_mayStore 59 = .ok (.iconst 2, 1) := by decide +kernel
theorem dd_fr_mayStore_60 : decode by_fr_mayStore 60 = .ok (.if_icmp .eq 13, 3) := by decide +kernel
theorem dd_fr_mayStore_63 : decode by_fr_mayStore 63 = .ok (.iload_n 2, 1) := by decide +kernel
theorem dd_fr_mayStore_64 : decode by_fr_mayStore 64 = .ok (.iconst 3, 1) := by decide +kernel
theorem dd_fr_mayStore_65 : decode by_fr_mayStore 65 = .ok (.if_icmp .eq 8, 3) := by decide +kernel
theorem dd_fr_mayStore_68 : decode by_fr_mayStore 68 = .ok (.iload 4, 2) := by decide +kernel
theorem dd_fr_mayStore_70 : decode by_fr_mayStore 70 = .ok (.ifCond .eq 7, 3) := by decide +kernel
theorem dd_fr_mayStore_73 : decode by_fr_mayStore 73 = .ok (.iconst 1, 1) := by decide +kernel
theorem dd_fr_mayStore_74 : decode by_fr_mayStore 74 = .ok (.goto 4, 3) := by decide +kernel
theorem dd_fr_mayStore_77 : decode by_fr_mayStore 77 = .ok (.iconst 0, 1) := by decide +kernel
theorem dd_fr_mayStore_78 : decode by_fr_mayStore 78 = .ok (.ireturn, 1) := by decide +kernel
def fr_mayStore_b73 (M : gw_M) : Option (Int32 × gw_M) :=
  some ((1 : Int32), M)
def fr_mayStore_b48 (M : gw_M) (a0 : Nat) (v2 : Int32) (v3 : Int32) (t0 : Int32) : Option (Int32 × gw_M) :=
  gw_bd (fr_isMain_b0 M a0 v3) (fun r52 M52 => if r52 = (0 : Int32) then (some ((0 : Int32), M52)) else (if v2 = (2 : Int32) then (fr_mayStore_b73  M52) else (if v2 = (3 : Int32) then (fr_mayStore_b73  M52) else (if t0 = (0 : Int32) then (some ((0 : Int32), M52)) else (fr_mayStore_b73  M52)))))
def fr_mayStore_b47 (M : gw_M) (a0 : Nat) (v2 : Int32) (v3 : Int32) : Option (Int32 × gw_M) :=
  fr_mayStore_b48  M a0 v2 v3 (0 : Int32)
def fr_mayStore_b0 (M : gw_M) (a0 : Nat) (v1 : Int32) : Option (Int32 × gw_M) :=
  if (16 : Int32) ≤ v1 then (gw_lt ((v1 - (16 : Int32)) - (v1 - (16 : Int32)) / (10 : Int32) * (10 : Int32)) (fun x15 => gw_lt (v1 - x15) (fun x19 => if x15 < (5 : Int32) then (fr_mayStore_b47  M a0 x15 x19) else (gw_gu (gw_in (x19 + (4 : Int32)) 56) (if (0 : Int32) ≤ (lg_cmp x15.toInt64 ((5 : Int64) + (M.2 (a0 + 5) ((x19 + (4 : Int32)).toNatClampNeg)))) then (fr_mayStore_b47  M a0 x15 x19) else (fr_mayStore_b48  M a0 x15 x19 (1 : Int32))))))) else (some ((1 : Int32), M))
set_option maxRecDepth 100000 in
set_option maxHeartbeats 4000000 in
theorem wb_fr_mayStore_73 {p : Program} {l : Launch} {e : Env} {s : State} {m : MethodId} {args : Array Value} {below : List Frame} {meth : Method} {c : Code} {X : gw_X} {Y : gw_M} {z : (Int32 × gw_M)} (C0 : gw_C ((Cond.code yy_fr_mayStore by_fr_mayStore 5 (some .boolean)) :: gw_w) by_fr_mayStore 5 (some .boolean) "AccountMachine$Frame" X p s m args meth c) (M : gw_M) (H : Heap) (locs : List Loc) (ls : Array Slot) (G : gw_G X (gw_E X M Y) s H locs) (hl : lv_has ls 5 []) (hF : fr_mayStore_b73  M = some z) : W p l e rm_fr_mayStore s m args below meth c H locs 0 0 (MQ below (gw_Qi X (fun M => (gw_E X M Y)) z) args s 0 0 (gw_A X)) (F0 m 73 ls []) := by
  obtain ⟨hx, hb, hml, hown, hts, hr, hlocks, hK⟩ := id C0
  have hg : ∀ w ∈ gw_w, w.before args s = true := fun w h => hts w (List.mem_cons_of_mem _ h)
  unfold fr_mayStore_b73 at hF
  refine lv_iconst (v := (1 : Int32)) hx hb dd_fr_mayStore_73 (by decide) ?_
  refine lv_goto (tgt := 78) hx hb dd_fr_mayStore_74 (by decide) ?_
  exact W.zret hx hb hr (by decide) (fun t ht hW => gw_endi (EF := (fun M => (gw_E X M Y))) (M := M) G ht hF) G.2.2.2.2 dd_fr_mayStore_78 hlocks
set_option maxRecDepth 100000 in
set_option maxHeartbeats 4000000 in
theorem wb_fr_mayStore_48 {p : Program} {l : Launch} {e : Env} {s : State} {m : MethodId} {args : Array Value} {below : List Frame} {meth : Method} {c : Code} {X : gw_X} {Y : gw_M} {z : (Int32 × gw_M)} (C0 : gw_C ((Cond.code yy_fr_mayStore by_fr_mayStore 5 (some .boolean)) :: gw_w) by_fr_mayStore 5 (some .boolean) "AccountMachine$Frame" X p s m args meth c) (M : gw_M) (a0 : Nat) (v2 : Int32) (v3 : Int32) (t0 : Int32) (H : Heap) (locs : List Loc) (ls : Array Slot) (ha0 : gc_k a0 = (6, 0)) (G : gw_G X (gw_E X M Y) s H locs) (hl : lv_has ls 5 [(0, .ref (gc_a X a0)), (2, .int v2), (3, .int v3)]) (hF : fr_mayStore_b48  M a0 v2 v3 t0 = some z) : W p l e rm_fr_mayStore s m args below meth c H locs 0 0 (MQ below (gw_Qi X (fun M => (gw_E X M Y)) z) args s 0 0 (gw_A X)) (F0 m 48 ls [.int t0]) := by
  obtain ⟨hx, hb, hml, hown, hts, hr, hlocks, hK⟩ := id C0
  have hg : ∀ w ∈ gw_w, w.before args s = true := fun w h => hts w (List.mem_cons_of_mem _ h)
  unfold fr_mayStore_b48 at hF
  refine lv_istore (i := 4) (lv' := [(4, .int t0), (0, .ref (gc_a X a0)), (2, .int v2), (3, .int v3)]) hx hb dd_fr_mayStore_48 hl (by decide) rfl (fun ls hl => ?_)
  refine lv_aload_n hx hb dd_fr_mayStore_50 rfl (lv_at hl 1 rfl) ?_
  refine lv_iload_n hx hb dd_fr_mayStore_51 rfl (lv_at hl 3 rfl) ?_
  obtain ⟨r52, M52, hc52, hF⟩ := gw_be hF
  refine gw_ci G (va_runV (As := [.int v3]) (rest := []) ⟨hx, hb, hml, hown, hts⟩ (ct_fr_isMain l X Y M a0 v3 ha0 _ hc52) (cwV 1 hts (gw_gV kw_10 kw_11 kw_12 kw_8 kw_9) rfl rfl rfl (by decide +kernel) ⟨Nat.le_of_ble_eq_true rfl, Nat.le_of_ble_eq_true rfl⟩) ⟨gw_blind, gw_recv_fr hK G ha0, gw_pre hK G⟩ rfl rfl hl.1 rfl (Nat.le_of_ble_eq_true rfl) dd_fr_mayStore_52 ⟨Nat.le_of_ble_eq_true rfl, Nat.le_of_ble_eq_true rfl⟩) (fun H locs G => ?_)
  refine lv_if_eq (tgt := 77) hx hb dd_fr_mayStore_55 (by decide) (fun h55 => ?_) (fun h55 => ?_)
  · replace hF := gw_et h55 hF
    refine lv_iconst (v := (0 : Int32)) hx hb dd_fr_mayStore_77 (by decide) ?_
    exact W.zret hx hb hr (by decide) (fun t ht hW => gw_endi (EF := (fun M => (gw_E X M Y))) (M := M52) G ht hF) G.2.2.2.2 dd_fr_mayStore_78 hlocks
  · replace hF := gw_ef h55 hF
    refine lv_iload_n hx hb dd_fr_mayStore_58 rfl (lv_at hl 2 rfl) ?_
    refine lv_iconst (v := (2 : Int32)) hx hb dd_fr_mayStore_59 (by decide) ?_
    refine lv_icmp_eq (tgt := 73) hx hb dd_fr_mayStore_60 (by decide) (fun h60 => ?_) (fun h60 => ?_)
    · replace hF := gw_et h60 hF
      exact wb_fr_mayStore_73 C0  M52 _ _ _  G (lv_sub hl [] rfl) hF
    · replace hF := gw_ef h60 hF
      refine lv_iload_n hx hb dd_fr_mayStore_63 rfl (lv_at hl 2 rfl) ?_
      refine lv_iconst (v := (3 : Int32)) hx hb dd_fr_mayStore_64 (by decide) ?_
      refine lv_icmp_eq (tgt := 73) hx hb dd_fr_mayStore_65 (by decide) (fun h65 => ?_) (fun h65 => ?_)
      · replace hF := gw_et h65 hF
        exact wb_fr_mayStore_73 C0  M52 _ _ _  G (lv_sub hl [] rfl) hF
      · replace hF := gw_ef h65 hF
        refine lv_iload hx hb dd_fr_mayStore_68 (lv_at hl 0 rfl) ?_
        refine lv_if_eq (tgt := 77) hx hb dd_fr_mayStore_70 (by decide) (fun h70 => ?_) (fun h70 => ?_)
        · replace hF := gw_et h70 hF
          refine lv_iconst (v := (0 : Int32)) hx hb dd_fr_mayStore_77 (by decide) ?_
          exact W.zret hx hb hr (by decide) (fun t ht hW => gw_endi (EF := (fun M => (gw_E X M Y))) (M := M52) G ht hF) G.2.2.2.2 dd_fr_mayStore_78 hlocks
        · replace hF := gw_ef h70 hF
          exact wb_fr_mayStore_73 C0  M52 _ _ _  G (lv_sub hl [] rfl) hF
set_option maxRecDepth 100000 in
set_option maxHeartbeats 4000000 in
theorem wb_fr_mayStore_47 {p : Program} {l : Launch} {e : Env} {s : State} {m : MethodId} {args : Array Value} {below : List Frame} {meth : Method} {c : Code} {X : gw_X} {Y : gw_M} {z : (Int32 × gw_M)} (C0 : gw_C ((Cond.code yy_fr_mayStore by_fr_mayStore 5 (some .boolean)) :: gw_w) by_fr_mayStore 5 (some .boolean) "AccountMachine$Frame" X p s m args meth c) (M : gw_M) (a0 : Nat) (v2 : Int32) (v3 : Int32) (H : Heap) (locs : List Loc) (ls : Array Slot) (ha0 : gc_k a0 = (6, 0)) (G : gw_G X (gw_E X M Y) s H locs) (hl : lv_has ls 5 [(0, .ref (gc_a X a0)), (2, .int v2), (3, .int v3)]) (hF : fr_mayStore_b47  M a0 v2 v3 = some z) : W p l e rm_fr_mayStore s m args below meth c H locs 0 0 (MQ below (gw_Qi X (fun M => (gw_E X M Y)) z) args s 0 0 (gw_A X)) (F0 m 47 ls []) := by
  obtain ⟨hx, hb, hml, hown, hts, hr, hlocks, hK⟩ := id C0
  have hg : ∀ w ∈ gw_w, w.before args s = true := fun w h => hts w (List.mem_cons_of_mem _ h)
  unfold fr_mayStore_b47 at hF
  refine lv_iconst (v := (0 : Int32)) hx hb dd_fr_mayStore_47 (by decide) ?_
  exact wb_fr_mayStore_48 C0  M a0 v2 v3 (0 : Int32) _ _ _ ha0 G (lv_sub hl [0, 1, 2] rfl) hF
set_option maxRecDepth 100000 in
set_option maxHeartbeats 4000000 in
theorem wb_fr_mayStore_0 {p : Program} {l : Launch} {e : Env} {s : State} {m : MethodId} {args : Array Value} {below : List Frame} {meth : Method} {c : Code} {X : gw_X} {Y : gw_M} {z : (Int32 × gw_M)} (C0 : gw_C ((Cond.code yy_fr_mayStore by_fr_mayStore 5 (some .boolean)) :: gw_w) by_fr_mayStore 5 (some .boolean) "AccountMachine$Frame" X p s m args meth c) (M : gw_M) (a0 : Nat) (v1 : Int32) (H : Heap) (locs : List Loc) (ls : Array Slot) (ha0 : gc_k a0 = (6, 0)) (G : gw_G X (gw_E X M Y) s H locs) (hl : lv_has ls 5 [(0, .ref (gc_a X a0)), (1, .int v1)]) (hF : fr_mayStore_b0  M a0 v1 = some z) : W p l e rm_fr_mayStore s m args below meth c H locs 0 0 (MQ below (gw_Qi X (fun M => (gw_E X M Y)) z) args s 0 0 (gw_A X)) (F0 m 0 ls []) := by
  obtain ⟨hx, hb, hml, hown, hts, hr, hlocks, hK⟩ := id C0
  have hg : ∀ w ∈ gw_w, w.before args s = true := fun w h => hts w (List.mem_cons_of_mem _ h)
  unfold fr_mayStore_b0 at hF
  refine lv_iload_n hx hb dd_fr_mayStore_0 rfl (lv_at hl 1 rfl) ?_
  refine lv_bipush (v := (16 : Int32)) hx hb dd_fr_mayStore_1 (by decide) ?_
  refine lv_icmp_ge (tgt := 8) hx hb dd_fr_mayStore_3 (by decide) (fun h3 => ?_) (fun h3 => ?_)
  · replace hF := gw_et h3 hF
    refine lv_iload_n hx hb dd_fr_mayStore_8 rfl (lv_at hl 1 rfl) ?_
    refine lv_bipush (v := (16 : Int32)) hx hb dd_fr_mayStore_9 (by decide) ?_
    refine lv_isub hx hb dd_fr_mayStore_11 ?_
    refine lv_bipush (v := (10 : Int32)) hx hb dd_fr_mayStore_12 (by decide) ?_
    refine lv_irem hx hb dd_fr_mayStore_14 (by decide) ?_
    refine lv_topi (fun x15 e15 => ?_)
    replace hF := gw_ly e15 hF
    refine lv_istore_n (i := 2) (lv' := [(2, .int x15), (0, .ref (gc_a X a0)), (1, .int v1)]) hx hb dd_fr_mayStore_15 rfl hl (by decide) rfl (fun ls hl => ?_)
    refine lv_iload_n hx hb dd_fr_mayStore_16 rfl (lv_at hl 2 rfl) ?_
    refine lv_iload_n hx hb dd_fr_mayStore_17 rfl (lv_at hl 0 rfl) ?_
    refine lv_isub hx hb dd_fr_mayStore_18 ?_
    refine W.eq (g2 := F0 m 19 _ _) rfl ?_
    refine lv_topi (fun x19 e19 => ?_)
    replace hF := gw_ly e19 hF
    refine lv_istore_n (i := 3) (lv' := [(3, .int x19), (2, .int x15), (0, .ref (gc_a X a0)), (1, .int v1)]) hx hb dd_fr_mayStore_19 rfl hl (by decide) rfl (fun ls hl => ?_)
    refine lv_iload_n hx hb dd_fr_mayStore_20 rfl (lv_at hl 1 rfl) ?_
    refine lv_iconst (v := (5 : Int32)) hx hb dd_fr_mayStore_21 (by decide) ?_
    refine lv_icmp_lt (tgt := 47) hx hb dd_fr_mayStore_22 (by decide) (fun h22 => ?_) (fun h22 => ?_)
    · replace hF := gw_et h22 hF
      exact wb_fr_mayStore_47 C0  M a0 x15 x19 _ _ _ ha0 G (lv_sub hl [2, 1, 0] rfl) hF
    · replace hF := gw_ef h22 hF
      refine lv_iload_n hx hb dd_fr_mayStore_25 rfl (lv_at hl 1 rfl) ?_
      refine lv_i2l (v := x15.toInt64) hx hb dd_fr_mayStore_26 rfl ?_
      refine lv_ldc2 (v := (5 : Int64)) hx hb hown (hg _ kw_34) dd_fr_mayStore_27 ?_
      refine lv_aload_n hx hb dd_fr_mayStore_30 rfl (lv_at hl 2 rfl) ?_
      refine gf_fr_memory hx hb hg hown (hg _ kw_3) hK G ha0 dd_fr_mayStore_31 ?_
      refine lv_iload_n hx hb dd_fr_mayStore_34 rfl (lv_at hl 0 rfl) ?_
      refine lv_iconst (v := (4 : Int32)) hx hb dd_fr_mayStore_35 (by decide) ?_
      refine lv_iadd hx hb dd_fr_mayStore_36 ?_
      obtain ⟨h37, hF⟩ := gw_gd hF
      refine gc_lald hx hb hK G (gq_fr_memory ha0) (gw_vp h37) (j := (x19 + (4 : Int32)).toNatClampNeg) rfl dd_fr_mayStore_37 ?_
      refine W.eq (g2 := F0 m 38 _ _) rfl ?_
      refine lv_ladd hx hb dd_fr_mayStore_38 ?_
      refine W.lcmp hx hb dd_fr_mayStore_39 ?_
      refine lv_if_ge (tgt := 47) hx hb dd_fr_mayStore_40 (by decide) (fun h40 => ?_) (fun h40 => ?_)
      · replace hF := gw_et h40 hF
        exact wb_fr_mayStore_47 C0  M a0 x15 x19 _ _ _ ha0 G (lv_sub hl [2, 1, 0] rfl) hF
      · replace hF := gw_ef h40 hF
        refine lv_iconst (v := (1 : Int32)) hx hb dd_fr_mayStore_43 (by decide) ?_
        refine lv_goto (tgt := 48) hx hb dd_fr_mayStore_44 (by decide) ?_
        exact wb_fr_mayStore_48 C0  M a0 x15 x19 (1 : Int32) _ _ _ ha0 G (lv_sub hl [2, 1, 0] rfl) hF
  · replace hF := gw_ef h3 hF
    refine lv_iconst (v := (1 : Int32)) hx hb dd_fr_mayStore_6 (by decide) ?_
    exact W.zret hx hb hr (by decide) (fun t ht hW => gw_endi (EF := (fun M => (gw_E X M Y))) (M := M) G ht hF) G.2.2.2.2 dd_fr_mayStore_7 hlocks
set_option maxRecDepth 100000 in
set_option maxHeartbeats 4000000 in
theorem ct_fr_mayStore (l : Launch) (X : gw_X) (Y : gw_M) (M : gw_M) (a0 : Nat) (v1 : Int32) (ha0 : gc_k a0 = (6, 0)) (z : (Int32 × gw_M)) (hF : fr_mayStore_b0 M a0 v1 = some z) : Met l yy_fr_mayStore ((Cond.code yy_fr_mayStore by_fr_mayStore 5 (some .boolean)) :: gw_w) rm_fr_mayStore (va_Pc [.ref (gc_a X a0), .int v1] (gw_B X (gw_E X M Y))) (gw_Qi X (fun M => (gw_E X M Y)) z) 0 0 (gw_A X) := by
  refine Met.ofW (cc := by_fr_mayStore) (maxL := 5) (ret := (some .boolean)) (by decide) rfl ?_
  intro p e s m args below meth c s₁ B hml hv
  obtain ⟨rfl, hB⟩ := hv
  rw [lg_entry_eq]
  have hl := lv_entry ([.ref (gc_a X a0), .int v1]) (n := 5) (Nat.le_of_ble_eq_true rfl)
  generalize (lg_sl ([.ref (gc_a X a0), .int v1]) ++ List.replicate (5 - (lg_sl ([.ref (gc_a X a0), .int v1])).length) Slot.unset).toArray = ls at hl ⊢
  have hl : lv_has ls 5 [(0, .ref (gc_a X a0)), (1, .int v1)] := hl
  exact wb_fr_mayStore_0 (gw_ctx B hml rfl hB) M a0 v1 _ _ _ ha0 (gw_start hB) hl hF
/-! AccountMachine$Frame.reachMemory(LAccountMachine$Program;I)I -/
abbrev rm_fr_reachMemory : Room := { frames := 2, cells := 0, slots := 0, locals := 45 }
theorem dd_fr_reachMemory_0 : decode by_fr_reachMemory 0 = .ok (.aload_n 1, 1) := by decide +kernel
theorem dd_fr_reachMemory_1 : decode by_fr_reachMemory 1 = .ok (.getfield 85, 3) := by decide +kernel
theorem dd_fr_reachMemory_4 : decode by_fr_reachMemory 4 = .ok (.iload_n 2, 1) := by decide +kernel
theorem dd_fr_reachMemory_5 : decode by_fr_reachMemory 5 = .ok (.iaload, 1) := by decide +kernel
theorem dd_fr_reachMemory_6 : decode by_fr_reachMemory 6 = .ok (.istore_n 3, 1) := by decide +kernel
theorem dd_fr_reachMemory_7 : decode by_fr_reachMemory 7 = .ok (.aload_n 1, 1) := by decide +kernel
theorem dd_fr_reachMemory_8 : decode by_fr_reachMemory 8 = .ok (.getfield 90, 3) := by decide +kernel
theorem dd_fr_reachMemory_11 : decode by_fr_reachMemory 11 = .ok (.iload_n 2, 1) := by decide +kernel
theorem dd_fr_reachMemory_12 : decode by_fr_reachMemory 12 = .ok (.iaload, 1) := by decide +kernel
theorem dd_fr_reachMemory_13 : decode by_fr_reachMemory 13 = .ok (.istore 4, 2) := by decide +kernel
theorem dd_fr_reachMemory_15 : decode by_fr_reachMemory 15 = .ok (.aload_n 1, 1) := by decide +kernel
theorem dd_fr_reachMemory_16 : decode by_fr_reachMemory 16 = .ok (.getfield 96, 3) := by decide +kernel
theorem dd_fr_reachMemory_19 : decode by_fr_reachMemory 19 = .ok (.iload_n 2, 1) := by decide +kernel
theorem dd_fr_reachMemory_20 : decode by_fr_reachMemory 20 = .ok (.iaload, 1) := by decide +kernel
theorem dd_fr_reachMemory_21 : decode by_fr_reachMemory 21 = .ok (.bipush 9, 2) := by decide +kernel
theorem dd_fr_reachMemory_23 : decode by_fr_reachMemory 23 = .ok (.if_icmp .ne 7, 3) := by decide +kernel
theorem dd_fr_reachMemory_26 : decode by_fr_reachMemory 26 = .ok (.iconst 1, 1) := by decide +kernel
theorem dd_fr_reachMemory_27 : decode by_fr_reachMemory 27 = .ok (.goto 4, 3) := by decide +kernel
theorem dd_fr_reachMemory_30 : decode by_fr_reachMemory 30 = .ok (.iconst 0, 1) := by decide +kernel
theorem dd_fr_reachMemory_31 : decode by_fr_reachMemory 31 = .ok (.istore 5, 2) := by decide +kernel
theorem dd_fr_reachMemory_33 : decode by_fr_reachMemory 33 = .ok (.aload_n 0, 1) := by decide +kernel
theorem dd_fr_reachMemory_34 : decode by_fr_reachMemory 34 = .ok (.aload_n 0, 1) := by decide +kernel
theorem dd_fr_reachMemory_35 : decode by_fr_reachMemory 35 = .ok (.getfield 18, 3) := by decide +kernel
theorem dd_fr_reachMemory_38 : decode by_fr_reachMemory 38 = .ok (.iload 5, 2) := by decide +kernel
theorem dd_fr_reachMemory_40 : decode by_fr_reachMemory 40 = .ok (.ifCond .eq 7, 3) := by decide +kernel
theorem dd_fr_reachMemory_43 : decode by_fr_reachMemory 43 = .ok (.iload_n 3, 1) := by decide +kernel
theorem dd_fr_reachMemory_44 : decode by_fr_reachMemory 44 = .ok (.goto 5, 3) := by decide +kernel
theorem dd_fr_reachMemory_47 : decode by_fr_reachMemory 47 = .ok (.iload 4, 2) := by decide +kernel
theorem dd_fr_reachMemory_49 : decode by_fr_reachMemory 49 = .ok (.laload, 1) := by decide +kernel
theorem dd_fr_reachMemory_50 : decode by_fr_reachMemory 50 = .ok (.aload_n 1, 1) := by decide +kernel
theorem dd_fr_reachMemory_51 : decode by_fr_reachMemory 51 = .ok (.getfield 99, 3) := by decide +kernel
theorem dd_fr_reachMemory_54 : decode by_fr_reachMemory 54 = .ok (.iload_n 2, 1) := by decide +kernel
theorem dd_fr_reachMemory_55 : decode by_fr_reachMemory 55 = .ok (.iaload, 1) := by decide +kernel
theorem dd_fr_reachMemory_56 : decode by_fr_reachMemory 56 = .ok (.i2l, 1) := by decide +kernel
theorem dd_fr_reachMemory_57 : decode by_fr_reachMemory 57 = .ok (.ladd, 1) := by decide +kernel
theorem dd_fr_reachMemory_58 : decode by_fr_reachMemory 58 = .ok (.invokevirtual 102, 3) := by decide +kernel
theorem dd_fr_reachMemory_61 : decode by_fr_reachMemory 61 = .ok (.istore 6, 2) := by decide +kernel
theorem dd_fr_reachMemory_63 : decode by_fr_reachMemory 63 = .ok (.iload 6, 2) := by decide +kernel
theorem dd_fr_reachMemory_65 : decode by_fr_reachMemory 65 = .ok (.iconst (-1), 1) := by decide +kernel
theorem dd_fr_reachMemory_66 : decode by_fr_reachMemory 66 = .ok (.if_icmp .eq 17, 3) := by decide +kernel
theorem dd_fr_reachMemory_69 : decode by_fr_reachMemory 69 = .ok (.iload 5, 2) := by decide +kernel
theorem dd_fr_reachMemory_71 : decode by_fr_reachMemory 71 = .ok (.ifCond .eq 14, 3) := by decide +kernel
theorem dd_fr_reachMemory_74 : decode by_fr_reachMemory 74 = .ok (.aload_n 0, 1) := by decide +kernel
theorem dd_fr_reachMemory_75 : decode by_fr_reachMemory 75 = .ok (.iload 6, 2) := by decide +kernel
theorem dd_fr_reachMemory_77 : decode by_fr_reachMemory 77 = .ok (.invokevirtual 106, 3) := by decide +kernel
theorem dd_fr_reachMemory_80 : decode by_fr_reachMemory 80 = .ok (.ifCond .ne 5, 3) := by decide +kernel
theorem dd_fr_reachMemory_83 : decode by_fr_reachMemory 83 = .ok (.iconst 2, 1) := by decide +kernel
theorem dd_fr_reachMemory_84 : decode by_fr_reachMemory 84 = .ok (.ireturn, 1) := by decide +kernel
theorem dd_fr_reachMemory_85 : decode by_fr_reachMemory 85 = .ok (.iload 5, 2) := by decide +kernel
theorem dd_fr_reachMemory_87 : decode by_fr_reachMemory 87 = .ok (.ifCond .eq 20, 3) := by decide +kernel
theorem dd_fr_reachMemory_90 : decode by_fr_reachMemory 90 = .ok (.aload_n 0, 1) := by decide +kernel
theorem dd_fr_reachMemory_91 : decode by_fr_reachMemory 91 = .ok (.getfield 22, 3) := by decide +kernel
theorem dd_fr_reachMemory_94 : decode by_fr_reachMemory 94 = .ok (.iload 6, 2) := by decide +kernel
theorem dd_fr_reachMemory_96 : decode by_fr_reachMemory 96 = .ok (.aload_n 0, 1) := by decide +kernel
theorem dd_fr_reachMemory_97 : decode by_fr_reachMemory 97 = .ok (.getfield 18, 3) := by decide +kernel
theorem dd_fr_reachMemory_100 : decode by_fr_reachMemory 100 = .ok (.iload 4, 2) := by decide +kernel
theorem dd_fr_reachMemory_102 : decode by_fr_reachMemory 102 = .ok (.laload, 1) := by decide +kernel
theorem dd_fr_reachMemory_103 : decode by_fr_reachMemory 103 = .ok (.lastore, 1) := by decide +kernel
theorem dd_fr_reachMemory_104 : decode by_fr_reachMemory 104 = .ok (.goto 16, 3) := by decide +kernel
theorem dd_fr_reachMemory_107 : decode by_fr_reachMemory 107 = .ok (.aload_n 0, 1) := by decide +kernel
theorem dd_fr_reachMemory_108 : decode by_fr_reachMemory 108 = .ok (.getfield 18, 3) := by decide +kernel
theorem dd_fr_reachMemory_111 : decode by_fr_reachMemory 111 = .ok (.iload_n 3, 1) := by decide +kernel
theorem dd_fr_reachMemory_112 : decode by_fr_reachMemory 112 = .ok (.aload_n 0, 1) := by decide +kernel
theorem dd_fr_reachMemory_113 : decode by_fr_reachMemory 113 = .ok (.getfield 22, 3) := by decide +kernel
theorem dd_fr_reachMemory_116 : decode by_fr_reachMemory 116 = .ok (.iload 6, 2) := by decide +kernel
theorem dd_fr_reachMemory_118 : decode by_fr_reachMemory 118 = .ok (.laload, 1) := by decide +kernel
theorem dd_fr_reachMemory_119 : decode by_fr_reachMemory 119 = .ok (.lastore, 1) := by decide +kernel
theorem dd_fr_reachMemory_120 : decode by_fr_reachMemory 120 = .ok (.iconst 0, 1) := by decide +kernel
theorem dd_fr_reachMemory_121 : decode by_fr_reachMemory 121 = .ok (.ireturn, 1) := by decide +kernel
def fr_reachMemory_b85 (M : gw_M) (a0 : Nat) (v3 : Int32) (v4 : Int32) (v5 : Int32) (v6 : Int32) : Option (Int32 × gw_M) :=
  if v5 = (0 : Int32) then (gw_gu (gw_in v6 56) (gw_gu (gw_in v3 10) (gw_lt (gw_sL M (a0 + 4) v3.toNatClampNeg (M.2 (a0 + 5) v6.toNatClampNeg)) (fun M119 => some ((0 : Int32), M119))))) else (gw_gu (gw_in v4 10) (gw_gu (gw_in v6 56) (gw_lt (gw_sL M (a0 + 5) v6.toNatClampNeg (M.2 (a0 + 4) v4.toNatClampNeg)) (fun M103 => some ((0 : Int32), M103)))))
def fr_reachMemory_b49 (M : gw_M) (a0 : Nat) (a1 : Nat) (v2 : Int32) (v3 : Int32) (v4 : Int32) (v5 : Int32) (t0 : Int32) (b1 : Nat) (b2 : Nat) : Option (Int32 × gw_M) :=
  gw_gu (gw_in t0 10) (gw_gu (gw_in v2 32) (gw_bd (fr_indexOf_b0 M b2 ((M.2 b1 t0.toNatClampNeg) + ((M.1 (a1 + 4) v2.toNatClampNeg).toInt64))) (fun r58 M58 => if r58 = (-1 : Int32) then (some ((2 : Int32), M58)) else (if v5 = (0 : Int32) then (fr_reachMemory_b85  M58 a0 v3 v4 v5 r58) else (gw_bd (fr_mayStore_b0 M58 a0 r58) (fun r77 M77 => if r77 = (0 : Int32) then (some ((2 : Int32), M77)) else (fr_reachMemory_b85  M77 a0 v3 v4 v5 r58)))))))
def fr_reachMemory_b31 (M : gw_M) (a0 : Nat) (a1 : Nat) (v2 : Int32) (v3 : Int32) (v4 : Int32) (t0 : Int32) : Option (Int32 × gw_M) :=
  if t0 = (0 : Int32) then (fr_reachMemory_b49  M a0 a1 v2 v3 v4 t0 v4 (a0 + 4) a0) else (fr_reachMemory_b49  M a0 a1 v2 v3 v4 t0 v3 (a0 + 4) a0)
def fr_reachMemory_b0 (M : gw_M) (a0 : Nat) (a1 : Nat) (v2 : Int32) : Option (Int32 × gw_M) :=
  gw_gu (gw_in v2 32) (gw_lt (M.1 (a1 + 2) v2.toNatClampNeg) (fun x6 => gw_gu (gw_in v2 32) (gw_lt (M.1 (a1 + 3) v2.toNatClampNeg) (fun x13 => gw_gu (gw_in v2 32) (if (M.1 (a1 + 1) v2.toNatClampNeg) = (9 : Int32) then (fr_reachMemory_b31  M a0 a1 v2 x6 x13 (1 : Int32)) else (fr_reachMemory_b31  M a0 a1 v2 x6 x13 (0 : Int32)))))))
set_option maxRecDepth 100000 in
set_option maxHeartbeats 4000000 in
theorem wb_fr_reachMemory_85 {p : Program} {l : Launch} {e : Env} {s : State} {m : MethodId} {args : Array Value} {below : List Frame} {meth : Method} {c : Code} {X : gw_X} {Y : gw_M} {z : (Int32 × gw_M)} (C0 : gw_C ((Cond.code yy_fr_reachMemory by_fr_reachMemory 7 (some .int)) :: gw_w) by_fr_reachMemory 7 (some .int) "AccountMachine$Frame" X p s m args meth c) (M : gw_M) (a0 : Nat) (v3 : Int32) (v4 : Int32) (v5 : Int32) (v6 : Int32) (H : Heap) (locs : List Loc) (ls : Array Slot) (ha0 : gc_k a0 = (6, 0)) (G : gw_G X (gw_E X M Y) s H locs) (hl : lv_has ls 7 [(0, .ref (gc_a X a0)), (3, .int v3), (4, .int v4), (5, .int v5), (6, .int v6)]) (hF : fr_reachMemory_b85  M a0 v3 v4 v5 v6 = some z) : W p l e rm_fr_reachMemory s m args below meth c H locs 0 0 (MQ below (gw_Qi X (fun M => (gw_E X M Y)) z) args s 0 0 (gw_A X)) (F0 m 85 ls []) := by
  obtain ⟨hx, hb, hml, hown, hts, hr, hlocks, hK⟩ := id C0
  have hg : ∀ w ∈ gw_w, w.before args s = true := fun w h => hts w (List.mem_cons_of_mem _ h)
  unfold fr_reachMemory_b85 at hF
  refine lv_iload hx hb dd_fr_reachMemory_85 (lv_at hl 3 rfl) ?_
  refine lv_if_eq (tgt := 107) hx hb dd_fr_reachMemory_87 (by decide) (fun h87 => ?_) (fun h87 => ?_)
  · replace hF := gw_et h87 hF
    refine lv_aload_n hx hb dd_fr_reachMemory_107 rfl (lv_at hl 0 rfl) ?_
    refine gf_fr_registers hx hb hg hown (hg _ kw_28) hK G ha0 dd_fr_reachMemory_108 ?_
    refine lv_iload_n hx hb dd_fr_reachMemory_111 rfl (lv_at hl 1 rfl) ?_
    refine lv_aload_n hx hb dd_fr_reachMemory_112 rfl (lv_at hl 0 rfl) ?_
    refine gf_fr_memory hx hb hg hown (hg _ kw_3) hK G ha0 dd_fr_reachMemory_113 ?_
    refine lv_iload hx hb dd_fr_reachMemory_116 (lv_at hl 4 rfl) ?_
    obtain ⟨h118, hF⟩ := gw_gd hF
    refine gc_lald hx hb hK G (gq_fr_memory ha0) (gw_vp h118) (j := v6.toNatClampNeg) rfl dd_fr_reachMemory_118 ?_
    obtain ⟨h119, hF⟩ := gw_gd hF
    refine gc_last hx hb hK G (gq_fr_registers ha0) (gw_vp h119) (j := v3.toNatClampNeg) rfl dd_fr_reachMemory_119 (fun M119 H locs e119 G => ?_)
    replace hF := gw_ly e119 hF
    refine lv_iconst (v := (0 : Int32)) hx hb dd_fr_reachMemory_120 (by decide) ?_
    refine W.eq (g2 := F0 m 121 _ _) rfl ?_
    exact W.iret hx hb hr (fun t ht hW => gw_endi (EF := (fun M => (gw_E X M Y))) (M := M119) G ht hF) G.2.2.2.2 dd_fr_reachMemory_121 hlocks
  · replace hF := gw_ef h87 hF
    refine lv_aload_n hx hb dd_fr_reachMemory_90 rfl (lv_at hl 0 rfl) ?_
    refine gf_fr_memory hx hb hg hown (hg _ kw_3) hK G ha0 dd_fr_reachMemory_91 ?_
    refine lv_iload hx hb dd_fr_reachMemory_94 (lv_at hl 4 rfl) ?_
    refine lv_aload_n hx hb dd_fr_reachMemory_96 rfl (lv_at hl 0 rfl) ?_
    refine gf_fr_registers hx hb hg hown (hg _ kw_28) hK G ha0 dd_fr_reachMemory_97 ?_
    refine lv_iload hx hb dd_fr_reachMemory_100 (lv_at hl 2 rfl) ?_
    obtain ⟨h102, hF⟩ := gw_gd hF
    refine gc_lald hx hb hK G (gq_fr_registers ha0) (gw_vp h102) (j := v4.toNatClampNeg) rfl dd_fr_reachMemory_102 ?_
    obtain ⟨h103, hF⟩ := gw_gd hF
    refine gc_last hx hb hK G (gq_fr_memory ha0) (gw_vp h103) (j := v6.toNatClampNeg) rfl dd_fr_reachMemory_103 (fun M103 H locs e103 G => ?_)
    replace hF := gw_ly e103 hF
    refine lv_goto (tgt := 120) hx hb dd_fr_reachMemory_104 (by decide) ?_
    refine W.eq (g2 := F0 m 120 _ _) rfl ?_
    refine lv_iconst (v := (0 : Int32)) hx hb dd_fr_reachMemory_120 (by decide) ?_
    exact W.iret hx hb hr (fun t ht hW => gw_endi (EF := (fun M => (gw_E X M Y))) (M := M103) G ht hF) G.2.2.2.2 dd_fr_reachMemory_121 hlocks
set_option maxRecDepth 100000 in
set_option maxHeartbeats 4000000 in
theorem wb_fr_reachMemory_49 {p : Program} {l : Launch} {e : Env} {s : State} {m : MethodId} {args : Array Value} {below : List Frame} {meth : Method} {c : Code} {X : gw_X} {Y : gw_M} {z : (Int32 × gw_M)} (C0 : gw_C ((Cond.code yy_fr_reachMemory by_fr_reachMemory 7 (some .int)) :: gw_w) by_fr_reachMemory 7 (some .int) "AccountMachine$Frame" X p s m args meth c) (M : gw_M) (a0 : Nat) (a1 : Nat) (v2 : Int32) (v3 : Int32) (v4 : Int32) (v5 : Int32) (t0 : Int32) (b1 : Nat) (b2 : Nat) (H : Heap) (locs : List Loc) (ls : Array Slot) (ha0 : gc_k a0 = (6, 0)) (ha1 : gc_k a1 = (5, 0)) (hb1 : gc_k b1 = (1, 10)) (hb2 : gc_k b2 = (6, 0)) (G : gw_G X (gw_E X M Y) s H locs) (hl : lv_has ls 7 [(0, .ref (gc_a X a0)), (1, .ref (gc_a X a1)), (2, .int v2), (3, .int v3), (4, .int v4), (5, .int v5)]) (hF : fr_reachMemory_b49  M a0 a1 v2 v3 v4 v5 t0 b1 b2 = some z) : W p l e rm_fr_reachMemory s m args below meth c H locs 0 0 (MQ below (gw_Qi X (fun M => (gw_E X M Y)) z) args s 0 0 (gw_A X)) (F0 m 49 ls [.int t0, .ref (gc_a X b1), .ref (gc_a X b2)]) := by
  obtain ⟨hx, hb, hml, hown, hts, hr, hlocks, hK⟩ := id C0
  have hg : ∀ w ∈ gw_w, w.before args s = true := fun w h => hts w (List.mem_cons_of_mem _ h)
  unfold fr_reachMemory_b49 at hF
  obtain ⟨h49, hF⟩ := gw_gd hF
  refine gc_lald hx hb hK G hb1 (gw_vp h49) (j := t0.toNatClampNeg) rfl dd_fr_reachMemory_49 ?_
  refine lv_aload_n hx hb dd_fr_reachMemory_50 rfl (lv_at hl 1 rfl) ?_
  refine gn_pr_offsets hx hb hg hown (gw_nw hK kn_13) hK G ha1 dd_fr_reachMemory_51 ?_
  refine lv_iload_n hx hb dd_fr_reachMemory_54 rfl (lv_at hl 2 rfl) ?_
  obtain ⟨h55, hF⟩ := gw_gd hF
  refine gc_iald hx hb hK G (gq_pr_offsets ha1) (gw_vp h55) (j := v2.toNatClampNeg) rfl dd_fr_reachMemory_55 ?_
  refine lv_i2l (v := (M.1 (a1 + 4) v2.toNatClampNeg).toInt64) hx hb dd_fr_reachMemory_56 rfl ?_
  refine lv_ladd hx hb dd_fr_reachMemory_57 ?_
  obtain ⟨r58, M58, hc58, hF⟩ := gw_be hF
  refine gw_ci G (va_runV (As := [.long ((M.2 b1 t0.toNatClampNeg) + ((M.1 (a1 + 4) v2.toNatClampNeg).toInt64))]) (rest := []) ⟨hx, hb, hml, hown, hts⟩ (ct_fr_indexOf l X Y M b2 ((M.2 b1 t0.toNatClampNeg) + ((M.1 (a1 + 4) v2.toNatClampNeg).toInt64)) hb2 _ hc58) (cwV 1 hts (gw_gV kw_36 kw_37 kw_38 kw_8 kw_35) rfl rfl rfl (by decide +kernel) ⟨Nat.le_of_ble_eq_true rfl, Nat.le_of_ble_eq_true rfl⟩) ⟨gw_blind, gw_recv_fr hK G hb2, gw_pre hK G⟩ rfl rfl hl.1 rfl (Nat.le_of_ble_eq_true rfl) dd_fr_reachMemory_58 ⟨Nat.le_of_ble_eq_true rfl, Nat.le_of_ble_eq_true rfl⟩) (fun H locs G => ?_)
  refine lv_istore (i := 6) (lv' := [(6, .int r58), (0, .ref (gc_a X a0)), (1, .ref (gc_a X a1)), (2, .int v2), (3, .int v3), (4, .int v4), (5, .int v5)]) hx hb dd_fr_reachMemory_61 hl (by decide) rfl (fun ls hl => ?_)
  refine W.eq (g2 := F0 m 63 _ _) rfl ?_
  refine lv_iload hx hb dd_fr_reachMemory_63 (lv_at hl 0 rfl) ?_
  refine lv_iconst (v := (-1 : Int32)) hx hb dd_fr_reachMemory_65 (by decide) ?_
  refine lv_icmp_eq (tgt := 83) hx hb dd_fr_reachMemory_66 (by decide) (fun h66 => ?_) (fun h66 => ?_)
  · replace hF := gw_et h66 hF
    refine lv_iconst (v := (2 : Int32)) hx hb dd_fr_reachMemory_83 (by decide) ?_
    exact W.iret hx hb hr (fun t ht hW => gw_endi (EF := (fun M => (gw_E X M Y))) (M := M58) G ht hF) G.2.2.2.2 dd_fr_reachMemory_84 hlocks
  · replace hF := gw_ef h66 hF
    refine lv_iload hx hb dd_fr_reachMemory_69 (lv_at hl 6 rfl) ?_
    refine lv_if_eq (tgt := 85) hx hb dd_fr_reachMemory_71 (by decide) (fun h71 => ?_) (fun h71 => ?_)
    · replace hF := gw_et h71 hF
      exact wb_fr_reachMemory_85 C0  M58 a0 v3 v4 v5 r58 _ _ _ ha0 G (lv_sub hl [1, 4, 5, 6, 0] rfl) hF
    · replace hF := gw_ef h71 hF
      refine lv_aload_n hx hb dd_fr_reachMemory_74 rfl (lv_at hl 1 rfl) ?_
      refine lv_iload hx hb dd_fr_reachMemory_75 (lv_at hl 0 rfl) ?_
      obtain ⟨r77, M77, hc77, hF⟩ := gw_be hF
      refine gw_ci G (va_runV (As := [.int r58]) (rest := []) ⟨hx, hb, hml, hown, hts⟩ (ct_fr_mayStore l X Y M58 a0 r58 ha0 _ hc77) (cwV 1 hts (gw_gV kw_40 kw_41 kw_42 kw_8 kw_39) rfl rfl rfl (by decide +kernel) ⟨Nat.le_of_ble_eq_true rfl, Nat.le_of_ble_eq_true rfl⟩) ⟨gw_blind, gw_recv_fr hK G ha0, gw_pre hK G⟩ rfl rfl hl.1 rfl (Nat.le_of_ble_eq_true rfl) dd_fr_reachMemory_77 ⟨Nat.le_of_ble_eq_true rfl, Nat.le_of_ble_eq_true rfl⟩) (fun H locs G => ?_)
      refine lv_if_ne (tgt := 85) hx hb dd_fr_reachMemory_80 (by decide) (fun h80 => ?_) (fun h80 => ?_)
      · replace hF := gw_ef h80 hF
        exact wb_fr_reachMemory_85 C0  M77 a0 v3 v4 v5 r58 _ _ _ ha0 G (lv_sub hl [1, 4, 5, 6, 0] rfl) hF
      · replace hF := gw_et h80 hF
        refine lv_iconst (v := (2 : Int32)) hx hb dd_fr_reachMemory_83 (by decide) ?_
        exact W.iret hx hb hr (fun t ht hW => gw_endi (EF := (fun M => (gw_E X M Y))) (M := M77) G ht hF) G.2.2.2.2 dd_fr_reachMemory_84 hlocks
set_option maxRecDepth 100000 in
set_option maxHeartbeats 4000000 in
theorem wb_fr_reachMemory_31 {p : Program} {l : Launch} {e : Env} {s : State} {m : MethodId} {args : Array Value} {below : List Frame} {meth : Method} {c : Code} {X : gw_X} {Y : gw_M} {z : (Int32 × gw_M)} (C0 : gw_C ((Cond.code yy_fr_reachMemory by_fr_reachMemory 7 (some .int)) :: gw_w) by_fr_reachMemory 7 (some .int) "AccountMachine$Frame" X p s m args meth c) (M : gw_M) (a0 : Nat) (a1 : Nat) (v2 : Int32) (v3 : Int32) (v4 : Int32) (t0 : Int32) (H : Heap) (locs : List Loc) (ls : Array Slot) (ha0 : gc_k a0 = (6, 0)) (ha1 : gc_k a1 = (5, 0)) (G : gw_G X (gw_E X M Y) s H locs) (hl : lv_has ls 7 [(0, .ref (gc_a X a0)), (1, .ref (gc_a X a1)), (2, .int v2), (3, .int v3), (4, .int v4)]) (hF : fr_reachMemory_b31  M a0 a1 v2 v3 v4 t0 = some z) : W p l e rm_fr_reachMemory s m args below meth c H locs 0 0 (MQ below (gw_Qi X (fun M => (gw_E X M Y)) z) args s 0 0 (gw_A X)) (F0 m 31 ls [.int t0]) := by
  obtain ⟨hx, hb, hml, hown, hts, hr, hlocks, hK⟩ := id C0
  have hg : ∀ w ∈ gw_w, w.before args s = true := fun w h => hts w (List.mem_cons_of_mem _ h)
  unfold fr_reachMemory_b31 at hF
  refine lv_istore (i := 5) (lv' := [(5, .int t0), (0, .ref (gc_a X a0)), (1, .ref (gc_a X a1)), (2, .int v2), (3, .int v3), (4, .int v4)]) hx hb dd_fr_reachMemory_31 hl (by decide) rfl (fun ls hl => ?_)
  refine lv_aload_n hx hb dd_fr_reachMemory_33 rfl (lv_at hl 1 rfl) ?_
  refine lv_aload_n hx hb dd_fr_reachMemory_34 rfl (lv_at hl 1 rfl) ?_
  refine gf_fr_registers hx hb hg hown (hg _ kw_28) hK G ha0 dd_fr_reachMemory_35 ?_
  refine lv_iload hx hb dd_fr_reachMemory_38 (lv_at hl 0 rfl) ?_
  refine lv_if_eq (tgt := 47) hx hb dd_fr_reachMemory_40 (by decide) (fun h40 => ?_) (fun h40 => ?_)
  · replace hF := gw_et h40 hF
    refine lv_iload hx hb dd_fr_reachMemory_47 (lv_at hl 5 rfl) ?_
    exact wb_fr_reachMemory_49 C0  M a0 a1 v2 v3 v4 t0 v4 (a0 + 4) a0 _ _ _ ha0 ha1 (gq_fr_registers ha0) ha0 G (lv_sub hl [1, 2, 3, 4, 5, 0] rfl) hF
  · replace hF := gw_ef h40 hF
    refine lv_iload_n hx hb dd_fr_reachMemory_43 rfl (lv_at hl 4 rfl) ?_
    refine lv_goto (tgt := 49) hx hb dd_fr_reachMemory_44 (by decide) ?_
    exact wb_fr_reachMemory_49 C0  M a0 a1 v2 v3 v4 t0 v3 (a0 + 4) a0 _ _ _ ha0 ha1 (gq_fr_registers ha0) ha0 G (lv_sub hl [1, 2, 3, 4, 5, 0] rfl) hF
set_option maxRecDepth 100000 in
set_option maxHeartbeats 4000000 in
theorem wb_fr_reachMemory_0 {p : Program} {l : Launch} {e : Env} {s : State} {m : MethodId} {args : Array Value} {below : List Frame} {meth : Method} {c : Code} {X : gw_X} {Y : gw_M} {z : (Int32 × gw_M)} (C0 : gw_C ((Cond.code yy_fr_reachMemory by_fr_reachMemory 7 (some .int)) :: gw_w) by_fr_reachMemory 7 (some .int) "AccountMachine$Frame" X p s m args meth c) (M : gw_M) (a0 : Nat) (a1 : Nat) (v2 : Int32) (H : Heap) (locs : List Loc) (ls : Array Slot) (ha0 : gc_k a0 = (6, 0)) (ha1 : gc_k a1 = (5, 0)) (G : gw_G X (gw_E X M Y) s H locs) (hl : lv_has ls 7 [(0, .ref (gc_a X a0)), (1, .ref (gc_a X a1)), (2, .int v2)]) (hF : fr_reachMemory_b0  M a0 a1 v2 = some z) : W p l e rm_fr_reachMemory s m args below meth c H locs 0 0 (MQ below (gw_Qi X (fun M => (gw_E X M Y)) z) args s 0 0 (gw_A X)) (F0 m 0 ls []) := by
  obtain ⟨hx, hb, hml, hown, hts, hr, hlocks, hK⟩ := id C0
  have hg : ∀ w ∈ gw_w, w.before args s = true := fun w h => hts w (List.mem_cons_of_mem _ h)
  unfold fr_reachMemory_b0 at hF
  refine lv_aload_n hx hb dd_fr_reachMemory_0 rfl (lv_at hl 1 rfl) ?_
  refine gn_pr_targets hx hb hg hown (gw_nw hK kn_9) hK G ha1 dd_fr_reachMemory_1 ?_
  refine lv_iload_n hx hb dd_fr_reachMemory_4 rfl (lv_at hl 2 rfl) ?_
  obtain ⟨h5, hF⟩ := gw_gd hF
  refine gc_iald hx hb hK G (gq_pr_targets ha1) (gw_vp h5) (j := v2.toNatClampNeg) rfl dd_fr_reachMemory_5 ?_
  refine lv_topi (fun x6 e6 => ?_)
  replace hF := gw_ly e6 hF
  refine lv_istore_n (i := 3) (lv' := [(3, .int x6), (0, .ref (gc_a X a0)), (1, .ref (gc_a X a1)), (2, .int v2)]) hx hb dd_fr_reachMemory_6 rfl hl (by decide) rfl (fun ls hl => ?_)
  refine lv_aload_n hx hb dd_fr_reachMemory_7 rfl (lv_at hl 2 rfl) ?_
  refine gn_pr_sources hx hb hg hown (gw_nw hK kn_10) hK G ha1 dd_fr_reachMemory_8 ?_
  refine lv_iload_n hx hb dd_fr_reachMemory_11 rfl (lv_at hl 3 rfl) ?_
  obtain ⟨h12, hF⟩ := gw_gd hF
  refine gc_iald hx hb hK G (gq_pr_sources ha1) (gw_vp h12) (j := v2.toNatClampNeg) rfl dd_fr_reachMemory_12 ?_
  refine W.eq (g2 := F0 m 13 _ _) rfl ?_
  refine lv_topi (fun x13 e13 => ?_)
  replace hF := gw_ly e13 hF
  refine lv_istore (i := 4) (lv' := [(4, .int x13), (3, .int x6), (0, .ref (gc_a X a0)), (1, .ref (gc_a X a1)), (2, .int v2)]) hx hb dd_fr_reachMemory_13 hl (by decide) rfl (fun ls hl => ?_)
  refine lv_aload_n hx hb dd_fr_reachMemory_15 rfl (lv_at hl 3 rfl) ?_
  refine gn_pr_kinds hx hb hg hown (gw_nw hK kn_12) hK G ha1 dd_fr_reachMemory_16 ?_
  refine lv_iload_n hx hb dd_fr_reachMemory_19 rfl (lv_at hl 4 rfl) ?_
  obtain ⟨h20, hF⟩ := gw_gd hF
  refine gc_iald hx hb hK G (gq_pr_kinds ha1) (gw_vp h20) (j := v2.toNatClampNeg) rfl dd_fr_reachMemory_20 ?_
  refine lv_bipush (v := (9 : Int32)) hx hb dd_fr_reachMemory_21 (by decide) ?_
  refine lv_icmp_ne (tgt := 30) hx hb dd_fr_reachMemory_23 (by decide) (fun h23 => ?_) (fun h23 => ?_)
  · replace hF := gw_ef h23 hF
    refine lv_iconst (v := (0 : Int32)) hx hb dd_fr_reachMemory_30 (by decide) ?_
    exact wb_fr_reachMemory_31 C0  M a0 a1 v2 x6 x13 (0 : Int32) _ _ _ ha0 ha1 G (lv_sub hl [2, 3, 4, 1, 0] rfl) hF
  · replace hF := gw_et h23 hF
    refine lv_iconst (v := (1 : Int32)) hx hb dd_fr_reachMemory_26 (by decide) ?_
    refine lv_goto (tgt := 31) hx hb dd_fr_reachMemory_27 (by decide) ?_
    exact wb_fr_reachMemory_31 C0  M a0 a1 v2 x6 x13 (1 : Int32) _ _ _ ha0 ha1 G (lv_sub hl [2, 3, 4, 1, 0] rfl) hF
set_option maxRecDepth 100000 in
set_option maxHeartbeats 4000000 in
theorem ct_fr_reachMemory (l : Launch) (X : gw_X) (Y : gw_M) (M : gw_M) (a0 : Nat) (a1 : Nat) (v2 : Int32) (ha0 : gc_k a0 = (6, 0)) (ha1 : gc_k a1 = (5, 0)) (z : (Int32 × gw_M)) (hF : fr_reachMemory_b0 M a0 a1 v2 = some z) : Met l yy_fr_reachMemory ((Cond.code yy_fr_reachMemory by_fr_reachMemory 7 (some .int)) :: gw_w) rm_fr_reachMemory (va_Pc [.ref (gc_a X a0), .ref (gc_a X a1), .int v2] (gw_B X (gw_E X M Y))) (gw_Qi X (fun M => (gw_E X M Y)) z) 0 0 (gw_A X) := by
  refine Met.ofW (cc := by_fr_reachMemory) (maxL := 7) (ret := (some .int)) (by decide) rfl ?_
  intro p e s m args below meth c s₁ B hml hv
  obtain ⟨rfl, hB⟩ := hv
  rw [lg_entry_eq]
  have hl := lv_entry ([.ref (gc_a X a0), .ref (gc_a X a1), .int v2]) (n := 7) (Nat.le_of_ble_eq_true rfl)
  generalize (lg_sl ([.ref (gc_a X a0), .ref (gc_a X a1), .int v2]) ++ List.replicate (7 - (lg_sl ([.ref (gc_a X a0), .ref (gc_a X a1), .int v2])).length) Slot.unset).toArray = ls at hl ⊢
  have hl : lv_has ls 7 [(0, .ref (gc_a X a0)), (1, .ref (gc_a X a1)), (2, .int v2)] := hl
  exact wb_fr_reachMemory_0 (gw_ctx B hml rfl hB) M a0 a1 v2 _ _ _ ha0 ha1 (gw_start hB) hl hF
/-! AccountMachine$Frame.jump(LAccountMachine$Program;I)V -/
abbrev rm_fr_jump : Room := { frames := 0, cells := 0, slots := 0, locals := 0 }
theorem dd_fr_jump_0 : decode by_fr_jump 0 = .ok (.aload_n 0, 1) := by decide +kernel
theorem dd_fr_jump_1 : decode by_fr_jump 1 = .ok (.getfield 18, 3) := by decide +kernel
theorem dd_fr_jump_4 : decode by_fr_jump 4 = .ok (.aload_n 1, 1) := by decide +kernel
theorem dd_fr_jump_5 : decode by_fr_jump 5 = .ok (.getfield 85, 3) := by decide +kernel
theorem dd_fr_jump_8 : decode by_fr_jump 8 = .ok (.iload_n 2, 1) := by decide +kernel
theorem dd_fr_jump_9 : decode by_fr_jump 9 = .ok (.iaload, 1) := by decide +kernel
theorem dd_fr_jump_10 : decode by_fr_jump 10 = .ok (.laload, 1) := by decide +kernel
theorem dd_fr_jump_11 : decode by_fr_jump 11 = .ok (.lstore_n 3, 1) := by decide +kernel
theorem dd_fr_jump_12 : decode by_fr_jump 12 = .ok (.iconst 1, 1) := by decide +kernel
theorem dd_fr_jump_13 : decode by_fr_jump 13 = .ok (.istore 5, 2) := by decide +kernel
theorem dd_fr_jump_15 : decode by_fr_jump 15 = .ok (.aload_n 1, 1) := by decide +kernel
theorem dd_fr_jump_16 : decode by_fr_jump 16 = .ok (.getfield 96, 3) := by decide +kernel
theorem dd_fr_jump_19 : decode by_fr_jump 19 = .ok (.iload_n 2, 1) := by decide +kernel
theorem dd_fr_jump_20 : decode by_fr_jump 20 = .ok (.iaload, 1) := by decide +kernel
theorem dd_fr_jump_21 : decode by_fr_jump 21 = .ok (.bipush 11, 2) := by decide +kernel
theorem dd_fr_jump_23 : decode by_fr_jump 23 = .ok (.if_icmp .ne 25, 3) := by decide +kernel
theorem dd_fr_jump_26 : decode by_fr_jump 26 = .ok (.lload_n 3, 1) := by decide +kernel
theorem dd_fr_jump_27 : decode by_fr_jump 27 = .ok (.aload_n 1, 1) := by decide +kernel
theorem dd_fr_jump_28 : decode by_fr_jump 28 = .ok (.getfield 93, 3) := by decide +kernel
theorem dd_fr_jump_31 : decode by_fr_jump 31 = .ok (.iload_n 2, 1) := by decide +kernel
theorem dd_fr_jump_32 : decode by_fr_jump 32 = .ok (.iaload, 1) := by decide +kernel
theorem dd_fr_jump_33 : decode by_fr_jump 33 = .ok (.i2l, 1) := by decide +kernel
theorem dd_fr_jump_34 : decode by_fr_jump 34 = .ok (.lcmp, 1) := by decide +kernel
theorem dd_fr_jump_35 : decode by_fr_jump 35 = .ok (.ifCond .ne 7, 3) := by decide +kernel
theorem dd_fr_jump_38 : decode by_fr_jump 38 = .ok (.iconst 1, 1) := by decide +kernel
theorem dd_fr_jump_39 : decode by_fr_jump 39 = .ok (.goto 4, 3) := by decide +kernel
theorem dd_fr_jump_42 : decode by_fr_jump 42 = .ok (.iconst 0, 1) := by decide +kernel
theorem dd_fr_jump_43 : decode by_fr_jump 43 = .ok (.istore 5, 2) := by decide +kernel
theorem dd_fr_jump_45 : decode by_fr_jump 45 = .ok (.goto 37, 3) := by decide +kernel
theorem dd_fr_jump_48 : decode by_fr_jump 48 = .ok (.aload_n 1, 1) := by decide +kernel
theorem dd_fr_jump_49 : decode by_fr_jump 49 = .ok (.getfield 96, 3) := by decide +kernel
theorem dd_fr_jump_52 : decode by_fr_jump 52 = .ok (.iload_n 2, 1) := by decide +kernel
theorem dd_fr_jump_53 : decode by_fr_jump 53 = .ok (.iaload, 1) := by decide +kernel
theorem dd_fr_jump_54 : decode by_fr_jump 54 = .ok (.bipush 12, 2) := by decide +kernel
theorem dd_fr_jump_56 : decode by_fr_jump 56 = .ok (.if_icmp .ne 26, 3) := by decide +kernel
theorem dd_fr_jump_59 : decode by_fr_jump 59 = .ok (.lload_n 3, 1) := by decide +kernel
theorem dd_fr_jump_60 : decode by_fr_jump 60 = .ok (.aload_n 0, 1) := by decide +kernel
theorem dd_fr_jump_61 : decode by_fr_jump 61 = .ok (.getfield 18, 3) := by decide +kernel
theorem dd_fr_jump_64 : decode by_fr_jump 64 = .ok (.aload_n 1, 1) := by decide +kernel
theorem dd_fr_jump_65 : decode by_fr_jump 65 = .ok (.getfield 90, 3) := by decide +kernel
theorem dd_fr_jump_68 : decode by_fr_jump 68 = .ok (.iload_n 2, 1) := by decide +kernel
theorem dd_fr_jump_69 : decode by_fr_jump 69 = .ok (.iaload, 1) := by decide +kernel
theorem dd_fr_jump_70 : decode by_fr_jump 70 = .ok (.laload, 1) := by decide +kernel
theorem dd_fr_jump_71 : decode by_fr_jump 71 = .ok (.lcmp, 1) := by decide +kernel
theorem dd_fr_jump_72 : decode by_fr_jump 72 = .ok (.ifCond .ge 7, 3) := by decide +kernel
theorem dd_fr_jump_75 : decode by_fr_jump 75 = .ok (.iconst 1, 1) := by decide +kernel
theorem dd_fr_jump_76 : decode by_fr_jump 76 = .ok (.goto 4, 3) := by decide +kernel
theorem dd_fr_jump_79 : decode by_fr_jump 79 = .ok (.iconst 0, 1) := by decide +kernel
theorem dd_fr_jump_80 : decode by_fr_jump 80 = .ok (.istore 5, 2) := by decide +kernel
theorem dd_fr_jump_82 : decode by_fr_jump 82 = .ok (.iload 5, 2) := by decide +kernel
theorem dd_fr_jump_84 : decode by_fr_jump 84 = .ok (.ifCond .eq 17, 3) := by decide +kernel
theorem dd_fr_jump_87 : decode by_fr_jump 87 = .ok (.aload_n 0, 1) := by decide +kernel
theorem dd_fr_jump_88 : decode by_fr_jump 88 = .ok (.iload_n 2, 1) := by decide +kernel
theorem dd_fr_jump_89 : decode by_fr_jump 89 = .ok (.iconst 1, 1) := by decide +kernel
theorem dd_fr_jump_90 : decode by_fr_jump 90 = .ok (.iadd, 1) := by decide +kernel
theorem dd_fr_jump_91 : decode by_fr_jump 91 = .ok (.aload_n 1, 1) := by decide +kernel
theorem dd_fr_jump_92 : decode by_fr_jump 92 = .ok (.getfield 99, 3) := by decide +kernel
theorem dd_fr_jump_95 : decode by_fr_jump 95 = .ok (.iload_n 2, 1) := by decide +kernel
theorem dd_fr_jump_96 : decode by_fr_jump 96 = .ok (.iaload, 1) := by decide +kernel
theorem dd_fr_jump_97 : decode by_fr_jump 97 = .ok (.iadd, 1) := by decide +kernel
theorem dd_fr_jump_98 : decode by_fr_jump 98 = .ok (.putfield 33, 3) := by decide +kernel
theorem dd_fr_jump_101 : decode by_fr_jump 101 = .ok (.return_, 1) := by decide +kernel
def fr_jump_b82 (M : gw_M) (a0 : Nat) (a1 : Nat) (v2 : Int32) (v5 : Int32) : Option (Unit × gw_M) :=
  if v5 = (0 : Int32) then (some ((), M)) else (gw_gu (gw_in v2 32) (gw_lt (gw_sI M a0 5 ((v2 + (1 : Int32)) + (M.1 (a1 + 4) v2.toNatClampNeg))) (fun M98 => some ((), M98))))
def fr_jump_b80 (M : gw_M) (a0 : Nat) (a1 : Nat) (v2 : Int32) (t0 : Int32) : Option (Unit × gw_M) :=
  fr_jump_b82  M a0 a1 v2 t0
def fr_jump_b43 (M : gw_M) (a0 : Nat) (a1 : Nat) (v2 : Int32) (t0 : Int32) : Option (Unit × gw_M) :=
  fr_jump_b82  M a0 a1 v2 t0
def fr_jump_b0 (M : gw_M) (a0 : Nat) (a1 : Nat) (v2 : Int32) : Option (Unit × gw_M) :=
  gw_gu (gw_in v2 32) (gw_gu (gw_in (M.1 (a1 + 2) v2.toNatClampNeg) 10) (gw_lt (M.2 (a0 + 4) ((M.1 (a1 + 2) v2.toNatClampNeg).toNatClampNeg)) (fun x11 => gw_gu (gw_in v2 32) (if (M.1 (a1 + 1) v2.toNatClampNeg) = (11 : Int32) then (gw_gu (gw_in v2 32) (if (lg_cmp x11 ((M.1 (a1 + 5) v2.toNatClampNeg).toInt64)) = (0 : Int32) then (fr_jump_b43  M a0 a1 v2 (1 : Int32)) else (fr_jump_b43  M a0 a1 v2 (0 : Int32)))) else (gw_gu (gw_in v2 32) (if (M.1 (a1 + 1) v2.toNatClampNeg) = (12 : Int32) then (gw_gu (gw_in v2 32) (gw_gu (gw_in (M.1 (a1 + 3) v2.toNatClampNeg) 10) (if (0 : Int32) ≤ (lg_cmp x11 (M.2 (a0 + 4) ((M.1 (a1 + 3) v2.toNatClampNeg).toNatClampNeg))) then (fr_jump_b80  M a0 a1 v2 (0 : Int32)) else (fr_jump_b80  M a0 a1 v2 (1 : Int32))))) else (fr_jump_b82  M a0 a1 v2 (1 : Int32))))))))
set_option maxRecDepth 100000 in
set_option maxHeartbeats 4000000 in
theorem wb_fr_jump_82 {p : Program} {l : Launch} {e : Env} {s : State} {m : MethodId} {args : Array Value} {below : List Frame} {meth : Method} {c : Code} {X : gw_X} {Y : gw_M} {z : (Unit × gw_M)} (C0 : gw_C ((Cond.code yy_fr_jump by_fr_jump 6 none) :: gw_w) by_fr_jump 6 none "AccountMachine$Frame" X p s m args meth c) (M : gw_M) (a0 : Nat) (a1 : Nat) (v2 : Int32) (v5 : Int32) (H : Heap) (locs : List Loc) (ls : Array Slot) (ha0 : gc_k a0 = (6, 0)) (ha1 : gc_k a1 = (5, 0)) (G : gw_G X (gw_E X M Y) s H locs) (hl : lv_has ls 6 [(0, .ref (gc_a X a0)), (1, .ref (gc_a X a1)), (2, .int v2), (5, .int v5)]) (hF : fr_jump_b82  M a0 a1 v2 v5 = some z) : W p l e rm_fr_jump s m args below meth c H locs 0 0 (MQ below (gw_Qv X (fun M => (gw_E X M Y)) z) args s 0 0 (gw_A X)) (F0 m 82 ls []) := by
  obtain ⟨hx, hb, hml, hown, hts, hr, hlocks, hK⟩ := id C0
  have hg : ∀ w ∈ gw_w, w.before args s = true := fun w h => hts w (List.mem_cons_of_mem _ h)
  unfold fr_jump_b82 at hF
  refine lv_iload hx hb dd_fr_jump_82 (lv_at hl 3 rfl) ?_
  refine lv_if_eq (tgt := 101) hx hb dd_fr_jump_84 (by decide) (fun h84 => ?_) (fun h84 => ?_)
  · replace hF := gw_et h84 hF
    exact W.vret hx hb hr (fun t ht hW => gw_endv (EF := (fun M => (gw_E X M Y))) (M := M) G ht hF) G.2.2.2.2 dd_fr_jump_101 hlocks
  · replace hF := gw_ef h84 hF
    refine lv_aload_n hx hb dd_fr_jump_87 rfl (lv_at hl 0 rfl) ?_
    refine lv_iload_n hx hb dd_fr_jump_88 rfl (lv_at hl 2 rfl) ?_
    refine lv_iconst (v := (1 : Int32)) hx hb dd_fr_jump_89 (by decide) ?_
    refine lv_iadd hx hb dd_fr_jump_90 ?_
    refine lv_aload_n hx hb dd_fr_jump_91 rfl (lv_at hl 1 rfl) ?_
    refine gn_pr_offsets hx hb hg hown (gw_nw hK kn_13) hK G ha1 dd_fr_jump_92 ?_
    refine lv_iload_n hx hb dd_fr_jump_95 rfl (lv_at hl 2 rfl) ?_
    obtain ⟨h96, hF⟩ := gw_gd hF
    refine gc_iald hx hb hK G (gq_pr_offsets ha1) (gw_vp h96) (j := v2.toNatClampNeg) rfl dd_fr_jump_96 ?_
    refine lv_iadd hx hb dd_fr_jump_97 ?_
    refine W.eq (g2 := F0 m 98 _ _) rfl ?_
    refine gp_fr_place hx hb hg hown (hg _ kw_31) hK G ha0 dd_fr_jump_98 (fun M98 H locs e98 G => ?_)
    replace hF := gw_ly e98 hF
    exact W.vret hx hb hr (fun t ht hW => gw_endv (EF := (fun M => (gw_E X M Y))) (M := M98) G ht hF) G.2.2.2.2 dd_fr_jump_101 hlocks
set_option maxRecDepth 100000 in
set_option maxHeartbeats 4000000 in
theorem wb_fr_jump_80 {p : Program} {l : Launch} {e : Env} {s : State} {m : MethodId} {args : Array Value} {below : List Frame} {meth : Method} {c : Code} {X : gw_X} {Y : gw_M} {z : (Unit × gw_M)} (C0 : gw_C ((Cond.code yy_fr_jump by_fr_jump 6 none) :: gw_w) by_fr_jump 6 none "AccountMachine$Frame" X p s m args meth c) (M : gw_M) (a0 : Nat) (a1 : Nat) (v2 : Int32) (t0 : Int32) (H : Heap) (locs : List Loc) (ls : Array Slot) (ha0 : gc_k a0 = (6, 0)) (ha1 : gc_k a1 = (5, 0)) (G : gw_G X (gw_E X M Y) s H locs) (hl : lv_has ls 6 [(0, .ref (gc_a X a0)), (1, .ref (gc_a X a1)), (2, .int v2)]) (hF : fr_jump_b80  M a0 a1 v2 t0 = some z) : W p l e rm_fr_jump s m args below meth c H locs 0 0 (MQ below (gw_Qv X (fun M => (gw_E X M Y)) z) args s 0 0 (gw_A X)) (F0 m 80 ls [.int t0]) := by
  obtain ⟨hx, hb, hml, hown, hts, hr, hlocks, hK⟩ := id C0
  have hg : ∀ w ∈ gw_w, w.before args s = true := fun w h => hts w (List.mem_cons_of_mem _ h)
  unfold fr_jump_b80 at hF
  refine lv_istore (i := 5) (lv' := [(5, .int t0), (0, .ref (gc_a X a0)), (1, .ref (gc_a X a1)), (2, .int v2)]) hx hb dd_fr_jump_80 hl (by decide) rfl (fun ls hl => ?_)
  exact wb_fr_jump_82 C0  M a0 a1 v2 t0 _ _ _ ha0 ha1 G (lv_sub hl [1, 2, 3, 0] rfl) hF
set_option maxRecDepth 100000 in
set_option maxHeartbeats 4000000 in
theorem wb_fr_jump_43 {p : Program} {l : Launch} {e : Env} {s : State} {m : MethodId} {args : Array Value} {below : List Frame} {meth : Method} {c : Code} {X : gw_X} {Y : gw_M} {z : (Unit × gw_M)} (C0 : gw_C ((Cond.code yy_fr_jump by_fr_jump 6 none) :: gw_w) by_fr_jump 6 none "AccountMachine$Frame" X p s m args meth c) (M : gw_M) (a0 : Nat) (a1 : Nat) (v2 : Int32) (t0 : Int32) (H : Heap) (locs : List Loc) (ls : Array Slot) (ha0 : gc_k a0 = (6, 0)) (ha1 : gc_k a1 = (5, 0)) (G : gw_G X (gw_E X M Y) s H locs) (hl : lv_has ls 6 [(0, .ref (gc_a X a0)), (1, .ref (gc_a X a1)), (2, .int v2)]) (hF : fr_jump_b43  M a0 a1 v2 t0 = some z) : W p l e rm_fr_jump s m args below meth c H locs 0 0 (MQ below (gw_Qv X (fun M => (gw_E X M Y)) z) args s 0 0 (gw_A X)) (F0 m 43 ls [.int t0]) := by
  obtain ⟨hx, hb, hml, hown, hts, hr, hlocks, hK⟩ := id C0
  have hg : ∀ w ∈ gw_w, w.before args s = true := fun w h => hts w (List.mem_cons_of_mem _ h)
  unfold fr_jump_b43 at hF
  refine lv_istore (i := 5) (lv' := [(5, .int t0), (0, .ref (gc_a X a0)), (1, .ref (gc_a X a1)), (2, .int v2)]) hx hb dd_fr_jump_43 hl (by decide) rfl (fun ls hl => ?_)
  refine lv_goto (tgt := 82) hx hb dd_fr_jump_45 (by decide) ?_
  exact wb_fr_jump_82 C0  M a0 a1 v2 t0 _ _ _ ha0 ha1 G (lv_sub hl [1, 2, 3, 0] rfl) hF
set_option maxRecDepth 100000 in
set_option maxHeartbeats 4000000 in
theorem wb_fr_jump_0 {p : Program} {l : Launch} {e : Env} {s : State} {m : MethodId} {args : Array Value} {below : List Frame} {meth : Method} {c : Code} {X : gw_X} {Y : gw_M} {z : (Unit × gw_M)} (C0 : gw_C ((Cond.code yy_fr_jump by_fr_jump 6 none) :: gw_w) by_fr_jump 6 none "AccountMachine$Frame" X p s m args meth c) (M : gw_M) (a0 : Nat) (a1 : Nat) (v2 : Int32) (H : Heap) (locs : List Loc) (ls : Array Slot) (ha0 : gc_k a0 = (6, 0)) (ha1 : gc_k a1 = (5, 0)) (G : gw_G X (gw_E X M Y) s H locs) (hl : lv_has ls 6 [(0, .ref (gc_a X a0)), (1, .ref (gc_a X a1)), (2, .int v2)]) (hF : fr_jump_b0  M a0 a1 v2 = some z) : W p l e rm_fr_jump s m args below meth c H locs 0 0 (MQ below (gw_Qv X (fun M => (gw_E X M Y)) z) args s 0 0 (gw_A X)) (F0 m 0 ls []) := by
  obtain ⟨hx, hb, hml, hown, hts, hr, hlocks, hK⟩ := id C0
  have hg : ∀ w ∈ gw_w, w.before args s = true := fun w h => hts w (List.mem_cons_of_mem _ h)
  unfold fr_jump_b0 at hF
  refine lv_aload_n hx hb dd_fr_jump_0 rfl (lv_at hl 0 rfl) ?_
  refine gf_fr_registers hx hb hg hown (hg _ kw_28) hK G ha0 dd_fr_jump_1 ?_
  refine lv_aload_n hx hb dd_fr_jump_4 rfl (lv_at hl 1 rfl) ?_
  refine gn_pr_targets hx hb hg hown (gw_nw hK kn_9) hK G ha1 dd_fr_jump_5 ?_
  refine lv_iload_n hx hb dd_fr_jump_8 rfl (lv_at hl 2 rfl) ?_
  obtain ⟨h9, hF⟩ := gw_gd hF
  refine gc_iald hx hb hK G (gq_pr_targets ha1) (gw_vp h9) (j := v2.toNatClampNeg) rfl dd_fr_jump_9 ?_
  obtain ⟨h10, hF⟩ := gw_gd hF
  refine gc_lald hx hb hK G (gq_fr_registers ha0) (gw_vp h10) (j := (M.1 (a1 + 2) v2.toNatClampNeg).toNatClampNeg) rfl dd_fr_jump_10 ?_
  refine lv_topl (fun x11 e11 => ?_)
  replace hF := gw_ly e11 hF
  refine lv_lstore_n (i := 3) (lv' := [(3, .long x11), (0, .ref (gc_a X a0)), (1, .ref (gc_a X a1)), (2, .int v2)]) hx hb dd_fr_jump_11 rfl hl (by decide) rfl (fun ls hl => ?_)
  refine lv_iconst (v := (1 : Int32)) hx hb dd_fr_jump_12 (by decide) ?_
  refine W.eq (g2 := F0 m 13 _ _) rfl ?_
  refine lv_istore (i := 5) (lv' := [(5, .int (1 : Int32)), (3, .long x11), (0, .ref (gc_a X a0)), (1, .ref (gc_a X a1)), (2, .int v2)]) hx hb dd_fr_jump_13 hl (by decide) rfl (fun ls hl => ?_)
  refine lv_aload_n hx hb dd_fr_jump_15 rfl (lv_at hl 3 rfl) ?_
  refine gn_pr_kinds hx hb hg hown (gw_nw hK kn_12) hK G ha1 dd_fr_jump_16 ?_
  refine lv_iload_n hx hb dd_fr_jump_19 rfl (lv_at hl 4 rfl) ?_
  obtain ⟨h20, hF⟩ := gw_gd hF
  refine gc_iald hx hb hK G (gq_pr_kinds ha1) (gw_vp h20) (j := v2.toNatClampNeg) rfl dd_fr_jump_20 ?_
  refine lv_bipush (v := (11 : Int32)) hx hb dd_fr_jump_21 (by decide) ?_
  refine lv_icmp_ne (tgt := 48) hx hb dd_fr_jump_23 (by decide) (fun h23 => ?_) (fun h23 => ?_)
  · replace hF := gw_ef h23 hF
    refine lv_aload_n hx hb dd_fr_jump_48 rfl (lv_at hl 3 rfl) ?_
    refine gn_pr_kinds hx hb hg hown (gw_nw hK kn_12) hK G ha1 dd_fr_jump_49 ?_
    refine lv_iload_n hx hb dd_fr_jump_52 rfl (lv_at hl 4 rfl) ?_
    obtain ⟨h53, hF⟩ := gw_gd hF
    refine gc_iald hx hb hK G (gq_pr_kinds ha1) (gw_vp h53) (j := v2.toNatClampNeg) rfl dd_fr_jump_53 ?_
    refine lv_bipush (v := (12 : Int32)) hx hb dd_fr_jump_54 (by decide) ?_
    refine lv_icmp_ne (tgt := 82) hx hb dd_fr_jump_56 (by decide) (fun h56 => ?_) (fun h56 => ?_)
    · replace hF := gw_ef h56 hF
      exact wb_fr_jump_82 C0  M a0 a1 v2 (1 : Int32) _ _ _ ha0 ha1 G (lv_sub hl [2, 3, 4, 0] rfl) hF
    · replace hF := gw_et h56 hF
      refine lv_lload_n hx hb dd_fr_jump_59 rfl (lv_at hl 1 rfl) ?_
      refine lv_aload_n hx hb dd_fr_jump_60 rfl (lv_at hl 2 rfl) ?_
      refine gf_fr_registers hx hb hg hown (hg _ kw_28) hK G ha0 dd_fr_jump_61 ?_
      refine lv_aload_n hx hb dd_fr_jump_64 rfl (lv_at hl 3 rfl) ?_
      refine gn_pr_sources hx hb hg hown (gw_nw hK kn_10) hK G ha1 dd_fr_jump_65 ?_
      refine lv_iload_n hx hb dd_fr_jump_68 rfl (lv_at hl 4 rfl) ?_
      obtain ⟨h69, hF⟩ := gw_gd hF
      refine gc_iald hx hb hK G (gq_pr_sources ha1) (gw_vp h69) (j := v2.toNatClampNeg) rfl dd_fr_jump_69 ?_
      obtain ⟨h70, hF⟩ := gw_gd hF
      refine gc_lald hx hb hK G (gq_fr_registers ha0) (gw_vp h70) (j := (M.1 (a1 + 3) v2.toNatClampNeg).toNatClampNeg) rfl dd_fr_jump_70 ?_
      refine W.lcmp hx hb dd_fr_jump_71 ?_
      refine W.eq (g2 := F0 m 72 _ _) rfl ?_
      refine lv_if_ge (tgt := 79) hx hb dd_fr_jump_72 (by decide) (fun h72 => ?_) (fun h72 => ?_)
      · replace hF := gw_et h72 hF
        refine lv_iconst (v := (0 : Int32)) hx hb dd_fr_jump_79 (by decide) ?_
        exact wb_fr_jump_80 C0  M a0 a1 v2 (0 : Int32) _ _ _ ha0 ha1 G (lv_sub hl [2, 3, 4] rfl) hF
      · replace hF := gw_ef h72 hF
        refine lv_iconst (v := (1 : Int32)) hx hb dd_fr_jump_75 (by decide) ?_
        refine lv_goto (tgt := 80) hx hb dd_fr_jump_76 (by decide) ?_
        exact wb_fr_jump_80 C0  M a0 a1 v2 (1 : Int32) _ _ _ ha0 ha1 G (lv_sub hl [2, 3, 4] rfl) hF
  · replace hF := gw_et h23 hF
    refine lv_lload_n hx hb dd_fr_jump_26 rfl (lv_at hl 1 rfl) ?_
    refine lv_aload_n hx hb dd_fr_jump_27 rfl (lv_at hl 3 rfl) ?_
    refine gn_pr_numbers hx hb hg hown (gw_nw hK kn_11) hK G ha1 dd_fr_jump_28 ?_
    refine lv_iload_n hx hb dd_fr_jump_31 rfl (lv_at hl 4 rfl) ?_
    obtain ⟨h32, hF⟩ := gw_gd hF
    refine gc_iald hx hb hK G (gq_pr_numbers ha1) (gw_vp h32) (j := v2.toNatClampNeg) rfl dd_fr_jump_32 ?_
    refine lv_i2l (v := (M.1 (a1 + 5) v2.toNatClampNeg).toInt64) hx hb dd_fr_jump_33 rfl ?_
    refine W.lcmp hx hb dd_fr_jump_34 ?_
    refine lv_if_ne (tgt := 42) hx hb dd_fr_jump_35 (by decide) (fun h35 => ?_) (fun h35 => ?_)
    · replace hF := gw_ef h35 hF
      refine lv_iconst (v := (0 : Int32)) hx hb dd_fr_jump_42 (by decide) ?_
      exact wb_fr_jump_43 C0  M a0 a1 v2 (0 : Int32) _ _ _ ha0 ha1 G (lv_sub hl [2, 3, 4] rfl) hF
    · replace hF := gw_et h35 hF
      refine lv_iconst (v := (1 : Int32)) hx hb dd_fr_jump_38 (by decide) ?_
      refine lv_goto (tgt := 43) hx hb dd_fr_jump_39 (by decide) ?_
      exact wb_fr_jump_43 C0  M a0 a1 v2 (1 : Int32) _ _ _ ha0 ha1 G (lv_sub hl [2, 3, 4] rfl) hF
set_option maxRecDepth 100000 in
set_option maxHeartbeats 4000000 in
theorem ct_fr_jump (l : Launch) (X : gw_X) (Y : gw_M) (M : gw_M) (a0 : Nat) (a1 : Nat) (v2 : Int32) (ha0 : gc_k a0 = (6, 0)) (ha1 : gc_k a1 = (5, 0)) (z : (Unit × gw_M)) (hF : fr_jump_b0 M a0 a1 v2 = some z) : Met l yy_fr_jump ((Cond.code yy_fr_jump by_fr_jump 6 none) :: gw_w) rm_fr_jump (va_Pc [.ref (gc_a X a0), .ref (gc_a X a1), .int v2] (gw_B X (gw_E X M Y))) (gw_Qv X (fun M => (gw_E X M Y)) z) 0 0 (gw_A X) := by
  refine Met.ofW (cc := by_fr_jump) (maxL := 6) (ret := none) (by decide) rfl ?_
  intro p e s m args below meth c s₁ B hml hv
  obtain ⟨rfl, hB⟩ := hv
  rw [lg_entry_eq]
  have hl := lv_entry ([.ref (gc_a X a0), .ref (gc_a X a1), .int v2]) (n := 6) (Nat.le_of_ble_eq_true rfl)
  generalize (lg_sl ([.ref (gc_a X a0), .ref (gc_a X a1), .int v2]) ++ List.replicate (6 - (lg_sl ([.ref (gc_a X a0), .ref (gc_a X a1), .int v2])).length) Slot.unset).toArray = ls at hl ⊢
  have hl : lv_has ls 6 [(0, .ref (gc_a X a0)), (1, .ref (gc_a X a1)), (2, .int v2)] := hl
  exact wb_fr_jump_0 (gw_ctx B hml rfl hB) M a0 a1 v2 _ _ _ ha0 ha1 (gw_start hB) hl hF
/-! AccountMachine$Frame.call(LAccountMachine$Program;I)I -/
abbrev rm_fr_call : Room := { frames := 0, cells := 0, slots := 0, locals := 0 }
theorem dd_fr_call_0 : decode by_fr_call 0 = .ok (.aload_n 0, 1) := by decide +kernel
theorem dd_fr_call_1 : decode by_fr_call 1 = .ok (.getfield 29, 3) := by decide +kernel
theorem dd_fr_call_4 : decode by_fr_call 4 = .ok (.iconst 4, 1) := by decide +kernel
theorem dd_fr_call_5 : decode by_fr_call 5 = .ok (.if_icmp .lt 5, 3) := by decide +kernel
theorem dd_fr_call_8 : decode by_fr_call 8 = .ok (.iconst 4, 1) := by decide +kernel
theorem dd_fr_call_9 : decode by_fr_call 9 = .ok (.ireturn, 1) := by decide +kernel
theorem dd_fr_call_10 : decode by_fr_call 10 = .ok (.aload_n 0, 1) := by decide +kernel
theorem dd_fr_call_11 : decode by_fr_call 11 = .ok (.getfield 25, 3) := by decide +kernel
theorem dd_fr_call_14 : decode by_fr_call 14 = .ok (.aload_n 0, 1) := by decide +kernel
theorem dd_fr_call_15 : decode by_fr_call 15 = .ok (.getfield 29, 3) := by decide +kernel
theorem dd_fr_call_18 : decode by_fr_call 18 = .ok (.iload_n 2, 1) := by decide +kernel
theorem dd_fr_call_19 : decode by_fr_call 19 = .ok (.iconst 1, 1) := by decide +kernel
theorem dd_fr_call_20 : decode by_fr_call 20 = .ok (.iadd, 1) := by decide +kernel
theorem dd_fr_call_21 : decode by_fr_call 21 = .ok (.iastore, 1) := by decide +kernel
theorem dd_fr_call_22 : decode by_fr_call 22 = .ok (.aload_n 0, 1) := by decide +kernel
theorem dd_fr_call_23 : decode by_fr_call 23 = .ok (.dup, 1) := by decide +kernel
theorem dd_fr_call_24 : decode by_fr_call 24 = .ok (.getfield 29, 3) := by decide +kernel
theorem dd_fr_call_27 : decode by_fr_call 27 = .ok (.iconst 1, 1) := by decide +kernel
theorem dd_fr_call_28 : decode by_fr_call 28 = .ok (.iadd, 1) := by decide +kernel
theorem dd_fr_call_29 : decode by_fr_call 29 = .ok (.putfield 29, 3) := by decide +kernel
theorem dd_fr_call_32 : decode by_fr_call 32 = .ok (.aload_n 0, 1) := by decide +kernel
theorem dd_fr_call_33 : decode by_fr_call 33 = .ok (.iload_n 2, 1) := by decide +kernel
theorem dd_fr_call_34 : decode by_fr_call 34 = .ok (.iconst 1, 1) := by decide +kernel
theorem dd_fr_call_35 : decode by_fr_call 35 = .ok (.iadd, 1) := by decide +kernel
theorem dd_fr_call_36 : decode by_fr_call 36 = .ok (.aload_n 1, 1) := by decide +kernel
theorem dd_fr_call_37 : decode by_fr_call 37 = .ok (.getfield 99, 3) := by decide +kernel
theorem dd_fr_call_40 : decode by_fr_call 40 = .ok (.iload_n 2, 1) := by decide +kernel
theorem dd_fr_call_41 : decode by_fr_call 41 = .ok (.iaload, 1) := by decide +kernel
theorem dd_fr_call_42 : decode by_fr_call 42 = .ok (.iadd, 1) := by decide +kernel
theorem dd_fr_call_43 : decode by_fr_call 43 = .ok (.putfield 33, 3) := by decide +kernel
theorem dd_fr_call_46 : decode by_fr_call 46 = .ok (.iconst 0, 1) := by decide +kernel
theorem dd_fr_call_47 : decode by_fr_call 47 = .ok (.ireturn, 1) := by decide +kernel
def fr_call_b0 (M : gw_M) (a0 : Nat) (a1 : Nat) (v2 : Int32) : Option (Int32 × gw_M) :=
  if (M.1 a0 4) < (4 : Int32) then (gw_gu (gw_in (M.1 a0 4) 4) (gw_lt (gw_sI M (a0 + 6) ((M.1 a0 4).toNatClampNeg) (v2 + (1 : Int32))) (fun M21 => gw_lt (gw_sI M21 a0 4 ((M21.1 a0 4) + (1 : Int32))) (fun M29 => gw_gu (gw_in v2 32) (gw_lt (gw_sI M29 a0 5 ((v2 + (1 : Int32)) + (M29.1 (a1 + 4) v2.toNatClampNeg))) (fun M43 => some ((0 : Int32), M43))))))) else (some ((4 : Int32), M))
set_option maxRecDepth 100000 in
set_option maxHeartbeats 4000000 in
theorem wb_fr_call_0 {p : Program} {l : Launch} {e : Env} {s : State} {m : MethodId} {args : Array Value} {below : List Frame} {meth : Method} {c : Code} {X : gw_X} {Y : gw_M} {z : (Int32 × gw_M)} (C0 : gw_C ((Cond.code yy_fr_call by_fr_call 3 (some .int)) :: gw_w) by_fr_call 3 (some .int) "AccountMachine$Frame" X p s m args meth c) (M : gw_M) (a0 : Nat) (a1 : Nat) (v2 : Int32) (H : Heap) (locs : List Loc) (ls : Array Slot) (ha0 : gc_k a0 = (6, 0)) (ha1 : gc_k a1 = (5, 0)) (G : gw_G X (gw_E X M Y) s H locs) (hl : lv_has ls 3 [(0, .ref (gc_a X a0)), (1, .ref (gc_a X a1)), (2, .int v2)]) (hF : fr_call_b0  M a0 a1 v2 = some z) : W p l e rm_fr_call s m args below meth c H locs 0 0 (MQ below (gw_Qi X (fun M => (gw_E X M Y)) z) args s 0 0 (gw_A X)) (F0 m 0 ls []) := by
  obtain ⟨hx, hb, hml, hown, hts, hr, hlocks, hK⟩ := id C0
  have hg : ∀ w ∈ gw_w, w.before args s = true := fun w h => hts w (List.mem_cons_of_mem _ h)
  unfold fr_call_b0 at hF
  refine lv_aload_n hx hb dd_fr_call_0 rfl (lv_at hl 0 rfl) ?_
  refine gf_fr_rememberedCount hx hb hg hown (hg _ kw_30) hK G ha0 dd_fr_call_1 ?_
  refine lv_iconst (v := (4 : Int32)) hx hb dd_fr_call_4 (by decide) ?_
  refine lv_icmp_lt (tgt := 10) hx hb dd_fr_call_5 (by decide) (fun h5 => ?_) (fun h5 => ?_)
  · replace hF := gw_et h5 hF
    refine lv_aload_n hx hb dd_fr_call_10 rfl (lv_at hl 0 rfl) ?_
    refine gf_fr_remembered hx hb hg hown (hg _ kw_43) hK G ha0 dd_fr_call_11 ?_
    refine lv_aload_n hx hb dd_fr_call_14 rfl (lv_at hl 0 rfl) ?_
    refine gf_fr_rememberedCount hx hb hg hown (hg _ kw_30) hK G ha0 dd_fr_call_15 ?_
    refine lv_iload_n hx hb dd_fr_call_18 rfl (lv_at hl 2 rfl) ?_
    refine lv_iconst (v := (1 : Int32)) hx hb dd_fr_call_19 (by decide) ?_
    refine lv_iadd hx hb dd_fr_call_20 ?_
    obtain ⟨h21, hF⟩ := gw_gd hF
    refine gc_iast hx hb hK G (gq_fr_remembered ha0) (gw_vp h21) (j := (M.1 a0 4).toNatClampNeg) rfl dd_fr_call_21 (fun M21 H locs e21 G => ?_)
    replace hF := gw_ly e21 hF
    refine lv_aload_n hx hb dd_fr_call_22 rfl (lv_at hl 0 rfl) ?_
    refine W.eq (g2 := F0 m 23 _ _) rfl ?_
    refine lv_dup hx hb dd_fr_call_23 rfl ?_
    refine gf_fr_rememberedCount hx hb hg hown (hg _ kw_30) hK G ha0 dd_fr_call_24 ?_
    refine lv_iconst (v := (1 : Int32)) hx hb dd_fr_call_27 (by decide) ?_
    refine lv_iadd hx hb dd_fr_call_28 ?_
    refine gp_fr_rememberedCount hx hb hg hown (hg _ kw_30) hK G ha0 dd_fr_call_29 (fun M29 H locs e29 G => ?_)
    replace hF := gw_ly e29 hF
    refine lv_aload_n hx hb dd_fr_call_32 rfl (lv_at hl 0 rfl) ?_
    refine lv_iload_n hx hb dd_fr_call_33 rfl (lv_at hl 2 rfl) ?_
    refine lv_iconst (v := (1 : Int32)) hx hb dd_fr_call_34 (by decide) ?_
    refine lv_iadd hx hb dd_fr_call_35 ?_
    refine lv_aload_n hx hb dd_fr_call_36 rfl (lv_at hl 1 rfl) ?_
    refine W.eq (g2 := F0 m 37 _ _) rfl ?_
    refine gn_pr_offsets hx hb hg hown (gw_nw hK kn_13) hK G ha1 dd_fr_call_37 ?_
    refine lv_iload_n hx hb dd_fr_call_40 rfl (lv_at hl 2 rfl) ?_
    obtain ⟨h41, hF⟩ := gw_gd hF
    refine gc_iald hx hb hK G (gq_pr_offsets ha1) (gw_vp h41) (j := v2.toNatClampNeg) rfl dd_fr_call_41 ?_
    refine lv_iadd hx hb dd_fr_call_42 ?_
    refine gp_fr_place hx hb hg hown (hg _ kw_31) hK G ha0 dd_fr_call_43 (fun M43 H locs e43 G => ?_)
    replace hF := gw_ly e43 hF
    refine lv_iconst (v := (0 : Int32)) hx hb dd_fr_call_46 (by decide) ?_
    exact W.iret hx hb hr (fun t ht hW => gw_endi (EF := (fun M => (gw_E X M Y))) (M := M43) G ht hF) G.2.2.2.2 dd_fr_call_47 hlocks
  · replace hF := gw_ef h5 hF
    refine lv_iconst (v := (4 : Int32)) hx hb dd_fr_call_8 (by decide) ?_
    exact W.iret hx hb hr (fun t ht hW => gw_endi (EF := (fun M => (gw_E X M Y))) (M := M) G ht hF) G.2.2.2.2 dd_fr_call_9 hlocks
set_option maxRecDepth 100000 in
set_option maxHeartbeats 4000000 in
theorem ct_fr_call (l : Launch) (X : gw_X) (Y : gw_M) (M : gw_M) (a0 : Nat) (a1 : Nat) (v2 : Int32) (ha0 : gc_k a0 = (6, 0)) (ha1 : gc_k a1 = (5, 0)) (z : (Int32 × gw_M)) (hF : fr_call_b0 M a0 a1 v2 = some z) : Met l yy_fr_call ((Cond.code yy_fr_call by_fr_call 3 (some .int)) :: gw_w) rm_fr_call (va_Pc [.ref (gc_a X a0), .ref (gc_a X a1), .int v2] (gw_B X (gw_E X M Y))) (gw_Qi X (fun M => (gw_E X M Y)) z) 0 0 (gw_A X) := by
  refine Met.ofW (cc := by_fr_call) (maxL := 3) (ret := (some .int)) (by decide) rfl ?_
  intro p e s m args below meth c s₁ B hml hv
  obtain ⟨rfl, hB⟩ := hv
  rw [lg_entry_eq]
  have hl := lv_entry ([.ref (gc_a X a0), .ref (gc_a X a1), .int v2]) (n := 3) (Nat.le_of_ble_eq_true rfl)
  generalize (lg_sl ([.ref (gc_a X a0), .ref (gc_a X a1), .int v2]) ++ List.replicate (3 - (lg_sl ([.ref (gc_a X a0), .ref (gc_a X a1), .int v2])).length) Slot.unset).toArray = ls at hl ⊢
  have hl : lv_has ls 3 [(0, .ref (gc_a X a0)), (1, .ref (gc_a X a1)), (2, .int v2)] := hl
  exact wb_fr_call_0 (gw_ctx B hml rfl hB) M a0 a1 v2 _ _ _ ha0 ha1 (gw_start hB) hl hF
/-! AccountMachine$Frame.goBack()Z -/
abbrev rm_fr_goBack : Room := { frames := 0, cells := 0, slots := 0, locals := 0 }
theorem dd_fr_goBack_0 : decode by_fr_goBack 0 = .ok (.aload_n 0, 1) := by decide +kernel
theorem dd_fr_goBack_1 : decode by_fr_goBack 1 = .ok (.getfield 29, 3) := by decide +kernel
theorem dd_fr_goBack_4 : decode by_fr_goBack 4 = .ok (.ifCond .ne 5, 3) := by decide +kernel
theorem dd_fr_goBack_7 : decode by_fr_goBack 7 = .ok (.iconst 0, 1) := by decide +kernel
theorem dd_fr_goBack_8 : decode by_fr_goBack 8 = .ok (.ireturn, 1) := by decide +kernel
theorem dd_fr_goBack_9 : decode by_fr_goBack 9 = .ok (.aload_n 0, 1) := by decide +kernel
theorem dd_fr_goBack_10 : decode by_fr_goBack 10 = .ok (.dup, 1) := by decide +kernel
theorem dd_fr_goBack_11 : decode by_fr_goBack 11 = .ok (.getfield 29, 3) := by decide +kernel
theorem dd_fr_goBack_14 : decode by_fr_goBack 14 = .ok (.iconst 1, 1) := by decide +kernel
theorem dd_fr_goBack_15 : decode by_fr_goBack 15 = .ok (.isub, 1) := by decide +kernel
theorem dd_fr_goBack_16 : decode by_fr_goBack 16 = .ok (.putfield 29, 3) := by decide +kernel
theorem dd_fr_goBack_19 : decode by_fr_goBack 19 = .ok (.aload_n 0, 1) := by decide +kernel
theorem dd_fr_goBack_20 : decode by_fr_goBack 20 = .ok (.aload_n 0, 1) := by decide +kernel
theorem dd_fr_goBack_21 : decode by_fr_goBack 21 = .ok (.getfield 25, 3) := by decide +kernel
theorem dd_fr_goBack_24 : decode by_fr_goBack 24 = .ok (.aload_n 0, 1) := by decide +kernel
theorem dd_fr_goBack_25 : decode by_fr_goBack 25 = .ok (.getfield 29, 3) := by decide +kernel
theorem dd_fr_goBack_28 : decode by_fr_goBack 28 = .ok (.iaload, 1) := by decide +kernel
theorem dd_fr_goBack_29 : decode by_fr_goBack 29 = .ok (.putfield 33, 3) := by decide +kernel
theorem dd_fr_goBack_32 : decode by_fr_goBack 32 = .ok (.iconst 1, 1) := by decide +kernel
theorem dd_fr_goBack_33 : decode by_fr_goBack 33 = .ok (.ireturn, 1) := by decide +kernel
def fr_goBack_b0 (M : gw_M) (a0 : Nat) : Option (Int32 × gw_M) :=
  if (M.1 a0 4) = (0 : Int32) then (some ((0 : Int32), M)) else (gw_lt (gw_sI M a0 4 ((M.1 a0 4) - (1 : Int32))) (fun M16 => gw_gu (gw_in (M16.1 a0 4) 4) (gw_lt (gw_sI M16 a0 5 (M16.1 (a0 + 6) ((M16.1 a0 4).toNatClampNeg))) (fun M29 => some ((1 : Int32), M29)))))
set_option maxRecDepth 100000 in
set_option maxHeartbeats 4000000 in
theorem wb_fr_goBack_0 {p : Program} {l : Launch} {e : Env} {s : State} {m : MethodId} {args : Array Value} {below : List Frame} {meth : Method} {c : Code} {X : gw_X} {Y : gw_M} {z : (Int32 × gw_M)} (C0 : gw_C ((Cond.code yy_fr_goBack by_fr_goBack 1 (some .boolean)) :: gw_w) by_fr_goBack 1 (some .boolean) "AccountMachine$Frame" X p s m args meth c) (M : gw_M) (a0 : Nat) (H : Heap) (locs : List Loc) (ls : Array Slot) (ha0 : gc_k a0 = (6, 0)) (G : gw_G X (gw_E X M Y) s H locs) (hl : lv_has ls 1 [(0, .ref (gc_a X a0))]) (hF : fr_goBack_b0  M a0 = some z) : W p l e rm_fr_goBack s m args below meth c H locs 0 0 (MQ below (gw_Qi X (fun M => (gw_E X M Y)) z) args s 0 0 (gw_A X)) (F0 m 0 ls []) := by
  obtain ⟨hx, hb, hml, hown, hts, hr, hlocks, hK⟩ := id C0
  have hg : ∀ w ∈ gw_w, w.before args s = true := fun w h => hts w (List.mem_cons_of_mem _ h)
  unfold fr_goBack_b0 at hF
  refine lv_aload_n hx hb dd_fr_goBack_0 rfl (lv_at hl 0 rfl) ?_
  refine gf_fr_rememberedCount hx hb hg hown (hg _ kw_30) hK G ha0 dd_fr_goBack_1 ?_
  refine lv_if_ne (tgt := 9) hx hb dd_fr_goBack_4 (by decide) (fun h4 => ?_) (fun h4 => ?_)
  · replace hF := gw_ef h4 hF
    refine lv_aload_n hx hb dd_fr_goBack_9 rfl (lv_at hl 0 rfl) ?_
    refine lv_dup hx hb dd_fr_goBack_10 rfl ?_
    refine gf_fr_rememberedCount hx hb hg hown (hg _ kw_30) hK G ha0 dd_fr_goBack_11 ?_
    refine lv_iconst (v := (1 : Int32)) hx hb dd_fr_goBack_14 (by decide) ?_
    refine lv_isub hx hb dd_fr_goBack_15 ?_
    refine gp_fr_rememberedCount hx hb hg hown (hg _ kw_30) hK G ha0 dd_fr_goBack_16 (fun M16 H locs e16 G => ?_)
    replace hF := gw_ly e16 hF
    refine lv_aload_n hx hb dd_fr_goBack_19 rfl (lv_at hl 0 rfl) ?_
    refine lv_aload_n hx hb dd_fr_goBack_20 rfl (lv_at hl 0 rfl) ?_
    refine gf_fr_remembered hx hb hg hown (hg _ kw_43) hK G ha0 dd_fr_goBack_21 ?_
    refine W.eq (g2 := F0 m 24 _ _) rfl ?_
    refine lv_aload_n hx hb dd_fr_goBack_24 rfl (lv_at hl 0 rfl) ?_
    refine gf_fr_rememberedCount hx hb hg hown (hg _ kw_30) hK G ha0 dd_fr_goBack_25 ?_
    obtain ⟨h28, hF⟩ := gw_gd hF
    refine gc_iald hx hb hK G (gq_fr_remembered ha0) (gw_vp h28) (j := (M16.1 a0 4).toNatClampNeg) rfl dd_fr_goBack_28 ?_
    refine gp_fr_place hx hb hg hown (hg _ kw_31) hK G ha0 dd_fr_goBack_29 (fun M29 H locs e29 G => ?_)
    replace hF := gw_ly e29 hF
    refine lv_iconst (v := (1 : Int32)) hx hb dd_fr_goBack_32 (by decide) ?_
    exact W.zret hx hb hr (by decide) (fun t ht hW => gw_endi (EF := (fun M => (gw_E X M Y))) (M := M29) G ht hF) G.2.2.2.2 dd_fr_goBack_33 hlocks
  · replace hF := gw_et h4 hF
    refine lv_iconst (v := (0 : Int32)) hx hb dd_fr_goBack_7 (by decide) ?_
    exact W.zret hx hb hr (by decide) (fun t ht hW => gw_endi (EF := (fun M => (gw_E X M Y))) (M := M) G ht hF) G.2.2.2.2 dd_fr_goBack_8 hlocks
set_option maxRecDepth 100000 in
set_option maxHeartbeats 4000000 in
theorem ct_fr_goBack (l : Launch) (X : gw_X) (Y : gw_M) (M : gw_M) (a0 : Nat) (ha0 : gc_k a0 = (6, 0)) (z : (Int32 × gw_M)) (hF : fr_goBack_b0 M a0 = some z) : Met l yy_fr_goBack ((Cond.code yy_fr_goBack by_fr_goBack 1 (some .boolean)) :: gw_w) rm_fr_goBack (va_Pc [.ref (gc_a X a0)] (gw_B X (gw_E X M Y))) (gw_Qi X (fun M => (gw_E X M Y)) z) 0 0 (gw_A X) := by
  refine Met.ofW (cc := by_fr_goBack) (maxL := 1) (ret := (some .boolean)) (by decide) rfl ?_
  intro p e s m args below meth c s₁ B hml hv
  obtain ⟨rfl, hB⟩ := hv
  rw [lg_entry_eq]
  have hl := lv_entry ([.ref (gc_a X a0)]) (n := 1) (Nat.le_of_ble_eq_true rfl)
  generalize (lg_sl ([.ref (gc_a X a0)]) ++ List.replicate (1 - (lg_sl ([.ref (gc_a X a0)])).length) Slot.unset).toArray = ls at hl ⊢
  have hl : lv_has ls 1 [(0, .ref (gc_a X a0))] := hl
  exact wb_fr_goBack_0 (gw_ctx B hml rfl hB) M a0 _ _ _ ha0 (gw_start hB) hl hF
/-! AccountMachine$Frame.hasData(I)Z -/
abbrev rm_fr_hasData : Room := { frames := 0, cells := 0, slots := 0, locals := 0 }
theorem dd_fr_hasData_0 : decode by_fr_hasData 0 = .ok (.iconst 0, 1) := by decide +kernel
theorem dd_fr_hasData_1 : decode by_fr_hasData 1 = .ok (.istore_n 2, 1) := by decide +kernel
theorem dd_fr_hasData_2 : decode by_fr_hasData 2 = .ok (.iload_n 2, 1) := by decide +kernel
theorem dd_fr_hasData_3 : decode by_fr_hasData 3 = .ok (.iconst 4, 1) := by decide +kernel
theorem dd_fr_hasData_4 : decode by_fr_hasData 4 = .ok (.if_icmp .ge 25, 3) := by decide +kernel
theorem dd_fr_hasData_7 : decode by_fr_hasData 7 = .ok (.aload_n 0, 1) := by decide +kernel
theorem dd_fr_hasData_8 : decode by_fr_hasData 8 = .ok (.getfield 22, 3) := by decide +kernel
theorem dd_fr_hasData_11 : decode by_fr_hasData 11 = .ok (.iload_n 1, 1) := by decide +kernel
theorem dd_fr_hasData_12 : decode by_fr_hasData 12 = .ok (.iconst 5, 1) := by decide +kernel
theorem dd_fr_hasData_13 : decode by_fr_hasData 13 = .ok (.iadd, 1) := by decide +kernel
theorem dd_fr_hasData_14 : decode by_fr_hasData 14 = .ok (.iload_n 2, 1) := by decide +kernel
theorem dd_fr_hasData_15 : decode by_fr_hasData 15 = .ok (.iadd, 1) := by decide +kernel
theorem dd_fr_hasData_16 : decode by_fr_hasData 16 = .ok (.laload, 1) := by decide +kernel
theorem dd_fr_hasData_17 : decode by_fr_hasData 17 = .ok (.l2i, 1) := by decide +kernel
theorem dd_fr_hasData_18 : decode by_fr_hasData 18 = .ok (.ifCond .eq 5, 3) := by decide +kernel
theorem dd_fr_hasData_21 : decode by_fr_hasData 21 = .ok (.iconst 1, 1) := by decide +kernel
theorem dd_fr_hasData_22 : decode by_fr_hasData 22 = .ok (.ireturn, 1) := by decide +kernel
theorem dd_fr_hasData_23 : decode by_fr_hasData 23 = .ok (.iinc 2 1, 3) := by decide +kernel
theorem dd_fr_hasData_26 : decode by_fr_hasData 26 = .ok (.goto (-24), 3) := by decide +kernel
theorem dd_fr_hasData_29 : decode by_fr_hasData 29 = .ok (.iconst 0, 1) := by decide +kernel
theorem dd_fr_hasData_30 : decode by_fr_hasData 30 = .ok (.ireturn, 1) := by decide +kernel
def fr_hasData_b2 (K2 : gw_M → Nat → Int32 → Int32 → Option (Int32 × gw_M)) (M : gw_M) (a0 : Nat) (v1 : Int32) (v2 : Int32) : Option (Int32 × gw_M) :=
  if (4 : Int32) ≤ v2 then (some ((0 : Int32), M)) else (gw_gu (gw_in ((v1 + (5 : Int32)) + v2) 56) (if ((M.2 (a0 + 5) (((v1 + (5 : Int32)) + v2).toNatClampNeg)).toInt32) = (0 : Int32) then (K2 M a0 v1 (v2 + (1 : Int32))) else (some ((1 : Int32), M))))
def fr_hasData_l2 : Nat → gw_M → Nat → Int32 → Int32 → Option (Int32 × gw_M)
  | 0 => fun _ _ _ _ => none
  | n + 1 => fr_hasData_b2  (fr_hasData_l2  n)
def fr_hasData_b0 (M : gw_M) (a0 : Nat) (v1 : Int32) : Option (Int32 × gw_M) :=
  fr_hasData_l2  2100 M a0 v1 (0 : Int32)
set_option maxRecDepth 100000 in
set_option maxHeartbeats 4000000 in
theorem wb_fr_hasData_2 {p : Program} {l : Launch} {e : Env} {s : State} {m : MethodId} {args : Array Value} {below : List Frame} {meth : Method} {c : Code} {X : gw_X} {Y : gw_M} {z : (Int32 × gw_M)} (C0 : gw_C ((Cond.code yy_fr_hasData by_fr_hasData 3 (some .boolean)) :: gw_w) by_fr_hasData 3 (some .boolean) "AccountMachine$Frame" X p s m args meth c) {K2 : gw_M → Nat → Int32 → Int32 → Option (Int32 × gw_M)} (hK2 : ∀ (M : gw_M) (a0 : Nat) (v1 : Int32) (v2 : Int32) (H : Heap) (locs : List Loc) (ls : Array Slot), gc_k a0 = (6, 0) → gw_G X (gw_E X M Y) s H locs → lv_has ls 3 [(0, .ref (gc_a X a0)), (1, .int v1), (2, .int v2)] → K2 M a0 v1 v2 = some z → W p l e rm_fr_hasData s m args below meth c H locs 0 0 (MQ below (gw_Qi X (fun M => (gw_E X M Y)) z) args s 0 0 (gw_A X)) (F0 m 2 ls [])) (M : gw_M) (a0 : Nat) (v1 : Int32) (v2 : Int32) (H : Heap) (locs : List Loc) (ls : Array Slot) (ha0 : gc_k a0 = (6, 0)) (G : gw_G X (gw_E X M Y) s H locs) (hl : lv_has ls 3 [(0, .ref (gc_a X a0)), (1, .int v1), (2, .int v2)]) (hF : fr_hasData_b2 K2 M a0 v1 v2 = some z) : W p l e rm_fr_hasData s m args below meth c H locs 0 0 (MQ below (gw_Qi X (fun M => (gw_E X M Y)) z) args s 0 0 (gw_A X)) (F0 m 2 ls []) := by
  obtain ⟨hx, hb, hml, hown, hts, hr, hlocks, hK⟩ := id C0
  have hg : ∀ w ∈ gw_w, w.before args s = true := fun w h => hts w (List.mem_cons_of_mem _ h)
  unfold fr_hasData_b2 at hF
  refine lv_iload_n hx hb dd_fr_hasData_2 rfl (lv_at hl 2 rfl) ?_
  refine lv_iconst (v := (4 : Int32)) hx hb dd_fr_hasData_3 (by decide) ?_
  refine lv_icmp_ge (tgt := 29) hx hb dd_fr_hasData_4 (by decide) (fun h4 => ?_) (fun h4 => ?_)
  · replace hF := gw_et h4 hF
    refine lv_iconst (v := (0 : Int32)) hx hb dd_fr_hasData_29 (by decide) ?_
    exact W.zret hx hb hr (by decide) (fun t ht hW => gw_endi (EF := (fun M => (gw_E X M Y))) (M := M) G ht hF) G.2.2.2.2 dd_fr_hasData_30 hlocks
  · replace hF := gw_ef h4 hF
    refine lv_aload_n hx hb dd_fr_hasData_7 rfl (lv_at hl 0 rfl) ?_
    refine gf_fr_memory hx hb hg hown (hg _ kw_3) hK G ha0 dd_fr_hasData_8 ?_
    refine lv_iload_n hx hb dd_fr_hasData_11 rfl (lv_at hl 1 rfl) ?_
    refine lv_iconst (v := (5 : Int32)) hx hb dd_fr_hasData_12 (by decide) ?_
    refine lv_iadd hx hb dd_fr_hasData_13 ?_
    refine lv_iload_n hx hb dd_fr_hasData_14 rfl (lv_at hl 2 rfl) ?_
    refine lv_iadd hx hb dd_fr_hasData_15 ?_
    obtain ⟨h16, hF⟩ := gw_gd hF
    refine gc_lald hx hb hK G (gq_fr_memory ha0) (gw_vp h16) (j := ((v1 + (5 : Int32)) + v2).toNatClampNeg) rfl dd_fr_hasData_16 ?_
    refine lv_l2i (v := (M.2 (a0 + 5) (((v1 + (5 : Int32)) + v2).toNatClampNeg)).toInt32) hx hb dd_fr_hasData_17 rfl ?_
    refine W.eq (g2 := F0 m 18 _ _) rfl ?_
    refine lv_if_eq (tgt := 23) hx hb dd_fr_hasData_18 (by decide) (fun h18 => ?_) (fun h18 => ?_)
    · replace hF := gw_et h18 hF
      refine lv_iinc (k := 2) (v := v2 + (1 : Int32)) (lv' := [(2, .int (v2 + (1 : Int32))), (0, .ref (gc_a X a0)), (1, .int v1)]) hx hb dd_fr_hasData_23 hl rfl rfl (by decide) rfl (fun ls hl => ?_)
      refine lv_goto (tgt := 2) hx hb dd_fr_hasData_26 (by decide) ?_
      exact hK2 M a0 v1 (v2 + (1 : Int32)) _ _ _ ha0 G (lv_sub hl [1, 2, 0] rfl) hF
    · replace hF := gw_ef h18 hF
      refine lv_iconst (v := (1 : Int32)) hx hb dd_fr_hasData_21 (by decide) ?_
      exact W.zret hx hb hr (by decide) (fun t ht hW => gw_endi (EF := (fun M => (gw_E X M Y))) (M := M) G ht hF) G.2.2.2.2 dd_fr_hasData_22 hlocks
theorem wl_fr_hasData_2 {p : Program} {l : Launch} {e : Env} {s : State} {m : MethodId} {args : Array Value} {below : List Frame} {meth : Method} {c : Code} {X : gw_X} {Y : gw_M} {z : (Int32 × gw_M)} (C0 : gw_C ((Cond.code yy_fr_hasData by_fr_hasData 3 (some .boolean)) :: gw_w) by_fr_hasData 3 (some .boolean) "AccountMachine$Frame" X p s m args meth c) : ∀ n : Nat, ∀ (M : gw_M) (a0 : Nat) (v1 : Int32) (v2 : Int32) (H : Heap) (locs : List Loc) (ls : Array Slot), gc_k a0 = (6, 0) → gw_G X (gw_E X M Y) s H locs → lv_has ls 3 [(0, .ref (gc_a X a0)), (1, .int v1), (2, .int v2)] → fr_hasData_l2  n M a0 v1 v2 = some z → W p l e rm_fr_hasData s m args below meth c H locs 0 0 (MQ below (gw_Qi X (fun M => (gw_E X M Y)) z) args s 0 0 (gw_A X)) (F0 m 2 ls []) := by
  intro n
  induction n with
  | zero =>
    intro M a0 v1 v2 H locs ls ha0 G hl hF
    have hF : (none : Option (Int32 × gw_M)) = some z := hF
    cases hF
  | succ n ih =>
    intro M a0 v1 v2 H locs ls ha0 G hl hF
    exact wb_fr_hasData_2 C0  ih M a0 v1 v2 H locs ls ha0 G hl hF
set_option maxRecDepth 100000 in
set_option maxHeartbeats 4000000 in
theorem wb_fr_hasData_0 {p : Program} {l : Launch} {e : Env} {s : State} {m : MethodId} {args : Array Value} {below : List Frame} {meth : Method} {c : Code} {X : gw_X} {Y : gw_M} {z : (Int32 × gw_M)} (C0 : gw_C ((Cond.code yy_fr_hasData by_fr_hasData 3 (some .boolean)) :: gw_w) by_fr_hasData 3 (some .boolean) "AccountMachine$Frame" X p s m args meth c) (M : gw_M) (a0 : Nat) (v1 : Int32) (H : Heap) (locs : List Loc) (ls : Array Slot) (ha0 : gc_k a0 = (6, 0)) (G : gw_G X (gw_E X M Y) s H locs) (hl : lv_has ls 3 [(0, .ref (gc_a X a0)), (1, .int v1)]) (hF : fr_hasData_b0  M a0 v1 = some z) : W p l e rm_fr_hasData s m args below meth c H locs 0 0 (MQ below (gw_Qi X (fun M => (gw_E X M Y)) z) args s 0 0 (gw_A X)) (F0 m 0 ls []) := by
  obtain ⟨hx, hb, hml, hown, hts, hr, hlocks, hK⟩ := id C0
  have hg : ∀ w ∈ gw_w, w.before args s = true := fun w h => hts w (List.mem_cons_of_mem _ h)
  unfold fr_hasData_b0 at hF
  refine lv_iconst (v := (0 : Int32)) hx hb dd_fr_hasData_0 (by decide) ?_
  refine lv_istore_n (i := 2) (lv' := [(2, .int (0 : Int32)), (0, .ref (gc_a X a0)), (1, .int v1)]) hx hb dd_fr_hasData_1 rfl hl (by decide) rfl (fun ls hl => ?_)
  exact wl_fr_hasData_2 C0  2100 M a0 v1 (0 : Int32) _ _ _ ha0 G (lv_sub hl [1, 2, 0] rfl) hF
set_option maxRecDepth 100000 in
set_option maxHeartbeats 4000000 in
theorem ct_fr_hasData (l : Launch) (X : gw_X) (Y : gw_M) (M : gw_M) (a0 : Nat) (v1 : Int32) (ha0 : gc_k a0 = (6, 0)) (z : (Int32 × gw_M)) (hF : fr_hasData_b0 M a0 v1 = some z) : Met l yy_fr_hasData ((Cond.code yy_fr_hasData by_fr_hasData 3 (some .boolean)) :: gw_w) rm_fr_hasData (va_Pc [.ref (gc_a X a0), .int v1] (gw_B X (gw_E X M Y))) (gw_Qi X (fun M => (gw_E X M Y)) z) 0 0 (gw_A X) := by
  refine Met.ofW (cc := by_fr_hasData) (maxL := 3) (ret := (some .boolean)) (by decide) rfl ?_
  intro p e s m args below meth c s₁ B hml hv
  obtain ⟨rfl, hB⟩ := hv
  rw [lg_entry_eq]
  have hl := lv_entry ([.ref (gc_a X a0), .int v1]) (n := 3) (Nat.le_of_ble_eq_true rfl)
  generalize (lg_sl ([.ref (gc_a X a0), .int v1]) ++ List.replicate (3 - (lg_sl ([.ref (gc_a X a0), .int v1])).length) Slot.unset).toArray = ls at hl ⊢
  have hl : lv_has ls 3 [(0, .ref (gc_a X a0)), (1, .int v1)] := hl
  exact wb_fr_hasData_0 (gw_ctx B hml rfl hB) M a0 v1 _ _ _ ha0 (gw_start hB) hl hF
/-! AccountMachine$Frame.hasNewData(IILAccountMachine$Ledger;)Z -/
abbrev rm_fr_hasNewData : Room := { frames := 0, cells := 0, slots := 0, locals := 0 }
theorem dd_fr_hasNewData_0 : decode by_fr_hasNewData 0 = .ok (.iconst 0, 1) := by decide +kernel
theorem dd_fr_hasNewData_1 : decode by_fr_hasNewData 1 = .ok (.istore 4, 2) := by decide +kernel
theorem dd_fr_hasNewData_3 : decode by_fr_hasNewData 3 = .ok (.iload 4, 2) := by decide +kernel
theorem dd_fr_hasNewData_5 : decode by_fr_hasNewData 5 = .ok (.iconst 4, 1) := by decide +kernel
theorem dd_fr_hasNewData_6 : decode by_fr_hasNewData 6 = .ok (.if_icmp .ge 37, 3) := by decide +kernel
theorem dd_fr_hasNewData_9 : decode by_fr_hasNewData 9 = .ok (.aload_n 0, 1) := by decide +kernel
theorem dd_fr_hasNewData_10 : decode by_fr_hasNewData 10 = .ok (.getfield 22, 3) := by decide +kernel
theorem dd_fr_hasNewData_13 : decode by_fr_hasNewData 13 = .ok (.iload_n 1, 1) := by decide +kernel
theorem dd_fr_hasNewData_14 : decode by_fr_hasNewData 14 = .ok (.iconst 5, 1) := by decide +kernel
theorem dd_fr_hasNewData_15 : decode by_fr_hasNewData 15 = .ok (.iadd, 1) := by decide +kernel
theorem dd_fr_hasNewData_16 : decode by_fr_hasNewData 16 = .ok (.iload 4, 2) := by decide +kernel
theorem dd_fr_hasNewData_18 : decode by_fr_hasNewData 18 = .ok (.iadd, 1) := by decide +kernel
theorem dd_fr_hasNewData_19 : decode by_fr_hasNewData 19 = .ok (.laload, 1) := by decide +kernel
theorem dd_fr_hasNewData_20 : decode by_fr_hasNewData 20 = .ok (.l2i, 1) := by decide +kernel
theorem dd_fr_hasNewData_21 : decode by_fr_hasNewData 21 = .ok (.aload_n 3, 1) := by decide +kernel
theorem dd_fr_hasNewData_22 : decode by_fr_hasNewData 22 = .ok (.getfield 82, 3) := by decide +kernel
theorem dd_fr_hasNewData_25 : decode by_fr_hasNewData 25 = .ok (.iload_n 2, 1) := by decide +kernel
theorem dd_fr_hasNewData_26 : decode by_fr_hasNewData 26 = .ok (.iconst 4, 1) := by decide +kernel
theorem dd_fr_hasNewData_27 : decode by_fr_hasNewData 27 = .ok (.imul, 1) := by decide +kernel
theorem dd_fr_hasNewData_28 : decode by_fr_hasNewData 28 = .ok (.iload 4, 2) := by decide +kernel
theorem dd_fr_hasNewData_30 : decode by_fr_hasNewData 30 = .ok (.iadd, 1) := by decide +kernel
theorem dd_fr_hasNewData_31 : decode by_fr_hasNewData 31 = .ok (.iaload, 1) := by decide +kernel
theorem dd_fr_hasNewData_32 : decode by_fr_hasNewData 32 = .ok (.if_icmp .eq 5, 3) := by decide +kernel
theorem dd_fr_hasNewData_35 : decode by_fr_hasNewData 35 = .ok (.iconst 1, 1) := by decide +kernel
theorem dd_fr_hasNewData_36 : decode by_fr_hasNewData 36 = .ok (.ireturn, 1) := by decide +kernel
theorem dd_fr_hasNewData_37 : decode by_fr_hasNewData 37 = .ok (.iinc 4 1, 3) := by decide +kernel
theorem dd_fr_hasNewData_40 : decode by_fr_hasNewData 40 = .ok (.goto (-37), 3) := by decide +kernel
theorem dd_fr_hasNewData_43 : decode by_fr_hasNewData 43 = .ok (.iconst 0, 1) := by decide +kernel
theorem dd_fr_hasNewData_44 : decode by_fr_hasNewData 44 = .ok (.ireturn, 1) := by decide +kernel
def fr_hasNewData_b3 (K3 : gw_M → Nat → Int32 → Int32 → Nat → Int32 → Option (Int32 × gw_M)) (M : gw_M) (a0 : Nat) (v1 : Int32) (v2 : Int32) (a3 : Nat) (v4 : Int32) : Option (Int32 × gw_M) :=
  if (4 : Int32) ≤ v4 then (some ((0 : Int32), M)) else (gw_gu (gw_in ((v1 + (5 : Int32)) + v4) 56) (gw_gu (gw_in ((v2 * (4 : Int32)) + v4) 32) (if ((M.2 (a0 + 5) (((v1 + (5 : Int32)) + v4).toNatClampNeg)).toInt32) = (M.1 (a3 + 4) (((v2 * (4 : Int32)) + v4).toNatClampNeg)) then (K3 M a0 v1 v2 a3 (v4 + (1 : Int32))) else (some ((1 : Int32), M)))))
def fr_hasNewData_l3 : Nat → gw_M → Nat → Int32 → Int32 → Nat → Int32 → Option (Int32 × gw_M)
  | 0 => fun _ _ _ _ _ _ => none
  | n + 1 => fr_hasNewData_b3  (fr_hasNewData_l3  n)
def fr_hasNewData_b0 (M : gw_M) (a0 : Nat) (v1 : Int32) (v2 : Int32) (a3 : Nat) : Option (Int32 × gw_M) :=
  fr_hasNewData_l3  2100 M a0 v1 v2 a3 (0 : Int32)
set_option maxRecDepth 100000 in
set_option maxHeartbeats 4000000 in
theorem wb_fr_hasNewData_3 {p : Program} {l : Launch} {e : Env} {s : State} {m : MethodId} {args : Array Value} {below : List Frame} {meth : Method} {c : Code} {X : gw_X} {Y : gw_M} {z : (Int32 × gw_M)} (C0 : gw_C ((Cond.code yy_fr_hasNewData by_fr_hasNewData 5 (some .boolean)) :: gw_w) by_fr_hasNewData 5 (some .boolean) "AccountMachine$Frame" X p s m args meth c) {K3 : gw_M → Nat → Int32 → Int32 → Nat → Int32 → Option (Int32 × gw_M)} (hK3 : ∀ (M : gw_M) (a0 : Nat) (v1 : Int32) (v2 : Int32) (a3 : Nat) (v4 : Int32) (H : Heap) (locs : List Loc) (ls : Array Slot), gc_k a0 = (6, 0) → gc_k a3 = (3, 0) → gw_G X (gw_E X M Y) s H locs → lv_has ls 5 [(0, .ref (gc_a X a0)), (1, .int v1), (2, .int v2), (3, .ref (gc_a X a3)), (4, .int v4)] → K3 M a0 v1 v2 a3 v4 = some z → W p l e rm_fr_hasNewData s m args below meth c H locs 0 0 (MQ below (gw_Qi X (fun M => (gw_E X M Y)) z) args s 0 0 (gw_A X)) (F0 m 3 ls [])) (M : gw_M) (a0 : Nat) (v1 : Int32) (v2 : Int32) (a3 : Nat) (v4 : Int32) (H : Heap) (locs : List Loc) (ls : Array Slot) (ha0 : gc_k a0 = (6, 0)) (ha3 : gc_k a3 = (3, 0)) (G : gw_G X (gw_E X M Y) s H locs) (hl : lv_has ls 5 [(0, .ref (gc_a X a0)), (1, .int v1), (2, .int v2), (3, .ref (gc_a X a3)), (4, .int v4)]) (hF : fr_hasNewData_b3 K3 M a0 v1 v2 a3 v4 = some z) : W p l e rm_fr_hasNewData s m args below meth c H locs 0 0 (MQ below (gw_Qi X (fun M => (gw_E X M Y)) z) args s 0 0 (gw_A X)) (F0 m 3 ls []) := by
  obtain ⟨hx, hb, hml, hown, hts, hr, hlocks, hK⟩ := id C0
  have hg : ∀ w ∈ gw_w, w.before args s = true := fun w h => hts w (List.mem_cons_of_mem _ h)
  unfold fr_hasNewData_b3 at hF
  refine lv_iload hx hb dd_fr_hasNewData_3 (lv_at hl 4 rfl) ?_
  refine lv_iconst (v := (4 : Int32)) hx hb dd_fr_hasNewData_5 (by decide) ?_
  refine lv_icmp_ge (tgt := 43) hx hb dd_fr_hasNewData_6 (by decide) (fun h6 => ?_) (fun h6 => ?_)
  · replace hF := gw_et h6 hF
    refine lv_iconst (v := (0 : Int32)) hx hb dd_fr_hasNewData_43 (by decide) ?_
    exact W.zret hx hb hr (by decide) (fun t ht hW => gw_endi (EF := (fun M => (gw_E X M Y))) (M := M) G ht hF) G.2.2.2.2 dd_fr_hasNewData_44 hlocks
  · replace hF := gw_ef h6 hF
    refine lv_aload_n hx hb dd_fr_hasNewData_9 rfl (lv_at hl 0 rfl) ?_
    refine gf_fr_memory hx hb hg hown (hg _ kw_3) hK G ha0 dd_fr_hasNewData_10 ?_
    refine lv_iload_n hx hb dd_fr_hasNewData_13 rfl (lv_at hl 1 rfl) ?_
    refine lv_iconst (v := (5 : Int32)) hx hb dd_fr_hasNewData_14 (by decide) ?_
    refine lv_iadd hx hb dd_fr_hasNewData_15 ?_
    refine lv_iload hx hb dd_fr_hasNewData_16 (lv_at hl 4 rfl) ?_
    refine lv_iadd hx hb dd_fr_hasNewData_18 ?_
    obtain ⟨h19, hF⟩ := gw_gd hF
    refine gc_lald hx hb hK G (gq_fr_memory ha0) (gw_vp h19) (j := ((v1 + (5 : Int32)) + v4).toNatClampNeg) rfl dd_fr_hasNewData_19 ?_
    refine lv_l2i (v := (M.2 (a0 + 5) (((v1 + (5 : Int32)) + v4).toNatClampNeg)).toInt32) hx hb dd_fr_hasNewData_20 rfl ?_
    refine W.eq (g2 := F0 m 21 _ _) rfl ?_
    refine lv_aload_n hx hb dd_fr_hasNewData_21 rfl (lv_at hl 3 rfl) ?_
    refine gn_le_words hx hb hg hown (gw_nw hK kn_0) hK G ha3 dd_fr_hasNewData_22 ?_
    refine lv_iload_n hx hb dd_fr_hasNewData_25 rfl (lv_at hl 2 rfl) ?_
    refine lv_iconst (v := (4 : Int32)) hx hb dd_fr_hasNewData_26 (by decide) ?_
    refine lv_imul hx hb dd_fr_hasNewData_27 ?_
    refine lv_iload hx hb dd_fr_hasNewData_28 (lv_at hl 4 rfl) ?_
    refine lv_iadd hx hb dd_fr_hasNewData_30 ?_
    obtain ⟨h31, hF⟩ := gw_gd hF
    refine gc_iald hx hb hK G (gq_le_words ha3) (gw_vp h31) (j := ((v2 * (4 : Int32)) + v4).toNatClampNeg) rfl dd_fr_hasNewData_31 ?_
    refine lv_icmp_eq (tgt := 37) hx hb dd_fr_hasNewData_32 (by decide) (fun h32 => ?_) (fun h32 => ?_)
    · replace hF := gw_et h32 hF
      refine lv_iinc (k := 4) (v := v4 + (1 : Int32)) (lv' := [(4, .int (v4 + (1 : Int32))), (0, .ref (gc_a X a0)), (1, .int v1), (2, .int v2), (3, .ref (gc_a X a3))]) hx hb dd_fr_hasNewData_37 hl rfl rfl (by decide) rfl (fun ls hl => ?_)
      refine lv_goto (tgt := 3) hx hb dd_fr_hasNewData_40 (by decide) ?_
      exact hK3 M a0 v1 v2 a3 (v4 + (1 : Int32)) _ _ _ ha0 ha3 G (lv_sub hl [1, 2, 3, 4, 0] rfl) hF
    · replace hF := gw_ef h32 hF
      refine lv_iconst (v := (1 : Int32)) hx hb dd_fr_hasNewData_35 (by decide) ?_
      exact W.zret hx hb hr (by decide) (fun t ht hW => gw_endi (EF := (fun M => (gw_E X M Y))) (M := M) G ht hF) G.2.2.2.2 dd_fr_hasNewData_36 hlocks
theorem wl_fr_hasNewData_3 {p : Program} {l : Launch} {e : Env} {s : State} {m : MethodId} {args : Array Value} {below : List Frame} {meth : Method} {c : Code} {X : gw_X} {Y : gw_M} {z : (Int32 × gw_M)} (C0 : gw_C ((Cond.code yy_fr_hasNewData by_fr_hasNewData 5 (some .boolean)) :: gw_w) by_fr_hasNewData 5 (some .boolean) "AccountMachine$Frame" X p s m args meth c) : ∀ n : Nat, ∀ (M : gw_M) (a0 : Nat) (v1 : Int32) (v2 : Int32) (a3 : Nat) (v4 : Int32) (H : Heap) (locs : List Loc) (ls : Array Slot), gc_k a0 = (6, 0) → gc_k a3 = (3, 0) → gw_G X (gw_E X M Y) s H locs → lv_has ls 5 [(0, .ref (gc_a X a0)), (1, .int v1), (2, .int v2), (3, .ref (gc_a X a3)), (4, .int v4)] → fr_hasNewData_l3  n M a0 v1 v2 a3 v4 = some z → W p l e rm_fr_hasNewData s m args below meth c H locs 0 0 (MQ below (gw_Qi X (fun M => (gw_E X M Y)) z) args s 0 0 (gw_A X)) (F0 m 3 ls []) := by
  intro n
  induction n with
  | zero =>
    intro M a0 v1 v2 a3 v4 H locs ls ha0 ha3 G hl hF
    have hF : (none : Option (Int32 × gw_M)) = some z := hF
    cases hF
  | succ n ih =>
    intro M a0 v1 v2 a3 v4 H locs ls ha0 ha3 G hl hF
    exact wb_fr_hasNewData_3 C0  ih M a0 v1 v2 a3 v4 H locs ls ha0 ha3 G hl hF
set_option maxRecDepth 100000 in
set_option maxHeartbeats 4000000 in
theorem wb_fr_hasNewData_0 {p : Program} {l : Launch} {e : Env} {s : State} {m : MethodId} {args : Array Value} {below : List Frame} {meth : Method} {c : Code} {X : gw_X} {Y : gw_M} {z : (Int32 × gw_M)} (C0 : gw_C ((Cond.code yy_fr_hasNewData by_fr_hasNewData 5 (some .boolean)) :: gw_w) by_fr_hasNewData 5 (some .boolean) "AccountMachine$Frame" X p s m args meth c) (M : gw_M) (a0 : Nat) (v1 : Int32) (v2 : Int32) (a3 : Nat) (H : Heap) (locs : List Loc) (ls : Array Slot) (ha0 : gc_k a0 = (6, 0)) (ha3 : gc_k a3 = (3, 0)) (G : gw_G X (gw_E X M Y) s H locs) (hl : lv_has ls 5 [(0, .ref (gc_a X a0)), (1, .int v1), (2, .int v2), (3, .ref (gc_a X a3))]) (hF : fr_hasNewData_b0  M a0 v1 v2 a3 = some z) : W p l e rm_fr_hasNewData s m args below meth c H locs 0 0 (MQ below (gw_Qi X (fun M => (gw_E X M Y)) z) args s 0 0 (gw_A X)) (F0 m 0 ls []) := by
  obtain ⟨hx, hb, hml, hown, hts, hr, hlocks, hK⟩ := id C0
  have hg : ∀ w ∈ gw_w, w.before args s = true := fun w h => hts w (List.mem_cons_of_mem _ h)
  unfold fr_hasNewData_b0 at hF
  refine lv_iconst (v := (0 : Int32)) hx hb dd_fr_hasNewData_0 (by decide) ?_
  refine lv_istore (i := 4) (lv' := [(4, .int (0 : Int32)), (0, .ref (gc_a X a0)), (1, .int v1), (2, .int v2), (3, .ref (gc_a X a3))]) hx hb dd_fr_hasNewData_1 hl (by decide) rfl (fun ls hl => ?_)
  exact wl_fr_hasNewData_3 C0  2100 M a0 v1 v2 a3 (0 : Int32) _ _ _ ha0 ha3 G (lv_sub hl [1, 2, 3, 4, 0] rfl) hF
set_option maxRecDepth 100000 in
set_option maxHeartbeats 4000000 in
theorem ct_fr_hasNewData (l : Launch) (X : gw_X) (Y : gw_M) (M : gw_M) (a0 : Nat) (v1 : Int32) (v2 : Int32) (a3 : Nat) (ha0 : gc_k a0 = (6, 0)) (ha3 : gc_k a3 = (3, 0)) (z : (Int32 × gw_M)) (hF : fr_hasNewData_b0 M a0 v1 v2 a3 = some z) : Met l yy_fr_hasNewData ((Cond.code yy_fr_hasNewData by_fr_hasNewData 5 (some .boolean)) :: gw_w) rm_fr_hasNewData (va_Pc [.ref (gc_a X a0), .int v1, .int v2, .ref (gc_a X a3)] (gw_B X (gw_E X M Y))) (gw_Qi X (fun M => (gw_E X M Y)) z) 0 0 (gw_A X) := by
  refine Met.ofW (cc := by_fr_hasNewData) (maxL := 5) (ret := (some .boolean)) (by decide) rfl ?_
  intro p e s m args below meth c s₁ B hml hv
  obtain ⟨rfl, hB⟩ := hv
  rw [lg_entry_eq]
  have hl := lv_entry ([.ref (gc_a X a0), .int v1, .int v2, .ref (gc_a X a3)]) (n := 5) (Nat.le_of_ble_eq_true rfl)
  generalize (lg_sl ([.ref (gc_a X a0), .int v1, .int v2, .ref (gc_a X a3)]) ++ List.replicate (5 - (lg_sl ([.ref (gc_a X a0), .int v1, .int v2, .ref (gc_a X a3)])).length) Slot.unset).toArray = ls at hl ⊢
  have hl : lv_has ls 5 [(0, .ref (gc_a X a0)), (1, .int v1), (2, .int v2), (3, .ref (gc_a X a3))] := hl
  exact wb_fr_hasNewData_0 (gw_ctx B hml rfl hB) M a0 v1 v2 a3 _ _ _ ha0 ha3 (gw_start hB) hl hF
/-! AccountMachine$Frame.faultOf(ILAccountMachine$Ledger;)I -/
abbrev rm_fr_faultOf : Room := { frames := 1, cells := 0, slots := 0, locals := 24 }
theorem dd_fr_faultOf_0 : decode by_fr_faultOf 0 = .ok (.iload_n 1, 1) := by decide +kernel
theorem dd_fr_faultOf_1 : decode by_fr_faultOf 1 = .ok (.invokestatic 57, 3) := by decide +kernel
theorem dd_fr_faultOf_4 : decode by_fr_faultOf 4 = .ok (.istore_n 3, 1) := by decide +kernel
theorem dd_fr_faultOf_5 : decode by_fr_faultOf 5 = .ok (.aload_n 0, 1) := by decide +kernel
theorem dd_fr_faultOf_6 : decode by_fr_faultOf 6 = .ok (.getfield 12, 3) := by decide +kernel
theorem dd_fr_faultOf_9 : decode by_fr_faultOf 9 = .ok (.getfield 50, 3) := by decide +kernel
theorem dd_fr_faultOf_12 : decode by_fr_faultOf 12 = .ok (.iload_n 1, 1) := by decide +kernel
theorem dd_fr_faultOf_13 : decode by_fr_faultOf 13 = .ok (.iaload, 1) := by decide +kernel
theorem dd_fr_faultOf_14 : decode by_fr_faultOf 14 = .ok (.istore 4, 2) := by decide +kernel
theorem dd_fr_faultOf_16 : decode by_fr_faultOf 16 = .ok (.aload_n 0, 1) := by decide +kernel
theorem dd_fr_faultOf_17 : decode by_fr_faultOf 17 = .ok (.getfield 22, 3) := by decide +kernel
theorem dd_fr_faultOf_20 : decode by_fr_faultOf 20 = .ok (.iload_n 3, 1) := by decide +kernel
theorem dd_fr_faultOf_21 : decode by_fr_faultOf 21 = .ok (.iconst 1, 1) := by decide +kernel
theorem dd_fr_faultOf_22 : decode by_fr_faultOf 22 = .ok (.iadd, 1) := by decide +kernel
theorem dd_fr_faultOf_23 : decode by_fr_faultOf 23 = .ok (.laload, 1) := by decide +kernel
theorem dd_fr_faultOf_24 : decode by_fr_faultOf 24 = .ok (.ldc2_w 123, 3) := by decide +kernel
theorem dd_fr_faultOf_27 : decode by_fr_faultOf 27 = .ok (.land, 1) := by decide +kernel
theorem dd_fr_faultOf_28 : decode by_fr_faultOf 28 = .ok (.lconst 0, 1) := by decide +kernel
theorem dd_fr_faultOf_29 : decode by_fr_faultOf 29 = .ok (.lcmp, 1) := by decide +kernel
theorem dd_fr_faultOf_30 : decode by_fr_faultOf 30 = .ok (.ifCond .eq 7, 3) := by decide +kernel
theorem dd_fr_faultOf_33 : decode by_fr_faultOf 33 = .ok (.iconst 1, 1) := by decide +kernel
theorem dd_fr_faultOf_34 : decode by_fr_faultOf 34 = .ok (.goto 4, 3) := by decide +kernel
theorem dd_fr_faultOf_37 : decode by_fr_faultOf 37 = .ok (.iconst 0, 1) := by decide +kernel
theorem dd_fr_faultOf_38 : decode by_fr_faultOf 38 = .ok (.istore 5, 2) := by decide +kernel
theorem dd_fr_faultOf_40 : decode by_fr_faultOf 40 = .ok (.iload 5, 2) := by decide +kernel
theorem dd_fr_faultOf_42 : decode by_fr_faultOf 42 = .ok (.ifCond .eq 24, 3) := by decide +kernel
theorem dd_fr_faultOf_45 : decode by_fr_faultOf 45 = .ok (.aload_n 2, 1) := by decide +kernel
theorem dd_fr_faultOf_46 : decode by_fr_faultOf 46 = .ok (.getfield 71, 3) := by decide +kernel
theorem dd_fr_faultOf_49 : decode by_fr_faultOf 49 = .ok (.iload 4, 2) := by decide +kernel
theorem dd_fr_faultOf_51 : decode by_fr_faultOf 51 = .ok (.iaload, 1) := by decide +kernel
theorem dd_fr_faultOf_52 : decode by_fr_faultOf 52 = .ok (.aload_n 0, 1) := by decide +kernel
theorem dd_fr_faultOf_53 : decode by_fr_faultOf 53 = .ok (.getfield 12, 3) := by decide +kernel
theorem dd_fr_faultOf_56 : decode by_fr_faultOf 56 = .ok (.getfield 125, 3) := by decide +kernel
theorem dd_fr_faultOf_59 : decode by_fr_faultOf 59 = .ok (.if_icmp .ne 7, 3) := by decide +kernel
theorem dd_fr_faultOf_62 : decode by_fr_faultOf 62 = .ok (.iconst 1, 1) := by decide +kernel
theorem dd_fr_faultOf_63 : decode by_fr_faultOf 63 = .ok (.goto 4, 3) := by decide +kernel
theorem dd_fr_faultOf_66 : decode by_fr_faultOf 66 = .ok (.iconst 0, 1) := by decide +kernel
theorem dd_fr_faultOf_67 : decode by_fr_faultOf 67 = .ok (.istore 6, 2) := by decide +kernel
theorem dd_fr_faultOf_69 : decode by_fr_faultOf 69 = .ok (.aload_n 0, 1) := by decide +kernel
theorem dd_fr_faultOf_70 : decode by_fr_faultOf 70 = .ok (.getfield 22, 3) := by decide +kernel
theorem dd_fr_faultOf_73 : decode by_fr_faultOf 73 = .ok (.iload_n 3, 1) := by decide +kernel
theorem dd_fr_faultOf_74 : decode by_fr_faultOf 74 = .ok (.iconst 2, 1) := by decide +kernel
theorem dd_fr_faultOf_75 : decode by_fr_faultOf 75 = .ok (.iadd, 1) := by decide +kernel
theorem dd_fr_faultOf_76 : decode by_fr_faultOf 76 = .ok (.laload, 1) := by decide +kernel
theorem dd_fr_faultOf_77 : decode by_fr_faultOf 77 = .ok (.lstore 7, 2) := by decide +kernel
theorem dd_fr_faultOf_79 : decode by_fr_faultOf 79 = .ok (.aload_n 0, 1) := by decide +kernel
theorem dd_fr_faultOf_80 : decode by_fr_faultOf 80 = .ok (.getfield 22, 3) := by decide +kernel
theorem dd_fr_faultOf_83 : decode by_fr_faultOf 83 = .ok (.iload_n 3, 1) := by decide +kernel
theorem dd_fr_faultOf_84 : decode by_fr_faultOf 84 = .ok (.iconst 3, 1) := by decide +kernel
theorem dd_fr_faultOf_85 : decode by_fr_faultOf 85 = .ok (.iadd, 1) := by decide +kernel
theorem dd_fr_faultOf_86 : decode by_fr_faultOf 86 = .ok (.laload, 1) := by decide +kernel
theorem dd_fr_faultOf_87 : decode by_fr_faultOf 87 = .ok (.lstore 9, 2) := by decide +kernel
theorem dd_fr_faultOf_89 : decode by_fr_faultOf 89 = .ok (.lload 7, 2) := by decide +kernel
theorem dd_fr_faultOf_91 : decode by_fr_faultOf 91 = .ok (.lconst 0, 1) := by decide +kernel
theorem dd_fr_faultOf_92 : decode by_fr_faultOf 92 = .ok (.lcmp, 1) := by decide +kernel
theorem dd_fr_faultOf_93 : decode by_fr_faultOf 93 = .ok (.ifCond .lt 12, 3) := by decide +kernel
theorem dd_fr_faultOf_96 : decode by_fr_faultOf 96 = .ok (.lload 7, 2) := by decide +kernel
theorem dd_fr_faultOf_98 : decode by_fr_faultOf 98 = .ok (.ldc2_w 128, 3) := by decide +kernel
theorem dd_fr_faultOf_101 : decode by_fr_faultOf 101 = .ok (.lcmp, 1) := by decide +kernel
theorem dd_fr_faultOf_102 : decode by_fr_faultOf 102 = .ok (.ifCond .lt 6, 3) := by decide +kernel
theorem dd_fr_faultOf_105 : decode by_fr_faultOf 105 = .ok (.bipush 6, 2) := by decide +kernel
theorem dd_fr_faultOf_107 : decode by_fr_faultOf 107 = .ok (.ireturn, 1) := by decide +kernel
theorem dd_fr_faultOf_108 : decode by_fr_faultOf 108 = .ok (.lload 7, 2) := by decide +kernel
theorem dd_fr_faultOf_110 : decode by_fr_faultOf 110 = .ok (.aload_n 2, 1) := by decide +kernel
theorem dd_fr_faultOf_111 : decode by_fr_faultOf 111 = .ok (.getfield 71, 3) := by decide +kernel
theorem dd_fr_faultOf_114 : decode by_fr_faultOf 114 = .ok (.iload 4, 2) := by decide +kernel
theorem dd_fr_faultOf_116 : decode by_fr_faultOf 116 = .ok (.iaload, 1) := by decide +kernel
theorem dd_fr_faultOf_117 : decode by_fr_faultOf 117 = .ok (.i2l, 1) := by decide +kernel
theorem dd_fr_faultOf_118 : decode by_fr_faultOf 118 = .ok (.lcmp, 1) := by decide +kernel
theorem dd_fr_faultOf_119 : decode by_fr_faultOf 119 = .ok (.ifCond .eq 19, 3) := by decide +kernel
theorem dd_fr_faultOf_122 : decode by_fr_faultOf 122 = .ok (.iload 6, 2) := by decide +kernel
theorem dd_fr_faultOf_124 : decode by_fr_faultOf 124 = .ok (.ifCond .eq 11, 3) := by decide +kernel
theorem dd_fr_faultOf_127 : decode by_fr_faultOf 127 = .ok (.aload_n 0, 1) := by decide +kernel
theorem dd_fr_faultOf_128 : decode by_fr_faultOf 128 = .ok (.iload_n 3, 1) := by decide +kernel
theorem dd_fr_faultOf_129 : decode by_fr_faultOf 129 = .ok (.invokevirtual 130, 3) := by decide +kernel
theorem dd_fr_faultOf_132 : decode by_fr_faultOf 132 = .ok (.ifCond .eq 6, 3) := by decide +kernel
theorem dd_fr_faultOf_135 : decode by_fr_faultOf 135 = .ok (.bipush 7, 2) := by decide +kernel
theorem dd_fr_faultOf_137 : decode by_fr_faultOf 137 = .ok (.ireturn, 1) := by decide +kernel
theorem dd_fr_faultOf_138 : decode by_fr_faultOf 138 = .ok (.lload 9, 2) := by decide +kernel
theorem dd_fr_faultOf_140 : decode by_fr_faultOf 140 = .ok (.lconst 0, 1) := by decide +kernel
theorem dd_fr_faultOf_141 : decode by_fr_faultOf 141 = .ok (.lcmp, 1) := by decide +kernel
theorem dd_fr_faultOf_142 : decode by_fr_faultOf 142 = .ok (.ifCond .lt 12, 3) := by decide +kernel
theorem dd_fr_faultOf_145 : decode by_fr_faultOf 145 = .ok (.lload 9, 2) := by decide +kernel
theorem dd_fr_faultOf_147 : decode by_fr_faultOf 147 = .ok (.ldc2_w 133, 3) := by decide +kernel
theorem dd_fr_faultOf_150 : decode by_fr_faultOf 150 = .ok (.lcmp, 1) := by decide +kernel
theorem dd_fr_faultOf_151 : decode by_fr_faultOf 151 = .ok (.ifCond .le 6, 3) := by decide +kernel
theorem dd_fr_faultOf_154 : decode by_fr_faultOf 154 = .ok (.bipush 7, 2) := by decide +kernel
theorem dd_fr_faultOf_156 : decode by_fr_faultOf 156 = .ok (.ireturn, 1) := by decide +kernel
theorem dd_fr_faultOf_157 : decode by_fr_faultOf 157 = .ok (.lload 9, 2) := by decide +kernel
theorem dd_fr_faultOf_159 : decode by_fr_faultOf 159 = .ok (.aload_n 2, 1) := by decide +kernel
theorem dd_fr_faultOf_160 : decode by_fr_faultOf 160 = .ok (.getfield 76, 3) := by decide +kernel
theorem dd_fr_faultOf_163 : decode by_fr_faultOf 163 = .ok (.iload 4, 2) := by decide +kernel
theorem dd_fr_faultOf_165 : decode by_fr_faultOf 165 = .ok (.iaload, 1) := by decide +kernel
theorem dd_fr_faultOf_166 : decode by_fr_faultOf 166 = .ok (.i2l, 1) := by decide +kernel
theorem dd_fr_faultOf_167 : decode by_fr_faultOf 167 = .ok (.lcmp, 1) := by decide +kernel
theorem dd_fr_faultOf_168 : decode by_fr_faultOf 168 = .ok (.ifCond .ge 8, 3) := by decide +kernel
theorem dd_fr_faultOf_171 : decode by_fr_faultOf 171 = .ok (.iload 6, 2) := by decide +kernel
theorem dd_fr_faultOf_173 : decode by_fr_faultOf 173 = .ok (.ifCond .eq 22, 3) := by decide +kernel
theorem dd_fr_faultOf_176 : decode by_fr_faultOf 176 = .ok (.lload 9, 2) := by decide +kernel
theorem dd_fr_faultOf_178 : decode by_fr_faultOf 178 = .ok (.aload_n 2, 1) := by decide +kernel
theorem dd_fr_faultOf_179 : decode by_fr_faultOf 179 = .ok (.getfield 76, 3) := by decide +kernel
theorem dd_fr_faultOf_182 : decode by_fr_faultOf 182 = .ok (.iload 4, 2) := by decide +kernel
theorem dd_fr_faultOf_184 : decode by_fr_faultOf 184 = .ok (.iaload, 1) := by decide +kernel
theorem dd_fr_faultOf_185 : decode by_fr_faultOf 185 = .ok (.i2l, 1) := by decide +kernel
theorem dd_fr_faultOf_186 : decode by_fr_faultOf 186 = .ok (.lcmp, 1) := by decide +kernel
theorem dd_fr_faultOf_187 : decode by_fr_faultOf 187 = .ok (.ifCond .le 11, 3) := by decide +kernel
theorem dd_fr_faultOf_190 : decode by_fr_faultOf 190 = .ok (.iload 5, 2) := by decide +kernel
theorem dd_fr_faultOf_192 : decode by_fr_faultOf 192 = .ok (.ifCond .ne 6, 3) := by decide +kernel
theorem dd_fr_faultOf_195 : decode by_fr_faultOf 195 = .ok (.bipush 7, 2) := by decide +kernel
theorem dd_fr_faultOf_197 : decode by_fr_faultOf 197 = .ok (.ireturn, 1) := by decide +kernel
theorem dd_fr_faultOf_198 : decode by_fr_faultOf 198 = .ok (.iload 6, 2) := by decide +kernel
theorem dd_fr_faultOf_200 : decode by_fr_faultOf 200 = .ok (.ifCond .ne 19, 3) := by decide +kernel
theorem dd_fr_faultOf_203 : decode by_fr_faultOf 203 = .ok (.aload_n 0, 1) := by decide +kernel
theorem dd_fr_faultOf_204 : decode by_fr_faultOf 204 = .ok (.iload_n 3, 1) := by decide +kernel
theorem dd_fr_faultOf_205 : decode by_fr_faultOf 205 = .ok (.iload 4, 2) := by decide +kernel
theorem dd_fr_faultOf_207 : decode by_fr_faultOf 207 = .ok (.aload_n 2, 1) := by decide +kernel
theorem dd_fr_faultOf_208 : decode by_fr_faultOf 208 = .ok (.invokevirtual 135, 3) := by decide +kernel
theorem dd_fr_faultOf_211 : decode by_fr_faultOf 211 = .ok (.ifCond .eq 8, 3) := by decide +kernel
theorem dd_fr_faultOf_214 : decode by_fr_faultOf 214 = .ok (.bipush 7, 2) := by decide +kernel
theorem dd_fr_faultOf_216 : decode by_fr_faultOf 216 = .ok (.goto 4, 3) := by decide +kernel
theorem dd_fr_faultOf_219 : decode by_fr_faultOf 219 = .ok (.iconst 0, 1) := by decide +kernel
theorem dd_fr_faultOf_220 : decode by_fr_faultOf 220 = .ok (.ireturn, 1) := by decide +kernel
def fr_faultOf_b198 (M : gw_M) (a0 : Nat) (a2 : Nat) (v3 : Int32) (v4 : Int32) (v6 : Int32) : Option (Int32 × gw_M) :=
  if v6 = (0 : Int32) then (gw_bd (fr_hasNewData_b0 M a0 v3 v4 a2) (fun r208 M208 => if r208 = (0 : Int32) then (some ((0 : Int32), M208)) else (some ((7 : Int32), M208)))) else (some ((0 : Int32), M))
def fr_faultOf_b176 (M : gw_M) (a0 : Nat) (a2 : Nat) (v3 : Int32) (v4 : Int32) (v5 : Int32) (v6 : Int32) (v9 : Int64) : Option (Int32 × gw_M) :=
  gw_gu (gw_in v4 8) (if (lg_cmp v9 ((M.1 (a2 + 1) v4.toNatClampNeg).toInt64)) ≤ (0 : Int32) then (fr_faultOf_b198  M a0 a2 v3 v4 v6) else (if v5 = (0 : Int32) then (some ((7 : Int32), M)) else (fr_faultOf_b198  M a0 a2 v3 v4 v6)))
def fr_faultOf_b138 (M : gw_M) (a0 : Nat) (a2 : Nat) (v3 : Int32) (v4 : Int32) (v5 : Int32) (v6 : Int32) (v9 : Int64) : Option (Int32 × gw_M) :=
  if (lg_cmp v9 (0 : Int64)) < (0 : Int32) then (some ((7 : Int32), M)) else (if (lg_cmp v9 (1000000 : Int64)) ≤ (0 : Int32) then (gw_gu (gw_in v4 8) (if (0 : Int32) ≤ (lg_cmp v9 ((M.1 (a2 + 1) v4.toNatClampNeg).toInt64)) then (fr_faultOf_b176  M a0 a2 v3 v4 v5 v6 v9) else (if v6 = (0 : Int32) then (some ((7 : Int32), M)) else (fr_faultOf_b176  M a0 a2 v3 v4 v5 v6 v9)))) else (some ((7 : Int32), M)))
def fr_faultOf_b67 (M : gw_M) (a0 : Nat) (a2 : Nat) (v3 : Int32) (v4 : Int32) (v5 : Int32) (t0 : Int32) : Option (Int32 × gw_M) :=
  gw_gu (gw_in (v3 + (2 : Int32)) 56) (gw_lt (M.2 (a0 + 5) ((v3 + (2 : Int32)).toNatClampNeg)) (fun x77 => gw_gu (gw_in (v3 + (3 : Int32)) 56) (gw_lt (M.2 (a0 + 5) ((v3 + (3 : Int32)).toNatClampNeg)) (fun x87 => if (lg_cmp x77 (0 : Int64)) < (0 : Int32) then (some ((6 : Int32), M)) else (if (lg_cmp x77 (4 : Int64)) < (0 : Int32) then (gw_gu (gw_in v4 8) (if (lg_cmp x77 ((M.1 (a2 + 2) v4.toNatClampNeg).toInt64)) = (0 : Int32) then (fr_faultOf_b138  M a0 a2 v3 v4 v5 t0 x87) else (if t0 = (0 : Int32) then (some ((7 : Int32), M)) else (gw_bd (fr_hasData_b0 M a0 v3) (fun r129 M129 => if r129 = (0 : Int32) then (fr_faultOf_b138  M129 a0 a2 v3 v4 v5 t0 x87) else (some ((7 : Int32), M129))))))) else (some ((6 : Int32), M)))))))
def fr_faultOf_b66 (M : gw_M) (a0 : Nat) (a2 : Nat) (v3 : Int32) (v4 : Int32) (v5 : Int32) : Option (Int32 × gw_M) :=
  fr_faultOf_b67  M a0 a2 v3 v4 v5 (0 : Int32)
def fr_faultOf_b38 (M : gw_M) (a0 : Nat) (a2 : Nat) (v3 : Int32) (v4 : Int32) (t0 : Int32) : Option (Int32 × gw_M) :=
  if t0 = (0 : Int32) then (fr_faultOf_b66  M a0 a2 v3 v4 t0) else (gw_gu (gw_in v4 8) (if (M.1 (a2 + 2) v4.toNatClampNeg) = (M.1 (a0 + 1) 0) then (fr_faultOf_b67  M a0 a2 v3 v4 t0 (1 : Int32)) else (fr_faultOf_b66  M a0 a2 v3 v4 t0)))
def fr_faultOf_b0 (M : gw_M) (a0 : Nat) (v1 : Int32) (a2 : Nat) : Option (Int32 × gw_M) :=
  gw_bd (fr_baseOf_b0 M v1) (fun r1 M1 => gw_gu (gw_in v1 4) (gw_lt (M1.1 ((a0 + 1) + 1) v1.toNatClampNeg) (fun x14 => gw_gu (gw_in (r1 + (1 : Int32)) 56) (if (lg_cmp ((M1.2 (a0 + 5) ((r1 + (1 : Int32)).toNatClampNeg)) &&& (2 : Int64)) (0 : Int64)) = (0 : Int32) then (fr_faultOf_b38  M1 a0 a2 r1 x14 (0 : Int32)) else (fr_faultOf_b38  M1 a0 a2 r1 x14 (1 : Int32))))))
set_option maxRecDepth 100000 in
set_option maxHeartbeats 4000000 in
theorem wb_fr_faultOf_198 {p : Program} {l : Launch} {e : Env} {s : State} {m : MethodId} {args : Array Value} {below : List Frame} {meth : Method} {c : Code} {X : gw_X} {Y : gw_M} {z : (Int32 × gw_M)} (C0 : gw_C ((Cond.code yy_fr_faultOf by_fr_faultOf 11 (some .int)) :: gw_w) by_fr_faultOf 11 (some .int) "AccountMachine$Frame" X p s m args meth c) (M : gw_M) (a0 : Nat) (a2 : Nat) (v3 : Int32) (v4 : Int32) (v6 : Int32) (H : Heap) (locs : List Loc) (ls : Array Slot) (ha0 : gc_k a0 = (6, 0)) (ha2 : gc_k a2 = (3, 0)) (G : gw_G X (gw_E X M Y) s H locs) (hl : lv_has ls 11 [(0, .ref (gc_a X a0)), (2, .ref (gc_a X a2)), (3, .int v3), (4, .int v4), (6, .int v6)]) (hF : fr_faultOf_b198  M a0 a2 v3 v4 v6 = some z) : W p l e rm_fr_faultOf s m args below meth c H locs 0 0 (MQ below (gw_Qi X (fun M => (gw_E X M Y)) z) args s 0 0 (gw_A X)) (F0 m 198 ls []) := by
  obtain ⟨hx, hb, hml, hown, hts, hr, hlocks, hK⟩ := id C0
  have hg : ∀ w ∈ gw_w, w.before args s = true := fun w h => hts w (List.mem_cons_of_mem _ h)
  unfold fr_faultOf_b198 at hF
  refine lv_iload hx hb dd_fr_faultOf_198 (lv_at hl 4 rfl) ?_
  refine lv_if_ne (tgt := 219) hx hb dd_fr_faultOf_200 (by decide) (fun h200 => ?_) (fun h200 => ?_)
  · replace hF := gw_ef h200 hF
    refine lv_iconst (v := (0 : Int32)) hx hb dd_fr_faultOf_219 (by decide) ?_
    exact W.iret hx hb hr (fun t ht hW => gw_endi (EF := (fun M => (gw_E X M Y))) (M := M) G ht hF) G.2.2.2.2 dd_fr_faultOf_220 hlocks
  · replace hF := gw_et h200 hF
    refine lv_aload_n hx hb dd_fr_faultOf_203 rfl (lv_at hl 0 rfl) ?_
    refine lv_iload_n hx hb dd_fr_faultOf_204 rfl (lv_at hl 2 rfl) ?_
    refine lv_iload hx hb dd_fr_faultOf_205 (lv_at hl 3 rfl) ?_
    refine lv_aload_n hx hb dd_fr_faultOf_207 rfl (lv_at hl 1 rfl) ?_
    obtain ⟨r208, M208, hc208, hF⟩ := gw_be hF
    refine gw_ci G (va_runV (As := [.int v3, .int v4, .ref (gc_a X a2)]) (rest := []) ⟨hx, hb, hml, hown, hts⟩ (ct_fr_hasNewData l X Y M a0 v3 v4 a2 ha0 ha2 _ hc208) (cwV 3 hts (gw_gV kw_45 kw_46 kw_47 kw_8 kw_44) rfl rfl rfl (by decide +kernel) ⟨Nat.le_of_ble_eq_true rfl, Nat.le_of_ble_eq_true rfl⟩) ⟨gw_blind, gw_recv_fr hK G ha0, gw_pre hK G⟩ rfl rfl hl.1 rfl (Nat.le_of_ble_eq_true rfl) dd_fr_faultOf_208 ⟨Nat.le_of_ble_eq_true rfl, Nat.le_of_ble_eq_true rfl⟩) (fun H locs G => ?_)
    refine lv_if_eq (tgt := 219) hx hb dd_fr_faultOf_211 (by decide) (fun h211 => ?_) (fun h211 => ?_)
    · replace hF := gw_et h211 hF
      refine lv_iconst (v := (0 : Int32)) hx hb dd_fr_faultOf_219 (by decide) ?_
      exact W.iret hx hb hr (fun t ht hW => gw_endi (EF := (fun M => (gw_E X M Y))) (M := M208) G ht hF) G.2.2.2.2 dd_fr_faultOf_220 hlocks
    · replace hF := gw_ef h211 hF
      refine lv_bipush (v := (7 : Int32)) hx hb dd_fr_faultOf_214 (by decide) ?_
      refine lv_goto (tgt := 220) hx hb dd_fr_faultOf_216 (by decide) ?_
      exact W.iret hx hb hr (fun t ht hW => gw_endi (EF := (fun M => (gw_E X M Y))) (M := M208) G ht hF) G.2.2.2.2 dd_fr_faultOf_220 hlocks
set_option maxRecDepth 100000 in
set_option maxHeartbeats 4000000 in
theorem wb_fr_faultOf_176 {p : Program} {l : Launch} {e : Env} {s : State} {m : MethodId} {args : Array Value} {below : List Frame} {meth : Method} {c : Code} {X : gw_X} {Y : gw_M} {z : (Int32 × gw_M)} (C0 : gw_C ((Cond.code yy_fr_faultOf by_fr_faultOf 11 (some .int)) :: gw_w) by_fr_faultOf 11 (some .int) "AccountMachine$Frame" X p s m args meth c) (M : gw_M) (a0 : Nat) (a2 : Nat) (v3 : Int32) (v4 : Int32) (v5 : Int32) (v6 : Int32) (v9 : Int64) (H : Heap) (locs : List Loc) (ls : Array Slot) (ha0 : gc_k a0 = (6, 0)) (ha2 : gc_k a2 = (3, 0)) (G : gw_G X (gw_E X M Y) s H locs) (hl : lv_has ls 11 [(0, .ref (gc_a X a0)), (2, .ref (gc_a X a2)), (3, .int v3), (4, .int v4), (5, .int v5), (6, .int v6), (9, .long v9)]) (hF : fr_faultOf_b176  M a0 a2 v3 v4 v5 v6 v9 = some z) : W p l e rm_fr_faultOf s m args below meth c H locs 0 0 (MQ below (gw_Qi X (fun M => (gw_E X M Y)) z) args s 0 0 (gw_A X)) (F0 m 176 ls []) := by
  obtain ⟨hx, hb, hml, hown, hts, hr, hlocks, hK⟩ := id C0
  have hg : ∀ w ∈ gw_w, w.before args s = true := fun w h => hts w (List.mem_cons_of_mem _ h)
  unfold fr_faultOf_b176 at hF
  refine lv_lload hx hb dd_fr_faultOf_176 (lv_at hl 6 rfl) ?_
  refine lv_aload_n hx hb dd_fr_faultOf_178 rfl (lv_at hl 1 rfl) ?_
  refine gn_le_balances hx hb hg hown (gw_nw hK kn_4) hK G ha2 dd_fr_faultOf_179 ?_
  refine lv_iload hx hb dd_fr_faultOf_182 (lv_at hl 3 rfl) ?_
  obtain ⟨h184, hF⟩ := gw_gd hF
  refine gc_iald hx hb hK G (gq_le_balances ha2) (gw_vp h184) (j := v4.toNatClampNeg) rfl dd_fr_faultOf_184 ?_
  refine lv_i2l (v := (M.1 (a2 + 1) v4.toNatClampNeg).toInt64) hx hb dd_fr_faultOf_185 rfl ?_
  refine W.lcmp hx hb dd_fr_faultOf_186 ?_
  refine lv_if_le (tgt := 198) hx hb dd_fr_faultOf_187 (by decide) (fun h187 => ?_) (fun h187 => ?_)
  · replace hF := gw_et h187 hF
    exact wb_fr_faultOf_198 C0  M a0 a2 v3 v4 v6 _ _ _ ha0 ha2 G (lv_sub hl [0, 1, 2, 3, 5] rfl) hF
  · replace hF := gw_ef h187 hF
    refine lv_iload hx hb dd_fr_faultOf_190 (lv_at hl 4 rfl) ?_
    refine lv_if_ne (tgt := 198) hx hb dd_fr_faultOf_192 (by decide) (fun h192 => ?_) (fun h192 => ?_)
    · replace hF := gw_ef h192 hF
      exact wb_fr_faultOf_198 C0  M a0 a2 v3 v4 v6 _ _ _ ha0 ha2 G (lv_sub hl [0, 1, 2, 3, 5] rfl) hF
    · replace hF := gw_et h192 hF
      refine lv_bipush (v := (7 : Int32)) hx hb dd_fr_faultOf_195 (by decide) ?_
      exact W.iret hx hb hr (fun t ht hW => gw_endi (EF := (fun M => (gw_E X M Y))) (M := M) G ht hF) G.2.2.2.2 dd_fr_faultOf_197 hlocks
set_option maxRecDepth 100000 in
set_option maxHeartbeats 4000000 in
theorem wb_fr_faultOf_138 {p : Program} {l : Launch} {e : Env} {s : State} {m : MethodId} {args : Array Value} {below : List Frame} {meth : Method} {c : Code} {X : gw_X} {Y : gw_M} {z : (Int32 × gw_M)} (C0 : gw_C ((Cond.code yy_fr_faultOf by_fr_faultOf 11 (some .int)) :: gw_w) by_fr_faultOf 11 (some .int) "AccountMachine$Frame" X p s m args meth c) (M : gw_M) (a0 : Nat) (a2 : Nat) (v3 : Int32) (v4 : Int32) (v5 : Int32) (v6 : Int32) (v9 : Int64) (H : Heap) (locs : List Loc) (ls : Array Slot) (ha0 : gc_k a0 = (6, 0)) (ha2 : gc_k a2 = (3, 0)) (G : gw_G X (gw_E X M Y) s H locs) (hl : lv_has ls 11 [(0, .ref (gc_a X a0)), (2, .ref (gc_a X a2)), (3, .int v3), (4, .int v4), (5, .int v5), (6, .int v6), (9, .long v9)]) (hF : fr_faultOf_b138  M a0 a2 v3 v4 v5 v6 v9 = some z) : W p l e rm_fr_faultOf s m args below meth c H locs 0 0 (MQ below (gw_Qi X (fun M => (gw_E X M Y)) z) args s 0 0 (gw_A X)) (F0 m 138 ls []) := by
  obtain ⟨hx, hb, hml, hown, hts, hr, hlocks, hK⟩ := id C0
  have hg : ∀ w ∈ gw_w, w.before args s = true := fun w h => hts w (List.mem_cons_of_mem _ h)
  unfold fr_faultOf_b138 at hF
  refine lv_lload hx hb dd_fr_faultOf_138 (lv_at hl 6 rfl) ?_
  refine lv_lconst (v := (0 : Int64)) hx hb dd_fr_faultOf_140 (by decide) ?_
  refine W.lcmp hx hb dd_fr_faultOf_141 ?_
  refine lv_if_lt (tgt := 154) hx hb dd_fr_faultOf_142 (by decide) (fun h142 => ?_) (fun h142 => ?_)
  · replace hF := gw_et h142 hF
    refine lv_bipush (v := (7 : Int32)) hx hb dd_fr_faultOf_154 (by decide) ?_
    exact W.iret hx hb hr (fun t ht hW => gw_endi (EF := (fun M => (gw_E X M Y))) (M := M) G ht hF) G.2.2.2.2 dd_fr_faultOf_156 hlocks
  · replace hF := gw_ef h142 hF
    refine lv_lload hx hb dd_fr_faultOf_145 (lv_at hl 6 rfl) ?_
    refine lv_ldc2 (v := (1000000 : Int64)) hx hb hown (hg _ kw_48) dd_fr_faultOf_147 ?_
    refine W.lcmp hx hb dd_fr_faultOf_150 ?_
    refine lv_if_le (tgt := 157) hx hb dd_fr_faultOf_151 (by decide) (fun h151 => ?_) (fun h151 => ?_)
    · replace hF := gw_et h151 hF
      refine lv_lload hx hb dd_fr_faultOf_157 (lv_at hl 6 rfl) ?_
      refine lv_aload_n hx hb dd_fr_faultOf_159 rfl (lv_at hl 1 rfl) ?_
      refine gn_le_balances hx hb hg hown (gw_nw hK kn_4) hK G ha2 dd_fr_faultOf_160 ?_
      refine lv_iload hx hb dd_fr_faultOf_163 (lv_at hl 3 rfl) ?_
      obtain ⟨h165, hF⟩ := gw_gd hF
      refine gc_iald hx hb hK G (gq_le_balances ha2) (gw_vp h165) (j := v4.toNatClampNeg) rfl dd_fr_faultOf_165 ?_
      refine lv_i2l (v := (M.1 (a2 + 1) v4.toNatClampNeg).toInt64) hx hb dd_fr_faultOf_166 rfl ?_
      refine W.lcmp hx hb dd_fr_faultOf_167 ?_
      refine lv_if_ge (tgt := 176) hx hb dd_fr_faultOf_168 (by decide) (fun h168 => ?_) (fun h168 => ?_)
      · replace hF := gw_et h168 hF
        exact wb_fr_faultOf_176 C0  M a0 a2 v3 v4 v5 v6 v9 _ _ _ ha0 ha2 G (lv_sub hl [0, 1, 2, 3, 4, 5, 6] rfl) hF
      · replace hF := gw_ef h168 hF
        refine lv_iload hx hb dd_fr_faultOf_171 (lv_at hl 5 rfl) ?_
        refine lv_if_eq (tgt := 195) hx hb dd_fr_faultOf_173 (by decide) (fun h173 => ?_) (fun h173 => ?_)
        · replace hF := gw_et h173 hF
          refine lv_bipush (v := (7 : Int32)) hx hb dd_fr_faultOf_195 (by decide) ?_
          exact W.iret hx hb hr (fun t ht hW => gw_endi (EF := (fun M => (gw_E X M Y))) (M := M) G ht hF) G.2.2.2.2 dd_fr_faultOf_197 hlocks
        · replace hF := gw_ef h173 hF
          exact wb_fr_faultOf_176 C0  M a0 a2 v3 v4 v5 v6 v9 _ _ _ ha0 ha2 G (lv_sub hl [0, 1, 2, 3, 4, 5, 6] rfl) hF
    · replace hF := gw_ef h151 hF
      refine lv_bipush (v := (7 : Int32)) hx hb dd_fr_faultOf_154 (by decide) ?_
      exact W.iret hx hb hr (fun t ht hW => gw_endi (EF := (fun M => (gw_E X M Y))) (M := M) G ht hF) G.2.2.2.2 dd_fr_faultOf_156 hlocks
set_option maxRecDepth 100000 in
set_option maxHeartbeats 4000000 in
theorem wb_fr_faultOf_67 {p : Program} {l : Launch} {e : Env} {s : State} {m : MethodId} {args : Array Value} {below : List Frame} {meth : Method} {c : Code} {X : gw_X} {Y : gw_M} {z : (Int32 × gw_M)} (C0 : gw_C ((Cond.code yy_fr_faultOf by_fr_faultOf 11 (some .int)) :: gw_w) by_fr_faultOf 11 (some .int) "AccountMachine$Frame" X p s m args meth c) (M : gw_M) (a0 : Nat) (a2 : Nat) (v3 : Int32) (v4 : Int32) (v5 : Int32) (t0 : Int32) (H : Heap) (locs : List Loc) (ls : Array Slot) (ha0 : gc_k a0 = (6, 0)) (ha2 : gc_k a2 = (3, 0)) (G : gw_G X (gw_E X M Y) s H locs) (hl : lv_has ls 11 [(0, .ref (gc_a X a0)), (2, .ref (gc_a X a2)), (3, .int v3), (4, .int v4), (5, .int v5)]) (hF : fr_faultOf_b67  M a0 a2 v3 v4 v5 t0 = some z) : W p l e rm_fr_faultOf s m args below meth c H locs 0 0 (MQ below (gw_Qi X (fun M => (gw_E X M Y)) z) args s 0 0 (gw_A X)) (F0 m 67 ls [.int t0]) := by
  obtain ⟨hx, hb, hml, hown, hts, hr, hlocks, hK⟩ := id C0
  have hg : ∀ w ∈ gw_w, w.before args s = true := fun w h => hts w (List.mem_cons_of_mem _ h)
  unfold fr_faultOf_b67 at hF
  refine lv_istore (i := 6) (lv' := [(6, .int t0), (0, .ref (gc_a X a0)), (2, .ref (gc_a X a2)), (3, .int v3), (4, .int v4), (5, .int v5)]) hx hb dd_fr_faultOf_67 hl (by decide) rfl (fun ls hl => ?_)
  refine lv_aload_n hx hb dd_fr_faultOf_69 rfl (lv_at hl 1 rfl) ?_
  refine gf_fr_memory hx hb hg hown (hg _ kw_3) hK G ha0 dd_fr_faultOf_70 ?_
  refine lv_iload_n hx hb dd_fr_faultOf_73 rfl (lv_at hl 3 rfl) ?_
  refine lv_iconst (v := (2 : Int32)) hx hb dd_fr_faultOf_74 (by decide) ?_
  refine lv_iadd hx hb dd_fr_faultOf_75 ?_
  obtain ⟨h76, hF⟩ := gw_gd hF
  refine gc_lald hx hb hK G (gq_fr_memory ha0) (gw_vp h76) (j := (v3 + (2 : Int32)).toNatClampNeg) rfl dd_fr_faultOf_76 ?_
  refine lv_topl (fun x77 e77 => ?_)
  replace hF := gw_ly e77 hF
  refine lv_lstore (i := 7) (lv' := [(7, .long x77), (6, .int t0), (0, .ref (gc_a X a0)), (2, .ref (gc_a X a2)), (3, .int v3), (4, .int v4), (5, .int v5)]) hx hb dd_fr_faultOf_77 hl (by decide) rfl (fun ls hl => ?_)
  refine lv_aload_n hx hb dd_fr_faultOf_79 rfl (lv_at hl 2 rfl) ?_
  refine W.eq (g2 := F0 m 80 _ _) rfl ?_
  refine gf_fr_memory hx hb hg hown (hg _ kw_3) hK G ha0 dd_fr_faultOf_80 ?_
  refine lv_iload_n hx hb dd_fr_faultOf_83 rfl (lv_at hl 4 rfl) ?_
  refine lv_iconst (v := (3 : Int32)) hx hb dd_fr_faultOf_84 (by decide) ?_
  refine lv_iadd hx hb dd_fr_faultOf_85 ?_
  obtain ⟨h86, hF⟩ := gw_gd hF
  refine gc_lald hx hb hK G (gq_fr_memory ha0) (gw_vp h86) (j := (v3 + (3 : Int32)).toNatClampNeg) rfl dd_fr_faultOf_86 ?_
  refine lv_topl (fun x87 e87 => ?_)
  replace hF := gw_ly e87 hF
  refine lv_lstore (i := 9) (lv' := [(9, .long x87), (7, .long x77), (6, .int t0), (0, .ref (gc_a X a0)), (2, .ref (gc_a X a2)), (3, .int v3), (4, .int v4), (5, .int v5)]) hx hb dd_fr_faultOf_87 hl (by decide) rfl (fun ls hl => ?_)
  refine lv_lload hx hb dd_fr_faultOf_89 (lv_at hl 1 rfl) ?_
  refine lv_lconst (v := (0 : Int64)) hx hb dd_fr_faultOf_91 (by decide) ?_
  refine W.lcmp hx hb dd_fr_faultOf_92 ?_
  refine lv_if_lt (tgt := 105) hx hb dd_fr_faultOf_93 (by decide) (fun h93 => ?_) (fun h93 => ?_)
  · replace hF := gw_et h93 hF
    refine lv_bipush (v := (6 : Int32)) hx hb dd_fr_faultOf_105 (by decide) ?_
    exact W.iret hx hb hr (fun t ht hW => gw_endi (EF := (fun M => (gw_E X M Y))) (M := M) G ht hF) G.2.2.2.2 dd_fr_faultOf_107 hlocks
  · replace hF := gw_ef h93 hF
    refine lv_lload hx hb dd_fr_faultOf_96 (lv_at hl 1 rfl) ?_
    refine lv_ldc2 (v := (4 : Int64)) hx hb hown (hg _ kw_49) dd_fr_faultOf_98 ?_
    refine W.lcmp hx hb dd_fr_faultOf_101 ?_
    refine lv_if_lt (tgt := 108) hx hb dd_fr_faultOf_102 (by decide) (fun h102 => ?_) (fun h102 => ?_)
    · replace hF := gw_et h102 hF
      refine lv_lload hx hb dd_fr_faultOf_108 (lv_at hl 1 rfl) ?_
      refine lv_aload_n hx hb dd_fr_faultOf_110 rfl (lv_at hl 4 rfl) ?_
      refine gn_le_owners hx hb hg hown (gw_nw hK kn_3) hK G ha2 dd_fr_faultOf_111 ?_
      refine lv_iload hx hb dd_fr_faultOf_114 (lv_at hl 6 rfl) ?_
      obtain ⟨h116, hF⟩ := gw_gd hF
      refine gc_iald hx hb hK G (gq_le_owners ha2) (gw_vp h116) (j := v4.toNatClampNeg) rfl dd_fr_faultOf_116 ?_
      refine lv_i2l (v := (M.1 (a2 + 2) v4.toNatClampNeg).toInt64) hx hb dd_fr_faultOf_117 rfl ?_
      refine W.lcmp hx hb dd_fr_faultOf_118 ?_
      refine lv_if_eq (tgt := 138) hx hb dd_fr_faultOf_119 (by decide) (fun h119 => ?_) (fun h119 => ?_)
      · replace hF := gw_et h119 hF
        exact wb_fr_faultOf_138 C0  M a0 a2 v3 v4 v5 t0 x87 _ _ _ ha0 ha2 G (lv_sub hl [3, 4, 5, 6, 7, 2, 0] rfl) hF
      · replace hF := gw_ef h119 hF
        refine lv_iload hx hb dd_fr_faultOf_122 (lv_at hl 2 rfl) ?_
        refine lv_if_eq (tgt := 135) hx hb dd_fr_faultOf_124 (by decide) (fun h124 => ?_) (fun h124 => ?_)
        · replace hF := gw_et h124 hF
          refine lv_bipush (v := (7 : Int32)) hx hb dd_fr_faultOf_135 (by decide) ?_
          exact W.iret hx hb hr (fun t ht hW => gw_endi (EF := (fun M => (gw_E X M Y))) (M := M) G ht hF) G.2.2.2.2 dd_fr_faultOf_137 hlocks
        · replace hF := gw_ef h124 hF
          refine lv_aload_n hx hb dd_fr_faultOf_127 rfl (lv_at hl 3 rfl) ?_
          refine lv_iload_n hx hb dd_fr_faultOf_128 rfl (lv_at hl 5 rfl) ?_
          obtain ⟨r129, M129, hc129, hF⟩ := gw_be hF
          refine gw_ci G (va_runV (As := [.int v3]) (rest := []) ⟨hx, hb, hml, hown, hts⟩ (ct_fr_hasData l X Y M a0 v3 ha0 _ hc129) (cwV 1 hts (gw_gV kw_51 kw_52 kw_53 kw_8 kw_50) rfl rfl rfl (by decide +kernel) ⟨Nat.le_of_ble_eq_true rfl, Nat.le_of_ble_eq_true rfl⟩) ⟨gw_blind, gw_recv_fr hK G ha0, gw_pre hK G⟩ rfl rfl hl.1 rfl (Nat.le_of_ble_eq_true rfl) dd_fr_faultOf_129 ⟨Nat.le_of_ble_eq_true rfl, Nat.le_of_ble_eq_true rfl⟩) (fun H locs G => ?_)
          refine lv_if_eq (tgt := 138) hx hb dd_fr_faultOf_132 (by decide) (fun h132 => ?_) (fun h132 => ?_)
          · replace hF := gw_et h132 hF
            exact wb_fr_faultOf_138 C0  M129 a0 a2 v3 v4 v5 t0 x87 _ _ _ ha0 ha2 G (lv_sub hl [3, 4, 5, 6, 7, 2, 0] rfl) hF
          · replace hF := gw_ef h132 hF
            refine lv_bipush (v := (7 : Int32)) hx hb dd_fr_faultOf_135 (by decide) ?_
            exact W.iret hx hb hr (fun t ht hW => gw_endi (EF := (fun M => (gw_E X M Y))) (M := M129) G ht hF) G.2.2.2.2 dd_fr_faultOf_137 hlocks
    · replace hF := gw_ef h102 hF
      refine lv_bipush (v := (6 : Int32)) hx hb dd_fr_faultOf_105 (by decide) ?_
      exact W.iret hx hb hr (fun t ht hW => gw_endi (EF := (fun M => (gw_E X M Y))) (M := M) G ht hF) G.2.2.2.2 dd_fr_faultOf_107 hlocks
set_option maxRecDepth 100000 in
set_option maxHeartbeats 4000000 in
theorem wb_fr_faultOf_66 {p : Program} {l : Launch} {e : Env} {s : State} {m : MethodId} {args : Array Value} {below : List Frame} {meth : Method} {c : Code} {X : gw_X} {Y : gw_M} {z : (Int32 × gw_M)} (C0 : gw_C ((Cond.code yy_fr_faultOf by_fr_faultOf 11 (some .int)) :: gw_w) by_fr_faultOf 11 (some .int) "AccountMachine$Frame" X p s m args meth c) (M : gw_M) (a0 : Nat) (a2 : Nat) (v3 : Int32) (v4 : Int32) (v5 : Int32) (H : Heap) (locs : List Loc) (ls : Array Slot) (ha0 : gc_k a0 = (6, 0)) (ha2 : gc_k a2 = (3, 0)) (G : gw_G X (gw_E X M Y) s H locs) (hl : lv_has ls 11 [(0, .ref (gc_a X a0)), (2, .ref (gc_a X a2)), (3, .int v3), (4, .int v4), (5, .int v5)]) (hF : fr_faultOf_b66  M a0 a2 v3 v4 v5 = some z) : W p l e rm_fr_faultOf s m args below meth c H locs 0 0 (MQ below (gw_Qi X (fun M => (gw_E X M Y)) z) args s 0 0 (gw_A X)) (F0 m 66 ls []) := by
  obtain ⟨hx, hb, hml, hown, hts, hr, hlocks, hK⟩ := id C0
  have hg : ∀ w ∈ gw_w, w.before args s = true := fun w h => hts w (List.mem_cons_of_mem _ h)
  unfold fr_faultOf_b66 at hF
  refine lv_iconst (v := (0 : Int32)) hx hb dd_fr_faultOf_66 (by decide) ?_
  exact wb_fr_faultOf_67 C0  M a0 a2 v3 v4 v5 (0 : Int32) _ _ _ ha0 ha2 G (lv_sub hl [0, 1, 2, 3, 4] rfl) hF
set_option maxRecDepth 100000 in
set_option maxHeartbeats 4000000 in
theorem wb_fr_faultOf_38 {p : Program} {l : Launch} {e : Env} {s : State} {m : MethodId} {args : Array Value} {below : List Frame} {meth : Method} {c : Code} {X : gw_X} {Y : gw_M} {z : (Int32 × gw_M)} (C0 : gw_C ((Cond.code yy_fr_faultOf by_fr_faultOf 11 (some .int)) :: gw_w) by_fr_faultOf 11 (some .int) "AccountMachine$Frame" X p s m args meth c) (M : gw_M) (a0 : Nat) (a2 : Nat) (v3 : Int32) (v4 : Int32) (t0 : Int32) (H : Heap) (locs : List Loc) (ls : Array Slot) (ha0 : gc_k a0 = (6, 0)) (ha2 : gc_k a2 = (3, 0)) (G : gw_G X (gw_E X M Y) s H locs) (hl : lv_has ls 11 [(0, .ref (gc_a X a0)), (2, .ref (gc_a X a2)), (3, .int v3), (4, .int v4)]) (hF : fr_faultOf_b38  M a0 a2 v3 v4 t0 = some z) : W p l e rm_fr_faultOf s m args below meth c H locs 0 0 (MQ below (gw_Qi X (fun M => (gw_E X M Y)) z) args s 0 0 (gw_A X)) (F0 m 38 ls [.int t0]) := by
  obtain ⟨hx, hb, hml, hown, hts, hr, hlocks, hK⟩ := id C0
  have hg : ∀ w ∈ gw_w, w.before args s = true := fun w h => hts w (List.mem_cons_of_mem _ h)
  unfold fr_faultOf_b38 at hF
  refine lv_istore (i := 5) (lv' := [(5, .int t0), (0, .ref (gc_a X a0)), (2, .ref (gc_a X a2)), (3, .int v3), (4, .int v4)]) hx hb dd_fr_faultOf_38 hl (by decide) rfl (fun ls hl => ?_)
  refine lv_iload hx hb dd_fr_faultOf_40 (lv_at hl 0 rfl) ?_
  refine lv_if_eq (tgt := 66) hx hb dd_fr_faultOf_42 (by decide) (fun h42 => ?_) (fun h42 => ?_)
  · replace hF := gw_et h42 hF
    exact wb_fr_faultOf_66 C0  M a0 a2 v3 v4 t0 _ _ _ ha0 ha2 G (lv_sub hl [1, 2, 3, 4, 0] rfl) hF
  · replace hF := gw_ef h42 hF
    refine lv_aload_n hx hb dd_fr_faultOf_45 rfl (lv_at hl 2 rfl) ?_
    refine gn_le_owners hx hb hg hown (gw_nw hK kn_3) hK G ha2 dd_fr_faultOf_46 ?_
    refine lv_iload hx hb dd_fr_faultOf_49 (lv_at hl 4 rfl) ?_
    obtain ⟨h51, hF⟩ := gw_gd hF
    refine gc_iald hx hb hK G (gq_le_owners ha2) (gw_vp h51) (j := v4.toNatClampNeg) rfl dd_fr_faultOf_51 ?_
    refine lv_aload_n hx hb dd_fr_faultOf_52 rfl (lv_at hl 1 rfl) ?_
    refine gf_fr_order hx hb hg hown (hg _ kw_4) hK G ha0 dd_fr_faultOf_53 ?_
    refine gn_od_program hx hb hg hown (gw_nw hK kn_14) hK G (gq_fr_order ha0) dd_fr_faultOf_56 ?_
    refine lv_icmp_ne (tgt := 66) hx hb dd_fr_faultOf_59 (by decide) (fun h59 => ?_) (fun h59 => ?_)
    · replace hF := gw_ef h59 hF
      exact wb_fr_faultOf_66 C0  M a0 a2 v3 v4 t0 _ _ _ ha0 ha2 G (lv_sub hl [1, 2, 3, 4, 0] rfl) hF
    · replace hF := gw_et h59 hF
      refine lv_iconst (v := (1 : Int32)) hx hb dd_fr_faultOf_62 (by decide) ?_
      refine lv_goto (tgt := 67) hx hb dd_fr_faultOf_63 (by decide) ?_
      exact wb_fr_faultOf_67 C0  M a0 a2 v3 v4 t0 (1 : Int32) _ _ _ ha0 ha2 G (lv_sub hl [1, 2, 3, 4, 0] rfl) hF
set_option maxRecDepth 100000 in
set_option maxHeartbeats 4000000 in
theorem wb_fr_faultOf_0 {p : Program} {l : Launch} {e : Env} {s : State} {m : MethodId} {args : Array Value} {below : List Frame} {meth : Method} {c : Code} {X : gw_X} {Y : gw_M} {z : (Int32 × gw_M)} (C0 : gw_C ((Cond.code yy_fr_faultOf by_fr_faultOf 11 (some .int)) :: gw_w) by_fr_faultOf 11 (some .int) "AccountMachine$Frame" X p s m args meth c) (M : gw_M) (a0 : Nat) (v1 : Int32) (a2 : Nat) (H : Heap) (locs : List Loc) (ls : Array Slot) (ha0 : gc_k a0 = (6, 0)) (ha2 : gc_k a2 = (3, 0)) (G : gw_G X (gw_E X M Y) s H locs) (hl : lv_has ls 11 [(0, .ref (gc_a X a0)), (1, .int v1), (2, .ref (gc_a X a2))]) (hF : fr_faultOf_b0  M a0 v1 a2 = some z) : W p l e rm_fr_faultOf s m args below meth c H locs 0 0 (MQ below (gw_Qi X (fun M => (gw_E X M Y)) z) args s 0 0 (gw_A X)) (F0 m 0 ls []) := by
  obtain ⟨hx, hb, hml, hown, hts, hr, hlocks, hK⟩ := id C0
  have hg : ∀ w ∈ gw_w, w.before args s = true := fun w h => hts w (List.mem_cons_of_mem _ h)
  unfold fr_faultOf_b0 at hF
  refine lv_iload_n hx hb dd_fr_faultOf_0 rfl (lv_at hl 1 rfl) ?_
  obtain ⟨r1, M1, hc1, hF⟩ := gw_be hF
  refine gw_ci G (va_runS (As := [.int v1]) (rest := []) ⟨hx, hb, hml, hown, hts⟩ (ct_fr_baseOf l X Y M v1  _ hc1) (cwS 1 hts (gw_gS kw_6 kw_7 kw_8 kw_5) rfl rfl rfl (by decide +kernel) ⟨Nat.le_of_ble_eq_true rfl, Nat.le_of_ble_eq_true rfl⟩) ⟨gw_blind, gw_pre hK G⟩ rfl rfl hl.1 rfl (Nat.le_of_ble_eq_true rfl) dd_fr_faultOf_1 ⟨Nat.le_of_ble_eq_true rfl, Nat.le_of_ble_eq_true rfl⟩) (fun H locs G => ?_)
  refine lv_istore_n (i := 3) (lv' := [(3, .int r1), (0, .ref (gc_a X a0)), (1, .int v1), (2, .ref (gc_a X a2))]) hx hb dd_fr_faultOf_4 rfl hl (by decide) rfl (fun ls hl => ?_)
  refine lv_aload_n hx hb dd_fr_faultOf_5 rfl (lv_at hl 1 rfl) ?_
  refine gf_fr_order hx hb hg hown (hg _ kw_4) hK G ha0 dd_fr_faultOf_6 ?_
  refine gn_od_accounts hx hb hg hown (gw_nw hK kn_2) hK G (gq_fr_order ha0) dd_fr_faultOf_9 ?_
  refine lv_iload_n hx hb dd_fr_faultOf_12 rfl (lv_at hl 2 rfl) ?_
  obtain ⟨h13, hF⟩ := gw_gd hF
  refine gc_iald hx hb hK G (gq_od_accounts (gq_fr_order ha0)) (gw_vp h13) (j := v1.toNatClampNeg) rfl dd_fr_faultOf_13 ?_
  refine lv_topi (fun x14 e14 => ?_)
  replace hF := gw_ly e14 hF
  refine lv_istore (i := 4) (lv' := [(4, .int x14), (3, .int r1), (0, .ref (gc_a X a0)), (1, .int v1), (2, .ref (gc_a X a2))]) hx hb dd_fr_faultOf_14 hl (by decide) rfl (fun ls hl => ?_)
  refine W.eq (g2 := F0 m 16 _ _) rfl ?_
  refine lv_aload_n hx hb dd_fr_faultOf_16 rfl (lv_at hl 2 rfl) ?_
  refine gf_fr_memory hx hb hg hown (hg _ kw_3) hK G ha0 dd_fr_faultOf_17 ?_
  refine lv_iload_n hx hb dd_fr_faultOf_20 rfl (lv_at hl 1 rfl) ?_
  refine lv_iconst (v := (1 : Int32)) hx hb dd_fr_faultOf_21 (by decide) ?_
  refine lv_iadd hx hb dd_fr_faultOf_22 ?_
  obtain ⟨h23, hF⟩ := gw_gd hF
  refine gc_lald hx hb hK G (gq_fr_memory ha0) (gw_vp h23) (j := (r1 + (1 : Int32)).toNatClampNeg) rfl dd_fr_faultOf_23 ?_
  refine lv_ldc2 (v := (2 : Int64)) hx hb hown (hg _ kw_54) dd_fr_faultOf_24 ?_
  refine lv_land hx hb dd_fr_faultOf_27 ?_
  refine lv_lconst (v := (0 : Int64)) hx hb dd_fr_faultOf_28 (by decide) ?_
  refine W.lcmp hx hb dd_fr_faultOf_29 ?_
  refine W.eq (g2 := F0 m 30 _ _) rfl ?_
  refine lv_if_eq (tgt := 37) hx hb dd_fr_faultOf_30 (by decide) (fun h30 => ?_) (fun h30 => ?_)
  · replace hF := gw_et h30 hF
    refine lv_iconst (v := (0 : Int32)) hx hb dd_fr_faultOf_37 (by decide) ?_
    exact wb_fr_faultOf_38 C0  M1 a0 a2 r1 x14 (0 : Int32) _ _ _ ha0 ha2 G (lv_sub hl [2, 4, 1, 0] rfl) hF
  · replace hF := gw_ef h30 hF
    refine lv_iconst (v := (1 : Int32)) hx hb dd_fr_faultOf_33 (by decide) ?_
    refine lv_goto (tgt := 38) hx hb dd_fr_faultOf_34 (by decide) ?_
    exact wb_fr_faultOf_38 C0  M1 a0 a2 r1 x14 (1 : Int32) _ _ _ ha0 ha2 G (lv_sub hl [2, 4, 1, 0] rfl) hF
set_option maxRecDepth 100000 in
set_option maxHeartbeats 4000000 in
theorem ct_fr_faultOf (l : Launch) (X : gw_X) (Y : gw_M) (M : gw_M) (a0 : Nat) (v1 : Int32) (a2 : Nat) (ha0 : gc_k a0 = (6, 0)) (ha2 : gc_k a2 = (3, 0)) (z : (Int32 × gw_M)) (hF : fr_faultOf_b0 M a0 v1 a2 = some z) : Met l yy_fr_faultOf ((Cond.code yy_fr_faultOf by_fr_faultOf 11 (some .int)) :: gw_w) rm_fr_faultOf (va_Pc [.ref (gc_a X a0), .int v1, .ref (gc_a X a2)] (gw_B X (gw_E X M Y))) (gw_Qi X (fun M => (gw_E X M Y)) z) 0 0 (gw_A X) := by
  refine Met.ofW (cc := by_fr_faultOf) (maxL := 11) (ret := (some .int)) (by decide) rfl ?_
  intro p e s m args below meth c s₁ B hml hv
  obtain ⟨rfl, hB⟩ := hv
  rw [lg_entry_eq]
  have hl := lv_entry ([.ref (gc_a X a0), .int v1, .ref (gc_a X a2)]) (n := 11) (Nat.le_of_ble_eq_true rfl)
  generalize (lg_sl ([.ref (gc_a X a0), .int v1, .ref (gc_a X a2)]) ++ List.replicate (11 - (lg_sl ([.ref (gc_a X a0), .int v1, .ref (gc_a X a2)])).length) Slot.unset).toArray = ls at hl ⊢
  have hl : lv_has ls 11 [(0, .ref (gc_a X a0)), (1, .int v1), (2, .ref (gc_a X a2))] := hl
  exact wb_fr_faultOf_0 (gw_ctx B hml rfl hB) M a0 v1 a2 _ _ _ ha0 ha2 (gw_start hB) hl hF
/-! AccountMachine$Frame.writeAccount(ILAccountMachine$Ledger;)V -/
abbrev rm_fr_writeAccount : Room := { frames := 1, cells := 0, slots := 0, locals := 20 }
theorem dd_fr_writeAccount_0 : decode by_fr_writeAccount 0 = .ok (.iload_n 1, 1) := by decide +kernel
theorem dd_fr_writeAccount_1 : decode by_fr_writeAccount 1 = .ok (.invokestatic 57, 3) := by decide +kernel
theorem dd_fr_writeAccount_4 : decode by_fr_writeAccount 4 = .ok (.istore_n 3, 1) := by decide +kernel
theorem dd_fr_writeAccount_5 : decode by_fr_writeAccount 5 = .ok (.aload_n 0, 1) := by decide +kernel
theorem dd_fr_writeAccount_6 : decode by_fr_writeAccount 6 = .ok (.getfield 12, 3) := by decide +kernel
theorem dd_fr_writeAccount_9 : decode by_fr_writeAccount 9 = .ok (.getfield 50, 3) := by decide +kernel
theorem dd_fr_writeAccount_12 : decode by_fr_writeAccount 12 = .ok (.iload_n 1, 1) := by decide +kernel
theorem dd_fr_writeAccount_13 : decode by_fr_writeAccount 13 = .ok (.iaload, 1) := by decide +kernel
theorem dd_fr_writeAccount_14 : decode by_fr_writeAccount 14 = .ok (.istore 4, 2) := by decide +kernel
theorem dd_fr_writeAccount_16 : decode by_fr_writeAccount 16 = .ok (.aload_n 2, 1) := by decide +kernel
theorem dd_fr_writeAccount_17 : decode by_fr_writeAccount 17 = .ok (.getfield 71, 3) := by decide +kernel
theorem dd_fr_writeAccount_20 : decode by_fr_writeAccount 20 = .ok (.iload 4, 2) := by decide +kernel
theorem dd_fr_writeAccount_22 : decode by_fr_writeAccount 22 = .ok (.aload_n 0, 1) := by decide +kernel
theorem dd_fr_writeAccount_23 : decode by_fr_writeAccount 23 = .ok (.getfield 22, 3) := by decide +kernel
theorem dd_fr_writeAccount_26 : decode by_fr_writeAccount 26 = .ok (.iload_n 3, 1) := by decide +kernel
theorem dd_fr_writeAccount_27 : decode by_fr_writeAccount 27 = .ok (.iconst 2, 1) := by decide +kernel
theorem dd_fr_writeAccount_28 : decode by_fr_writeAccount 28 = .ok (.iadd, 1) := by decide +kernel
theorem dd_fr_writeAccount_29 : decode by_fr_writeAccount 29 = .ok (.laload, 1) := by decide +kernel
theorem dd_fr_writeAccount_30 : decode by_fr_writeAccount 30 = .ok (.l2i, 1) := by decide +kernel
theorem dd_fr_writeAccount_31 : decode by_fr_writeAccount 31 = .ok (.iastore, 1) := by decide +kernel
theorem dd_fr_writeAccount_32 : decode by_fr_writeAccount 32 = .ok (.aload_n 2, 1) := by decide +kernel
theorem dd_fr_writeAccount_33 : decode by_fr_writeAccount 33 = .ok (.getfield 76, 3) := by decide +kernel
theorem dd_fr_writeAccount_36 : decode by_fr_writeAccount 36 = .ok (.iload 4, 2) := by decide +kernel
theorem dd_fr_writeAccount_38 : decode by_fr_writeAccount 38 = .ok (.aload_n 0, 1) := by decide +kernel
theorem dd_fr_writeAccount_39 : decode by_fr_writeAccount 39 = .ok (.getfield 22, 3) := by decide +kernel
theorem dd_fr_writeAccount_42 : decode by_fr_writeAccount 42 = .ok (.iload_n 3, 1) := by decide +kernel
theorem dd_fr_writeAccount_43 : decode by_fr_writeAccount 43 = .ok (.iconst 3, 1) := by decide +kernel
theorem dd_fr_writeAccount_44 : decode by_fr_writeAccount 44 = .ok (.iadd, 1) := by decide +kernel
theorem dd_fr_writeAccount_45 : decode by_fr_writeAccount 45 = .ok (.laload, 1) := by decide +kernel
theorem dd_fr_writeAccount_46 : decode by_fr_writeAccount 46 = .ok (.l2i, 1) := by decide +kernel
theorem dd_fr_writeAccount_47 : decode by_fr_writeAccount 47 = .ok (.iastore, 1) := by decide +kernel
theorem dd_fr_writeAccount_48 : decode by_fr_writeAccount 48 = .ok (.iconst 0, 1) := by decide +kernel
theorem dd_fr_writeAccount_49 : decode by_fr_writeAccount 49 = .ok (.istore 5, 2) := by decide +kernel
theorem dd_fr_writeAccount_51 : decode by_fr_writeAccount 51 = .ok (.iload 5, 2) := by decide +kernel
theorem dd_fr_writeAccount_53 : decode by_fr_writeAccount 53 = .ok (.iconst 4, 1) := by decide +kernel
theorem dd_fr_writeAccount_54 : decode by_fr_writeAccount 54 = .ok (.if_icmp .ge 33, 3) := by decide +kernel
theorem dd_fr_writeAccount_57 : decode by_fr_writeAccount 57 = .ok (.aload_n 2, 1) := by decide +kernel
theorem dd_fr_writeAccount_58 : decode by_fr_writeAccount 58 = .ok (.getfield 82, 3) := by decide +kernel
theorem dd_fr_writeAccount_61 : decode by_fr_writeAccount 61 = .ok (.iload 4, 2) := by decide +kernel
theorem dd_fr_writeAccount_63 : decode by_fr_writeAccount 63 = .ok (.iconst 4, 1) := by decide +kernel
theorem dd_fr_writeAccount_64 : decode by_fr_writeAccount 64 = .ok (.imul, 1) := by decide +kernel
theorem dd_fr_writeAccount_65 : decode by_fr_writeAccount 65 = .ok (.iload 5, 2) := by decide +kernel
theorem dd_fr_writeAccount_67 : decode by_fr_writeAccount 67 = .ok (.iadd, 1) := by decide +kernel
theorem dd_fr_writeAccount_68 : decode by_fr_writeAccount 68 = .ok (.aload_n 0, 1) := by decide +kernel
theorem dd_fr_writeAccount_69 : decode by_fr_writeAccount 69 = .ok (.getfield 22, 3) := by decide +kernel
theorem dd_fr_writeAccount_72 : decode by_fr_writeAccount 72 = .ok (.iload_n 3, 1) := by decide +kernel
theorem dd_fr_writeAccount_73 : decode by_fr_writeAccount 73 = .ok (.iconst 5, 1) := by decide +kernel
theorem dd_fr_writeAccount_74 : decode by_fr_writeAccount 74 = .ok (.iadd, 1) := by decide +kernel
theorem dd_fr_writeAccount_75 : decode by_fr_writeAccount 75 = .ok (.iload 5, 2) := by decide +kernel
theorem dd_fr_writeAccount_77 : decode by_fr_writeAccount 77 = .ok (.iadd, 1) := by decide +kernel
theorem dd_fr_writeAccount_78 : decode by_fr_writeAccount 78 = .ok (.laload, 1) := by decide +kernel
theorem dd_fr_writeAccount_79 : decode by_fr_writeAccount 79 = .ok (.l2i, 1) := by decide +kernel
theorem dd_fr_writeAccount_80 : decode by_fr_writeAccount 80 = .ok (.iastore, 1) := by decide +kernel
theorem dd_fr_writeAccount_81 : decode by_fr_writeAccount 81 = .ok (.iinc 5 1, 3) := by decide +kernel
theorem dd_fr_writeAccount_84 : decode by_fr_writeAccount 84 = .ok (.goto (-33), 3) := by decide +kernel
theorem dd_fr_writeAccount_87 : decode by_fr_writeAccount 87 = .ok (.return_, 1) := by decide +kernel
def fr_writeAccount_b51 (K51 : gw_M → Nat → Nat → Int32 → Int32 → Int32 → Option (Unit × gw_M)) (M : gw_M) (a0 : Nat) (a2 : Nat) (v3 : Int32) (v4 : Int32) (v5 : Int32) : Option (Unit × gw_M) :=
  if (4 : Int32) ≤ v5 then (some ((), M)) else (gw_gu (gw_in ((v3 + (5 : Int32)) + v5) 56) (gw_gu (gw_in ((v4 * (4 : Int32)) + v5) 32) (gw_lt (gw_sI M (a2 + 4) (((v4 * (4 : Int32)) + v5).toNatClampNeg) ((M.2 (a0 + 5) (((v3 + (5 : Int32)) + v5).toNatClampNeg)).toInt32)) (fun M80 => K51 M80 a0 a2 v3 v4 (v5 + (1 : Int32))))))
def fr_writeAccount_l51 : Nat → gw_M → Nat → Nat → Int32 → Int32 → Int32 → Option (Unit × gw_M)
  | 0 => fun _ _ _ _ _ _ => none
  | n + 1 => fr_writeAccount_b51  (fr_writeAccount_l51  n)
def fr_writeAccount_b0 (M : gw_M) (a0 : Nat) (v1 : Int32) (a2 : Nat) : Option (Unit × gw_M) :=
  gw_bd (fr_baseOf_b0 M v1) (fun r1 M1 => gw_gu (gw_in v1 4) (gw_lt (M1.1 ((a0 + 1) + 1) v1.toNatClampNeg) (fun x14 => gw_gu (gw_in (r1 + (2 : Int32)) 56) (gw_gu (gw_in x14 8) (gw_lt (gw_sI M1 (a2 + 2) x14.toNatClampNeg ((M1.2 (a0 + 5) ((r1 + (2 : Int32)).toNatClampNeg)).toInt32)) (fun M31 => gw_gu (gw_in (r1 + (3 : Int32)) 56) (gw_gu (gw_in x14 8) (gw_lt (gw_sI M31 (a2 + 1) x14.toNatClampNeg ((M31.2 (a0 + 5) ((r1 + (3 : Int32)).toNatClampNeg)).toInt32)) (fun M47 => fr_writeAccount_l51  2100 M47 a0 a2 r1 x14 (0 : Int32))))))))))
set_option maxRecDepth 100000 in
set_option maxHeartbeats 4000000 in
theorem wb_fr_writeAccount_51 {p : Program} {l : Launch} {e : Env} {s : State} {m : MethodId} {args : Array Value} {below : List Frame} {meth : Method} {c : Code} {X : gw_X} {Y : gw_M} {z : (Unit × gw_M)} (C0 : gw_C ((Cond.code yy_fr_writeAccount by_fr_writeAccount 6 none) :: gw_w) by_fr_writeAccount 6 none "AccountMachine$Frame" X p s m args meth c) {K51 : gw_M → Nat → Nat → Int32 → Int32 → Int32 → Option (Unit × gw_M)} (hK51 : ∀ (M : gw_M) (a0 : Nat) (a2 : Nat) (v3 : Int32) (v4 : Int32) (v5 : Int32) (H : Heap) (locs : List Loc) (ls : Array Slot), gc_k a0 = (6, 0) → gc_k a2 = (3, 0) → gw_G X (gw_E X M Y) s H locs → lv_has ls 6 [(0, .ref (gc_a X a0)), (2, .ref (gc_a X a2)), (3, .int v3), (4, .int v4), (5, .int v5)] → K51 M a0 a2 v3 v4 v5 = some z → W p l e rm_fr_writeAccount s m args below meth c H locs 0 0 (MQ below (gw_Qv X (fun M => (gw_E X M Y)) z) args s 0 0 (gw_A X)) (F0 m 51 ls [])) (M : gw_M) (a0 : Nat) (a2 : Nat) (v3 : Int32) (v4 : Int32) (v5 : Int32) (H : Heap) (locs : List Loc) (ls : Array Slot) (ha0 : gc_k a0 = (6, 0)) (ha2 : gc_k a2 = (3, 0)) (G : gw_G X (gw_E X M Y) s H locs) (hl : lv_has ls 6 [(0, .ref (gc_a X a0)), (2, .ref (gc_a X a2)), (3, .int v3), (4, .int v4), (5, .int v5)]) (hF : fr_writeAccount_b51 K51 M a0 a2 v3 v4 v5 = some z) : W p l e rm_fr_writeAccount s m args below meth c H locs 0 0 (MQ below (gw_Qv X (fun M => (gw_E X M Y)) z) args s 0 0 (gw_A X)) (F0 m 51 ls []) := by
  obtain ⟨hx, hb, hml, hown, hts, hr, hlocks, hK⟩ := id C0
  have hg : ∀ w ∈ gw_w, w.before args s = true := fun w h => hts w (List.mem_cons_of_mem _ h)
  unfold fr_writeAccount_b51 at hF
  refine lv_iload hx hb dd_fr_writeAccount_51 (lv_at hl 4 rfl) ?_
  refine lv_iconst (v := (4 : Int32)) hx hb dd_fr_writeAccount_53 (by decide) ?_
  refine lv_icmp_ge (tgt := 87) hx hb dd_fr_writeAccount_54 (by decide) (fun h54 => ?_) (fun h54 => ?_)
  · replace hF := gw_et h54 hF
    exact W.vret hx hb hr (fun t ht hW => gw_endv (EF := (fun M => (gw_E X M Y))) (M := M) G ht hF) G.2.2.2.2 dd_fr_writeAccount_87 hlocks
  · replace hF := gw_ef h54 hF
    refine lv_aload_n hx hb dd_fr_writeAccount_57 rfl (lv_at hl 1 rfl) ?_
    refine gn_le_words hx hb hg hown (gw_nw hK kn_0) hK G ha2 dd_fr_writeAccount_58 ?_
    refine lv_iload hx hb dd_fr_writeAccount_61 (lv_at hl 3 rfl) ?_
    refine lv_iconst (v := (4 : Int32)) hx hb dd_fr_writeAccount_63 (by decide) ?_
    refine lv_imul hx hb dd_fr_writeAccount_64 ?_
    refine lv_iload hx hb dd_fr_writeAccount_65 (lv_at hl 4 rfl) ?_
    refine lv_iadd hx hb dd_fr_writeAccount_67 ?_
    refine lv_aload_n hx hb dd_fr_writeAccount_68 rfl (lv_at hl 0 rfl) ?_
    refine gf_fr_memory hx hb hg hown (hg _ kw_3) hK G ha0 dd_fr_writeAccount_69 ?_
    refine W.eq (g2 := F0 m 72 _ _) rfl ?_
    refine lv_iload_n hx hb dd_fr_writeAccount_72 rfl (lv_at hl 2 rfl) ?_
    refine lv_iconst (v := (5 : Int32)) hx hb dd_fr_writeAccount_73 (by decide) ?_
    refine lv_iadd hx hb dd_fr_writeAccount_74 ?_
    refine lv_iload hx hb dd_fr_writeAccount_75 (lv_at hl 4 rfl) ?_
    refine lv_iadd hx hb dd_fr_writeAccount_77 ?_
    obtain ⟨h78, hF⟩ := gw_gd hF
    refine gc_lald hx hb hK G (gq_fr_memory ha0) (gw_vp h78) (j := ((v3 + (5 : Int32)) + v5).toNatClampNeg) rfl dd_fr_writeAccount_78 ?_
    refine lv_l2i (v := (M.2 (a0 + 5) (((v3 + (5 : Int32)) + v5).toNatClampNeg)).toInt32) hx hb dd_fr_writeAccount_79 rfl ?_
    obtain ⟨h80, hF⟩ := gw_gd hF
    refine gc_iast hx hb hK G (gq_le_words ha2) (gw_vp h80) (j := ((v4 * (4 : Int32)) + v5).toNatClampNeg) rfl dd_fr_writeAccount_80 (fun M80 H locs e80 G => ?_)
    replace hF := gw_ly e80 hF
    refine lv_iinc (k := 4) (v := v5 + (1 : Int32)) (lv' := [(5, .int (v5 + (1 : Int32))), (0, .ref (gc_a X a0)), (2, .ref (gc_a X a2)), (3, .int v3), (4, .int v4)]) hx hb dd_fr_writeAccount_81 hl rfl rfl (by decide) rfl (fun ls hl => ?_)
    refine lv_goto (tgt := 51) hx hb dd_fr_writeAccount_84 (by decide) ?_
    exact hK51 M80 a0 a2 v3 v4 (v5 + (1 : Int32)) _ _ _ ha0 ha2 G (lv_sub hl [1, 2, 3, 4, 0] rfl) hF
theorem wl_fr_writeAccount_51 {p : Program} {l : Launch} {e : Env} {s : State} {m : MethodId} {args : Array Value} {below : List Frame} {meth : Method} {c : Code} {X : gw_X} {Y : gw_M} {z : (Unit × gw_M)} (C0 : gw_C ((Cond.code yy_fr_writeAccount by_fr_writeAccount 6 none) :: gw_w) by_fr_writeAccount 6 none "AccountMachine$Frame" X p s m args meth c) : ∀ n : Nat, ∀ (M : gw_M) (a0 : Nat) (a2 : Nat) (v3 : Int32) (v4 : Int32) (v5 : Int32) (H : Heap) (locs : List Loc) (ls : Array Slot), gc_k a0 = (6, 0) → gc_k a2 = (3, 0) → gw_G X (gw_E X M Y) s H locs → lv_has ls 6 [(0, .ref (gc_a X a0)), (2, .ref (gc_a X a2)), (3, .int v3), (4, .int v4), (5, .int v5)] → fr_writeAccount_l51  n M a0 a2 v3 v4 v5 = some z → W p l e rm_fr_writeAccount s m args below meth c H locs 0 0 (MQ below (gw_Qv X (fun M => (gw_E X M Y)) z) args s 0 0 (gw_A X)) (F0 m 51 ls []) := by
  intro n
  induction n with
  | zero =>
    intro M a0 a2 v3 v4 v5 H locs ls ha0 ha2 G hl hF
    have hF : (none : Option (Unit × gw_M)) = some z := hF
    cases hF
  | succ n ih =>
    intro M a0 a2 v3 v4 v5 H locs ls ha0 ha2 G hl hF
    exact wb_fr_writeAccount_51 C0  ih M a0 a2 v3 v4 v5 H locs ls ha0 ha2 G hl hF
set_option maxRecDepth 100000 in
set_option maxHeartbeats 4000000 in
theorem wb_fr_writeAccount_0 {p : Program} {l : Launch} {e : Env} {s : State} {m : MethodId} {args : Array Value} {below : List Frame} {meth : Method} {c : Code} {X : gw_X} {Y : gw_M} {z : (Unit × gw_M)} (C0 : gw_C ((Cond.code yy_fr_writeAccount by_fr_writeAccount 6 none) :: gw_w) by_fr_writeAccount 6 none "AccountMachine$Frame" X p s m args meth c) (M : gw_M) (a0 : Nat) (v1 : Int32) (a2 : Nat) (H : Heap) (locs : List Loc) (ls : Array Slot) (ha0 : gc_k a0 = (6, 0)) (ha2 : gc_k a2 = (3, 0)) (G : gw_G X (gw_E X M Y) s H locs) (hl : lv_has ls 6 [(0, .ref (gc_a X a0)), (1, .int v1), (2, .ref (gc_a X a2))]) (hF : fr_writeAccount_b0  M a0 v1 a2 = some z) : W p l e rm_fr_writeAccount s m args below meth c H locs 0 0 (MQ below (gw_Qv X (fun M => (gw_E X M Y)) z) args s 0 0 (gw_A X)) (F0 m 0 ls []) := by
  obtain ⟨hx, hb, hml, hown, hts, hr, hlocks, hK⟩ := id C0
  have hg : ∀ w ∈ gw_w, w.before args s = true := fun w h => hts w (List.mem_cons_of_mem _ h)
  unfold fr_writeAccount_b0 at hF
  refine lv_iload_n hx hb dd_fr_writeAccount_0 rfl (lv_at hl 1 rfl) ?_
  obtain ⟨r1, M1, hc1, hF⟩ := gw_be hF
  refine gw_ci G (va_runS (As := [.int v1]) (rest := []) ⟨hx, hb, hml, hown, hts⟩ (ct_fr_baseOf l X Y M v1  _ hc1) (cwS 1 hts (gw_gS kw_6 kw_7 kw_8 kw_5) rfl rfl rfl (by decide +kernel) ⟨Nat.le_of_ble_eq_true rfl, Nat.le_of_ble_eq_true rfl⟩) ⟨gw_blind, gw_pre hK G⟩ rfl rfl hl.1 rfl (Nat.le_of_ble_eq_true rfl) dd_fr_writeAccount_1 ⟨Nat.le_of_ble_eq_true rfl, Nat.le_of_ble_eq_true rfl⟩) (fun H locs G => ?_)
  refine lv_istore_n (i := 3) (lv' := [(3, .int r1), (0, .ref (gc_a X a0)), (1, .int v1), (2, .ref (gc_a X a2))]) hx hb dd_fr_writeAccount_4 rfl hl (by decide) rfl (fun ls hl => ?_)
  refine lv_aload_n hx hb dd_fr_writeAccount_5 rfl (lv_at hl 1 rfl) ?_
  refine gf_fr_order hx hb hg hown (hg _ kw_4) hK G ha0 dd_fr_writeAccount_6 ?_
  refine gn_od_accounts hx hb hg hown (gw_nw hK kn_2) hK G (gq_fr_order ha0) dd_fr_writeAccount_9 ?_
  refine lv_iload_n hx hb dd_fr_writeAccount_12 rfl (lv_at hl 2 rfl) ?_
  obtain ⟨h13, hF⟩ := gw_gd hF
  refine gc_iald hx hb hK G (gq_od_accounts (gq_fr_order ha0)) (gw_vp h13) (j := v1.toNatClampNeg) rfl dd_fr_writeAccount_13 ?_
  refine lv_topi (fun x14 e14 => ?_)
  replace hF := gw_ly e14 hF
  refine lv_istore (i := 4) (lv' := [(4, .int x14), (3, .int r1), (0, .ref (gc_a X a0)), (1, .int v1), (2, .ref (gc_a X a2))]) hx hb dd_fr_writeAccount_14 hl (by decide) rfl (fun ls hl => ?_)
  refine W.eq (g2 := F0 m 16 _ _) rfl ?_
  refine lv_aload_n hx hb dd_fr_writeAccount_16 rfl (lv_at hl 4 rfl) ?_
  refine gn_le_owners hx hb hg hown (gw_nw hK kn_3) hK G ha2 dd_fr_writeAccount_17 ?_
  refine lv_iload hx hb dd_fr_writeAccount_20 (lv_at hl 0 rfl) ?_
  refine lv_aload_n hx hb dd_fr_writeAccount_22 rfl (lv_at hl 2 rfl) ?_
  refine gf_fr_memory hx hb hg hown (hg _ kw_3) hK G ha0 dd_fr_writeAccount_23 ?_
  refine lv_iload_n hx hb dd_fr_writeAccount_26 rfl (lv_at hl 1 rfl) ?_
  refine lv_iconst (v := (2 : Int32)) hx hb dd_fr_writeAccount_27 (by decide) ?_
  refine lv_iadd hx hb dd_fr_writeAccount_28 ?_
  obtain ⟨h29, hF⟩ := gw_gd hF
  refine gc_lald hx hb hK G (gq_fr_memory ha0) (gw_vp h29) (j := (r1 + (2 : Int32)).toNatClampNeg) rfl dd_fr_writeAccount_29 ?_
  refine lv_l2i (v := (M1.2 (a0 + 5) ((r1 + (2 : Int32)).toNatClampNeg)).toInt32) hx hb dd_fr_writeAccount_30 rfl ?_
  refine W.eq (g2 := F0 m 31 _ _) rfl ?_
  obtain ⟨h31, hF⟩ := gw_gd hF
  refine gc_iast hx hb hK G (gq_le_owners ha2) (gw_vp h31) (j := x14.toNatClampNeg) rfl dd_fr_writeAccount_31 (fun M31 H locs e31 G => ?_)
  replace hF := gw_ly e31 hF
  refine lv_aload_n hx hb dd_fr_writeAccount_32 rfl (lv_at hl 4 rfl) ?_
  refine gn_le_balances hx hb hg hown (gw_nw hK kn_4) hK G ha2 dd_fr_writeAccount_33 ?_
  refine lv_iload hx hb dd_fr_writeAccount_36 (lv_at hl 0 rfl) ?_
  refine lv_aload_n hx hb dd_fr_writeAccount_38 rfl (lv_at hl 2 rfl) ?_
  refine gf_fr_memory hx hb hg hown (hg _ kw_3) hK G ha0 dd_fr_writeAccount_39 ?_
  refine lv_iload_n hx hb dd_fr_writeAccount_42 rfl (lv_at hl 1 rfl) ?_
  refine lv_iconst (v := (3 : Int32)) hx hb dd_fr_writeAccount_43 (by decide) ?_
  refine lv_iadd hx hb dd_fr_writeAccount_44 ?_
  obtain ⟨h45, hF⟩ := gw_gd hF
  refine gc_lald hx hb hK G (gq_fr_memory ha0) (gw_vp h45) (j := (r1 + (3 : Int32)).toNatClampNeg) rfl dd_fr_writeAccount_45 ?_
  refine W.eq (g2 := F0 m 46 _ _) rfl ?_
  refine lv_l2i (v := (M31.2 (a0 + 5) ((r1 + (3 : Int32)).toNatClampNeg)).toInt32) hx hb dd_fr_writeAccount_46 rfl ?_
  obtain ⟨h47, hF⟩ := gw_gd hF
  refine gc_iast hx hb hK G (gq_le_balances ha2) (gw_vp h47) (j := x14.toNatClampNeg) rfl dd_fr_writeAccount_47 (fun M47 H locs e47 G => ?_)
  replace hF := gw_ly e47 hF
  refine lv_iconst (v := (0 : Int32)) hx hb dd_fr_writeAccount_48 (by decide) ?_
  refine lv_istore (i := 5) (lv' := [(5, .int (0 : Int32)), (4, .int x14), (3, .int r1), (0, .ref (gc_a X a0)), (1, .int v1), (2, .ref (gc_a X a2))]) hx hb dd_fr_writeAccount_49 hl (by decide) rfl (fun ls hl => ?_)
  exact wl_fr_writeAccount_51 C0  2100 M47 a0 a2 r1 x14 (0 : Int32) _ _ _ ha0 ha2 G (lv_sub hl [3, 5, 2, 1, 0] rfl) hF
set_option maxRecDepth 100000 in
set_option maxHeartbeats 4000000 in
theorem ct_fr_writeAccount (l : Launch) (X : gw_X) (Y : gw_M) (M : gw_M) (a0 : Nat) (v1 : Int32) (a2 : Nat) (ha0 : gc_k a0 = (6, 0)) (ha2 : gc_k a2 = (3, 0)) (z : (Unit × gw_M)) (hF : fr_writeAccount_b0 M a0 v1 a2 = some z) : Met l yy_fr_writeAccount ((Cond.code yy_fr_writeAccount by_fr_writeAccount 6 none) :: gw_w) rm_fr_writeAccount (va_Pc [.ref (gc_a X a0), .int v1, .ref (gc_a X a2)] (gw_B X (gw_E X M Y))) (gw_Qv X (fun M => (gw_E X M Y)) z) 0 0 (gw_A X) := by
  refine Met.ofW (cc := by_fr_writeAccount) (maxL := 6) (ret := none) (by decide) rfl ?_
  intro p e s m args below meth c s₁ B hml hv
  obtain ⟨rfl, hB⟩ := hv
  rw [lg_entry_eq]
  have hl := lv_entry ([.ref (gc_a X a0), .int v1, .ref (gc_a X a2)]) (n := 6) (Nat.le_of_ble_eq_true rfl)
  generalize (lg_sl ([.ref (gc_a X a0), .int v1, .ref (gc_a X a2)]) ++ List.replicate (6 - (lg_sl ([.ref (gc_a X a0), .int v1, .ref (gc_a X a2)])).length) Slot.unset).toArray = ls at hl ⊢
  have hl : lv_has ls 6 [(0, .ref (gc_a X a0)), (1, .int v1), (2, .ref (gc_a X a2))] := hl
  exact wb_fr_writeAccount_0 (gw_ctx B hml rfl hB) M a0 v1 a2 _ _ _ ha0 ha2 (gw_start hB) hl hF
/-! AccountMachine$Frame.handBack(LAccountMachine$Ledger;)I -/
abbrev rm_fr_handBack : Room := { frames := 2, cells := 0, slots := 0, locals := 54 }
theorem dd_fr_handBack_0 : decode by_fr_handBack 0 = .ok (.lconst 0, 1) := by decide +kernel
theorem dd_fr_handBack_1 : decode by_fr_handBack 1 = .ok (.lstore_n 2, 1) := by decide +kernel
theorem dd_fr_handBack_2 : decode by_fr_handBack 2 = .ok (.iconst 0, 1) := by decide +kernel
theorem dd_fr_handBack_3 : decode by_fr_handBack 3 = .ok (.istore 4, 2) := by decide +kernel
theorem dd_fr_handBack_5 : decode by_fr_handBack 5 = .ok (.iload 4, 2) := by decide +kernel
theorem dd_fr_handBack_7 : decode by_fr_handBack 7 = .ok (.aload_n 0, 1) := by decide +kernel
theorem dd_fr_handBack_8 : decode by_fr_handBack 8 = .ok (.getfield 12, 3) := by decide +kernel
theorem dd_fr_handBack_11 : decode by_fr_handBack 11 = .ok (.getfield 44, 3) := by decide +kernel
theorem dd_fr_handBack_14 : decode by_fr_handBack 14 = .ok (.if_icmp .ge 70, 3) := by decide +kernel
theorem dd_fr_handBack_17 : decode by_fr_handBack 17 = .ok (.aload_n 0, 1) := by decide +kernel
theorem dd_fr_handBack_18 : decode by_fr_handBack 18 = .ok (.iload 4, 2) := by decide +kernel
theorem dd_fr_handBack_20 : decode by_fr_handBack 20 = .ok (.invokestatic 57, 3) := by decide +kernel
theorem dd_fr_handBack_23 : decode by_fr_handBack 23 = .ok (.invokevirtual 67, 3) := by decide +kernel
theorem dd_fr_handBack_26 : decode by_fr_handBack 26 = .ok (.ifCond .eq 52, 3) := by decide +kernel
theorem dd_fr_handBack_29 : decode by_fr_handBack 29 = .ok (.aload_n 0, 1) := by decide +kernel
theorem dd_fr_handBack_30 : decode by_fr_handBack 30 = .ok (.iload 4, 2) := by decide +kernel
theorem dd_fr_handBack_32 : decode by_fr_handBack 32 = .ok (.aload_n 1, 1) := by decide +kernel
theorem dd_fr_handBack_33 : decode by_fr_handBack 33 = .ok (.invokevirtual 115, 3) := by decide +kernel
theorem dd_fr_handBack_36 : decode by_fr_handBack 36 = .ok (.istore 5, 2) := by decide +kernel
theorem dd_fr_handBack_38 : decode by_fr_handBack 38 = .ok (.iload 5, 2) := by decide +kernel
theorem dd_fr_handBack_40 : decode by_fr_handBack 40 = .ok (.ifCond .eq 6, 3) := by decide +kernel
theorem dd_fr_handBack_43 : decode by_fr_handBack 43 = .ok (.iload 5, 2) := by decide +kernel
theorem dd_fr_handBack_45 : decode by_fr_handBack 45 = .ok (.ireturn, 1) := by decide +kernel
theorem dd_fr_handBack_46 : decode by_fr_handBack 46 = .ok (.lload_n 2, 1) := by decide +kernel
theorem dd_fr_handBack_47 : decode by_fr_handBack 47 = .ok (.aload_n 0, 1) := by decide +kernel
theorem dd_fr_handBack_48 : decode by_fr_handBack 48 = .ok (.getfield 22, 3) := by decide +kernel
theorem dd_fr_handBack_51 : decode by_fr_handBack 51 = .ok (.iload 4, 2) := by decide +kernel
theorem dd_fr_handBack_53 : decode by_fr_handBack 53 = .ok (.invokestatic 57, 3) := by decide +kernel
theorem dd_fr_handBack_56 : decode by_fr_handBack 56 = .ok (.iconst 3, 1) := by decide +kernel
theorem dd_fr_handBack_57 : decode by_fr_handBack 57 = .ok (.iadd, 1) := by decide +kernel
theorem dd_fr_handBack_58 : decode by_fr_handBack 58 = .ok (.laload, 1) := by decide +kernel
theorem dd_fr_handBack_59 : decode by_fr_handBack 59 = .ok (.aload_n 1, 1) := by decide +kernel
theorem dd_fr_handBack_60 : decode by_fr_handBack 60 = .ok (.getfield 76, 3) := by decide +kernel
theorem dd_fr_handBack_63 : decode by_fr_handBack 63 = .ok (.aload_n 0, 1) := by decide +kernel
theorem dd_fr_handBack_64 : decode by_fr_handBack 64 = .ok (.getfield 12, 3) := by decide +kernel
theorem dd_fr_handBack_67 : decode by_fr_handBack 67 = .ok (.getfield 50, 3) := by decide +kernel
theorem dd_fr_handBack_70 : decode by_fr_handBack 70 = .ok (.iload 4, 2) := by decide +kernel
theorem dd_fr_handBack_72 : decode by_fr_handBack 72 = .ok (.iaload, 1) := by decide +kernel
theorem dd_fr_handBack_73 : decode by_fr_handBack 73 = .ok (.iaload, 1) := by decide +kernel
theorem dd_fr_handBack_74 : decode by_fr_handBack 74 = .ok (.i2l, 1) := by decide +kernel
theorem dd_fr_handBack_75 : decode by_fr_handBack 75 = .ok (.lsub, 1) := by decide +kernel
theorem dd_fr_handBack_76 : decode by_fr_handBack 76 = .ok (.ladd, 1) := by decide +kernel
theorem dd_fr_handBack_77 : decode by_fr_handBack 77 = .ok (.lstore_n 2, 1) := by decide +kernel
theorem dd_fr_handBack_78 : decode by_fr_handBack 78 = .ok (.iinc 4 1, 3) := by decide +kernel
theorem dd_fr_handBack_81 : decode by_fr_handBack 81 = .ok (.goto (-76), 3) := by decide +kernel
theorem dd_fr_handBack_84 : decode by_fr_handBack 84 = .ok (.lload_n 2, 1) := by decide +kernel
theorem dd_fr_handBack_85 : decode by_fr_handBack 85 = .ok (.lconst 0, 1) := by decide +kernel
theorem dd_fr_handBack_86 : decode by_fr_handBack 86 = .ok (.lcmp, 1) := by decide +kernel
theorem dd_fr_handBack_87 : decode by_fr_handBack 87 = .ok (.ifCond .eq 6, 3) := by decide +kernel
theorem dd_fr_handBack_90 : decode by_fr_handBack 90 = .ok (.bipush 8, 2) := by decide +kernel
theorem dd_fr_handBack_92 : decode by_fr_handBack 92 = .ok (.ireturn, 1) := by decide +kernel
theorem dd_fr_handBack_93 : decode by_fr_handBack 93 = .ok (.iconst 0, 1) := by decide +kernel
theorem dd_fr_handBack_94 : decode by_fr_handBack 94 = .ok (.istore 4, 2) := by decide +kernel
theorem dd_fr_handBack_96 : decode by_fr_handBack 96 = .ok (.iload 4, 2) := by decide +kernel
theorem dd_fr_handBack_98 : decode by_fr_handBack 98 = .ok (.aload_n 0, 1) := by decide +kernel
theorem dd_fr_handBack_99 : decode by_fr_handBack 99 = .ok (.getfield 12, 3) := by decide +kernel
theorem dd_fr_handBack_102 : decode by_fr_handBack 102 = .ok (.getfield 44, 3) := by decide +kernel
theorem dd_fr_handBack_105 : decode by_fr_handBack 105 = .ok (.if_icmp .ge 28, 3) := by decide +kernel
theorem dd_fr_handBack_108 : decode by_fr_handBack 108 = .ok (.aload_n 0, 1) := by decide +kernel
theorem dd_fr_handBack_109 : decode by_fr_handBack 109 = .ok (.iload 4, 2) := by decide +kernel
theorem dd_fr_handBack_111 : decode by_fr_handBack 111 = .ok (.invokestatic 57, 3) := by decide +kernel
theorem dd_fr_handBack_114 : decode by_fr_handBack 114 = .ok (.invokevirtual 67, 3) := by decide +kernel
theorem dd_fr_handBack_117 : decode by_fr_handBack 117 = .ok (.ifCond .eq 10, 3) := by decide +kernel
theorem dd_fr_handBack_120 : decode by_fr_handBack 120 = .ok (.aload_n 0, 1) := by decide +kernel
theorem dd_fr_handBack_121 : decode by_fr_handBack 121 = .ok (.iload 4, 2) := by decide +kernel
theorem dd_fr_handBack_123 : decode by_fr_handBack 123 = .ok (.aload_n 1, 1) := by decide +kernel
theorem dd_fr_handBack_124 : decode by_fr_handBack 124 = .ok (.invokevirtual 119, 3) := by decide +kernel
theorem dd_fr_handBack_127 : decode by_fr_handBack 127 = .ok (.iinc 4 1, 3) := by decide +kernel
theorem dd_fr_handBack_130 : decode by_fr_handBack 130 = .ok (.goto (-34), 3) := by decide +kernel
theorem dd_fr_handBack_133 : decode by_fr_handBack 133 = .ok (.iconst 0, 1) := by decide +kernel
theorem dd_fr_handBack_134 : decode by_fr_handBack 134 = .ok (.ireturn, 1) := by decide +kernel
def fr_handBack_b127 (K96 : gw_M → Nat → Nat → Int32 → Option (Int32 × gw_M)) (M : gw_M) (a0 : Nat) (a1 : Nat) (v4 : Int32) : Option (Int32 × gw_M) :=
  K96 M a0 a1 (v4 + (1 : Int32))
def fr_handBack_b96 (K96 : gw_M → Nat → Nat → Int32 → Option (Int32 × gw_M)) (M : gw_M) (a0 : Nat) (a1 : Nat) (v4 : Int32) : Option (Int32 × gw_M) :=
  if (M.1 (a0 + 1) 2) ≤ v4 then (some ((0 : Int32), M)) else (gw_bd (fr_baseOf_b0 M v4) (fun r111 M111 => gw_bd (fr_isMain_b0 M111 a0 r111) (fun r114 M114 => if r114 = (0 : Int32) then (fr_handBack_b127 K96 M114 a0 a1 v4) else (gw_bd (fr_writeAccount_b0 M114 a0 v4 a1) (fun _ M124 => fr_handBack_b127 K96 M124 a0 a1 v4)))))
def fr_handBack_l96 : Nat → gw_M → Nat → Nat → Int32 → Option (Int32 × gw_M)
  | 0 => fun _ _ _ _ => none
  | n + 1 => fr_handBack_b96  (fr_handBack_l96  n)
def fr_handBack_b78 (K5 : gw_M → Nat → Nat → Int64 → Int32 → Option (Int32 × gw_M)) (M : gw_M) (a0 : Nat) (a1 : Nat) (v2 : Int64) (v4 : Int32) : Option (Int32 × gw_M) :=
  K5 M a0 a1 v2 (v4 + (1 : Int32))
def fr_handBack_b5 (K5 : gw_M → Nat → Nat → Int64 → Int32 → Option (Int32 × gw_M)) (M : gw_M) (a0 : Nat) (a1 : Nat) (v2 : Int64) (v4 : Int32) : Option (Int32 × gw_M) :=
  if (M.1 (a0 + 1) 2) ≤ v4 then (if (lg_cmp v2 (0 : Int64)) = (0 : Int32) then (fr_handBack_l96  2100 M a0 a1 (0 : Int32)) else (some ((8 : Int32), M))) else (gw_bd (fr_baseOf_b0 M v4) (fun r20 M20 => gw_bd (fr_isMain_b0 M20 a0 r20) (fun r23 M23 => if r23 = (0 : Int32) then (fr_handBack_b78 K5 M23 a0 a1 v2 v4) else (gw_bd (fr_faultOf_b0 M23 a0 v4 a1) (fun r33 M33 => if r33 = (0 : Int32) then (gw_bd (fr_baseOf_b0 M33 v4) (fun r53 M53 => gw_gu (gw_in (r53 + (3 : Int32)) 56) (gw_gu (gw_in v4 4) (gw_gu (gw_in (M53.1 ((a0 + 1) + 1) v4.toNatClampNeg) 8) (gw_lt (v2 + ((M53.2 (a0 + 5) ((r53 + (3 : Int32)).toNatClampNeg)) - ((M53.1 (a1 + 1) ((M53.1 ((a0 + 1) + 1) v4.toNatClampNeg).toNatClampNeg)).toInt64))) (fun x77 => fr_handBack_b78 K5 M53 a0 a1 x77 v4)))))) else (some (r33, M33)))))))
def fr_handBack_l5 : Nat → gw_M → Nat → Nat → Int64 → Int32 → Option (Int32 × gw_M)
  | 0 => fun _ _ _ _ _ => none
  | n + 1 => fr_handBack_b5  (fr_handBack_l5  n)
def fr_handBack_b0 (M : gw_M) (a0 : Nat) (a1 : Nat) : Option (Int32 × gw_M) :=
  fr_handBack_l5  2100 M a0 a1 (0 : Int64) (0 : Int32)
set_option maxRecDepth 100000 in
set_option maxHeartbeats 4000000 in
theorem wb_fr_handBack_127 {p : Program} {l : Launch} {e : Env} {s : State} {m : MethodId} {args : Array Value} {below : List Frame} {meth : Method} {c : Code} {X : gw_X} {Y : gw_M} {z : (Int32 × gw_M)} (C0 : gw_C ((Cond.code yy_fr_handBack by_fr_handBack 6 (some .int)) :: gw_w) by_fr_handBack 6 (some .int) "AccountMachine$Frame" X p s m args meth c) {K96 : gw_M → Nat → Nat → Int32 → Option (Int32 × gw_M)} (hK96 : ∀ (M : gw_M) (a0 : Nat) (a1 : Nat) (v4 : Int32) (H : Heap) (locs : List Loc) (ls : Array Slot), gc_k a0 = (6, 0) → gc_k a1 = (3, 0) → gw_G X (gw_E X M Y) s H locs → lv_has ls 6 [(0, .ref (gc_a X a0)), (1, .ref (gc_a X a1)), (4, .int v4)] → K96 M a0 a1 v4 = some z → W p l e rm_fr_handBack s m args below meth c H locs 0 0 (MQ below (gw_Qi X (fun M => (gw_E X M Y)) z) args s 0 0 (gw_A X)) (F0 m 96 ls [])) (M : gw_M) (a0 : Nat) (a1 : Nat) (v4 : Int32) (H : Heap) (locs : List Loc) (ls : Array Slot) (ha0 : gc_k a0 = (6, 0)) (ha1 : gc_k a1 = (3, 0)) (G : gw_G X (gw_E X M Y) s H locs) (hl : lv_has ls 6 [(0, .ref (gc_a X a0)), (1, .ref (gc_a X a1)), (4, .int v4)]) (hF : fr_handBack_b127 K96 M a0 a1 v4 = some z) : W p l e rm_fr_handBack s m args below meth c H locs 0 0 (MQ below (gw_Qi X (fun M => (gw_E X M Y)) z) args s 0 0 (gw_A X)) (F0 m 127 ls []) := by
  obtain ⟨hx, hb, hml, hown, hts, hr, hlocks, hK⟩ := id C0
  have hg : ∀ w ∈ gw_w, w.before args s = true := fun w h => hts w (List.mem_cons_of_mem _ h)
  unfold fr_handBack_b127 at hF
  refine lv_iinc (k := 2) (v := v4 + (1 : Int32)) (lv' := [(4, .int (v4 + (1 : Int32))), (0, .ref (gc_a X a0)), (1, .ref (gc_a X a1))]) hx hb dd_fr_handBack_127 hl rfl rfl (by decide) rfl (fun ls hl => ?_)
  refine lv_goto (tgt := 96) hx hb dd_fr_handBack_130 (by decide) ?_
  exact hK96 M a0 a1 (v4 + (1 : Int32)) _ _ _ ha0 ha1 G (lv_sub hl [1, 2, 0] rfl) hF
set_option maxRecDepth 100000 in
set_option maxHeartbeats 4000000 in
theorem wb_fr_handBack_96 {p : Program} {l : Launch} {e : Env} {s : State} {m : MethodId} {args : Array Value} {below : List Frame} {meth : Method} {c : Code} {X : gw_X} {Y : gw_M} {z : (Int32 × gw_M)} (C0 : gw_C ((Cond.code yy_fr_handBack by_fr_handBack 6 (some .int)) :: gw_w) by_fr_handBack 6 (some .int) "AccountMachine$Frame" X p s m args meth c) {K96 : gw_M → Nat → Nat → Int32 → Option (Int32 × gw_M)} (hK96 : ∀ (M : gw_M) (a0 : Nat) (a1 : Nat) (v4 : Int32) (H : Heap) (locs : List Loc) (ls : Array Slot), gc_k a0 = (6, 0) → gc_k a1 = (3, 0) → gw_G X (gw_E X M Y) s H locs → lv_has ls 6 [(0, .ref (gc_a X a0)), (1, .ref (gc_a X a1)), (4, .int v4)] → K96 M a0 a1 v4 = some z → W p l e rm_fr_handBack s m args below meth c H locs 0 0 (MQ below (gw_Qi X (fun M => (gw_E X M Y)) z) args s 0 0 (gw_A X)) (F0 m 96 ls [])) (M : gw_M) (a0 : Nat) (a1 : Nat) (v4 : Int32) (H : Heap) (locs : List Loc) (ls : Array Slot) (ha0 : gc_k a0 = (6, 0)) (ha1 : gc_k a1 = (3, 0)) (G : gw_G X (gw_E X M Y) s H locs) (hl : lv_has ls 6 [(0, .ref (gc_a X a0)), (1, .ref (gc_a X a1)), (4, .int v4)]) (hF : fr_handBack_b96 K96 M a0 a1 v4 = some z) : W p l e rm_fr_handBack s m args below meth c H locs 0 0 (MQ below (gw_Qi X (fun M => (gw_E X M Y)) z) args s 0 0 (gw_A X)) (F0 m 96 ls []) := by
  obtain ⟨hx, hb, hml, hown, hts, hr, hlocks, hK⟩ := id C0
  have hg : ∀ w ∈ gw_w, w.before args s = true := fun w h => hts w (List.mem_cons_of_mem _ h)
  unfold fr_handBack_b96 at hF
  refine lv_iload hx hb dd_fr_handBack_96 (lv_at hl 2 rfl) ?_
  refine lv_aload_n hx hb dd_fr_handBack_98 rfl (lv_at hl 0 rfl) ?_
  refine gf_fr_order hx hb hg hown (hg _ kw_4) hK G ha0 dd_fr_handBack_99 ?_
  refine gn_od_count hx hb hg hown (gw_nw hK kn_1) hK G (gq_fr_order ha0) dd_fr_handBack_102 ?_
  refine lv_icmp_ge (tgt := 133) hx hb dd_fr_handBack_105 (by decide) (fun h105 => ?_) (fun h105 => ?_)
  · replace hF := gw_et h105 hF
    refine lv_iconst (v := (0 : Int32)) hx hb dd_fr_handBack_133 (by decide) ?_
    exact W.iret hx hb hr (fun t ht hW => gw_endi (EF := (fun M => (gw_E X M Y))) (M := M) G ht hF) G.2.2.2.2 dd_fr_handBack_134 hlocks
  · replace hF := gw_ef h105 hF
    refine lv_aload_n hx hb dd_fr_handBack_108 rfl (lv_at hl 0 rfl) ?_
    refine lv_iload hx hb dd_fr_handBack_109 (lv_at hl 2 rfl) ?_
    obtain ⟨r111, M111, hc111, hF⟩ := gw_be hF
    refine gw_ci G (va_runS (As := [.int v4]) (rest := [.ref (gc_a X a0)]) ⟨hx, hb, hml, hown, hts⟩ (ct_fr_baseOf l X Y M v4  _ hc111) (cwS 1 hts (gw_gS kw_6 kw_7 kw_8 kw_5) rfl rfl rfl (by decide +kernel) ⟨Nat.le_of_ble_eq_true rfl, Nat.le_of_ble_eq_true rfl⟩) ⟨gw_blind, gw_pre hK G⟩ rfl rfl hl.1 rfl (Nat.le_of_ble_eq_true rfl) dd_fr_handBack_111 ⟨Nat.le_of_ble_eq_true rfl, Nat.le_of_ble_eq_true rfl⟩) (fun H locs G => ?_)
    obtain ⟨r114, M114, hc114, hF⟩ := gw_be hF
    refine gw_ci G (va_runV (As := [.int r111]) (rest := []) ⟨hx, hb, hml, hown, hts⟩ (ct_fr_isMain l X Y M111 a0 r111 ha0 _ hc114) (cwV 1 hts (gw_gV kw_10 kw_11 kw_12 kw_8 kw_9) rfl rfl rfl (by decide +kernel) ⟨Nat.le_of_ble_eq_true rfl, Nat.le_of_ble_eq_true rfl⟩) ⟨gw_blind, gw_recv_fr hK G ha0, gw_pre hK G⟩ rfl rfl hl.1 rfl (Nat.le_of_ble_eq_true rfl) dd_fr_handBack_114 ⟨Nat.le_of_ble_eq_true rfl, Nat.le_of_ble_eq_true rfl⟩) (fun H locs G => ?_)
    refine lv_if_eq (tgt := 127) hx hb dd_fr_handBack_117 (by decide) (fun h117 => ?_) (fun h117 => ?_)
    · replace hF := gw_et h117 hF
      exact wb_fr_handBack_127 C0 hK96 M114 a0 a1 v4 _ _ _ ha0 ha1 G (lv_sub hl [0, 1, 2] rfl) hF
    · replace hF := gw_ef h117 hF
      refine lv_aload_n hx hb dd_fr_handBack_120 rfl (lv_at hl 0 rfl) ?_
      refine lv_iload hx hb dd_fr_handBack_121 (lv_at hl 2 rfl) ?_
      refine lv_aload_n hx hb dd_fr_handBack_123 rfl (lv_at hl 1 rfl) ?_
      obtain ⟨u124, M124, hc124, hF⟩ := gw_be hF
      refine gw_cv G (va_runV (As := [.int v4, .ref (gc_a X a1)]) (rest := []) ⟨hx, hb, hml, hown, hts⟩ (ct_fr_writeAccount l X Y M114 a0 v4 a1 ha0 ha1 _ hc124) (cwV 2 hts (gw_gV kw_56 kw_57 kw_58 kw_8 kw_55) rfl rfl rfl (by decide +kernel) ⟨Nat.le_of_ble_eq_true rfl, Nat.le_of_ble_eq_true rfl⟩) ⟨gw_blind, gw_recv_fr hK G ha0, gw_pre hK G⟩ rfl rfl hl.1 rfl (Nat.le_of_ble_eq_true rfl) dd_fr_handBack_124 ⟨Nat.le_of_ble_eq_true rfl, Nat.le_of_ble_eq_true rfl⟩) (fun H locs G => ?_)
      exact wb_fr_handBack_127 C0 hK96 M124 a0 a1 v4 _ _ _ ha0 ha1 G (lv_sub hl [0, 1, 2] rfl) hF
theorem wl_fr_handBack_96 {p : Program} {l : Launch} {e : Env} {s : State} {m : MethodId} {args : Array Value} {below : List Frame} {meth : Method} {c : Code} {X : gw_X} {Y : gw_M} {z : (Int32 × gw_M)} (C0 : gw_C ((Cond.code yy_fr_handBack by_fr_handBack 6 (some .int)) :: gw_w) by_fr_handBack 6 (some .int) "AccountMachine$Frame" X p s m args meth c) : ∀ n : Nat, ∀ (M : gw_M) (a0 : Nat) (a1 : Nat) (v4 : Int32) (H : Heap) (locs : List Loc) (ls : Array Slot), gc_k a0 = (6, 0) → gc_k a1 = (3, 0) → gw_G X (gw_E X M Y) s H locs → lv_has ls 6 [(0, .ref (gc_a X a0)), (1, .ref (gc_a X a1)), (4, .int v4)] → fr_handBack_l96  n M a0 a1 v4 = some z → W p l e rm_fr_handBack s m args below meth c H locs 0 0 (MQ below (gw_Qi X (fun M => (gw_E X M Y)) z) args s 0 0 (gw_A X)) (F0 m 96 ls []) := by
  intro n
  induction n with
  | zero =>
    intro M a0 a1 v4 H locs ls ha0 ha1 G hl hF
    have hF : (none : Option (Int32 × gw_M)) = some z := hF
    cases hF
  | succ n ih =>
    intro M a0 a1 v4 H locs ls ha0 ha1 G hl hF
    exact wb_fr_handBack_96 C0  ih M a0 a1 v4 H locs ls ha0 ha1 G hl hF
set_option maxRecDepth 100000 in
set_option maxHeartbeats 4000000 in
theorem wb_fr_handBack_78 {p : Program} {l : Launch} {e : Env} {s : State} {m : MethodId} {args : Array Value} {below : List Frame} {meth : Method} {c : Code} {X : gw_X} {Y : gw_M} {z : (Int32 × gw_M)} (C0 : gw_C ((Cond.code yy_fr_handBack by_fr_handBack 6 (some .int)) :: gw_w) by_fr_handBack 6 (some .int) "AccountMachine$Frame" X p s m args meth c) {K5 : gw_M → Nat → Nat → Int64 → Int32 → Option (Int32 × gw_M)} (hK5 : ∀ (M : gw_M) (a0 : Nat) (a1 : Nat) (v2 : Int64) (v4 : Int32) (H : Heap) (locs : List Loc) (ls : Array Slot), gc_k a0 = (6, 0) → gc_k a1 = (3, 0) → gw_G X (gw_E X M Y) s H locs → lv_has ls 6 [(0, .ref (gc_a X a0)), (1, .ref (gc_a X a1)), (2, .long v2), (4, .int v4)] → K5 M a0 a1 v2 v4 = some z → W p l e rm_fr_handBack s m args below meth c H locs 0 0 (MQ below (gw_Qi X (fun M => (gw_E X M Y)) z) args s 0 0 (gw_A X)) (F0 m 5 ls [])) (M : gw_M) (a0 : Nat) (a1 : Nat) (v2 : Int64) (v4 : Int32) (H : Heap) (locs : List Loc) (ls : Array Slot) (ha0 : gc_k a0 = (6, 0)) (ha1 : gc_k a1 = (3, 0)) (G : gw_G X (gw_E X M Y) s H locs) (hl : lv_has ls 6 [(0, .ref (gc_a X a0)), (1, .ref (gc_a X a1)), (2, .long v2), (4, .int v4)]) (hF : fr_handBack_b78 K5 M a0 a1 v2 v4 = some z) : W p l e rm_fr_handBack s m args below meth c H locs 0 0 (MQ below (gw_Qi X (fun M => (gw_E X M Y)) z) args s 0 0 (gw_A X)) (F0 m 78 ls []) := by
  obtain ⟨hx, hb, hml, hown, hts, hr, hlocks, hK⟩ := id C0
  have hg : ∀ w ∈ gw_w, w.before args s = true := fun w h => hts w (List.mem_cons_of_mem _ h)
  unfold fr_handBack_b78 at hF
  refine lv_iinc (k := 3) (v := v4 + (1 : Int32)) (lv' := [(4, .int (v4 + (1 : Int32))), (0, .ref (gc_a X a0)), (1, .ref (gc_a X a1)), (2, .long v2)]) hx hb dd_fr_handBack_78 hl rfl rfl (by decide) rfl (fun ls hl => ?_)
  refine lv_goto (tgt := 5) hx hb dd_fr_handBack_81 (by decide) ?_
  exact hK5 M a0 a1 v2 (v4 + (1 : Int32)) _ _ _ ha0 ha1 G (lv_sub hl [1, 2, 3, 0] rfl) hF
set_option maxRecDepth 100000 in
set_option maxHeartbeats 4000000 in
theorem wb_fr_handBack_5 {p : Program} {l : Launch} {e : Env} {s : State} {m : MethodId} {args : Array Value} {below : List Frame} {meth : Method} {c : Code} {X : gw_X} {Y : gw_M} {z : (Int32 × gw_M)} (C0 : gw_C ((Cond.code yy_fr_handBack by_fr_handBack 6 (some .int)) :: gw_w) by_fr_handBack 6 (some .int) "AccountMachine$Frame" X p s m args meth c) {K5 : gw_M → Nat → Nat → Int64 → Int32 → Option (Int32 × gw_M)} (hK5 : ∀ (M : gw_M) (a0 : Nat) (a1 : Nat) (v2 : Int64) (v4 : Int32) (H : Heap) (locs : List Loc) (ls : Array Slot), gc_k a0 = (6, 0) → gc_k a1 = (3, 0) → gw_G X (gw_E X M Y) s H locs → lv_has ls 6 [(0, .ref (gc_a X a0)), (1, .ref (gc_a X a1)), (2, .long v2), (4, .int v4)] → K5 M a0 a1 v2 v4 = some z → W p l e rm_fr_handBack s m args below meth c H locs 0 0 (MQ below (gw_Qi X (fun M => (gw_E X M Y)) z) args s 0 0 (gw_A X)) (F0 m 5 ls [])) (M : gw_M) (a0 : Nat) (a1 : Nat) (v2 : Int64) (v4 : Int32) (H : Heap) (locs : List Loc) (ls : Array Slot) (ha0 : gc_k a0 = (6, 0)) (ha1 : gc_k a1 = (3, 0)) (G : gw_G X (gw_E X M Y) s H locs) (hl : lv_has ls 6 [(0, .ref (gc_a X a0)), (1, .ref (gc_a X a1)), (2, .long v2), (4, .int v4)]) (hF : fr_handBack_b5 K5 M a0 a1 v2 v4 = some z) : W p l e rm_fr_handBack s m args below meth c H locs 0 0 (MQ below (gw_Qi X (fun M => (gw_E X M Y)) z) args s 0 0 (gw_A X)) (F0 m 5 ls []) := by
  obtain ⟨hx, hb, hml, hown, hts, hr, hlocks, hK⟩ := id C0
  have hg : ∀ w ∈ gw_w, w.before args s = true := fun w h => hts w (List.mem_cons_of_mem _ h)
  unfold fr_handBack_b5 at hF
  refine lv_iload hx hb dd_fr_handBack_5 (lv_at hl 3 rfl) ?_
  refine lv_aload_n hx hb dd_fr_handBack_7 rfl (lv_at hl 0 rfl) ?_
  refine gf_fr_order hx hb hg hown (hg _ kw_4) hK G ha0 dd_fr_handBack_8 ?_
  refine gn_od_count hx hb hg hown (gw_nw hK kn_1) hK G (gq_fr_order ha0) dd_fr_handBack_11 ?_
  refine lv_icmp_ge (tgt := 84) hx hb dd_fr_handBack_14 (by decide) (fun h14 => ?_) (fun h14 => ?_)
  · replace hF := gw_et h14 hF
    refine lv_lload_n hx hb dd_fr_handBack_84 rfl (lv_at hl 2 rfl) ?_
    refine lv_lconst (v := (0 : Int64)) hx hb dd_fr_handBack_85 (by decide) ?_
    refine W.lcmp hx hb dd_fr_handBack_86 ?_
    refine lv_if_eq (tgt := 93) hx hb dd_fr_handBack_87 (by decide) (fun h87 => ?_) (fun h87 => ?_)
    · replace hF := gw_et h87 hF
      refine lv_iconst (v := (0 : Int32)) hx hb dd_fr_handBack_93 (by decide) ?_
      refine lv_istore (i := 4) (lv' := [(4, .int (0 : Int32)), (0, .ref (gc_a X a0)), (1, .ref (gc_a X a1)), (2, .long v2)]) hx hb dd_fr_handBack_94 hl (by decide) rfl (fun ls hl => ?_)
      exact wl_fr_handBack_96 C0  2100 M a0 a1 (0 : Int32) _ _ _ ha0 ha1 G (lv_sub hl [1, 2, 0] rfl) hF
    · replace hF := gw_ef h87 hF
      refine lv_bipush (v := (8 : Int32)) hx hb dd_fr_handBack_90 (by decide) ?_
      exact W.iret hx hb hr (fun t ht hW => gw_endi (EF := (fun M => (gw_E X M Y))) (M := M) G ht hF) G.2.2.2.2 dd_fr_handBack_92 hlocks
  · replace hF := gw_ef h14 hF
    refine lv_aload_n hx hb dd_fr_handBack_17 rfl (lv_at hl 0 rfl) ?_
    refine lv_iload hx hb dd_fr_handBack_18 (lv_at hl 3 rfl) ?_
    obtain ⟨r20, M20, hc20, hF⟩ := gw_be hF
    refine gw_ci G (va_runS (As := [.int v4]) (rest := [.ref (gc_a X a0)]) ⟨hx, hb, hml, hown, hts⟩ (ct_fr_baseOf l X Y M v4  _ hc20) (cwS 1 hts (gw_gS kw_6 kw_7 kw_8 kw_5) rfl rfl rfl (by decide +kernel) ⟨Nat.le_of_ble_eq_true rfl, Nat.le_of_ble_eq_true rfl⟩) ⟨gw_blind, gw_pre hK G⟩ rfl rfl hl.1 rfl (Nat.le_of_ble_eq_true rfl) dd_fr_handBack_20 ⟨Nat.le_of_ble_eq_true rfl, Nat.le_of_ble_eq_true rfl⟩) (fun H locs G => ?_)
    obtain ⟨r23, M23, hc23, hF⟩ := gw_be hF
    refine gw_ci G (va_runV (As := [.int r20]) (rest := []) ⟨hx, hb, hml, hown, hts⟩ (ct_fr_isMain l X Y M20 a0 r20 ha0 _ hc23) (cwV 1 hts (gw_gV kw_10 kw_11 kw_12 kw_8 kw_9) rfl rfl rfl (by decide +kernel) ⟨Nat.le_of_ble_eq_true rfl, Nat.le_of_ble_eq_true rfl⟩) ⟨gw_blind, gw_recv_fr hK G ha0, gw_pre hK G⟩ rfl rfl hl.1 rfl (Nat.le_of_ble_eq_true rfl) dd_fr_handBack_23 ⟨Nat.le_of_ble_eq_true rfl, Nat.le_of_ble_eq_true rfl⟩) (fun H locs G => ?_)
    refine lv_if_eq (tgt := 78) hx hb dd_fr_handBack_26 (by decide) (fun h26 => ?_) (fun h26 => ?_)
    · replace hF := gw_et h26 hF
      exact wb_fr_handBack_78 C0 hK5 M23 a0 a1 v2 v4 _ _ _ ha0 ha1 G (lv_sub hl [0, 1, 2, 3] rfl) hF
    · replace hF := gw_ef h26 hF
      refine lv_aload_n hx hb dd_fr_handBack_29 rfl (lv_at hl 0 rfl) ?_
      refine lv_iload hx hb dd_fr_handBack_30 (lv_at hl 3 rfl) ?_
      refine lv_aload_n hx hb dd_fr_handBack_32 rfl (lv_at hl 1 rfl) ?_
      obtain ⟨r33, M33, hc33, hF⟩ := gw_be hF
      refine gw_ci G (va_runV (As := [.int v4, .ref (gc_a X a1)]) (rest := []) ⟨hx, hb, hml, hown, hts⟩ (ct_fr_faultOf l X Y M23 a0 v4 a1 ha0 ha1 _ hc33) (cwV 2 hts (gw_gV kw_60 kw_61 kw_62 kw_8 kw_59) rfl rfl rfl (by decide +kernel) ⟨Nat.le_of_ble_eq_true rfl, Nat.le_of_ble_eq_true rfl⟩) ⟨gw_blind, gw_recv_fr hK G ha0, gw_pre hK G⟩ rfl rfl hl.1 rfl (Nat.le_of_ble_eq_true rfl) dd_fr_handBack_33 ⟨Nat.le_of_ble_eq_true rfl, Nat.le_of_ble_eq_true rfl⟩) (fun H locs G => ?_)
      refine lv_istore (i := 5) (lv' := [(5, .int r33), (0, .ref (gc_a X a0)), (1, .ref (gc_a X a1)), (2, .long v2), (4, .int v4)]) hx hb dd_fr_handBack_36 hl (by decide) rfl (fun ls hl => ?_)
      refine lv_iload hx hb dd_fr_handBack_38 (lv_at hl 0 rfl) ?_
      refine lv_if_eq (tgt := 46) hx hb dd_fr_handBack_40 (by decide) (fun h40 => ?_) (fun h40 => ?_)
      · replace hF := gw_et h40 hF
        refine lv_lload_n hx hb dd_fr_handBack_46 rfl (lv_at hl 3 rfl) ?_
        refine lv_aload_n hx hb dd_fr_handBack_47 rfl (lv_at hl 1 rfl) ?_
        refine gf_fr_memory hx hb hg hown (hg _ kw_3) hK G ha0 dd_fr_handBack_48 ?_
        refine lv_iload hx hb dd_fr_handBack_51 (lv_at hl 4 rfl) ?_
        obtain ⟨r53, M53, hc53, hF⟩ := gw_be hF
        refine gw_ci G (va_runS (As := [.int v4]) (rest := [.ref (gc_a X (a0 + 5)), .long v2]) ⟨hx, hb, hml, hown, hts⟩ (ct_fr_baseOf l X Y M33 v4  _ hc53) (cwS 1 hts (gw_gS kw_6 kw_7 kw_8 kw_5) rfl rfl rfl (by decide +kernel) ⟨Nat.le_of_ble_eq_true rfl, Nat.le_of_ble_eq_true rfl⟩) ⟨gw_blind, gw_pre hK G⟩ rfl rfl hl.1 rfl (Nat.le_of_ble_eq_true rfl) dd_fr_handBack_53 ⟨Nat.le_of_ble_eq_true rfl, Nat.le_of_ble_eq_true rfl⟩) (fun H locs G => ?_)
        refine lv_iconst (v := (3 : Int32)) hx hb dd_fr_handBack_56 (by decide) ?_
        refine lv_iadd hx hb dd_fr_handBack_57 ?_
        obtain ⟨h58, hF⟩ := gw_gd hF
        refine gc_lald hx hb hK G (gq_fr_memory ha0) (gw_vp h58) (j := (r53 + (3 : Int32)).toNatClampNeg) rfl dd_fr_handBack_58 ?_
        refine lv_aload_n hx hb dd_fr_handBack_59 rfl (lv_at hl 2 rfl) ?_
        refine W.eq (g2 := F0 m 60 _ _) rfl ?_
        refine gn_le_balances hx hb hg hown (gw_nw hK kn_4) hK G ha1 dd_fr_handBack_60 ?_
        refine lv_aload_n hx hb dd_fr_handBack_63 rfl (lv_at hl 1 rfl) ?_
        refine gf_fr_order hx hb hg hown (hg _ kw_4) hK G ha0 dd_fr_handBack_64 ?_
        refine gn_od_accounts hx hb hg hown (gw_nw hK kn_2) hK G (gq_fr_order ha0) dd_fr_handBack_67 ?_
        refine lv_iload hx hb dd_fr_handBack_70 (lv_at hl 4 rfl) ?_
        obtain ⟨h72, hF⟩ := gw_gd hF
        refine gc_iald hx hb hK G (gq_od_accounts (gq_fr_order ha0)) (gw_vp h72) (j := v4.toNatClampNeg) rfl dd_fr_handBack_72 ?_
        obtain ⟨h73, hF⟩ := gw_gd hF
        refine gc_iald hx hb hK G (gq_le_balances ha1) (gw_vp h73) (j := (M53.1 ((a0 + 1) + 1) v4.toNatClampNeg).toNatClampNeg) rfl dd_fr_handBack_73 ?_
        refine lv_i2l (v := (M53.1 (a1 + 1) ((M53.1 ((a0 + 1) + 1) v4.toNatClampNeg).toNatClampNeg)).toInt64) hx hb dd_fr_handBack_74 rfl ?_
        refine lv_lsub hx hb dd_fr_handBack_75 ?_
        refine lv_ladd hx hb dd_fr_handBack_76 ?_
        refine W.eq (g2 := F0 m 77 _ _) rfl ?_
        refine lv_topl (fun x77 e77 => ?_)
        replace hF := gw_ly e77 hF
        refine lv_lstore_n (i := 2) (lv' := [(2, .long x77), (5, .int r33), (0, .ref (gc_a X a0)), (1, .ref (gc_a X a1)), (4, .int v4)]) hx hb dd_fr_handBack_77 rfl hl (by decide) rfl (fun ls hl => ?_)
        exact wb_fr_handBack_78 C0 hK5 M53 a0 a1 x77 v4 _ _ _ ha0 ha1 G (lv_sub hl [2, 3, 0, 4] rfl) hF
      · replace hF := gw_ef h40 hF
        refine lv_iload hx hb dd_fr_handBack_43 (lv_at hl 0 rfl) ?_
        exact W.iret hx hb hr (fun t ht hW => gw_endi (EF := (fun M => (gw_E X M Y))) (M := M33) G ht hF) G.2.2.2.2 dd_fr_handBack_45 hlocks
theorem wl_fr_handBack_5 {p : Program} {l : Launch} {e : Env} {s : State} {m : MethodId} {args : Array Value} {below : List Frame} {meth : Method} {c : Code} {X : gw_X} {Y : gw_M} {z : (Int32 × gw_M)} (C0 : gw_C ((Cond.code yy_fr_handBack by_fr_handBack 6 (some .int)) :: gw_w) by_fr_handBack 6 (some .int) "AccountMachine$Frame" X p s m args meth c) : ∀ n : Nat, ∀ (M : gw_M) (a0 : Nat) (a1 : Nat) (v2 : Int64) (v4 : Int32) (H : Heap) (locs : List Loc) (ls : Array Slot), gc_k a0 = (6, 0) → gc_k a1 = (3, 0) → gw_G X (gw_E X M Y) s H locs → lv_has ls 6 [(0, .ref (gc_a X a0)), (1, .ref (gc_a X a1)), (2, .long v2), (4, .int v4)] → fr_handBack_l5  n M a0 a1 v2 v4 = some z → W p l e rm_fr_handBack s m args below meth c H locs 0 0 (MQ below (gw_Qi X (fun M => (gw_E X M Y)) z) args s 0 0 (gw_A X)) (F0 m 5 ls []) := by
  intro n
  induction n with
  | zero =>
    intro M a0 a1 v2 v4 H locs ls ha0 ha1 G hl hF
    have hF : (none : Option (Int32 × gw_M)) = some z := hF
    cases hF
  | succ n ih =>
    intro M a0 a1 v2 v4 H locs ls ha0 ha1 G hl hF
    exact wb_fr_handBack_5 C0  ih M a0 a1 v2 v4 H locs ls ha0 ha1 G hl hF
set_option maxRecDepth 100000 in
set_option maxHeartbeats 4000000 in
theorem wb_fr_handBack_0 {p : Program} {l : Launch} {e : Env} {s : State} {m : MethodId} {args : Array Value} {below : List Frame} {meth : Method} {c : Code} {X : gw_X} {Y : gw_M} {z : (Int32 × gw_M)} (C0 : gw_C ((Cond.code yy_fr_handBack by_fr_handBack 6 (some .int)) :: gw_w) by_fr_handBack 6 (some .int) "AccountMachine$Frame" X p s m args meth c) (M : gw_M) (a0 : Nat) (a1 : Nat) (H : Heap) (locs : List Loc) (ls : Array Slot) (ha0 : gc_k a0 = (6, 0)) (ha1 : gc_k a1 = (3, 0)) (G : gw_G X (gw_E X M Y) s H locs) (hl : lv_has ls 6 [(0, .ref (gc_a X a0)), (1, .ref (gc_a X a1))]) (hF : fr_handBack_b0  M a0 a1 = some z) : W p l e rm_fr_handBack s m args below meth c H locs 0 0 (MQ below (gw_Qi X (fun M => (gw_E X M Y)) z) args s 0 0 (gw_A X)) (F0 m 0 ls []) := by
  obtain ⟨hx, hb, hml, hown, hts, hr, hlocks, hK⟩ := id C0
  have hg : ∀ w ∈ gw_w, w.before args s = true := fun w h => hts w (List.mem_cons_of_mem _ h)
  unfold fr_handBack_b0 at hF
  refine lv_lconst (v := (0 : Int64)) hx hb dd_fr_handBack_0 (by decide) ?_
  refine lv_lstore_n (i := 2) (lv' := [(2, .long (0 : Int64)), (0, .ref (gc_a X a0)), (1, .ref (gc_a X a1))]) hx hb dd_fr_handBack_1 rfl hl (by decide) rfl (fun ls hl => ?_)
  refine lv_iconst (v := (0 : Int32)) hx hb dd_fr_handBack_2 (by decide) ?_
  refine lv_istore (i := 4) (lv' := [(4, .int (0 : Int32)), (2, .long (0 : Int64)), (0, .ref (gc_a X a0)), (1, .ref (gc_a X a1))]) hx hb dd_fr_handBack_3 hl (by decide) rfl (fun ls hl => ?_)
  exact wl_fr_handBack_5 C0  2100 M a0 a1 (0 : Int64) (0 : Int32) _ _ _ ha0 ha1 G (lv_sub hl [2, 3, 1, 0] rfl) hF
set_option maxRecDepth 100000 in
set_option maxHeartbeats 4000000 in
theorem ct_fr_handBack (l : Launch) (X : gw_X) (Y : gw_M) (M : gw_M) (a0 : Nat) (a1 : Nat) (ha0 : gc_k a0 = (6, 0)) (ha1 : gc_k a1 = (3, 0)) (z : (Int32 × gw_M)) (hF : fr_handBack_b0 M a0 a1 = some z) : Met l yy_fr_handBack ((Cond.code yy_fr_handBack by_fr_handBack 6 (some .int)) :: gw_w) rm_fr_handBack (va_Pc [.ref (gc_a X a0), .ref (gc_a X a1)] (gw_B X (gw_E X M Y))) (gw_Qi X (fun M => (gw_E X M Y)) z) 0 0 (gw_A X) := by
  refine Met.ofW (cc := by_fr_handBack) (maxL := 6) (ret := (some .int)) (by decide) rfl ?_
  intro p e s m args below meth c s₁ B hml hv
  obtain ⟨rfl, hB⟩ := hv
  rw [lg_entry_eq]
  have hl := lv_entry ([.ref (gc_a X a0), .ref (gc_a X a1)]) (n := 6) (Nat.le_of_ble_eq_true rfl)
  generalize (lg_sl ([.ref (gc_a X a0), .ref (gc_a X a1)]) ++ List.replicate (6 - (lg_sl ([.ref (gc_a X a0), .ref (gc_a X a1)])).length) Slot.unset).toArray = ls at hl ⊢
  have hl : lv_has ls 6 [(0, .ref (gc_a X a0)), (1, .ref (gc_a X a1))] := hl
  exact wb_fr_handBack_0 (gw_ctx B hml rfl hB) M a0 a1 _ _ _ ha0 ha1 (gw_start hB) hl hF
