/-! AccountMachine.hasCode(I)Z -/
abbrev rm_am_hasCode : Room := { frames := 0, cells := 0, slots := 0, locals := 0 }
theorem dd_am_hasCode_0 : decode by_am_hasCode 0 = .ok (.iload_n 0, 1) := by decide +kernel
theorem dd_am_hasCode_1 : decode by_am_hasCode 1 = .ok (.ifCond .le 12, 3) := by decide +kernel
theorem dd_am_hasCode_4 : decode by_am_hasCode 4 = .ok (.iload_n 0, 1) := by decide +kernel
theorem dd_am_hasCode_5 : decode by_am_hasCode 5 = .ok (.iconst 4, 1) := by decide +kernel
theorem dd_am_hasCode_6 : decode by_am_hasCode 6 = .ok (.if_icmp .ge 7, 3) := by decide +kernel
theorem dd_am_hasCode_9 : decode by_am_hasCode 9 = .ok (.iconst 1, 1) := by decide +kernel
theorem dd_am_hasCode_10 : decode by_am_hasCode 10 = .ok (.goto 4, 3) := by decide +kernel
theorem dd_am_hasCode_13 : decode by_am_hasCode 13 = .ok (.iconst 0, 1) := by decide +kernel
theorem dd_am_hasCode_14 : decode by_am_hasCode 14 = .ok (.ireturn, 1) := by decide +kernel
def am_hasCode_b0 (M : gw_M) (v0 : Int32) : Option (Int32 × gw_M) :=
  if v0 ≤ (0 : Int32) then (some ((0 : Int32), M)) else (if (4 : Int32) ≤ v0 then (some ((0 : Int32), M)) else (some ((1 : Int32), M)))
set_option maxRecDepth 100000 in
set_option maxHeartbeats 4000000 in
theorem wb_am_hasCode_0 {p : Program} {l : Launch} {e : Env} {s : State} {m : MethodId} {args : Array Value} {below : List Frame} {meth : Method} {c : Code} {X : gw_X} {Y : gw_M} {z : (Int32 × gw_M)} (C0 : gw_C ((Cond.code yy_am_hasCode by_am_hasCode 1 (some .boolean)) :: gw_w) by_am_hasCode 1 (some .boolean) "AccountMachine" X p s m args meth c) (M : gw_M) (v0 : Int32) (H : Heap) (locs : List Loc) (ls : Array Slot) (G : gw_G X (gw_E X M Y) s H locs) (hl : lv_has ls 1 [(0, .int v0)]) (hF : am_hasCode_b0  M v0 = some z) : W p l e rm_am_hasCode s m args below meth c H locs 0 0 (MQ below (gw_Qi X (fun M => (gw_E X M Y)) z) args s 0 0 (gw_A X)) (F0 m 0 ls []) := by
  obtain ⟨hx, hb, hml, hown, hts, hr, hlocks, hK⟩ := id C0
  have hg : ∀ w ∈ gw_w, w.before args s = true := fun w h => hts w (List.mem_cons_of_mem _ h)
  unfold am_hasCode_b0 at hF
  refine lv_iload_n hx hb dd_am_hasCode_0 rfl (lv_at hl 0 rfl) ?_
  refine lv_if_le (tgt := 13) hx hb dd_am_hasCode_1 (by decide) (fun h1 => ?_) (fun h1 => ?_)
  · replace hF := gw_et h1 hF
    refine lv_iconst (v := (0 : Int32)) hx hb dd_am_hasCode_13 (by decide) ?_
    exact W.zret hx hb hr (by decide) (fun t ht hW => gw_endi (EF := (fun M => (gw_E X M Y))) (M := M) G ht hF) G.2.2.2.2 dd_am_hasCode_14 hlocks
  · replace hF := gw_ef h1 hF
    refine lv_iload_n hx hb dd_am_hasCode_4 rfl (lv_at hl 0 rfl) ?_
    refine lv_iconst (v := (4 : Int32)) hx hb dd_am_hasCode_5 (by decide) ?_
    refine lv_icmp_ge (tgt := 13) hx hb dd_am_hasCode_6 (by decide) (fun h6 => ?_) (fun h6 => ?_)
    · replace hF := gw_et h6 hF
      refine lv_iconst (v := (0 : Int32)) hx hb dd_am_hasCode_13 (by decide) ?_
      exact W.zret hx hb hr (by decide) (fun t ht hW => gw_endi (EF := (fun M => (gw_E X M Y))) (M := M) G ht hF) G.2.2.2.2 dd_am_hasCode_14 hlocks
    · replace hF := gw_ef h6 hF
      refine lv_iconst (v := (1 : Int32)) hx hb dd_am_hasCode_9 (by decide) ?_
      refine lv_goto (tgt := 14) hx hb dd_am_hasCode_10 (by decide) ?_
      exact W.zret hx hb hr (by decide) (fun t ht hW => gw_endi (EF := (fun M => (gw_E X M Y))) (M := M) G ht hF) G.2.2.2.2 dd_am_hasCode_14 hlocks
set_option maxRecDepth 100000 in
set_option maxHeartbeats 4000000 in
theorem ct_am_hasCode (l : Launch) (X : gw_X) (Y : gw_M) (M : gw_M) (v0 : Int32) (z : (Int32 × gw_M)) (hF : am_hasCode_b0 M v0 = some z) : Met l yy_am_hasCode ((Cond.code yy_am_hasCode by_am_hasCode 1 (some .boolean)) :: gw_w) rm_am_hasCode (va_Pc [.int v0] (gw_B X (gw_E X M Y))) (gw_Qi X (fun M => (gw_E X M Y)) z) 0 0 (gw_A X) := by
  refine Met.ofW (cc := by_am_hasCode) (maxL := 1) (ret := (some .boolean)) (by decide) rfl ?_
  intro p e s m args below meth c s₁ B hml hv
  obtain ⟨rfl, hB⟩ := hv
  rw [lg_entry_eq]
  have hl := lv_entry ([.int v0]) (n := 1) (Nat.le_of_ble_eq_true rfl)
  generalize (lg_sl ([.int v0]) ++ List.replicate (1 - (lg_sl ([.int v0])).length) Slot.unset).toArray = ls at hl ⊢
  have hl : lv_has ls 1 [(0, .int v0)] := hl
  exact wb_am_hasCode_0 (gw_ctx B hml rfl hB) M v0 _ _ _  (gw_start hB) hl hF
/-! AccountMachine.code(IIIIII)I -/
abbrev rm_am_code : Room := { frames := 1, cells := 0, slots := 0, locals := 25 }
theorem dd_am_code_0 : decode by_am_code 0 = .ok (.iload_n 1, 1) := by decide +kernel
theorem dd_am_code_1 : decode by_am_code 1 = .ok (.invokestatic 61, 3) := by decide +kernel
theorem dd_am_code_4 : decode by_am_code 4 = .ok (.ifCond .eq 17, 3) := by decide +kernel
theorem dd_am_code_7 : decode by_am_code 7 = .ok (.aload_n 0, 1) := by decide +kernel
theorem dd_am_code_8 : decode by_am_code 8 = .ok (.getfield 11, 3) := by decide +kernel
theorem dd_am_code_11 : decode by_am_code 11 = .ok (.iload_n 1, 1) := by decide +kernel
theorem dd_am_code_12 : decode by_am_code 12 = .ok (.aaload, 1) := by decide +kernel
theorem dd_am_code_13 : decode by_am_code 13 = .ok (.getfield 65, 3) := by decide +kernel
theorem dd_am_code_16 : decode by_am_code 16 = .ok (.bipush 32, 2) := by decide +kernel
theorem dd_am_code_18 : decode by_am_code 18 = .ok (.if_icmp .lt 5, 3) := by decide +kernel
theorem dd_am_code_21 : decode by_am_code 21 = .ok (.iconst (-1), 1) := by decide +kernel
theorem dd_am_code_22 : decode by_am_code 22 = .ok (.ireturn, 1) := by decide +kernel
theorem dd_am_code_23 : decode by_am_code 23 = .ok (.aload_n 0, 1) := by decide +kernel
theorem dd_am_code_24 : decode by_am_code 24 = .ok (.getfield 11, 3) := by decide +kernel
theorem dd_am_code_27 : decode by_am_code 27 = .ok (.iload_n 1, 1) := by decide +kernel
theorem dd_am_code_28 : decode by_am_code 28 = .ok (.aaload, 1) := by decide +kernel
theorem dd_am_code_29 : decode by_am_code 29 = .ok (.iload_n 2, 1) := by decide +kernel
theorem dd_am_code_30 : decode by_am_code 30 = .ok (.iload_n 3, 1) := by decide +kernel
theorem dd_am_code_31 : decode by_am_code 31 = .ok (.iload 4, 2) := by decide +kernel
theorem dd_am_code_33 : decode by_am_code 33 = .ok (.iload 5, 2) := by decide +kernel
theorem dd_am_code_35 : decode by_am_code 35 = .ok (.iload 6, 2) := by decide +kernel
theorem dd_am_code_37 : decode by_am_code 37 = .ok (.invokevirtual 68, 3) := by decide +kernel
theorem dd_am_code_40 : decode by_am_code 40 = .ok (.ireturn, 1) := by decide +kernel
def am_code_b0 (M : gw_M) (a0 : Nat) (v1 : Int32) (v2 : Int32) (v3 : Int32) (v4 : Int32) (v5 : Int32) (v6 : Int32) : Option (Int32 × gw_M) :=
  gw_bd (am_hasCode_b0 M v1) (fun r1 M1 => if r1 = (0 : Int32) then (some ((-1 : Int32), M1)) else (gw_gu (gw_in v1 4) (if (M1.1 ((a0 + 1) + 14 + 6 * v1.toNatClampNeg) 5) < (32 : Int32) then (gw_gu (gw_in v1 4) (gw_bd (pr_append_b0 M1 ((a0 + 1) + 14 + 6 * v1.toNatClampNeg) v2 v3 v4 v5 v6) (fun r37 M37 => some (r37, M37)))) else (some ((-1 : Int32), M1)))))
set_option maxRecDepth 100000 in
set_option maxHeartbeats 4000000 in
theorem wb_am_code_0 {p : Program} {l : Launch} {e : Env} {s : State} {m : MethodId} {args : Array Value} {below : List Frame} {meth : Method} {c : Code} {X : gw_X} {Y : gw_M} {z : (Int32 × gw_M)} (C0 : gw_C ((Cond.code yy_am_code by_am_code 7 (some .int)) :: gw_w) by_am_code 7 (some .int) "AccountMachine" X p s m args meth c) (M : gw_M) (a0 : Nat) (v1 : Int32) (v2 : Int32) (v3 : Int32) (v4 : Int32) (v5 : Int32) (v6 : Int32) (H : Heap) (locs : List Loc) (ls : Array Slot) (ha0 : gc_k a0 = (2, 0)) (G : gw_G X (gw_E X M Y) s H locs) (hl : lv_has ls 7 [(0, .ref (gc_a X a0)), (1, .int v1), (2, .int v2), (3, .int v3), (4, .int v4), (5, .int v5), (6, .int v6)]) (hF : am_code_b0  M a0 v1 v2 v3 v4 v5 v6 = some z) : W p l e rm_am_code s m args below meth c H locs 0 0 (MQ below (gw_Qi X (fun M => (gw_E X M Y)) z) args s 0 0 (gw_A X)) (F0 m 0 ls []) := by
  obtain ⟨hx, hb, hml, hown, hts, hr, hlocks, hK⟩ := id C0
  have hg : ∀ w ∈ gw_w, w.before args s = true := fun w h => hts w (List.mem_cons_of_mem _ h)
  unfold am_code_b0 at hF
  refine lv_iload_n hx hb dd_am_code_0 rfl (lv_at hl 1 rfl) ?_
  obtain ⟨r1, M1, hc1, hF⟩ := gw_be hF
  refine gw_ci G (va_runS (As := [.int v1]) (rest := []) ⟨hx, hb, hml, hown, hts⟩ (ct_am_hasCode l X Y M v1  _ hc1) (cwS 1 hts (gw_gS kw_105 kw_106 kw_107 kw_104) rfl rfl rfl (by decide +kernel) ⟨Nat.le_of_ble_eq_true rfl, Nat.le_of_ble_eq_true rfl⟩) ⟨gw_blind, gw_pre hK G⟩ rfl rfl hl.1 rfl (Nat.le_of_ble_eq_true rfl) dd_am_code_1 ⟨Nat.le_of_ble_eq_true rfl, Nat.le_of_ble_eq_true rfl⟩) (fun H locs G => ?_)
  refine lv_if_eq (tgt := 21) hx hb dd_am_code_4 (by decide) (fun h4 => ?_) (fun h4 => ?_)
  · replace hF := gw_et h4 hF
    refine lv_iconst (v := (-1 : Int32)) hx hb dd_am_code_21 (by decide) ?_
    exact W.iret hx hb hr (fun t ht hW => gw_endi (EF := (fun M => (gw_E X M Y))) (M := M1) G ht hF) G.2.2.2.2 dd_am_code_22 hlocks
  · replace hF := gw_ef h4 hF
    refine lv_aload_n hx hb dd_am_code_7 rfl (lv_at hl 0 rfl) ?_
    refine gf_am_programs hx hb hg hown (hg _ kw_108) hK G ha0 dd_am_code_8 ?_
    refine lv_iload_n hx hb dd_am_code_11 rfl (lv_at hl 1 rfl) ?_
    obtain ⟨h12, hF⟩ := gw_gd hF
    refine gc_aald7 hx hb hK G (gq_am_programs ha0) (gw_vp h12) (j := v1.toNatClampNeg) rfl dd_am_code_12 ?_
    refine gn_pr_count hx hb hg hown (gw_nw hK kn_16) hK G (gq_arr7 (gq_am_programs ha0) (gw_vj (gw_vp h12) rfl)) dd_am_code_13 ?_
    refine lv_bipush (v := (32 : Int32)) hx hb dd_am_code_16 (by decide) ?_
    refine lv_icmp_lt (tgt := 23) hx hb dd_am_code_18 (by decide) (fun h18 => ?_) (fun h18 => ?_)
    · replace hF := gw_et h18 hF
      refine lv_aload_n hx hb dd_am_code_23 rfl (lv_at hl 0 rfl) ?_
      refine gf_am_programs hx hb hg hown (hg _ kw_108) hK G ha0 dd_am_code_24 ?_
      refine lv_iload_n hx hb dd_am_code_27 rfl (lv_at hl 1 rfl) ?_
      obtain ⟨h28, hF⟩ := gw_gd hF
      refine gc_aald7 hx hb hK G (gq_am_programs ha0) (gw_vp h28) (j := v1.toNatClampNeg) rfl dd_am_code_28 ?_
      refine lv_iload_n hx hb dd_am_code_29 rfl (lv_at hl 2 rfl) ?_
      refine lv_iload_n hx hb dd_am_code_30 rfl (lv_at hl 3 rfl) ?_
      refine lv_iload hx hb dd_am_code_31 (lv_at hl 4 rfl) ?_
      refine lv_iload hx hb dd_am_code_33 (lv_at hl 5 rfl) ?_
      refine lv_iload hx hb dd_am_code_35 (lv_at hl 6 rfl) ?_
      refine W.eq (g2 := F0 m 37 _ _) rfl ?_
      obtain ⟨r37, M37, hc37, hF⟩ := gw_be hF
      refine gw_ci G (va_runVN (As := [.int v2, .int v3, .int v4, .int v5, .int v6]) (rest := []) ⟨hx, hb, hml, hown, hts⟩ (ct_pr_append l X Y M1 ((a0 + 1) + 14 + 6 * v1.toNatClampNeg) v2 v3 v4 v5 v6 (gq_arr7 (gq_am_programs ha0) (gw_vj (gw_vp h28) rfl)) _ hc37) ⟨va_cnB 5 hts (gw_gN kw_109) rfl rfl rfl (hK.2.1 _ kn_17) (hg _ kw_92) (by decide +kernel) ⟨Nat.le_of_ble_eq_true rfl, Nat.le_of_ble_eq_true rfl⟩, hg _ kw_110, hg _ kw_111⟩ ⟨gw_blind, gw_recv_pr hK G (gq_arr7 (gq_am_programs ha0) (gw_vj (gw_vp h28) rfl)), gw_pre hK G⟩ rfl rfl hl.1 rfl (Nat.le_of_ble_eq_true rfl) dd_am_code_37 ⟨Nat.le_of_ble_eq_true rfl, Nat.le_of_ble_eq_true rfl⟩) (fun H locs G => ?_)
      exact W.iret hx hb hr (fun t ht hW => gw_endi (EF := (fun M => (gw_E X M Y))) (M := M37) G ht hF) G.2.2.2.2 dd_am_code_40 hlocks
    · replace hF := gw_ef h18 hF
      refine lv_iconst (v := (-1 : Int32)) hx hb dd_am_code_21 (by decide) ?_
      exact W.iret hx hb hr (fun t ht hW => gw_endi (EF := (fun M => (gw_E X M Y))) (M := M1) G ht hF) G.2.2.2.2 dd_am_code_22 hlocks
set_option maxRecDepth 100000 in
set_option maxHeartbeats 4000000 in
theorem ct_am_code (l : Launch) (X : gw_X) (Y : gw_M) (M : gw_M) (a0 : Nat) (v1 : Int32) (v2 : Int32) (v3 : Int32) (v4 : Int32) (v5 : Int32) (v6 : Int32) (ha0 : gc_k a0 = (2, 0)) (z : (Int32 × gw_M)) (hF : am_code_b0 M a0 v1 v2 v3 v4 v5 v6 = some z) : Met l yy_am_code ((Cond.code yy_am_code by_am_code 7 (some .int)) :: gw_w) rm_am_code (va_Pc [.ref (gc_a X a0), .int v1, .int v2, .int v3, .int v4, .int v5, .int v6] (gw_B X (gw_E X M Y))) (gw_Qi X (fun M => (gw_E X M Y)) z) 0 0 (gw_A X) := by
  refine Met.ofW (cc := by_am_code) (maxL := 7) (ret := (some .int)) (by decide) rfl ?_
  intro p e s m args below meth c s₁ B hml hv
  obtain ⟨rfl, hB⟩ := hv
  rw [lg_entry_eq]
  have hl := lv_entry ([.ref (gc_a X a0), .int v1, .int v2, .int v3, .int v4, .int v5, .int v6]) (n := 7) (Nat.le_of_ble_eq_true rfl)
  generalize (lg_sl ([.ref (gc_a X a0), .int v1, .int v2, .int v3, .int v4, .int v5, .int v6]) ++ List.replicate (7 - (lg_sl ([.ref (gc_a X a0), .int v1, .int v2, .int v3, .int v4, .int v5, .int v6])).length) Slot.unset).toArray = ls at hl ⊢
  have hl : lv_has ls 7 [(0, .ref (gc_a X a0)), (1, .int v1), (2, .int v2), (3, .int v3), (4, .int v4), (5, .int v5), (6, .int v6)] := hl
  exact wb_am_code_0 (gw_ctx B hml rfl hB) M a0 v1 v2 v3 v4 v5 v6 _ _ _ ha0 (gw_start hB) hl hF
/-! AccountMachine.wipe(I)I -/
abbrev rm_am_wipe : Room := { frames := 1, cells := 0, slots := 0, locals := 21 }
theorem dd_am_wipe_0 : decode by_am_wipe 0 = .ok (.iload_n 1, 1) := by decide +kernel
theorem dd_am_wipe_1 : decode by_am_wipe 1 = .ok (.invokestatic 61, 3) := by decide +kernel
theorem dd_am_wipe_4 : decode by_am_wipe 4 = .ok (.ifCond .eq 15, 3) := by decide +kernel
theorem dd_am_wipe_7 : decode by_am_wipe 7 = .ok (.aload_n 0, 1) := by decide +kernel
theorem dd_am_wipe_8 : decode by_am_wipe 8 = .ok (.getfield 11, 3) := by decide +kernel
theorem dd_am_wipe_11 : decode by_am_wipe 11 = .ok (.iload_n 1, 1) := by decide +kernel
theorem dd_am_wipe_12 : decode by_am_wipe 12 = .ok (.aaload, 1) := by decide +kernel
theorem dd_am_wipe_13 : decode by_am_wipe 13 = .ok (.invokevirtual 72, 3) := by decide +kernel
theorem dd_am_wipe_16 : decode by_am_wipe 16 = .ok (.goto 4, 3) := by decide +kernel
theorem dd_am_wipe_19 : decode by_am_wipe 19 = .ok (.iconst (-1), 1) := by decide +kernel
theorem dd_am_wipe_20 : decode by_am_wipe 20 = .ok (.ireturn, 1) := by decide +kernel
def am_wipe_b0 (M : gw_M) (a0 : Nat) (v1 : Int32) : Option (Int32 × gw_M) :=
  gw_bd (am_hasCode_b0 M v1) (fun r1 M1 => if r1 = (0 : Int32) then (some ((-1 : Int32), M1)) else (gw_gu (gw_in v1 4) (gw_bd (pr_clear_b0 M1 ((a0 + 1) + 14 + 6 * v1.toNatClampNeg)) (fun r13 M13 => some (r13, M13)))))
set_option maxRecDepth 100000 in
set_option maxHeartbeats 4000000 in
theorem wb_am_wipe_0 {p : Program} {l : Launch} {e : Env} {s : State} {m : MethodId} {args : Array Value} {below : List Frame} {meth : Method} {c : Code} {X : gw_X} {Y : gw_M} {z : (Int32 × gw_M)} (C0 : gw_C ((Cond.code yy_am_wipe by_am_wipe 2 (some .int)) :: gw_w) by_am_wipe 2 (some .int) "AccountMachine" X p s m args meth c) (M : gw_M) (a0 : Nat) (v1 : Int32) (H : Heap) (locs : List Loc) (ls : Array Slot) (ha0 : gc_k a0 = (2, 0)) (G : gw_G X (gw_E X M Y) s H locs) (hl : lv_has ls 2 [(0, .ref (gc_a X a0)), (1, .int v1)]) (hF : am_wipe_b0  M a0 v1 = some z) : W p l e rm_am_wipe s m args below meth c H locs 0 0 (MQ below (gw_Qi X (fun M => (gw_E X M Y)) z) args s 0 0 (gw_A X)) (F0 m 0 ls []) := by
  obtain ⟨hx, hb, hml, hown, hts, hr, hlocks, hK⟩ := id C0
  have hg : ∀ w ∈ gw_w, w.before args s = true := fun w h => hts w (List.mem_cons_of_mem _ h)
  unfold am_wipe_b0 at hF
  refine lv_iload_n hx hb dd_am_wipe_0 rfl (lv_at hl 1 rfl) ?_
  obtain ⟨r1, M1, hc1, hF⟩ := gw_be hF
  refine gw_ci G (va_runS (As := [.int v1]) (rest := []) ⟨hx, hb, hml, hown, hts⟩ (ct_am_hasCode l X Y M v1  _ hc1) (cwS 1 hts (gw_gS kw_105 kw_106 kw_107 kw_104) rfl rfl rfl (by decide +kernel) ⟨Nat.le_of_ble_eq_true rfl, Nat.le_of_ble_eq_true rfl⟩) ⟨gw_blind, gw_pre hK G⟩ rfl rfl hl.1 rfl (Nat.le_of_ble_eq_true rfl) dd_am_wipe_1 ⟨Nat.le_of_ble_eq_true rfl, Nat.le_of_ble_eq_true rfl⟩) (fun H locs G => ?_)
  refine lv_if_eq (tgt := 19) hx hb dd_am_wipe_4 (by decide) (fun h4 => ?_) (fun h4 => ?_)
  · replace hF := gw_et h4 hF
    refine lv_iconst (v := (-1 : Int32)) hx hb dd_am_wipe_19 (by decide) ?_
    exact W.iret hx hb hr (fun t ht hW => gw_endi (EF := (fun M => (gw_E X M Y))) (M := M1) G ht hF) G.2.2.2.2 dd_am_wipe_20 hlocks
  · replace hF := gw_ef h4 hF
    refine lv_aload_n hx hb dd_am_wipe_7 rfl (lv_at hl 0 rfl) ?_
    refine gf_am_programs hx hb hg hown (hg _ kw_108) hK G ha0 dd_am_wipe_8 ?_
    refine lv_iload_n hx hb dd_am_wipe_11 rfl (lv_at hl 1 rfl) ?_
    obtain ⟨h12, hF⟩ := gw_gd hF
    refine gc_aald7 hx hb hK G (gq_am_programs ha0) (gw_vp h12) (j := v1.toNatClampNeg) rfl dd_am_wipe_12 ?_
    obtain ⟨r13, M13, hc13, hF⟩ := gw_be hF
    refine gw_ci G (va_runVN (As := []) (rest := []) ⟨hx, hb, hml, hown, hts⟩ (ct_pr_clear l X Y M1 ((a0 + 1) + 14 + 6 * v1.toNatClampNeg) (gq_arr7 (gq_am_programs ha0) (gw_vj (gw_vp h12) rfl)) _ hc13) ⟨va_cnB 0 hts (gw_gN kw_112) rfl rfl rfl (hK.2.1 _ kn_18) (hg _ kw_92) (by decide +kernel) ⟨Nat.le_of_ble_eq_true rfl, Nat.le_of_ble_eq_true rfl⟩, hg _ kw_113, hg _ kw_114⟩ ⟨gw_blind, gw_recv_pr hK G (gq_arr7 (gq_am_programs ha0) (gw_vj (gw_vp h12) rfl)), gw_pre hK G⟩ rfl rfl hl.1 rfl (Nat.le_of_ble_eq_true rfl) dd_am_wipe_13 ⟨Nat.le_of_ble_eq_true rfl, Nat.le_of_ble_eq_true rfl⟩) (fun H locs G => ?_)
    refine lv_goto (tgt := 20) hx hb dd_am_wipe_16 (by decide) ?_
    exact W.iret hx hb hr (fun t ht hW => gw_endi (EF := (fun M => (gw_E X M Y))) (M := M13) G ht hF) G.2.2.2.2 dd_am_wipe_20 hlocks
set_option maxRecDepth 100000 in
set_option maxHeartbeats 4000000 in
theorem ct_am_wipe (l : Launch) (X : gw_X) (Y : gw_M) (M : gw_M) (a0 : Nat) (v1 : Int32) (ha0 : gc_k a0 = (2, 0)) (z : (Int32 × gw_M)) (hF : am_wipe_b0 M a0 v1 = some z) : Met l yy_am_wipe ((Cond.code yy_am_wipe by_am_wipe 2 (some .int)) :: gw_w) rm_am_wipe (va_Pc [.ref (gc_a X a0), .int v1] (gw_B X (gw_E X M Y))) (gw_Qi X (fun M => (gw_E X M Y)) z) 0 0 (gw_A X) := by
  refine Met.ofW (cc := by_am_wipe) (maxL := 2) (ret := (some .int)) (by decide) rfl ?_
  intro p e s m args below meth c s₁ B hml hv
  obtain ⟨rfl, hB⟩ := hv
  rw [lg_entry_eq]
  have hl := lv_entry ([.ref (gc_a X a0), .int v1]) (n := 2) (Nat.le_of_ble_eq_true rfl)
  generalize (lg_sl ([.ref (gc_a X a0), .int v1]) ++ List.replicate (2 - (lg_sl ([.ref (gc_a X a0), .int v1])).length) Slot.unset).toArray = ls at hl ⊢
  have hl : lv_has ls 2 [(0, .ref (gc_a X a0)), (1, .int v1)] := hl
  exact wb_am_wipe_0 (gw_ctx B hml rfl hB) M a0 v1 _ _ _ ha0 (gw_start hB) hl hF
/-! AccountMachine.load(I)I -/
abbrev rm_am_load : Room := { frames := 4, cells := 0, slots := 0, locals := 91 }
theorem dd_am_load_0 : decode by_am_load 0 = .ok (.iload_n 1, 1) := by decide +kernel
theorem dd_am_load_1 : decode by_am_load 1 = .ok (.invokestatic 61, 3) := by decide +kernel
theorem dd_am_load_4 : decode by_am_load 4 = .ok (.ifCond .eq 15, 3) := by decide +kernel
theorem dd_am_load_7 : decode by_am_load 7 = .ok (.aload_n 0, 1) := by decide +kernel
theorem dd_am_load_8 : decode by_am_load 8 = .ok (.getfield 11, 3) := by decide +kernel
theorem dd_am_load_11 : decode by_am_load 11 = .ok (.iload_n 1, 1) := by decide +kernel
theorem dd_am_load_12 : decode by_am_load 12 = .ok (.aaload, 1) := by decide +kernel
theorem dd_am_load_13 : decode by_am_load 13 = .ok (.invokevirtual 76, 3) := by decide +kernel
theorem dd_am_load_16 : decode by_am_load 16 = .ok (.goto 4, 3) := by decide +kernel
theorem dd_am_load_19 : decode by_am_load 19 = .ok (.iconst (-1), 1) := by decide +kernel
theorem dd_am_load_20 : decode by_am_load 20 = .ok (.ireturn, 1) := by decide +kernel
def am_load_b0 (M : gw_M) (a0 : Nat) (v1 : Int32) : Option (Int32 × gw_M) :=
  gw_bd (am_hasCode_b0 M v1) (fun r1 M1 => if r1 = (0 : Int32) then (some ((-1 : Int32), M1)) else (gw_gu (gw_in v1 4) (gw_bd (pr_check_b0 M1 ((a0 + 1) + 14 + 6 * v1.toNatClampNeg)) (fun r13 M13 => some (r13, M13)))))
set_option maxRecDepth 100000 in
set_option maxHeartbeats 4000000 in
theorem wb_am_load_0 {p : Program} {l : Launch} {e : Env} {s : State} {m : MethodId} {args : Array Value} {below : List Frame} {meth : Method} {c : Code} {X : gw_X} {Y : gw_M} {z : (Int32 × gw_M)} (C0 : gw_C ((Cond.code yy_am_load by_am_load 2 (some .int)) :: gw_w) by_am_load 2 (some .int) "AccountMachine" X p s m args meth c) (M : gw_M) (a0 : Nat) (v1 : Int32) (H : Heap) (locs : List Loc) (ls : Array Slot) (ha0 : gc_k a0 = (2, 0)) (G : gw_G X (gw_E X M Y) s H locs) (hl : lv_has ls 2 [(0, .ref (gc_a X a0)), (1, .int v1)]) (hF : am_load_b0  M a0 v1 = some z) : W p l e rm_am_load s m args below meth c H locs 0 0 (MQ below (gw_Qi X (fun M => (gw_E X M Y)) z) args s 0 0 (gw_A X)) (F0 m 0 ls []) := by
  obtain ⟨hx, hb, hml, hown, hts, hr, hlocks, hK⟩ := id C0
  have hg : ∀ w ∈ gw_w, w.before args s = true := fun w h => hts w (List.mem_cons_of_mem _ h)
  unfold am_load_b0 at hF
  refine lv_iload_n hx hb dd_am_load_0 rfl (lv_at hl 1 rfl) ?_
  obtain ⟨r1, M1, hc1, hF⟩ := gw_be hF
  refine gw_ci G (va_runS (As := [.int v1]) (rest := []) ⟨hx, hb, hml, hown, hts⟩ (ct_am_hasCode l X Y M v1  _ hc1) (cwS 1 hts (gw_gS kw_105 kw_106 kw_107 kw_104) rfl rfl rfl (by decide +kernel) ⟨Nat.le_of_ble_eq_true rfl, Nat.le_of_ble_eq_true rfl⟩) ⟨gw_blind, gw_pre hK G⟩ rfl rfl hl.1 rfl (Nat.le_of_ble_eq_true rfl) dd_am_load_1 ⟨Nat.le_of_ble_eq_true rfl, Nat.le_of_ble_eq_true rfl⟩) (fun H locs G => ?_)
  refine lv_if_eq (tgt := 19) hx hb dd_am_load_4 (by decide) (fun h4 => ?_) (fun h4 => ?_)
  · replace hF := gw_et h4 hF
    refine lv_iconst (v := (-1 : Int32)) hx hb dd_am_load_19 (by decide) ?_
    exact W.iret hx hb hr (fun t ht hW => gw_endi (EF := (fun M => (gw_E X M Y))) (M := M1) G ht hF) G.2.2.2.2 dd_am_load_20 hlocks
  · replace hF := gw_ef h4 hF
    refine lv_aload_n hx hb dd_am_load_7 rfl (lv_at hl 0 rfl) ?_
    refine gf_am_programs hx hb hg hown (hg _ kw_108) hK G ha0 dd_am_load_8 ?_
    refine lv_iload_n hx hb dd_am_load_11 rfl (lv_at hl 1 rfl) ?_
    obtain ⟨h12, hF⟩ := gw_gd hF
    refine gc_aald7 hx hb hK G (gq_am_programs ha0) (gw_vp h12) (j := v1.toNatClampNeg) rfl dd_am_load_12 ?_
    obtain ⟨r13, M13, hc13, hF⟩ := gw_be hF
    refine gw_ci G (va_runVN (As := []) (rest := []) ⟨hx, hb, hml, hown, hts⟩ (ct_pr_check l X Y M1 ((a0 + 1) + 14 + 6 * v1.toNatClampNeg) (gq_arr7 (gq_am_programs ha0) (gw_vj (gw_vp h12) rfl)) _ hc13) ⟨va_cnB 0 hts (gw_gN kw_115) rfl rfl rfl (hK.2.1 _ kn_19) (hg _ kw_92) (by decide +kernel) ⟨Nat.le_of_ble_eq_true rfl, Nat.le_of_ble_eq_true rfl⟩, hg _ kw_116, hg _ kw_117⟩ ⟨gw_blind, gw_recv_pr hK G (gq_arr7 (gq_am_programs ha0) (gw_vj (gw_vp h12) rfl)), gw_pre hK G⟩ rfl rfl hl.1 rfl (Nat.le_of_ble_eq_true rfl) dd_am_load_13 ⟨Nat.le_of_ble_eq_true rfl, Nat.le_of_ble_eq_true rfl⟩) (fun H locs G => ?_)
    refine lv_goto (tgt := 20) hx hb dd_am_load_16 (by decide) ?_
    exact W.iret hx hb hr (fun t ht hW => gw_endi (EF := (fun M => (gw_E X M Y))) (M := M13) G ht hF) G.2.2.2.2 dd_am_load_20 hlocks
set_option maxRecDepth 100000 in
set_option maxHeartbeats 4000000 in
theorem ct_am_load (l : Launch) (X : gw_X) (Y : gw_M) (M : gw_M) (a0 : Nat) (v1 : Int32) (ha0 : gc_k a0 = (2, 0)) (z : (Int32 × gw_M)) (hF : am_load_b0 M a0 v1 = some z) : Met l yy_am_load ((Cond.code yy_am_load by_am_load 2 (some .int)) :: gw_w) rm_am_load (va_Pc [.ref (gc_a X a0), .int v1] (gw_B X (gw_E X M Y))) (gw_Qi X (fun M => (gw_E X M Y)) z) 0 0 (gw_A X) := by
  refine Met.ofW (cc := by_am_load) (maxL := 2) (ret := (some .int)) (by decide) rfl ?_
  intro p e s m args below meth c s₁ B hml hv
  obtain ⟨rfl, hB⟩ := hv
  rw [lg_entry_eq]
  have hl := lv_entry ([.ref (gc_a X a0), .int v1]) (n := 2) (Nat.le_of_ble_eq_true rfl)
  generalize (lg_sl ([.ref (gc_a X a0), .int v1]) ++ List.replicate (2 - (lg_sl ([.ref (gc_a X a0), .int v1])).length) Slot.unset).toArray = ls at hl ⊢
  have hl : lv_has ls 2 [(0, .ref (gc_a X a0)), (1, .int v1)] := hl
  exact wb_am_load_0 (gw_ctx B hml rfl hB) M a0 v1 _ _ _ ha0 (gw_start hB) hl hF
/-! AccountMachine.order(II)I -/
abbrev rm_am_order : Room := { frames := 1, cells := 0, slots := 0, locals := 22 }
theorem dd_am_order_0 : decode by_am_order 0 = .ok (.iload_n 1, 1) := by decide +kernel
theorem dd_am_order_1 : decode by_am_order 1 = .ok (.ifCond .lt 16, 3) := by decide +kernel
theorem dd_am_order_4 : decode by_am_order 4 = .ok (.iload_n 1, 1) := by decide +kernel
theorem dd_am_order_5 : decode by_am_order 5 = .ok (.iconst 4, 1) := by decide +kernel
theorem dd_am_order_6 : decode by_am_order 6 = .ok (.if_icmp .ge 11, 3) := by decide +kernel
theorem dd_am_order_9 : decode by_am_order 9 = .ok (.aload_n 0, 1) := by decide +kernel
theorem dd_am_order_10 : decode by_am_order 10 = .ok (.getfield 31, 3) := by decide +kernel
theorem dd_am_order_13 : decode by_am_order 13 = .ok (.iconst 3, 1) := by decide +kernel
theorem dd_am_order_14 : decode by_am_order 14 = .ok (.if_icmp .lt 5, 3) := by decide +kernel
theorem dd_am_order_17 : decode by_am_order 17 = .ok (.iconst (-1), 1) := by decide +kernel
theorem dd_am_order_18 : decode by_am_order 18 = .ok (.ireturn, 1) := by decide +kernel
theorem dd_am_order_19 : decode by_am_order 19 = .ok (.aload_n 0, 1) := by decide +kernel
theorem dd_am_order_20 : decode by_am_order 20 = .ok (.getfield 27, 3) := by decide +kernel
theorem dd_am_order_23 : decode by_am_order 23 = .ok (.aload_n 0, 1) := by decide +kernel
theorem dd_am_order_24 : decode by_am_order 24 = .ok (.getfield 31, 3) := by decide +kernel
theorem dd_am_order_27 : decode by_am_order 27 = .ok (.aaload, 1) := by decide +kernel
theorem dd_am_order_28 : decode by_am_order 28 = .ok (.iload_n 1, 1) := by decide +kernel
theorem dd_am_order_29 : decode by_am_order 29 = .ok (.iload_n 2, 1) := by decide +kernel
theorem dd_am_order_30 : decode by_am_order 30 = .ok (.invokevirtual 79, 3) := by decide +kernel
theorem dd_am_order_33 : decode by_am_order 33 = .ok (.aload_n 0, 1) := by decide +kernel
theorem dd_am_order_34 : decode by_am_order 34 = .ok (.dup, 1) := by decide +kernel
theorem dd_am_order_35 : decode by_am_order 35 = .ok (.getfield 31, 3) := by decide +kernel
theorem dd_am_order_38 : decode by_am_order 38 = .ok (.dup_x1, 1) := by decide +kernel
theorem dd_am_order_39 : decode by_am_order 39 = .ok (.iconst 1, 1) := by decide +kernel
theorem dd_am_order_40 : decode by_am_order 40 = .ok (.iadd, 1) := by decide +kernel
theorem dd_am_order_41 : decode by_am_order 41 = .ok (.putfield 31, 3) := by decide +kernel
theorem dd_am_order_44 : decode by_am_order 44 = .ok (.ireturn, 1) := by decide +kernel
def am_order_b0 (M : gw_M) (a0 : Nat) (v1 : Int32) (v2 : Int32) : Option (Int32 × gw_M) :=
  if v1 < (0 : Int32) then (some ((-1 : Int32), M)) else (if (4 : Int32) ≤ v1 then (some ((-1 : Int32), M)) else (if (M.1 a0 4) < (3 : Int32) then (gw_gu (gw_in (M.1 a0 4) 3) (gw_bd (od_reset_b0 M ((a0 + 12) + 27 + 3 * ((M.1 a0 4).toNatClampNeg)) v1 v2) (fun _ M30 => gw_lt (gw_sI M30 a0 4 ((M30.1 a0 4) + (1 : Int32))) (fun M41 => some (M30.1 a0 4, M41))))) else (some ((-1 : Int32), M))))
set_option maxRecDepth 100000 in
set_option maxHeartbeats 4000000 in
theorem wb_am_order_0 {p : Program} {l : Launch} {e : Env} {s : State} {m : MethodId} {args : Array Value} {below : List Frame} {meth : Method} {c : Code} {X : gw_X} {Y : gw_M} {z : (Int32 × gw_M)} (C0 : gw_C ((Cond.code yy_am_order by_am_order 3 (some .int)) :: gw_w) by_am_order 3 (some .int) "AccountMachine" X p s m args meth c) (M : gw_M) (a0 : Nat) (v1 : Int32) (v2 : Int32) (H : Heap) (locs : List Loc) (ls : Array Slot) (ha0 : gc_k a0 = (2, 0)) (G : gw_G X (gw_E X M Y) s H locs) (hl : lv_has ls 3 [(0, .ref (gc_a X a0)), (1, .int v1), (2, .int v2)]) (hF : am_order_b0  M a0 v1 v2 = some z) : W p l e rm_am_order s m args below meth c H locs 0 0 (MQ below (gw_Qi X (fun M => (gw_E X M Y)) z) args s 0 0 (gw_A X)) (F0 m 0 ls []) := by
  obtain ⟨hx, hb, hml, hown, hts, hr, hlocks, hK⟩ := id C0
  have hg : ∀ w ∈ gw_w, w.before args s = true := fun w h => hts w (List.mem_cons_of_mem _ h)
  unfold am_order_b0 at hF
  refine lv_iload_n hx hb dd_am_order_0 rfl (lv_at hl 1 rfl) ?_
  refine lv_if_lt (tgt := 17) hx hb dd_am_order_1 (by decide) (fun h1 => ?_) (fun h1 => ?_)
  · replace hF := gw_et h1 hF
    refine lv_iconst (v := (-1 : Int32)) hx hb dd_am_order_17 (by decide) ?_
    exact W.iret hx hb hr (fun t ht hW => gw_endi (EF := (fun M => (gw_E X M Y))) (M := M) G ht hF) G.2.2.2.2 dd_am_order_18 hlocks
  · replace hF := gw_ef h1 hF
    refine lv_iload_n hx hb dd_am_order_4 rfl (lv_at hl 1 rfl) ?_
    refine lv_iconst (v := (4 : Int32)) hx hb dd_am_order_5 (by decide) ?_
    refine lv_icmp_ge (tgt := 17) hx hb dd_am_order_6 (by decide) (fun h6 => ?_) (fun h6 => ?_)
    · replace hF := gw_et h6 hF
      refine lv_iconst (v := (-1 : Int32)) hx hb dd_am_order_17 (by decide) ?_
      exact W.iret hx hb hr (fun t ht hW => gw_endi (EF := (fun M => (gw_E X M Y))) (M := M) G ht hF) G.2.2.2.2 dd_am_order_18 hlocks
    · replace hF := gw_ef h6 hF
      refine lv_aload_n hx hb dd_am_order_9 rfl (lv_at hl 0 rfl) ?_
      refine gf_am_orderCount hx hb hg hown (hg _ kw_118) hK G ha0 dd_am_order_10 ?_
      refine lv_iconst (v := (3 : Int32)) hx hb dd_am_order_13 (by decide) ?_
      refine lv_icmp_lt (tgt := 19) hx hb dd_am_order_14 (by decide) (fun h14 => ?_) (fun h14 => ?_)
      · replace hF := gw_et h14 hF
        refine lv_aload_n hx hb dd_am_order_19 rfl (lv_at hl 0 rfl) ?_
        refine gf_am_orders hx hb hg hown (hg _ kw_119) hK G ha0 dd_am_order_20 ?_
        refine lv_aload_n hx hb dd_am_order_23 rfl (lv_at hl 0 rfl) ?_
        refine gf_am_orderCount hx hb hg hown (hg _ kw_118) hK G ha0 dd_am_order_24 ?_
        obtain ⟨h27, hF⟩ := gw_gd hF
        refine gc_aald8 hx hb hK G (gq_am_orders ha0) (gw_vp h27) (j := (M.1 a0 4).toNatClampNeg) rfl dd_am_order_27 ?_
        refine lv_iload_n hx hb dd_am_order_28 rfl (lv_at hl 1 rfl) ?_
        refine lv_iload_n hx hb dd_am_order_29 rfl (lv_at hl 2 rfl) ?_
        obtain ⟨u30, M30, hc30, hF⟩ := gw_be hF
        refine gw_cv G (va_runVN (As := [.int v1, .int v2]) (rest := []) ⟨hx, hb, hml, hown, hts⟩ (ct_od_reset l X Y M ((a0 + 12) + 27 + 3 * ((M.1 a0 4).toNatClampNeg)) v1 v2 (gq_arr8 (gq_am_orders ha0) (gw_vj (gw_vp h27) rfl)) _ hc30) ⟨va_cnB 2 hts (gw_gN kw_77) rfl rfl rfl (hK.2.1 _ kn_20) (hg _ kw_14) (by decide +kernel) ⟨Nat.le_of_ble_eq_true rfl, Nat.le_of_ble_eq_true rfl⟩, hg _ kw_79, hg _ kw_80⟩ ⟨gw_blind, gw_recv_od hK G (gq_arr8 (gq_am_orders ha0) (gw_vj (gw_vp h27) rfl)), gw_pre hK G⟩ rfl rfl hl.1 rfl (Nat.le_of_ble_eq_true rfl) dd_am_order_30 ⟨Nat.le_of_ble_eq_true rfl, Nat.le_of_ble_eq_true rfl⟩) (fun H locs G => ?_)
        refine lv_aload_n hx hb dd_am_order_33 rfl (lv_at hl 0 rfl) ?_
        refine W.eq (g2 := F0 m 34 _ _) rfl ?_
        refine lv_dup hx hb dd_am_order_34 rfl ?_
        refine gf_am_orderCount hx hb hg hown (hg _ kw_118) hK G ha0 dd_am_order_35 ?_
        refine lv_dup_x1 hx hb dd_am_order_38 rfl rfl ?_
        refine lv_iconst (v := (1 : Int32)) hx hb dd_am_order_39 (by decide) ?_
        refine lv_iadd hx hb dd_am_order_40 ?_
        refine gp_am_orderCount hx hb hg hown (hg _ kw_118) hK G ha0 dd_am_order_41 (fun M41 H locs e41 G => ?_)
        replace hF := gw_ly e41 hF
        exact W.iret hx hb hr (fun t ht hW => gw_endi (EF := (fun M => (gw_E X M Y))) (M := M41) G ht hF) G.2.2.2.2 dd_am_order_44 hlocks
      · replace hF := gw_ef h14 hF
        refine lv_iconst (v := (-1 : Int32)) hx hb dd_am_order_17 (by decide) ?_
        exact W.iret hx hb hr (fun t ht hW => gw_endi (EF := (fun M => (gw_E X M Y))) (M := M) G ht hF) G.2.2.2.2 dd_am_order_18 hlocks
set_option maxRecDepth 100000 in
set_option maxHeartbeats 4000000 in
theorem ct_am_order (l : Launch) (X : gw_X) (Y : gw_M) (M : gw_M) (a0 : Nat) (v1 : Int32) (v2 : Int32) (ha0 : gc_k a0 = (2, 0)) (z : (Int32 × gw_M)) (hF : am_order_b0 M a0 v1 v2 = some z) : Met l yy_am_order ((Cond.code yy_am_order by_am_order 3 (some .int)) :: gw_w) rm_am_order (va_Pc [.ref (gc_a X a0), .int v1, .int v2] (gw_B X (gw_E X M Y))) (gw_Qi X (fun M => (gw_E X M Y)) z) 0 0 (gw_A X) := by
  refine Met.ofW (cc := by_am_order) (maxL := 3) (ret := (some .int)) (by decide) rfl ?_
  intro p e s m args below meth c s₁ B hml hv
  obtain ⟨rfl, hB⟩ := hv
  rw [lg_entry_eq]
  have hl := lv_entry ([.ref (gc_a X a0), .int v1, .int v2]) (n := 3) (Nat.le_of_ble_eq_true rfl)
  generalize (lg_sl ([.ref (gc_a X a0), .int v1, .int v2]) ++ List.replicate (3 - (lg_sl ([.ref (gc_a X a0), .int v1, .int v2])).length) Slot.unset).toArray = ls at hl ⊢
  have hl : lv_has ls 3 [(0, .ref (gc_a X a0)), (1, .int v1), (2, .int v2)] := hl
  exact wb_am_order_0 (gw_ctx B hml rfl hB) M a0 v1 v2 _ _ _ ha0 (gw_start hB) hl hF
/-! AccountMachine.isAccount(I)Z -/
abbrev rm_am_isAccount : Room := { frames := 0, cells := 0, slots := 0, locals := 0 }
theorem dd_am_isAccount_0 : decode by_am_isAccount 0 = .ok (.iload_n 0, 1) := by decide +kernel
theorem dd_am_isAccount_1 : decode by_am_isAccount 1 = .ok (.ifCond .lt 13, 3) := by decide +kernel
theorem dd_am_isAccount_4 : decode by_am_isAccount 4 = .ok (.iload_n 0, 1) := by decide +kernel
theorem dd_am_isAccount_5 : decode by_am_isAccount 5 = .ok (.bipush 8, 2) := by decide +kernel
theorem dd_am_isAccount_7 : decode by_am_isAccount 7 = .ok (.if_icmp .ge 7, 3) := by decide +kernel
theorem dd_am_isAccount_10 : decode by_am_isAccount 10 = .ok (.iconst 1, 1) := by decide +kernel
theorem dd_am_isAccount_11 : decode by_am_isAccount 11 = .ok (.goto 4, 3) := by decide +kernel
theorem dd_am_isAccount_14 : decode by_am_isAccount 14 = .ok (.iconst 0, 1) := by decide +kernel
theorem dd_am_isAccount_15 : decode by_am_isAccount 15 = .ok (.ireturn, 1) := by decide +kernel
def am_isAccount_b0 (M : gw_M) (v0 : Int32) : Option (Int32 × gw_M) :=
  if v0 < (0 : Int32) then (some ((0 : Int32), M)) else (if (8 : Int32) ≤ v0 then (some ((0 : Int32), M)) else (some ((1 : Int32), M)))
set_option maxRecDepth 100000 in
set_option maxHeartbeats 4000000 in
theorem wb_am_isAccount_0 {p : Program} {l : Launch} {e : Env} {s : State} {m : MethodId} {args : Array Value} {below : List Frame} {meth : Method} {c : Code} {X : gw_X} {Y : gw_M} {z : (Int32 × gw_M)} (C0 : gw_C ((Cond.code yy_am_isAccount by_am_isAccount 1 (some .boolean)) :: gw_w) by_am_isAccount 1 (some .boolean) "AccountMachine" X p s m args meth c) (M : gw_M) (v0 : Int32) (H : Heap) (locs : List Loc) (ls : Array Slot) (G : gw_G X (gw_E X M Y) s H locs) (hl : lv_has ls 1 [(0, .int v0)]) (hF : am_isAccount_b0  M v0 = some z) : W p l e rm_am_isAccount s m args below meth c H locs 0 0 (MQ below (gw_Qi X (fun M => (gw_E X M Y)) z) args s 0 0 (gw_A X)) (F0 m 0 ls []) := by
  obtain ⟨hx, hb, hml, hown, hts, hr, hlocks, hK⟩ := id C0
  have hg : ∀ w ∈ gw_w, w.before args s = true := fun w h => hts w (List.mem_cons_of_mem _ h)
  unfold am_isAccount_b0 at hF
  refine lv_iload_n hx hb dd_am_isAccount_0 rfl (lv_at hl 0 rfl) ?_
  refine lv_if_lt (tgt := 14) hx hb dd_am_isAccount_1 (by decide) (fun h1 => ?_) (fun h1 => ?_)
  · replace hF := gw_et h1 hF
    refine lv_iconst (v := (0 : Int32)) hx hb dd_am_isAccount_14 (by decide) ?_
    exact W.zret hx hb hr (by decide) (fun t ht hW => gw_endi (EF := (fun M => (gw_E X M Y))) (M := M) G ht hF) G.2.2.2.2 dd_am_isAccount_15 hlocks
  · replace hF := gw_ef h1 hF
    refine lv_iload_n hx hb dd_am_isAccount_4 rfl (lv_at hl 0 rfl) ?_
    refine lv_bipush (v := (8 : Int32)) hx hb dd_am_isAccount_5 (by decide) ?_
    refine lv_icmp_ge (tgt := 14) hx hb dd_am_isAccount_7 (by decide) (fun h7 => ?_) (fun h7 => ?_)
    · replace hF := gw_et h7 hF
      refine lv_iconst (v := (0 : Int32)) hx hb dd_am_isAccount_14 (by decide) ?_
      exact W.zret hx hb hr (by decide) (fun t ht hW => gw_endi (EF := (fun M => (gw_E X M Y))) (M := M) G ht hF) G.2.2.2.2 dd_am_isAccount_15 hlocks
    · replace hF := gw_ef h7 hF
      refine lv_iconst (v := (1 : Int32)) hx hb dd_am_isAccount_10 (by decide) ?_
      refine lv_goto (tgt := 15) hx hb dd_am_isAccount_11 (by decide) ?_
      exact W.zret hx hb hr (by decide) (fun t ht hW => gw_endi (EF := (fun M => (gw_E X M Y))) (M := M) G ht hF) G.2.2.2.2 dd_am_isAccount_15 hlocks
set_option maxRecDepth 100000 in
set_option maxHeartbeats 4000000 in
theorem ct_am_isAccount (l : Launch) (X : gw_X) (Y : gw_M) (M : gw_M) (v0 : Int32) (z : (Int32 × gw_M)) (hF : am_isAccount_b0 M v0 = some z) : Met l yy_am_isAccount ((Cond.code yy_am_isAccount by_am_isAccount 1 (some .boolean)) :: gw_w) rm_am_isAccount (va_Pc [.int v0] (gw_B X (gw_E X M Y))) (gw_Qi X (fun M => (gw_E X M Y)) z) 0 0 (gw_A X) := by
  refine Met.ofW (cc := by_am_isAccount) (maxL := 1) (ret := (some .boolean)) (by decide) rfl ?_
  intro p e s m args below meth c s₁ B hml hv
  obtain ⟨rfl, hB⟩ := hv
  rw [lg_entry_eq]
  have hl := lv_entry ([.int v0]) (n := 1) (Nat.le_of_ble_eq_true rfl)
  generalize (lg_sl ([.int v0]) ++ List.replicate (1 - (lg_sl ([.int v0])).length) Slot.unset).toArray = ls at hl ⊢
  have hl : lv_has ls 1 [(0, .int v0)] := hl
  exact wb_am_isAccount_0 (gw_ctx B hml rfl hB) M v0 _ _ _  (gw_start hB) hl hF
/-! AccountMachine.slot(II)Z -/
abbrev rm_am_slot : Room := { frames := 1, cells := 0, slots := 0, locals := 22 }
theorem dd_am_slot_0 : decode by_am_slot 0 = .ok (.aload_n 0, 1) := by decide +kernel
theorem dd_am_slot_1 : decode by_am_slot 1 = .ok (.getfield 31, 3) := by decide +kernel
theorem dd_am_slot_4 : decode by_am_slot 4 = .ok (.ifCond .eq 19, 3) := by decide +kernel
theorem dd_am_slot_7 : decode by_am_slot 7 = .ok (.iload_n 1, 1) := by decide +kernel
theorem dd_am_slot_8 : decode by_am_slot 8 = .ok (.invokestatic 83, 3) := by decide +kernel
theorem dd_am_slot_11 : decode by_am_slot 11 = .ok (.ifCond .eq 12, 3) := by decide +kernel
theorem dd_am_slot_14 : decode by_am_slot 14 = .ok (.iload_n 2, 1) := by decide +kernel
theorem dd_am_slot_15 : decode by_am_slot 15 = .ok (.ifCond .lt 8, 3) := by decide +kernel
theorem dd_am_slot_18 : decode by_am_slot 18 = .ok (.iload_n 2, 1) := by decide +kernel
theorem dd_am_slot_19 : decode by_am_slot 19 = .ok (.iconst 3, 1) := by decide +kernel
theorem dd_am_slot_20 : decode by_am_slot 20 = .ok (.if_icmp .le 5, 3) := by decide +kernel
theorem dd_am_slot_23 : decode by_am_slot 23 = .ok (.iconst 0, 1) := by decide +kernel
theorem dd_am_slot_24 : decode by_am_slot 24 = .ok (.ireturn, 1) := by decide +kernel
theorem dd_am_slot_25 : decode by_am_slot 25 = .ok (.aload_n 0, 1) := by decide +kernel
theorem dd_am_slot_26 : decode by_am_slot 26 = .ok (.getfield 27, 3) := by decide +kernel
theorem dd_am_slot_29 : decode by_am_slot 29 = .ok (.aload_n 0, 1) := by decide +kernel
theorem dd_am_slot_30 : decode by_am_slot 30 = .ok (.getfield 31, 3) := by decide +kernel
theorem dd_am_slot_33 : decode by_am_slot 33 = .ok (.iconst 1, 1) := by decide +kernel
theorem dd_am_slot_34 : decode by_am_slot 34 = .ok (.isub, 1) := by decide +kernel
theorem dd_am_slot_35 : decode by_am_slot 35 = .ok (.aaload, 1) := by decide +kernel
theorem dd_am_slot_36 : decode by_am_slot 36 = .ok (.iload_n 1, 1) := by decide +kernel
theorem dd_am_slot_37 : decode by_am_slot 37 = .ok (.iload_n 2, 1) := by decide +kernel
theorem dd_am_slot_38 : decode by_am_slot 38 = .ok (.invokevirtual 86, 3) := by decide +kernel
theorem dd_am_slot_41 : decode by_am_slot 41 = .ok (.ireturn, 1) := by decide +kernel
def am_slot_b0 (M : gw_M) (a0 : Nat) (v1 : Int32) (v2 : Int32) : Option (Int32 × gw_M) :=
  if (M.1 a0 4) = (0 : Int32) then (some ((0 : Int32), M)) else (gw_bd (am_isAccount_b0 M v1) (fun r8 M8 => if r8 = (0 : Int32) then (some ((0 : Int32), M8)) else (if v2 < (0 : Int32) then (some ((0 : Int32), M8)) else (if v2 ≤ (3 : Int32) then (gw_gu (gw_in ((M8.1 a0 4) - (1 : Int32)) 3) (gw_bd (od_addSlot_b0 M8 ((a0 + 12) + 27 + 3 * (((M8.1 a0 4) - (1 : Int32)).toNatClampNeg)) v1 v2) (fun r38 M38 => gw_gu (gw_bz r38) (some (r38, M38))))) else (some ((0 : Int32), M8))))))
set_option maxRecDepth 100000 in
set_option maxHeartbeats 4000000 in
theorem wb_am_slot_0 {p : Program} {l : Launch} {e : Env} {s : State} {m : MethodId} {args : Array Value} {below : List Frame} {meth : Method} {c : Code} {X : gw_X} {Y : gw_M} {z : (Int32 × gw_M)} (C0 : gw_C ((Cond.code yy_am_slot by_am_slot 3 (some .boolean)) :: gw_w) by_am_slot 3 (some .boolean) "AccountMachine" X p s m args meth c) (M : gw_M) (a0 : Nat) (v1 : Int32) (v2 : Int32) (H : Heap) (locs : List Loc) (ls : Array Slot) (ha0 : gc_k a0 = (2, 0)) (G : gw_G X (gw_E X M Y) s H locs) (hl : lv_has ls 3 [(0, .ref (gc_a X a0)), (1, .int v1), (2, .int v2)]) (hF : am_slot_b0  M a0 v1 v2 = some z) : W p l e rm_am_slot s m args below meth c H locs 0 0 (MQ below (gw_Qi X (fun M => (gw_E X M Y)) z) args s 0 0 (gw_A X)) (F0 m 0 ls []) := by
  obtain ⟨hx, hb, hml, hown, hts, hr, hlocks, hK⟩ := id C0
  have hg : ∀ w ∈ gw_w, w.before args s = true := fun w h => hts w (List.mem_cons_of_mem _ h)
  unfold am_slot_b0 at hF
  refine lv_aload_n hx hb dd_am_slot_0 rfl (lv_at hl 0 rfl) ?_
  refine gf_am_orderCount hx hb hg hown (hg _ kw_118) hK G ha0 dd_am_slot_1 ?_
  refine lv_if_eq (tgt := 23) hx hb dd_am_slot_4 (by decide) (fun h4 => ?_) (fun h4 => ?_)
  · replace hF := gw_et h4 hF
    refine lv_iconst (v := (0 : Int32)) hx hb dd_am_slot_23 (by decide) ?_
    exact W.zret hx hb hr (by decide) (fun t ht hW => gw_endi (EF := (fun M => (gw_E X M Y))) (M := M) G ht hF) G.2.2.2.2 dd_am_slot_24 hlocks
  · replace hF := gw_ef h4 hF
    refine lv_iload_n hx hb dd_am_slot_7 rfl (lv_at hl 1 rfl) ?_
    obtain ⟨r8, M8, hc8, hF⟩ := gw_be hF
    refine gw_ci G (va_runS (As := [.int v1]) (rest := []) ⟨hx, hb, hml, hown, hts⟩ (ct_am_isAccount l X Y M v1  _ hc8) (cwS 1 hts (gw_gS kw_121 kw_122 kw_107 kw_120) rfl rfl rfl (by decide +kernel) ⟨Nat.le_of_ble_eq_true rfl, Nat.le_of_ble_eq_true rfl⟩) ⟨gw_blind, gw_pre hK G⟩ rfl rfl hl.1 rfl (Nat.le_of_ble_eq_true rfl) dd_am_slot_8 ⟨Nat.le_of_ble_eq_true rfl, Nat.le_of_ble_eq_true rfl⟩) (fun H locs G => ?_)
    refine lv_if_eq (tgt := 23) hx hb dd_am_slot_11 (by decide) (fun h11 => ?_) (fun h11 => ?_)
    · replace hF := gw_et h11 hF
      refine lv_iconst (v := (0 : Int32)) hx hb dd_am_slot_23 (by decide) ?_
      exact W.zret hx hb hr (by decide) (fun t ht hW => gw_endi (EF := (fun M => (gw_E X M Y))) (M := M8) G ht hF) G.2.2.2.2 dd_am_slot_24 hlocks
    · replace hF := gw_ef h11 hF
      refine lv_iload_n hx hb dd_am_slot_14 rfl (lv_at hl 2 rfl) ?_
      refine lv_if_lt (tgt := 23) hx hb dd_am_slot_15 (by decide) (fun h15 => ?_) (fun h15 => ?_)
      · replace hF := gw_et h15 hF
        refine lv_iconst (v := (0 : Int32)) hx hb dd_am_slot_23 (by decide) ?_
        exact W.zret hx hb hr (by decide) (fun t ht hW => gw_endi (EF := (fun M => (gw_E X M Y))) (M := M8) G ht hF) G.2.2.2.2 dd_am_slot_24 hlocks
      · replace hF := gw_ef h15 hF
        refine lv_iload_n hx hb dd_am_slot_18 rfl (lv_at hl 2 rfl) ?_
        refine lv_iconst (v := (3 : Int32)) hx hb dd_am_slot_19 (by decide) ?_
        refine lv_icmp_le (tgt := 25) hx hb dd_am_slot_20 (by decide) (fun h20 => ?_) (fun h20 => ?_)
        · replace hF := gw_et h20 hF
          refine lv_aload_n hx hb dd_am_slot_25 rfl (lv_at hl 0 rfl) ?_
          refine gf_am_orders hx hb hg hown (hg _ kw_119) hK G ha0 dd_am_slot_26 ?_
          refine lv_aload_n hx hb dd_am_slot_29 rfl (lv_at hl 0 rfl) ?_
          refine gf_am_orderCount hx hb hg hown (hg _ kw_118) hK G ha0 dd_am_slot_30 ?_
          refine lv_iconst (v := (1 : Int32)) hx hb dd_am_slot_33 (by decide) ?_
          refine lv_isub hx hb dd_am_slot_34 ?_
          obtain ⟨h35, hF⟩ := gw_gd hF
          refine gc_aald8 hx hb hK G (gq_am_orders ha0) (gw_vp h35) (j := ((M8.1 a0 4) - (1 : Int32)).toNatClampNeg) rfl dd_am_slot_35 ?_
          refine lv_iload_n hx hb dd_am_slot_36 rfl (lv_at hl 1 rfl) ?_
          refine lv_iload_n hx hb dd_am_slot_37 rfl (lv_at hl 2 rfl) ?_
          refine W.eq (g2 := F0 m 38 _ _) rfl ?_
          obtain ⟨r38, M38, hc38, hF⟩ := gw_be hF
          refine gw_ci G (va_runVN (As := [.int v1, .int v2]) (rest := []) ⟨hx, hb, hml, hown, hts⟩ (ct_od_addSlot l X Y M8 ((a0 + 12) + 27 + 3 * (((M8.1 a0 4) - (1 : Int32)).toNatClampNeg)) v1 v2 (gq_arr8 (gq_am_orders ha0) (gw_vj (gw_vp h35) rfl)) _ hc38) ⟨va_cnB 2 hts (gw_gN kw_73) rfl rfl rfl (hK.2.1 _ kn_21) (hg _ kw_14) (by decide +kernel) ⟨Nat.le_of_ble_eq_true rfl, Nat.le_of_ble_eq_true rfl⟩, hg _ kw_75, hg _ kw_76⟩ ⟨gw_blind, gw_recv_od hK G (gq_arr8 (gq_am_orders ha0) (gw_vj (gw_vp h35) rfl)), gw_pre hK G⟩ rfl rfl hl.1 rfl (Nat.le_of_ble_eq_true rfl) dd_am_slot_38 ⟨Nat.le_of_ble_eq_true rfl, Nat.le_of_ble_eq_true rfl⟩) (fun H locs G => ?_)
          obtain ⟨h41, hF⟩ := gw_gd hF
          exact W.zret hx hb hr (gw_bn h41) (fun t ht hW => gw_endi (EF := (fun M => (gw_E X M Y))) (M := M38) G ht hF) G.2.2.2.2 dd_am_slot_41 hlocks
        · replace hF := gw_ef h20 hF
          refine lv_iconst (v := (0 : Int32)) hx hb dd_am_slot_23 (by decide) ?_
          exact W.zret hx hb hr (by decide) (fun t ht hW => gw_endi (EF := (fun M => (gw_E X M Y))) (M := M8) G ht hF) G.2.2.2.2 dd_am_slot_24 hlocks
set_option maxRecDepth 100000 in
set_option maxHeartbeats 4000000 in
theorem ct_am_slot (l : Launch) (X : gw_X) (Y : gw_M) (M : gw_M) (a0 : Nat) (v1 : Int32) (v2 : Int32) (ha0 : gc_k a0 = (2, 0)) (z : (Int32 × gw_M)) (hF : am_slot_b0 M a0 v1 v2 = some z) : Met l yy_am_slot ((Cond.code yy_am_slot by_am_slot 3 (some .boolean)) :: gw_w) rm_am_slot (va_Pc [.ref (gc_a X a0), .int v1, .int v2] (gw_B X (gw_E X M Y))) (gw_Qi X (fun M => (gw_E X M Y)) z) 0 0 (gw_A X) := by
  refine Met.ofW (cc := by_am_slot) (maxL := 3) (ret := (some .boolean)) (by decide) rfl ?_
  intro p e s m args below meth c s₁ B hml hv
  obtain ⟨rfl, hB⟩ := hv
  rw [lg_entry_eq]
  have hl := lv_entry ([.ref (gc_a X a0), .int v1, .int v2]) (n := 3) (Nat.le_of_ble_eq_true rfl)
  generalize (lg_sl ([.ref (gc_a X a0), .int v1, .int v2]) ++ List.replicate (3 - (lg_sl ([.ref (gc_a X a0), .int v1, .int v2])).length) Slot.unset).toArray = ls at hl ⊢
  have hl : lv_has ls 3 [(0, .ref (gc_a X a0)), (1, .int v1), (2, .int v2)] := hl
  exact wb_am_slot_0 (gw_ctx B hml rfl hB) M a0 v1 v2 _ _ _ ha0 (gw_start hB) hl hF
/-! AccountMachine.canRun(I)Z -/
abbrev rm_am_canRun : Room := { frames := 0, cells := 0, slots := 0, locals := 0 }
theorem dd_am_canRun_0 : decode by_am_canRun 0 = .ok (.iload_n 1, 1) := by decide +kernel
theorem dd_am_canRun_1 : decode by_am_canRun 1 = .ok (.ifCond .eq 15, 3) := by decide +kernel
theorem dd_am_canRun_4 : decode by_am_canRun 4 = .ok (.aload_n 0, 1) := by decide +kernel
theorem dd_am_canRun_5 : decode by_am_canRun 5 = .ok (.getfield 11, 3) := by decide +kernel
theorem dd_am_canRun_8 : decode by_am_canRun 8 = .ok (.iload_n 1, 1) := by decide +kernel
theorem dd_am_canRun_9 : decode by_am_canRun 9 = .ok (.aaload, 1) := by decide +kernel
theorem dd_am_canRun_10 : decode by_am_canRun 10 = .ok (.getfield 115, 3) := by decide +kernel
theorem dd_am_canRun_13 : decode by_am_canRun 13 = .ok (.ifCond .eq 7, 3) := by decide +kernel
theorem dd_am_canRun_16 : decode by_am_canRun 16 = .ok (.iconst 1, 1) := by decide +kernel
theorem dd_am_canRun_17 : decode by_am_canRun 17 = .ok (.goto 4, 3) := by decide +kernel
theorem dd_am_canRun_20 : decode by_am_canRun 20 = .ok (.iconst 0, 1) := by decide +kernel
theorem dd_am_canRun_21 : decode by_am_canRun 21 = .ok (.ireturn, 1) := by decide +kernel
def am_canRun_b16 (M : gw_M) : Option (Int32 × gw_M) :=
  some ((1 : Int32), M)
def am_canRun_b0 (M : gw_M) (a0 : Nat) (v1 : Int32) : Option (Int32 × gw_M) :=
  if v1 = (0 : Int32) then (am_canRun_b16  M) else (gw_gu (gw_in v1 4) (if (M.1 ((a0 + 1) + 14 + 6 * v1.toNatClampNeg) 6) = (0 : Int32) then (some ((0 : Int32), M)) else (am_canRun_b16  M)))
set_option maxRecDepth 100000 in
set_option maxHeartbeats 4000000 in
theorem wb_am_canRun_16 {p : Program} {l : Launch} {e : Env} {s : State} {m : MethodId} {args : Array Value} {below : List Frame} {meth : Method} {c : Code} {X : gw_X} {Y : gw_M} {z : (Int32 × gw_M)} (C0 : gw_C ((Cond.code yy_am_canRun by_am_canRun 2 (some .boolean)) :: gw_w) by_am_canRun 2 (some .boolean) "AccountMachine" X p s m args meth c) (M : gw_M) (H : Heap) (locs : List Loc) (ls : Array Slot) (G : gw_G X (gw_E X M Y) s H locs) (hl : lv_has ls 2 []) (hF : am_canRun_b16  M = some z) : W p l e rm_am_canRun s m args below meth c H locs 0 0 (MQ below (gw_Qi X (fun M => (gw_E X M Y)) z) args s 0 0 (gw_A X)) (F0 m 16 ls []) := by
  obtain ⟨hx, hb, hml, hown, hts, hr, hlocks, hK⟩ := id C0
  have hg : ∀ w ∈ gw_w, w.before args s = true := fun w h => hts w (List.mem_cons_of_mem _ h)
  unfold am_canRun_b16 at hF
  refine lv_iconst (v := (1 : Int32)) hx hb dd_am_canRun_16 (by decide) ?_
  refine lv_goto (tgt := 21) hx hb dd_am_canRun_17 (by decide) ?_
  exact W.zret hx hb hr (by decide) (fun t ht hW => gw_endi (EF := (fun M => (gw_E X M Y))) (M := M) G ht hF) G.2.2.2.2 dd_am_canRun_21 hlocks
set_option maxRecDepth 100000 in
set_option maxHeartbeats 4000000 in
theorem wb_am_canRun_0 {p : Program} {l : Launch} {e : Env} {s : State} {m : MethodId} {args : Array Value} {below : List Frame} {meth : Method} {c : Code} {X : gw_X} {Y : gw_M} {z : (Int32 × gw_M)} (C0 : gw_C ((Cond.code yy_am_canRun by_am_canRun 2 (some .boolean)) :: gw_w) by_am_canRun 2 (some .boolean) "AccountMachine" X p s m args meth c) (M : gw_M) (a0 : Nat) (v1 : Int32) (H : Heap) (locs : List Loc) (ls : Array Slot) (ha0 : gc_k a0 = (2, 0)) (G : gw_G X (gw_E X M Y) s H locs) (hl : lv_has ls 2 [(0, .ref (gc_a X a0)), (1, .int v1)]) (hF : am_canRun_b0  M a0 v1 = some z) : W p l e rm_am_canRun s m args below meth c H locs 0 0 (MQ below (gw_Qi X (fun M => (gw_E X M Y)) z) args s 0 0 (gw_A X)) (F0 m 0 ls []) := by
  obtain ⟨hx, hb, hml, hown, hts, hr, hlocks, hK⟩ := id C0
  have hg : ∀ w ∈ gw_w, w.before args s = true := fun w h => hts w (List.mem_cons_of_mem _ h)
  unfold am_canRun_b0 at hF
  refine lv_iload_n hx hb dd_am_canRun_0 rfl (lv_at hl 1 rfl) ?_
  refine lv_if_eq (tgt := 16) hx hb dd_am_canRun_1 (by decide) (fun h1 => ?_) (fun h1 => ?_)
  · replace hF := gw_et h1 hF
    exact wb_am_canRun_16 C0  M _ _ _  G (lv_sub hl [] rfl) hF
  · replace hF := gw_ef h1 hF
    refine lv_aload_n hx hb dd_am_canRun_4 rfl (lv_at hl 0 rfl) ?_
    refine gf_am_programs hx hb hg hown (hg _ kw_108) hK G ha0 dd_am_canRun_5 ?_
    refine lv_iload_n hx hb dd_am_canRun_8 rfl (lv_at hl 1 rfl) ?_
    obtain ⟨h9, hF⟩ := gw_gd hF
    refine gc_aald7 hx hb hK G (gq_am_programs ha0) (gw_vp h9) (j := v1.toNatClampNeg) rfl dd_am_canRun_9 ?_
    refine gn_pr_sound hx hb hg hown (gw_nw hK kn_22) hK G (gq_arr7 (gq_am_programs ha0) (gw_vj (gw_vp h9) rfl)) dd_am_canRun_10 ?_
    refine lv_if_eq (tgt := 20) hx hb dd_am_canRun_13 (by decide) (fun h13 => ?_) (fun h13 => ?_)
    · replace hF := gw_et h13 hF
      refine lv_iconst (v := (0 : Int32)) hx hb dd_am_canRun_20 (by decide) ?_
      exact W.zret hx hb hr (by decide) (fun t ht hW => gw_endi (EF := (fun M => (gw_E X M Y))) (M := M) G ht hF) G.2.2.2.2 dd_am_canRun_21 hlocks
    · replace hF := gw_ef h13 hF
      exact wb_am_canRun_16 C0  M _ _ _  G (lv_sub hl [] rfl) hF
set_option maxRecDepth 100000 in
set_option maxHeartbeats 4000000 in
theorem ct_am_canRun (l : Launch) (X : gw_X) (Y : gw_M) (M : gw_M) (a0 : Nat) (v1 : Int32) (ha0 : gc_k a0 = (2, 0)) (z : (Int32 × gw_M)) (hF : am_canRun_b0 M a0 v1 = some z) : Met l yy_am_canRun ((Cond.code yy_am_canRun by_am_canRun 2 (some .boolean)) :: gw_w) rm_am_canRun (va_Pc [.ref (gc_a X a0), .int v1] (gw_B X (gw_E X M Y))) (gw_Qi X (fun M => (gw_E X M Y)) z) 0 0 (gw_A X) := by
  refine Met.ofW (cc := by_am_canRun) (maxL := 2) (ret := (some .boolean)) (by decide) rfl ?_
  intro p e s m args below meth c s₁ B hml hv
  obtain ⟨rfl, hB⟩ := hv
  rw [lg_entry_eq]
  have hl := lv_entry ([.ref (gc_a X a0), .int v1]) (n := 2) (Nat.le_of_ble_eq_true rfl)
  generalize (lg_sl ([.ref (gc_a X a0), .int v1]) ++ List.replicate (2 - (lg_sl ([.ref (gc_a X a0), .int v1])).length) Slot.unset).toArray = ls at hl ⊢
  have hl : lv_has ls 2 [(0, .ref (gc_a X a0)), (1, .int v1)] := hl
  exact wb_am_canRun_0 (gw_ctx B hml rfl hB) M a0 v1 _ _ _ ha0 (gw_start hB) hl hF
/-! AccountMachine.takeUnits(I)Z -/
abbrev rm_am_takeUnits : Room := { frames := 0, cells := 0, slots := 0, locals := 0 }
theorem dd_am_takeUnits_0 : decode by_am_takeUnits 0 = .ok (.aload_n 0, 1) := by decide +kernel
theorem dd_am_takeUnits_1 : decode by_am_takeUnits 1 = .ok (.getfield 44, 3) := by decide +kernel
theorem dd_am_takeUnits_4 : decode by_am_takeUnits 4 = .ok (.iload_n 1, 1) := by decide +kernel
theorem dd_am_takeUnits_5 : decode by_am_takeUnits 5 = .ok (.if_icmp .lt 7, 3) := by decide +kernel
theorem dd_am_takeUnits_8 : decode by_am_takeUnits 8 = .ok (.iconst 1, 1) := by decide +kernel
theorem dd_am_takeUnits_9 : decode by_am_takeUnits 9 = .ok (.goto 4, 3) := by decide +kernel
theorem dd_am_takeUnits_12 : decode by_am_takeUnits 12 = .ok (.iconst 0, 1) := by decide +kernel
theorem dd_am_takeUnits_13 : decode by_am_takeUnits 13 = .ok (.istore_n 2, 1) := by decide +kernel
theorem dd_am_takeUnits_14 : decode by_am_takeUnits 14 = .ok (.aload_n 0, 1) := by decide +kernel
theorem dd_am_takeUnits_15 : decode by_am_takeUnits 15 = .ok (.iload_n 2, 1) := by decide +kernel
theorem dd_am_takeUnits_16 : decode by_am_takeUnits 16 = .ok (.ifCond .eq 12, 3) := by decide +kernel
theorem dd_am_takeUnits_19 : decode by_am_takeUnits 19 = .ok (.aload_n 0, 1) := by decide +kernel
theorem dd_am_takeUnits_20 : decode by_am_takeUnits 20 = .ok (.getfield 44, 3) := by decide +kernel
theorem dd_am_takeUnits_23 : decode by_am_takeUnits 23 = .ok (.iload_n 1, 1) := by decide +kernel
theorem dd_am_takeUnits_24 : decode by_am_takeUnits 24 = .ok (.isub, 1) := by decide +kernel
theorem dd_am_takeUnits_25 : decode by_am_takeUnits 25 = .ok (.goto 4, 3) := by decide +kernel
theorem dd_am_takeUnits_28 : decode by_am_takeUnits 28 = .ok (.iconst 0, 1) := by decide +kernel
theorem dd_am_takeUnits_29 : decode by_am_takeUnits 29 = .ok (.putfield 44, 3) := by decide +kernel
theorem dd_am_takeUnits_32 : decode by_am_takeUnits 32 = .ok (.iload_n 2, 1) := by decide +kernel
theorem dd_am_takeUnits_33 : decode by_am_takeUnits 33 = .ok (.ireturn, 1) := by decide +kernel
def am_takeUnits_b29 (M : gw_M) (v2 : Int32) (t0 : Int32) (b1 : Nat) : Option (Int32 × gw_M) :=
  gw_lt (gw_sI M b1 7 t0) (fun M29 => gw_gu (gw_bz v2) (some (v2, M29)))
def am_takeUnits_b13 (M : gw_M) (a0 : Nat) (v1 : Int32) (t0 : Int32) : Option (Int32 × gw_M) :=
  if t0 = (0 : Int32) then (am_takeUnits_b29  M t0 (0 : Int32) a0) else (am_takeUnits_b29  M t0 ((M.1 a0 7) - v1) a0)
def am_takeUnits_b0 (M : gw_M) (a0 : Nat) (v1 : Int32) : Option (Int32 × gw_M) :=
  if (M.1 a0 7) < v1 then (am_takeUnits_b13  M a0 v1 (0 : Int32)) else (am_takeUnits_b13  M a0 v1 (1 : Int32))
set_option maxRecDepth 100000 in
set_option maxHeartbeats 4000000 in
theorem wb_am_takeUnits_29 {p : Program} {l : Launch} {e : Env} {s : State} {m : MethodId} {args : Array Value} {below : List Frame} {meth : Method} {c : Code} {X : gw_X} {Y : gw_M} {z : (Int32 × gw_M)} (C0 : gw_C ((Cond.code yy_am_takeUnits by_am_takeUnits 3 (some .boolean)) :: gw_w) by_am_takeUnits 3 (some .boolean) "AccountMachine" X p s m args meth c) (M : gw_M) (v2 : Int32) (t0 : Int32) (b1 : Nat) (H : Heap) (locs : List Loc) (ls : Array Slot) (hb1 : gc_k b1 = (2, 0)) (G : gw_G X (gw_E X M Y) s H locs) (hl : lv_has ls 3 [(2, .int v2)]) (hF : am_takeUnits_b29  M v2 t0 b1 = some z) : W p l e rm_am_takeUnits s m args below meth c H locs 0 0 (MQ below (gw_Qi X (fun M => (gw_E X M Y)) z) args s 0 0 (gw_A X)) (F0 m 29 ls [.int t0, .ref (gc_a X b1)]) := by
  obtain ⟨hx, hb, hml, hown, hts, hr, hlocks, hK⟩ := id C0
  have hg : ∀ w ∈ gw_w, w.before args s = true := fun w h => hts w (List.mem_cons_of_mem _ h)
  unfold am_takeUnits_b29 at hF
  refine gp_am_meter hx hb hg hown (hg _ kw_123) hK G hb1 dd_am_takeUnits_29 (fun M29 H locs e29 G => ?_)
  replace hF := gw_ly e29 hF
  refine lv_iload_n hx hb dd_am_takeUnits_32 rfl (lv_at hl 0 rfl) ?_
  obtain ⟨h33, hF⟩ := gw_gd hF
  exact W.zret hx hb hr (gw_bn h33) (fun t ht hW => gw_endi (EF := (fun M => (gw_E X M Y))) (M := M29) G ht hF) G.2.2.2.2 dd_am_takeUnits_33 hlocks
set_option maxRecDepth 100000 in
set_option maxHeartbeats 4000000 in
theorem wb_am_takeUnits_13 {p : Program} {l : Launch} {e : Env} {s : State} {m : MethodId} {args : Array Value} {below : List Frame} {meth : Method} {c : Code} {X : gw_X} {Y : gw_M} {z : (Int32 × gw_M)} (C0 : gw_C ((Cond.code yy_am_takeUnits by_am_takeUnits 3 (some .boolean)) :: gw_w) by_am_takeUnits 3 (some .boolean) "AccountMachine" X p s m args meth c) (M : gw_M) (a0 : Nat) (v1 : Int32) (t0 : Int32) (H : Heap) (locs : List Loc) (ls : Array Slot) (ha0 : gc_k a0 = (2, 0)) (G : gw_G X (gw_E X M Y) s H locs) (hl : lv_has ls 3 [(0, .ref (gc_a X a0)), (1, .int v1)]) (hF : am_takeUnits_b13  M a0 v1 t0 = some z) : W p l e rm_am_takeUnits s m args below meth c H locs 0 0 (MQ below (gw_Qi X (fun M => (gw_E X M Y)) z) args s 0 0 (gw_A X)) (F0 m 13 ls [.int t0]) := by
  obtain ⟨hx, hb, hml, hown, hts, hr, hlocks, hK⟩ := id C0
  have hg : ∀ w ∈ gw_w, w.before args s = true := fun w h => hts w (List.mem_cons_of_mem _ h)
  unfold am_takeUnits_b13 at hF
  refine lv_istore_n (i := 2) (lv' := [(2, .int t0), (0, .ref (gc_a X a0)), (1, .int v1)]) hx hb dd_am_takeUnits_13 rfl hl (by decide) rfl (fun ls hl => ?_)
  refine lv_aload_n hx hb dd_am_takeUnits_14 rfl (lv_at hl 1 rfl) ?_
  refine lv_iload_n hx hb dd_am_takeUnits_15 rfl (lv_at hl 0 rfl) ?_
  refine lv_if_eq (tgt := 28) hx hb dd_am_takeUnits_16 (by decide) (fun h16 => ?_) (fun h16 => ?_)
  · replace hF := gw_et h16 hF
    refine lv_iconst (v := (0 : Int32)) hx hb dd_am_takeUnits_28 (by decide) ?_
    exact wb_am_takeUnits_29 C0  M t0 (0 : Int32) a0 _ _ _ ha0 G (lv_sub hl [0] rfl) hF
  · replace hF := gw_ef h16 hF
    refine lv_aload_n hx hb dd_am_takeUnits_19 rfl (lv_at hl 1 rfl) ?_
    refine gf_am_meter hx hb hg hown (hg _ kw_123) hK G ha0 dd_am_takeUnits_20 ?_
    refine lv_iload_n hx hb dd_am_takeUnits_23 rfl (lv_at hl 2 rfl) ?_
    refine lv_isub hx hb dd_am_takeUnits_24 ?_
    refine lv_goto (tgt := 29) hx hb dd_am_takeUnits_25 (by decide) ?_
    exact wb_am_takeUnits_29 C0  M t0 ((M.1 a0 7) - v1) a0 _ _ _ ha0 G (lv_sub hl [0] rfl) hF
set_option maxRecDepth 100000 in
set_option maxHeartbeats 4000000 in
theorem wb_am_takeUnits_0 {p : Program} {l : Launch} {e : Env} {s : State} {m : MethodId} {args : Array Value} {below : List Frame} {meth : Method} {c : Code} {X : gw_X} {Y : gw_M} {z : (Int32 × gw_M)} (C0 : gw_C ((Cond.code yy_am_takeUnits by_am_takeUnits 3 (some .boolean)) :: gw_w) by_am_takeUnits 3 (some .boolean) "AccountMachine" X p s m args meth c) (M : gw_M) (a0 : Nat) (v1 : Int32) (H : Heap) (locs : List Loc) (ls : Array Slot) (ha0 : gc_k a0 = (2, 0)) (G : gw_G X (gw_E X M Y) s H locs) (hl : lv_has ls 3 [(0, .ref (gc_a X a0)), (1, .int v1)]) (hF : am_takeUnits_b0  M a0 v1 = some z) : W p l e rm_am_takeUnits s m args below meth c H locs 0 0 (MQ below (gw_Qi X (fun M => (gw_E X M Y)) z) args s 0 0 (gw_A X)) (F0 m 0 ls []) := by
  obtain ⟨hx, hb, hml, hown, hts, hr, hlocks, hK⟩ := id C0
  have hg : ∀ w ∈ gw_w, w.before args s = true := fun w h => hts w (List.mem_cons_of_mem _ h)
  unfold am_takeUnits_b0 at hF
  refine lv_aload_n hx hb dd_am_takeUnits_0 rfl (lv_at hl 0 rfl) ?_
  refine gf_am_meter hx hb hg hown (hg _ kw_123) hK G ha0 dd_am_takeUnits_1 ?_
  refine lv_iload_n hx hb dd_am_takeUnits_4 rfl (lv_at hl 1 rfl) ?_
  refine lv_icmp_lt (tgt := 12) hx hb dd_am_takeUnits_5 (by decide) (fun h5 => ?_) (fun h5 => ?_)
  · replace hF := gw_et h5 hF
    refine lv_iconst (v := (0 : Int32)) hx hb dd_am_takeUnits_12 (by decide) ?_
    exact wb_am_takeUnits_13 C0  M a0 v1 (0 : Int32) _ _ _ ha0 G (lv_sub hl [0, 1] rfl) hF
  · replace hF := gw_ef h5 hF
    refine lv_iconst (v := (1 : Int32)) hx hb dd_am_takeUnits_8 (by decide) ?_
    refine lv_goto (tgt := 13) hx hb dd_am_takeUnits_9 (by decide) ?_
    exact wb_am_takeUnits_13 C0  M a0 v1 (1 : Int32) _ _ _ ha0 G (lv_sub hl [0, 1] rfl) hF
set_option maxRecDepth 100000 in
set_option maxHeartbeats 4000000 in
theorem ct_am_takeUnits (l : Launch) (X : gw_X) (Y : gw_M) (M : gw_M) (a0 : Nat) (v1 : Int32) (ha0 : gc_k a0 = (2, 0)) (z : (Int32 × gw_M)) (hF : am_takeUnits_b0 M a0 v1 = some z) : Met l yy_am_takeUnits ((Cond.code yy_am_takeUnits by_am_takeUnits 3 (some .boolean)) :: gw_w) rm_am_takeUnits (va_Pc [.ref (gc_a X a0), .int v1] (gw_B X (gw_E X M Y))) (gw_Qi X (fun M => (gw_E X M Y)) z) 0 0 (gw_A X) := by
  refine Met.ofW (cc := by_am_takeUnits) (maxL := 3) (ret := (some .boolean)) (by decide) rfl ?_
  intro p e s m args below meth c s₁ B hml hv
  obtain ⟨rfl, hB⟩ := hv
  rw [lg_entry_eq]
  have hl := lv_entry ([.ref (gc_a X a0), .int v1]) (n := 3) (Nat.le_of_ble_eq_true rfl)
  generalize (lg_sl ([.ref (gc_a X a0), .int v1]) ++ List.replicate (3 - (lg_sl ([.ref (gc_a X a0), .int v1])).length) Slot.unset).toArray = ls at hl ⊢
  have hl : lv_has ls 3 [(0, .ref (gc_a X a0)), (1, .int v1)] := hl
  exact wb_am_takeUnits_0 (gw_ctx B hml rfl hB) M a0 v1 _ _ _ ha0 (gw_start hB) hl hF
/-! AccountMachine.transfer(LAccountMachine$Order;I)I -/
abbrev rm_am_transfer : Room := { frames := 1, cells := 0, slots := 0, locals := 23 }
theorem dd_am_transfer_0 : decode by_am_transfer 0 = .ok (.aload_n 1, 1) := by decide +kernel
theorem dd_am_transfer_1 : decode by_am_transfer 1 = .ok (.getfield 119, 3) := by decide +kernel
theorem dd_am_transfer_4 : decode by_am_transfer 4 = .ok (.iconst 2, 1) := by decide +kernel
theorem dd_am_transfer_5 : decode by_am_transfer 5 = .ok (.if_icmp .lt 22, 3) := by decide +kernel
theorem dd_am_transfer_8 : decode by_am_transfer 8 = .ok (.iload_n 2, 1) := by decide +kernel
theorem dd_am_transfer_9 : decode by_am_transfer 9 = .ok (.ifCond .lt 18, 3) := by decide +kernel
theorem dd_am_transfer_12 : decode by_am_transfer 12 = .ok (.aload_n 1, 1) := by decide +kernel
theorem dd_am_transfer_13 : decode by_am_transfer 13 = .ok (.getfield 120, 3) := by decide +kernel
theorem dd_am_transfer_16 : decode by_am_transfer 16 = .ok (.iconst 0, 1) := by decide +kernel
theorem dd_am_transfer_17 : decode by_am_transfer 17 = .ok (.iaload, 1) := by decide +kernel
theorem dd_am_transfer_18 : decode by_am_transfer 18 = .ok (.aload_n 1, 1) := by decide +kernel
theorem dd_am_transfer_19 : decode by_am_transfer 19 = .ok (.getfield 120, 3) := by decide +kernel
theorem dd_am_transfer_22 : decode by_am_transfer 22 = .ok (.iconst 1, 1) := by decide +kernel
theorem dd_am_transfer_23 : decode by_am_transfer 23 = .ok (.iaload, 1) := by decide +kernel
theorem dd_am_transfer_24 : decode by_am_transfer 24 = .ok (.if_icmp .ne 6, 3) := by decide +kernel
theorem dd_am_transfer_27 : decode by_am_transfer 27 = .ok (.bipush 13, 2) := by decide +kernel
theorem dd_am_transfer_29 : decode by_am_transfer 29 = .ok (.ireturn, 1) := by decide +kernel
theorem dd_am_transfer_30 : decode by_am_transfer 30 = .ok (.aload_n 1, 1) := by decide +kernel
theorem dd_am_transfer_31 : decode by_am_transfer 31 = .ok (.getfield 120, 3) := by decide +kernel
theorem dd_am_transfer_34 : decode by_am_transfer 34 = .ok (.iconst 0, 1) := by decide +kernel
theorem dd_am_transfer_35 : decode by_am_transfer 35 = .ok (.iaload, 1) := by decide +kernel
theorem dd_am_transfer_36 : decode by_am_transfer 36 = .ok (.istore_n 3, 1) := by decide +kernel
theorem dd_am_transfer_37 : decode by_am_transfer 37 = .ok (.aload_n 1, 1) := by decide +kernel
theorem dd_am_transfer_38 : decode by_am_transfer 38 = .ok (.getfield 120, 3) := by decide +kernel
theorem dd_am_transfer_41 : decode by_am_transfer 41 = .ok (.iconst 1, 1) := by decide +kernel
theorem dd_am_transfer_42 : decode by_am_transfer 42 = .ok (.iaload, 1) := by decide +kernel
theorem dd_am_transfer_43 : decode by_am_transfer 43 = .ok (.istore 4, 2) := by decide +kernel
theorem dd_am_transfer_45 : decode by_am_transfer 45 = .ok (.aload_n 1, 1) := by decide +kernel
theorem dd_am_transfer_46 : decode by_am_transfer 46 = .ok (.iload_n 3, 1) := by decide +kernel
theorem dd_am_transfer_47 : decode by_am_transfer 47 = .ok (.invokevirtual 238, 3) := by decide +kernel
theorem dd_am_transfer_50 : decode by_am_transfer 50 = .ok (.iconst 3, 1) := by decide +kernel
theorem dd_am_transfer_51 : decode by_am_transfer 51 = .ok (.if_icmp .ne 14, 3) := by decide +kernel
theorem dd_am_transfer_54 : decode by_am_transfer 54 = .ok (.aload_n 1, 1) := by decide +kernel
theorem dd_am_transfer_55 : decode by_am_transfer 55 = .ok (.iload 4, 2) := by decide +kernel
theorem dd_am_transfer_57 : decode by_am_transfer 57 = .ok (.invokevirtual 238, 3) := by decide +kernel
theorem dd_am_transfer_60 : decode by_am_transfer 60 = .ok (.iconst 2, 1) := by decide +kernel
theorem dd_am_transfer_61 : decode by_am_transfer 61 = .ok (.iand, 1) := by decide +kernel
theorem dd_am_transfer_62 : decode by_am_transfer 62 = .ok (.ifCond .ne 6, 3) := by decide +kernel
theorem dd_am_transfer_65 : decode by_am_transfer 65 = .ok (.bipush 10, 2) := by decide +kernel
theorem dd_am_transfer_67 : decode by_am_transfer 67 = .ok (.ireturn, 1) := by decide +kernel
theorem dd_am_transfer_68 : decode by_am_transfer 68 = .ok (.aload_n 0, 1) := by decide +kernel
theorem dd_am_transfer_69 : decode by_am_transfer 69 = .ok (.getfield 18, 3) := by decide +kernel
theorem dd_am_transfer_72 : decode by_am_transfer 72 = .ok (.iload_n 3, 1) := by decide +kernel
theorem dd_am_transfer_73 : decode by_am_transfer 73 = .ok (.invokevirtual 259, 3) := by decide +kernel
theorem dd_am_transfer_76 : decode by_am_transfer 76 = .ok (.ifCond .eq 34, 3) := by decide +kernel
theorem dd_am_transfer_79 : decode by_am_transfer 79 = .ok (.aload_n 0, 1) := by decide +kernel
theorem dd_am_transfer_80 : decode by_am_transfer 80 = .ok (.getfield 18, 3) := by decide +kernel
theorem dd_am_transfer_83 : decode by_am_transfer 83 = .ok (.getfield 102, 3) := by decide +kernel
theorem dd_am_transfer_86 : decode by_am_transfer 86 = .ok (.iload_n 3, 1) := by decide +kernel
theorem dd_am_transfer_87 : decode by_am_transfer 87 = .ok (.iaload, 1) := by decide +kernel
theorem dd_am_transfer_88 : decode by_am_transfer 88 = .ok (.iload_n 2, 1) := by decide +kernel
theorem dd_am_transfer_89 : decode by_am_transfer 89 = .ok (.if_icmp .lt 21, 3) := by decide +kernel
theorem dd_am_transfer_92 : decode by_am_transfer 92 = .ok (.aload_n 0, 1) := by decide +kernel
theorem dd_am_transfer_93 : decode by_am_transfer 93 = .ok (.getfield 18, 3) := by decide +kernel
theorem dd_am_transfer_96 : decode by_am_transfer 96 = .ok (.getfield 102, 3) := by decide +kernel
theorem dd_am_transfer_99 : decode by_am_transfer 99 = .ok (.iload 4, 2) := by decide +kernel
theorem dd_am_transfer_101 : decode by_am_transfer 101 = .ok (.iaload, 1) := by decide +kernel
theorem dd_am_transfer_102 : decode by_am_transfer 102 = .ok (.iload_n 2, 1) := by decide +kernel
theorem dd_am_transfer_103 : decode by_am_transfer 103 = .ok (.iadd, 1) := by decide +kernel
theorem dd_am_transfer_104 : decode by_am_transfer 104 = .ok (.ldc_w 262, 3) := by decide +kernel
theorem dd_am_transfer_107 : decode by_am_transfer 107 = .ok (.if_icmp .le 6, 3) := by decide +kernel
theorem dd_am_transfer_110 : decode by_am_transfer 110 = .ok (.bipush 7, 2) := by decide +kernel
theorem dd_am_transfer_112 : decode by_am_transfer 112 = .ok (.ireturn, 1) := by decide +kernel
theorem dd_am_transfer_113 : decode by_am_transfer 113 = .ok (.aload_n 0, 1) := by decide +kernel
theorem dd_am_transfer_114 : decode by_am_transfer 114 = .ok (.getfield 18, 3) := by decide +kernel
theorem dd_am_transfer_117 : decode by_am_transfer 117 = .ok (.getfield 102, 3) := by decide +kernel
theorem dd_am_transfer_120 : decode by_am_transfer 120 = .ok (.iload_n 3, 1) := by decide +kernel
theorem dd_am_transfer_121 : decode by_am_transfer 121 = .ok (.dup2, 1) := by decide +kernel
theorem dd_am_transfer_122 : decode by_am_transfer 122 = .ok (.iaload, 1) := by decide +kernel
theorem dd_am_transfer_123 : decode by_am_transfer 123 = .ok (.iload_n 2, 1) := by decide +kernel
theorem dd_am_transfer_124 : decode by_am_transfer 124 = .ok (.isub, 1) := by decide +kernel
theorem dd_am_transfer_125 : decode by_am_transfer 125 = .ok (.iastore, 1) := by decide +kernel
theorem dd_am_transfer_126 : decode by_am_transfer 126 = .ok (.aload_n 0, 1) := by decide +kernel
theorem dd_am_transfer_127 : decode by_am_transfer 127 = .ok (.getfield 18, 3) := by decide +kernel
theorem dd_am_transfer_130 : decode by_am_transfer 130 = .ok (.getfield 102, 3) := by decide +kernel
theorem dd_am_transfer_133 : decode by_am_transfer 133 = .ok (.iload 4, 2) := by decide +kernel
theorem dd_am_transfer_135 : decode by_am_transfer 135 = .ok (.dup2, 1) := by decide +kernel
theorem dd_am_transfer_136 : decode by_am_transfer 136 = .ok (.iaload, 1) := by decide +kernel
theorem dd_am_transfer_137 : decode by_am_transfer 137 = .ok (.iload_n 2, 1) := by decide +kernel
theorem dd_am_transfer_138 : decode by_am_transfer 138 = .ok (.iadd, 1) := by decide +kernel
theorem dd_am_transfer_139 : decode by_am_transfer 139 = .ok (.iastore, 1) := by decide +kernel
theorem dd_am_transfer_140 : decode by_am_transfer 140 = .ok (.iconst 0, 1) := by decide +kernel
theorem dd_am_transfer_141 : decode by_am_transfer 141 = .ok (.ireturn, 1) := by decide +kernel
def am_transfer_b0 (M : gw_M) (a0 : Nat) (a1 : Nat) (v2 : Int32) : Option (Int32 × gw_M) :=
  if (M.1 a1 2) < (2 : Int32) then (some ((13 : Int32), M)) else (if v2 < (0 : Int32) then (some ((13 : Int32), M)) else (if (M.1 (a1 + 1) 0) = (M.1 (a1 + 1) 1) then (some ((13 : Int32), M)) else (gw_lt (M.1 (a1 + 1) 0) (fun x36 => gw_lt (M.1 (a1 + 1) 1) (fun x43 => gw_bd (od_marksOf_b0 M a1 x36) (fun r47 M47 => if r47 = (3 : Int32) then (gw_bd (od_marksOf_b0 M47 a1 x43) (fun r57 M57 => if (r57 &&& (2 : Int32)) = (0 : Int32) then (some ((10 : Int32), M57)) else (gw_bd (le_isBlank_b0 M57 (a0 + 2) x36) (fun r73 M73 => if r73 = (0 : Int32) then (some ((7 : Int32), M73)) else (gw_gu (gw_in x36 8) (if (M73.1 ((a0 + 2) + 1) x36.toNatClampNeg) < v2 then (some ((7 : Int32), M73)) else (gw_gu (gw_in x43 8) (if ((M73.1 ((a0 + 2) + 1) x43.toNatClampNeg) + v2) ≤ (1000000 : Int32) then (gw_gu (gw_in x36 8) (gw_gu (gw_in x36 8) (gw_lt (gw_sI M73 ((a0 + 2) + 1) x36.toNatClampNeg ((M73.1 ((a0 + 2) + 1) x36.toNatClampNeg) - v2)) (fun M125 => gw_gu (gw_in x43 8) (gw_gu (gw_in x43 8) (gw_lt (gw_sI M125 ((a0 + 2) + 1) x43.toNatClampNeg ((M125.1 ((a0 + 2) + 1) x43.toNatClampNeg) + v2)) (fun M139 => some ((0 : Int32), M139)))))))) else (some ((7 : Int32), M73)))))))))) else (some ((10 : Int32), M47))))))))
set_option maxRecDepth 100000 in
set_option maxHeartbeats 4000000 in
theorem wb_am_transfer_0 {p : Program} {l : Launch} {e : Env} {s : State} {m : MethodId} {args : Array Value} {below : List Frame} {meth : Method} {c : Code} {X : gw_X} {Y : gw_M} {z : (Int32 × gw_M)} (C0 : gw_C ((Cond.code yy_am_transfer by_am_transfer 5 (some .int)) :: gw_w) by_am_transfer 5 (some .int) "AccountMachine" X p s m args meth c) (M : gw_M) (a0 : Nat) (a1 : Nat) (v2 : Int32) (H : Heap) (locs : List Loc) (ls : Array Slot) (ha0 : gc_k a0 = (2, 0)) (ha1 : gc_k a1 = (4, 0)) (G : gw_G X (gw_E X M Y) s H locs) (hl : lv_has ls 5 [(0, .ref (gc_a X a0)), (1, .ref (gc_a X a1)), (2, .int v2)]) (hF : am_transfer_b0  M a0 a1 v2 = some z) : W p l e rm_am_transfer s m args below meth c H locs 0 0 (MQ below (gw_Qi X (fun M => (gw_E X M Y)) z) args s 0 0 (gw_A X)) (F0 m 0 ls []) := by
  obtain ⟨hx, hb, hml, hown, hts, hr, hlocks, hK⟩ := id C0
  have hg : ∀ w ∈ gw_w, w.before args s = true := fun w h => hts w (List.mem_cons_of_mem _ h)
  unfold am_transfer_b0 at hF
  refine lv_aload_n hx hb dd_am_transfer_0 rfl (lv_at hl 1 rfl) ?_
  refine gn_od_count hx hb hg hown (gw_nw hK kn_23) hK G ha1 dd_am_transfer_1 ?_
  refine lv_iconst (v := (2 : Int32)) hx hb dd_am_transfer_4 (by decide) ?_
  refine lv_icmp_lt (tgt := 27) hx hb dd_am_transfer_5 (by decide) (fun h5 => ?_) (fun h5 => ?_)
  · replace hF := gw_et h5 hF
    refine lv_bipush (v := (13 : Int32)) hx hb dd_am_transfer_27 (by decide) ?_
    exact W.iret hx hb hr (fun t ht hW => gw_endi (EF := (fun M => (gw_E X M Y))) (M := M) G ht hF) G.2.2.2.2 dd_am_transfer_29 hlocks
  · replace hF := gw_ef h5 hF
    refine lv_iload_n hx hb dd_am_transfer_8 rfl (lv_at hl 2 rfl) ?_
    refine lv_if_lt (tgt := 27) hx hb dd_am_transfer_9 (by decide) (fun h9 => ?_) (fun h9 => ?_)
    · replace hF := gw_et h9 hF
      refine lv_bipush (v := (13 : Int32)) hx hb dd_am_transfer_27 (by decide) ?_
      exact W.iret hx hb hr (fun t ht hW => gw_endi (EF := (fun M => (gw_E X M Y))) (M := M) G ht hF) G.2.2.2.2 dd_am_transfer_29 hlocks
    · replace hF := gw_ef h9 hF
      refine lv_aload_n hx hb dd_am_transfer_12 rfl (lv_at hl 1 rfl) ?_
      refine gn_od_accounts hx hb hg hown (gw_nw hK kn_24) hK G ha1 dd_am_transfer_13 ?_
      refine lv_iconst (v := (0 : Int32)) hx hb dd_am_transfer_16 (by decide) ?_
      refine gc_iald hx hb hK G (gq_od_accounts ha1) (gw_vp (by decide)) (j := 0) (by decide) dd_am_transfer_17 ?_
      refine lv_aload_n hx hb dd_am_transfer_18 rfl (lv_at hl 1 rfl) ?_
      refine gn_od_accounts hx hb hg hown (gw_nw hK kn_24) hK G ha1 dd_am_transfer_19 ?_
      refine lv_iconst (v := (1 : Int32)) hx hb dd_am_transfer_22 (by decide) ?_
      refine gc_iald hx hb hK G (gq_od_accounts ha1) (gw_vp (by decide)) (j := 1) (by decide) dd_am_transfer_23 ?_
      refine lv_icmp_ne (tgt := 30) hx hb dd_am_transfer_24 (by decide) (fun h24 => ?_) (fun h24 => ?_)
      · replace hF := gw_ef h24 hF
        refine lv_aload_n hx hb dd_am_transfer_30 rfl (lv_at hl 1 rfl) ?_
        refine gn_od_accounts hx hb hg hown (gw_nw hK kn_24) hK G ha1 dd_am_transfer_31 ?_
        refine lv_iconst (v := (0 : Int32)) hx hb dd_am_transfer_34 (by decide) ?_
        refine gc_iald hx hb hK G (gq_od_accounts ha1) (gw_vp (by decide)) (j := 0) (by decide) dd_am_transfer_35 ?_
        refine lv_topi (fun x36 e36 => ?_)
        replace hF := gw_ly e36 hF
        refine lv_istore_n (i := 3) (lv' := [(3, .int x36), (0, .ref (gc_a X a0)), (1, .ref (gc_a X a1)), (2, .int v2)]) hx hb dd_am_transfer_36 rfl hl (by decide) rfl (fun ls hl => ?_)
        refine lv_aload_n hx hb dd_am_transfer_37 rfl (lv_at hl 2 rfl) ?_
        refine gn_od_accounts hx hb hg hown (gw_nw hK kn_24) hK G ha1 dd_am_transfer_38 ?_
        refine lv_iconst (v := (1 : Int32)) hx hb dd_am_transfer_41 (by decide) ?_
        refine gc_iald hx hb hK G (gq_od_accounts ha1) (gw_vp (by decide)) (j := 1) (by decide) dd_am_transfer_42 ?_
        refine W.eq (g2 := F0 m 43 _ _) rfl ?_
        refine lv_topi (fun x43 e43 => ?_)
        replace hF := gw_ly e43 hF
        refine lv_istore (i := 4) (lv' := [(4, .int x43), (3, .int x36), (0, .ref (gc_a X a0)), (1, .ref (gc_a X a1)), (2, .int v2)]) hx hb dd_am_transfer_43 hl (by decide) rfl (fun ls hl => ?_)
        refine lv_aload_n hx hb dd_am_transfer_45 rfl (lv_at hl 3 rfl) ?_
        refine lv_iload_n hx hb dd_am_transfer_46 rfl (lv_at hl 1 rfl) ?_
        obtain ⟨r47, M47, hc47, hF⟩ := gw_be hF
        refine gw_ci G (va_runVN (As := [.int x36]) (rest := []) ⟨hx, hb, hml, hown, hts⟩ (ct_od_marksOf l X Y M a1 x36 ha1 _ hc47) ⟨va_cnB 1 hts (gw_gN kw_13) rfl rfl rfl (hK.2.1 _ kn_25) (hg _ kw_14) (by decide +kernel) ⟨Nat.le_of_ble_eq_true rfl, Nat.le_of_ble_eq_true rfl⟩, hg _ kw_15, hg _ kw_16⟩ ⟨gw_blind, gw_recv_od hK G ha1, gw_pre hK G⟩ rfl rfl hl.1 rfl (Nat.le_of_ble_eq_true rfl) dd_am_transfer_47 ⟨Nat.le_of_ble_eq_true rfl, Nat.le_of_ble_eq_true rfl⟩) (fun H locs G => ?_)
        refine lv_iconst (v := (3 : Int32)) hx hb dd_am_transfer_50 (by decide) ?_
        refine lv_icmp_ne (tgt := 65) hx hb dd_am_transfer_51 (by decide) (fun h51 => ?_) (fun h51 => ?_)
        · replace hF := gw_ef h51 hF
          refine lv_bipush (v := (10 : Int32)) hx hb dd_am_transfer_65 (by decide) ?_
          exact W.iret hx hb hr (fun t ht hW => gw_endi (EF := (fun M => (gw_E X M Y))) (M := M47) G ht hF) G.2.2.2.2 dd_am_transfer_67 hlocks
        · replace hF := gw_et h51 hF
          refine lv_aload_n hx hb dd_am_transfer_54 rfl (lv_at hl 3 rfl) ?_
          refine lv_iload hx hb dd_am_transfer_55 (lv_at hl 0 rfl) ?_
          obtain ⟨r57, M57, hc57, hF⟩ := gw_be hF
          refine gw_ci G (va_runVN (As := [.int x43]) (rest := []) ⟨hx, hb, hml, hown, hts⟩ (ct_od_marksOf l X Y M47 a1 x43 ha1 _ hc57) ⟨va_cnB 1 hts (gw_gN kw_13) rfl rfl rfl (hK.2.1 _ kn_25) (hg _ kw_14) (by decide +kernel) ⟨Nat.le_of_ble_eq_true rfl, Nat.le_of_ble_eq_true rfl⟩, hg _ kw_15, hg _ kw_16⟩ ⟨gw_blind, gw_recv_od hK G ha1, gw_pre hK G⟩ rfl rfl hl.1 rfl (Nat.le_of_ble_eq_true rfl) dd_am_transfer_57 ⟨Nat.le_of_ble_eq_true rfl, Nat.le_of_ble_eq_true rfl⟩) (fun H locs G => ?_)
          refine lv_iconst (v := (2 : Int32)) hx hb dd_am_transfer_60 (by decide) ?_
          refine lv_iand hx hb dd_am_transfer_61 ?_
          refine lv_if_ne (tgt := 68) hx hb dd_am_transfer_62 (by decide) (fun h62 => ?_) (fun h62 => ?_)
          · replace hF := gw_ef h62 hF
            refine lv_aload_n hx hb dd_am_transfer_68 rfl (lv_at hl 2 rfl) ?_
            refine gf_am_ledger hx hb hg hown (hg _ kw_124) hK G ha0 dd_am_transfer_69 ?_
            refine lv_iload_n hx hb dd_am_transfer_72 rfl (lv_at hl 1 rfl) ?_
            obtain ⟨r73, M73, hc73, hF⟩ := gw_be hF
            refine gw_ci G (va_runVN (As := [.int x36]) (rest := []) ⟨hx, hb, hml, hown, hts⟩ (ct_le_isBlank l X Y M57 (a0 + 2) x36 (gq_am_ledger ha0) _ hc73) ⟨va_cnB 1 hts (gw_gN kw_125) rfl rfl rfl (hK.2.1 _ kn_26) (hg _ kw_126) (by decide +kernel) ⟨Nat.le_of_ble_eq_true rfl, Nat.le_of_ble_eq_true rfl⟩, hg _ kw_127, hg _ kw_128⟩ ⟨gw_blind, gw_recv_le hK G (gq_am_ledger ha0), gw_pre hK G⟩ rfl rfl hl.1 rfl (Nat.le_of_ble_eq_true rfl) dd_am_transfer_73 ⟨Nat.le_of_ble_eq_true rfl, Nat.le_of_ble_eq_true rfl⟩) (fun H locs G => ?_)
            refine lv_if_eq (tgt := 110) hx hb dd_am_transfer_76 (by decide) (fun h76 => ?_) (fun h76 => ?_)
            · replace hF := gw_et h76 hF
              refine lv_bipush (v := (7 : Int32)) hx hb dd_am_transfer_110 (by decide) ?_
              exact W.iret hx hb hr (fun t ht hW => gw_endi (EF := (fun M => (gw_E X M Y))) (M := M73) G ht hF) G.2.2.2.2 dd_am_transfer_112 hlocks
            · replace hF := gw_ef h76 hF
              refine lv_aload_n hx hb dd_am_transfer_79 rfl (lv_at hl 2 rfl) ?_
              refine gf_am_ledger hx hb hg hown (hg _ kw_124) hK G ha0 dd_am_transfer_80 ?_
              refine gn_le_balances hx hb hg hown (gw_nw hK kn_27) hK G (gq_am_ledger ha0) dd_am_transfer_83 ?_
              refine lv_iload_n hx hb dd_am_transfer_86 rfl (lv_at hl 1 rfl) ?_
              obtain ⟨h87, hF⟩ := gw_gd hF
              refine gc_iald hx hb hK G (gq_le_balances (gq_am_ledger ha0)) (gw_vp h87) (j := x36.toNatClampNeg) rfl dd_am_transfer_87 ?_
              refine lv_iload_n hx hb dd_am_transfer_88 rfl (lv_at hl 4 rfl) ?_
              refine lv_icmp_lt (tgt := 110) hx hb dd_am_transfer_89 (by decide) (fun h89 => ?_) (fun h89 => ?_)
              · replace hF := gw_et h89 hF
                refine lv_bipush (v := (7 : Int32)) hx hb dd_am_transfer_110 (by decide) ?_
                exact W.iret hx hb hr (fun t ht hW => gw_endi (EF := (fun M => (gw_E X M Y))) (M := M73) G ht hF) G.2.2.2.2 dd_am_transfer_112 hlocks
              · replace hF := gw_ef h89 hF
                refine lv_aload_n hx hb dd_am_transfer_92 rfl (lv_at hl 2 rfl) ?_
                refine gf_am_ledger hx hb hg hown (hg _ kw_124) hK G ha0 dd_am_transfer_93 ?_
                refine gn_le_balances hx hb hg hown (gw_nw hK kn_27) hK G (gq_am_ledger ha0) dd_am_transfer_96 ?_
                refine lv_iload hx hb dd_am_transfer_99 (lv_at hl 0 rfl) ?_
                obtain ⟨h101, hF⟩ := gw_gd hF
                refine gc_iald hx hb hK G (gq_le_balances (gq_am_ledger ha0)) (gw_vp h101) (j := x43.toNatClampNeg) rfl dd_am_transfer_101 ?_
                refine lv_iload_n hx hb dd_am_transfer_102 rfl (lv_at hl 4 rfl) ?_
                refine lv_iadd hx hb dd_am_transfer_103 ?_
                refine lv_ldcw (v := (1000000 : Int32)) hx hb hown (hg _ kw_129) dd_am_transfer_104 ?_
                refine lv_icmp_le (tgt := 113) hx hb dd_am_transfer_107 (by decide) (fun h107 => ?_) (fun h107 => ?_)
                · replace hF := gw_et h107 hF
                  refine lv_aload_n hx hb dd_am_transfer_113 rfl (lv_at hl 2 rfl) ?_
                  refine gf_am_ledger hx hb hg hown (hg _ kw_124) hK G ha0 dd_am_transfer_114 ?_
                  refine gn_le_balances hx hb hg hown (gw_nw hK kn_27) hK G (gq_am_ledger ha0) dd_am_transfer_117 ?_
                  refine lv_iload_n hx hb dd_am_transfer_120 rfl (lv_at hl 1 rfl) ?_
                  refine lv_dup2_11 hx hb dd_am_transfer_121 rfl rfl ?_
                  obtain ⟨h122, hF⟩ := gw_gd hF
                  refine gc_iald hx hb hK G (gq_le_balances (gq_am_ledger ha0)) (gw_vp h122) (j := x36.toNatClampNeg) rfl dd_am_transfer_122 ?_
                  refine lv_iload_n hx hb dd_am_transfer_123 rfl (lv_at hl 4 rfl) ?_
                  refine lv_isub hx hb dd_am_transfer_124 ?_
                  obtain ⟨h125, hF⟩ := gw_gd hF
                  refine gc_iast hx hb hK G (gq_le_balances (gq_am_ledger ha0)) (gw_vp h125) (j := x36.toNatClampNeg) rfl dd_am_transfer_125 (fun M125 H locs e125 G => ?_)
                  replace hF := gw_ly e125 hF
                  refine W.eq (g2 := F0 m 126 _ _) rfl ?_
                  refine lv_aload_n hx hb dd_am_transfer_126 rfl (lv_at hl 2 rfl) ?_
                  refine gf_am_ledger hx hb hg hown (hg _ kw_124) hK G ha0 dd_am_transfer_127 ?_
                  refine gn_le_balances hx hb hg hown (gw_nw hK kn_27) hK G (gq_am_ledger ha0) dd_am_transfer_130 ?_
                  refine lv_iload hx hb dd_am_transfer_133 (lv_at hl 0 rfl) ?_
                  refine lv_dup2_11 hx hb dd_am_transfer_135 rfl rfl ?_
                  obtain ⟨h136, hF⟩ := gw_gd hF
                  refine gc_iald hx hb hK G (gq_le_balances (gq_am_ledger ha0)) (gw_vp h136) (j := x43.toNatClampNeg) rfl dd_am_transfer_136 ?_
                  refine lv_iload_n hx hb dd_am_transfer_137 rfl (lv_at hl 4 rfl) ?_
                  refine lv_iadd hx hb dd_am_transfer_138 ?_
                  obtain ⟨h139, hF⟩ := gw_gd hF
                  refine gc_iast hx hb hK G (gq_le_balances (gq_am_ledger ha0)) (gw_vp h139) (j := x43.toNatClampNeg) rfl dd_am_transfer_139 (fun M139 H locs e139 G => ?_)
                  replace hF := gw_ly e139 hF
                  refine lv_iconst (v := (0 : Int32)) hx hb dd_am_transfer_140 (by decide) ?_
                  refine W.eq (g2 := F0 m 141 _ _) rfl ?_
                  exact W.iret hx hb hr (fun t ht hW => gw_endi (EF := (fun M => (gw_E X M Y))) (M := M139) G ht hF) G.2.2.2.2 dd_am_transfer_141 hlocks
                · replace hF := gw_ef h107 hF
                  refine lv_bipush (v := (7 : Int32)) hx hb dd_am_transfer_110 (by decide) ?_
                  exact W.iret hx hb hr (fun t ht hW => gw_endi (EF := (fun M => (gw_E X M Y))) (M := M73) G ht hF) G.2.2.2.2 dd_am_transfer_112 hlocks
          · replace hF := gw_et h62 hF
            refine lv_bipush (v := (10 : Int32)) hx hb dd_am_transfer_65 (by decide) ?_
            exact W.iret hx hb hr (fun t ht hW => gw_endi (EF := (fun M => (gw_E X M Y))) (M := M57) G ht hF) G.2.2.2.2 dd_am_transfer_67 hlocks
      · replace hF := gw_et h24 hF
        refine lv_bipush (v := (13 : Int32)) hx hb dd_am_transfer_27 (by decide) ?_
        exact W.iret hx hb hr (fun t ht hW => gw_endi (EF := (fun M => (gw_E X M Y))) (M := M) G ht hF) G.2.2.2.2 dd_am_transfer_29 hlocks
set_option maxRecDepth 100000 in
set_option maxHeartbeats 4000000 in
theorem ct_am_transfer (l : Launch) (X : gw_X) (Y : gw_M) (M : gw_M) (a0 : Nat) (a1 : Nat) (v2 : Int32) (ha0 : gc_k a0 = (2, 0)) (ha1 : gc_k a1 = (4, 0)) (z : (Int32 × gw_M)) (hF : am_transfer_b0 M a0 a1 v2 = some z) : Met l yy_am_transfer ((Cond.code yy_am_transfer by_am_transfer 5 (some .int)) :: gw_w) rm_am_transfer (va_Pc [.ref (gc_a X a0), .ref (gc_a X a1), .int v2] (gw_B X (gw_E X M Y))) (gw_Qi X (fun M => (gw_E X M Y)) z) 0 0 (gw_A X) := by
  refine Met.ofW (cc := by_am_transfer) (maxL := 5) (ret := (some .int)) (by decide) rfl ?_
  intro p e s m args below meth c s₁ B hml hv
  obtain ⟨rfl, hB⟩ := hv
  rw [lg_entry_eq]
  have hl := lv_entry ([.ref (gc_a X a0), .ref (gc_a X a1), .int v2]) (n := 5) (Nat.le_of_ble_eq_true rfl)
  generalize (lg_sl ([.ref (gc_a X a0), .ref (gc_a X a1), .int v2]) ++ List.replicate (5 - (lg_sl ([.ref (gc_a X a0), .ref (gc_a X a1), .int v2])).length) Slot.unset).toArray = ls at hl ⊢
  have hl : lv_has ls 5 [(0, .ref (gc_a X a0)), (1, .ref (gc_a X a1)), (2, .int v2)] := hl
  exact wb_am_transfer_0 (gw_ctx B hml rfl hB) M a0 a1 v2 _ _ _ ha0 ha1 (gw_start hB) hl hF
/-! AccountMachine.assign(LAccountMachine$Order;I)I -/
abbrev rm_am_assign : Room := { frames := 1, cells := 0, slots := 0, locals := 23 }
theorem dd_am_assign_0 : decode by_am_assign 0 = .ok (.aload_n 1, 1) := by decide +kernel
theorem dd_am_assign_1 : decode by_am_assign 1 = .ok (.getfield 119, 3) := by decide +kernel
theorem dd_am_assign_4 : decode by_am_assign 4 = .ok (.iconst 1, 1) := by decide +kernel
theorem dd_am_assign_5 : decode by_am_assign 5 = .ok (.if_icmp .lt 13, 3) := by decide +kernel
theorem dd_am_assign_8 : decode by_am_assign 8 = .ok (.iload_n 2, 1) := by decide +kernel
theorem dd_am_assign_9 : decode by_am_assign 9 = .ok (.iconst 1, 1) := by decide +kernel
theorem dd_am_assign_10 : decode by_am_assign 10 = .ok (.if_icmp .lt 8, 3) := by decide +kernel
theorem dd_am_assign_13 : decode by_am_assign 13 = .ok (.iload_n 2, 1) := by decide +kernel
theorem dd_am_assign_14 : decode by_am_assign 14 = .ok (.iconst 4, 1) := by decide +kernel
theorem dd_am_assign_15 : decode by_am_assign 15 = .ok (.if_icmp .lt 6, 3) := by decide +kernel
theorem dd_am_assign_18 : decode by_am_assign 18 = .ok (.bipush 13, 2) := by decide +kernel
theorem dd_am_assign_20 : decode by_am_assign 20 = .ok (.ireturn, 1) := by decide +kernel
theorem dd_am_assign_21 : decode by_am_assign 21 = .ok (.aload_n 1, 1) := by decide +kernel
theorem dd_am_assign_22 : decode by_am_assign 22 = .ok (.getfield 120, 3) := by decide +kernel
theorem dd_am_assign_25 : decode by_am_assign 25 = .ok (.iconst 0, 1) := by decide +kernel
theorem dd_am_assign_26 : decode by_am_assign 26 = .ok (.iaload, 1) := by decide +kernel
theorem dd_am_assign_27 : decode by_am_assign 27 = .ok (.istore_n 3, 1) := by decide +kernel
theorem dd_am_assign_28 : decode by_am_assign 28 = .ok (.aload_n 1, 1) := by decide +kernel
theorem dd_am_assign_29 : decode by_am_assign 29 = .ok (.iload_n 3, 1) := by decide +kernel
theorem dd_am_assign_30 : decode by_am_assign 30 = .ok (.invokevirtual 238, 3) := by decide +kernel
theorem dd_am_assign_33 : decode by_am_assign 33 = .ok (.iconst 3, 1) := by decide +kernel
theorem dd_am_assign_34 : decode by_am_assign 34 = .ok (.if_icmp .eq 6, 3) := by decide +kernel
theorem dd_am_assign_37 : decode by_am_assign 37 = .ok (.bipush 10, 2) := by decide +kernel
theorem dd_am_assign_39 : decode by_am_assign 39 = .ok (.ireturn, 1) := by decide +kernel
theorem dd_am_assign_40 : decode by_am_assign 40 = .ok (.aload_n 0, 1) := by decide +kernel
theorem dd_am_assign_41 : decode by_am_assign 41 = .ok (.getfield 18, 3) := by decide +kernel
theorem dd_am_assign_44 : decode by_am_assign 44 = .ok (.getfield 106, 3) := by decide +kernel
theorem dd_am_assign_47 : decode by_am_assign 47 = .ok (.iload_n 3, 1) := by decide +kernel
theorem dd_am_assign_48 : decode by_am_assign 48 = .ok (.iaload, 1) := by decide +kernel
theorem dd_am_assign_49 : decode by_am_assign 49 = .ok (.ifCond .eq 6, 3) := by decide +kernel
theorem dd_am_assign_52 : decode by_am_assign 52 = .ok (.bipush 7, 2) := by decide +kernel
theorem dd_am_assign_54 : decode by_am_assign 54 = .ok (.ireturn, 1) := by decide +kernel
theorem dd_am_assign_55 : decode by_am_assign 55 = .ok (.aload_n 0, 1) := by decide +kernel
theorem dd_am_assign_56 : decode by_am_assign 56 = .ok (.getfield 18, 3) := by decide +kernel
theorem dd_am_assign_59 : decode by_am_assign 59 = .ok (.getfield 106, 3) := by decide +kernel
theorem dd_am_assign_62 : decode by_am_assign 62 = .ok (.iload_n 3, 1) := by decide +kernel
theorem dd_am_assign_63 : decode by_am_assign 63 = .ok (.iload_n 2, 1) := by decide +kernel
theorem dd_am_assign_64 : decode by_am_assign 64 = .ok (.iastore, 1) := by decide +kernel
theorem dd_am_assign_65 : decode by_am_assign 65 = .ok (.iconst 0, 1) := by decide +kernel
theorem dd_am_assign_66 : decode by_am_assign 66 = .ok (.ireturn, 1) := by decide +kernel
def am_assign_b0 (M : gw_M) (a0 : Nat) (a1 : Nat) (v2 : Int32) : Option (Int32 × gw_M) :=
  if (M.1 a1 2) < (1 : Int32) then (some ((13 : Int32), M)) else (if v2 < (1 : Int32) then (some ((13 : Int32), M)) else (if v2 < (4 : Int32) then (gw_lt (M.1 (a1 + 1) 0) (fun x27 => gw_bd (od_marksOf_b0 M a1 x27) (fun r30 M30 => if r30 = (3 : Int32) then (gw_gu (gw_in x27 8) (if (M30.1 ((a0 + 2) + 2) x27.toNatClampNeg) = (0 : Int32) then (gw_gu (gw_in x27 8) (gw_lt (gw_sI M30 ((a0 + 2) + 2) x27.toNatClampNeg v2) (fun M64 => some ((0 : Int32), M64)))) else (some ((7 : Int32), M30)))) else (some ((10 : Int32), M30))))) else (some ((13 : Int32), M))))
set_option maxRecDepth 100000 in
set_option maxHeartbeats 4000000 in
theorem wb_am_assign_0 {p : Program} {l : Launch} {e : Env} {s : State} {m : MethodId} {args : Array Value} {below : List Frame} {meth : Method} {c : Code} {X : gw_X} {Y : gw_M} {z : (Int32 × gw_M)} (C0 : gw_C ((Cond.code yy_am_assign by_am_assign 4 (some .int)) :: gw_w) by_am_assign 4 (some .int) "AccountMachine" X p s m args meth c) (M : gw_M) (a0 : Nat) (a1 : Nat) (v2 : Int32) (H : Heap) (locs : List Loc) (ls : Array Slot) (ha0 : gc_k a0 = (2, 0)) (ha1 : gc_k a1 = (4, 0)) (G : gw_G X (gw_E X M Y) s H locs) (hl : lv_has ls 4 [(0, .ref (gc_a X a0)), (1, .ref (gc_a X a1)), (2, .int v2)]) (hF : am_assign_b0  M a0 a1 v2 = some z) : W p l e rm_am_assign s m args below meth c H locs 0 0 (MQ below (gw_Qi X (fun M => (gw_E X M Y)) z) args s 0 0 (gw_A X)) (F0 m 0 ls []) := by
  obtain ⟨hx, hb, hml, hown, hts, hr, hlocks, hK⟩ := id C0
  have hg : ∀ w ∈ gw_w, w.before args s = true := fun w h => hts w (List.mem_cons_of_mem _ h)
  unfold am_assign_b0 at hF
  refine lv_aload_n hx hb dd_am_assign_0 rfl (lv_at hl 1 rfl) ?_
  refine gn_od_count hx hb hg hown (gw_nw hK kn_23) hK G ha1 dd_am_assign_1 ?_
  refine lv_iconst (v := (1 : Int32)) hx hb dd_am_assign_4 (by decide) ?_
  refine lv_icmp_lt (tgt := 18) hx hb dd_am_assign_5 (by decide) (fun h5 => ?_) (fun h5 => ?_)
  · replace hF := gw_et h5 hF
    refine lv_bipush (v := (13 : Int32)) hx hb dd_am_assign_18 (by decide) ?_
    exact W.iret hx hb hr (fun t ht hW => gw_endi (EF := (fun M => (gw_E X M Y))) (M := M) G ht hF) G.2.2.2.2 dd_am_assign_20 hlocks
  · replace hF := gw_ef h5 hF
    refine lv_iload_n hx hb dd_am_assign_8 rfl (lv_at hl 2 rfl) ?_
    refine lv_iconst (v := (1 : Int32)) hx hb dd_am_assign_9 (by decide) ?_
    refine lv_icmp_lt (tgt := 18) hx hb dd_am_assign_10 (by decide) (fun h10 => ?_) (fun h10 => ?_)
    · replace hF := gw_et h10 hF
      refine lv_bipush (v := (13 : Int32)) hx hb dd_am_assign_18 (by decide) ?_
      exact W.iret hx hb hr (fun t ht hW => gw_endi (EF := (fun M => (gw_E X M Y))) (M := M) G ht hF) G.2.2.2.2 dd_am_assign_20 hlocks
    · replace hF := gw_ef h10 hF
      refine lv_iload_n hx hb dd_am_assign_13 rfl (lv_at hl 2 rfl) ?_
      refine lv_iconst (v := (4 : Int32)) hx hb dd_am_assign_14 (by decide) ?_
      refine lv_icmp_lt (tgt := 21) hx hb dd_am_assign_15 (by decide) (fun h15 => ?_) (fun h15 => ?_)
      · replace hF := gw_et h15 hF
        refine lv_aload_n hx hb dd_am_assign_21 rfl (lv_at hl 1 rfl) ?_
        refine gn_od_accounts hx hb hg hown (gw_nw hK kn_24) hK G ha1 dd_am_assign_22 ?_
        refine lv_iconst (v := (0 : Int32)) hx hb dd_am_assign_25 (by decide) ?_
        refine gc_iald hx hb hK G (gq_od_accounts ha1) (gw_vp (by decide)) (j := 0) (by decide) dd_am_assign_26 ?_
        refine lv_topi (fun x27 e27 => ?_)
        replace hF := gw_ly e27 hF
        refine lv_istore_n (i := 3) (lv' := [(3, .int x27), (0, .ref (gc_a X a0)), (1, .ref (gc_a X a1)), (2, .int v2)]) hx hb dd_am_assign_27 rfl hl (by decide) rfl (fun ls hl => ?_)
        refine lv_aload_n hx hb dd_am_assign_28 rfl (lv_at hl 2 rfl) ?_
        refine lv_iload_n hx hb dd_am_assign_29 rfl (lv_at hl 0 rfl) ?_
        obtain ⟨r30, M30, hc30, hF⟩ := gw_be hF
        refine gw_ci G (va_runVN (As := [.int x27]) (rest := []) ⟨hx, hb, hml, hown, hts⟩ (ct_od_marksOf l X Y M a1 x27 ha1 _ hc30) ⟨va_cnB 1 hts (gw_gN kw_13) rfl rfl rfl (hK.2.1 _ kn_25) (hg _ kw_14) (by decide +kernel) ⟨Nat.le_of_ble_eq_true rfl, Nat.le_of_ble_eq_true rfl⟩, hg _ kw_15, hg _ kw_16⟩ ⟨gw_blind, gw_recv_od hK G ha1, gw_pre hK G⟩ rfl rfl hl.1 rfl (Nat.le_of_ble_eq_true rfl) dd_am_assign_30 ⟨Nat.le_of_ble_eq_true rfl, Nat.le_of_ble_eq_true rfl⟩) (fun H locs G => ?_)
        refine lv_iconst (v := (3 : Int32)) hx hb dd_am_assign_33 (by decide) ?_
        refine W.eq (g2 := F0 m 34 _ _) rfl ?_
        refine lv_icmp_eq (tgt := 40) hx hb dd_am_assign_34 (by decide) (fun h34 => ?_) (fun h34 => ?_)
        · replace hF := gw_et h34 hF
          refine lv_aload_n hx hb dd_am_assign_40 rfl (lv_at hl 1 rfl) ?_
          refine gf_am_ledger hx hb hg hown (hg _ kw_124) hK G ha0 dd_am_assign_41 ?_
          refine gn_le_owners hx hb hg hown (gw_nw hK kn_28) hK G (gq_am_ledger ha0) dd_am_assign_44 ?_
          refine lv_iload_n hx hb dd_am_assign_47 rfl (lv_at hl 0 rfl) ?_
          obtain ⟨h48, hF⟩ := gw_gd hF
          refine gc_iald hx hb hK G (gq_le_owners (gq_am_ledger ha0)) (gw_vp h48) (j := x27.toNatClampNeg) rfl dd_am_assign_48 ?_
          refine lv_if_eq (tgt := 55) hx hb dd_am_assign_49 (by decide) (fun h49 => ?_) (fun h49 => ?_)
          · replace hF := gw_et h49 hF
            refine lv_aload_n hx hb dd_am_assign_55 rfl (lv_at hl 1 rfl) ?_
            refine gf_am_ledger hx hb hg hown (hg _ kw_124) hK G ha0 dd_am_assign_56 ?_
            refine gn_le_owners hx hb hg hown (gw_nw hK kn_28) hK G (gq_am_ledger ha0) dd_am_assign_59 ?_
            refine lv_iload_n hx hb dd_am_assign_62 rfl (lv_at hl 0 rfl) ?_
            refine lv_iload_n hx hb dd_am_assign_63 rfl (lv_at hl 3 rfl) ?_
            obtain ⟨h64, hF⟩ := gw_gd hF
            refine gc_iast hx hb hK G (gq_le_owners (gq_am_ledger ha0)) (gw_vp h64) (j := x27.toNatClampNeg) rfl dd_am_assign_64 (fun M64 H locs e64 G => ?_)
            replace hF := gw_ly e64 hF
            refine lv_iconst (v := (0 : Int32)) hx hb dd_am_assign_65 (by decide) ?_
            exact W.iret hx hb hr (fun t ht hW => gw_endi (EF := (fun M => (gw_E X M Y))) (M := M64) G ht hF) G.2.2.2.2 dd_am_assign_66 hlocks
          · replace hF := gw_ef h49 hF
            refine lv_bipush (v := (7 : Int32)) hx hb dd_am_assign_52 (by decide) ?_
            exact W.iret hx hb hr (fun t ht hW => gw_endi (EF := (fun M => (gw_E X M Y))) (M := M30) G ht hF) G.2.2.2.2 dd_am_assign_54 hlocks
        · replace hF := gw_ef h34 hF
          refine lv_bipush (v := (10 : Int32)) hx hb dd_am_assign_37 (by decide) ?_
          exact W.iret hx hb hr (fun t ht hW => gw_endi (EF := (fun M => (gw_E X M Y))) (M := M30) G ht hF) G.2.2.2.2 dd_am_assign_39 hlocks
      · replace hF := gw_ef h15 hF
        refine lv_bipush (v := (13 : Int32)) hx hb dd_am_assign_18 (by decide) ?_
        exact W.iret hx hb hr (fun t ht hW => gw_endi (EF := (fun M => (gw_E X M Y))) (M := M) G ht hF) G.2.2.2.2 dd_am_assign_20 hlocks
set_option maxRecDepth 100000 in
set_option maxHeartbeats 4000000 in
theorem ct_am_assign (l : Launch) (X : gw_X) (Y : gw_M) (M : gw_M) (a0 : Nat) (a1 : Nat) (v2 : Int32) (ha0 : gc_k a0 = (2, 0)) (ha1 : gc_k a1 = (4, 0)) (z : (Int32 × gw_M)) (hF : am_assign_b0 M a0 a1 v2 = some z) : Met l yy_am_assign ((Cond.code yy_am_assign by_am_assign 4 (some .int)) :: gw_w) rm_am_assign (va_Pc [.ref (gc_a X a0), .ref (gc_a X a1), .int v2] (gw_B X (gw_E X M Y))) (gw_Qi X (fun M => (gw_E X M Y)) z) 0 0 (gw_A X) := by
  refine Met.ofW (cc := by_am_assign) (maxL := 4) (ret := (some .int)) (by decide) rfl ?_
  intro p e s m args below meth c s₁ B hml hv
  obtain ⟨rfl, hB⟩ := hv
  rw [lg_entry_eq]
  have hl := lv_entry ([.ref (gc_a X a0), .ref (gc_a X a1), .int v2]) (n := 4) (Nat.le_of_ble_eq_true rfl)
  generalize (lg_sl ([.ref (gc_a X a0), .ref (gc_a X a1), .int v2]) ++ List.replicate (4 - (lg_sl ([.ref (gc_a X a0), .ref (gc_a X a1), .int v2])).length) Slot.unset).toArray = ls at hl ⊢
  have hl : lv_has ls 4 [(0, .ref (gc_a X a0)), (1, .ref (gc_a X a1)), (2, .int v2)] := hl
  exact wb_am_assign_0 (gw_ctx B hml rfl hB) M a0 a1 v2 _ _ _ ha0 ha1 (gw_start hB) hl hF
/-! AccountMachine.allocate(LAccountMachine$Order;I)I -/
abbrev rm_am_allocate : Room := { frames := 1, cells := 0, slots := 0, locals := 23 }
theorem dd_am_allocate_0 : decode by_am_allocate 0 = .ok (.aload_n 1, 1) := by decide +kernel
theorem dd_am_allocate_1 : decode by_am_allocate 1 = .ok (.getfield 119, 3) := by decide +kernel
theorem dd_am_allocate_4 : decode by_am_allocate 4 = .ok (.iconst 1, 1) := by decide +kernel
theorem dd_am_allocate_5 : decode by_am_allocate 5 = .ok (.if_icmp .lt 12, 3) := by decide +kernel
theorem dd_am_allocate_8 : decode by_am_allocate 8 = .ok (.iload_n 2, 1) := by decide +kernel
theorem dd_am_allocate_9 : decode by_am_allocate 9 = .ok (.ifCond .lt 8, 3) := by decide +kernel
theorem dd_am_allocate_12 : decode by_am_allocate 12 = .ok (.iload_n 2, 1) := by decide +kernel
theorem dd_am_allocate_13 : decode by_am_allocate 13 = .ok (.iconst 4, 1) := by decide +kernel
theorem dd_am_allocate_14 : decode by_am_allocate 14 = .ok (.if_icmp .le 6, 3) := by decide +kernel
theorem dd_am_allocate_17 : decode by_am_allocate 17 = .ok (.bipush 13, 2) := by decide +kernel
theorem dd_am_allocate_19 : decode by_am_allocate 19 = .ok (.ireturn, 1) := by decide +kernel
theorem dd_am_allocate_20 : decode by_am_allocate 20 = .ok (.aload_n 1, 1) := by decide +kernel
theorem dd_am_allocate_21 : decode by_am_allocate 21 = .ok (.getfield 120, 3) := by decide +kernel
theorem dd_am_allocate_24 : decode by_am_allocate 24 = .ok (.iconst 0, 1) := by decide +kernel
theorem dd_am_allocate_25 : decode by_am_allocate 25 = .ok (.iaload, 1) := by decide +kernel
theorem dd_am_allocate_26 : decode by_am_allocate 26 = .ok (.istore_n 3, 1) := by decide +kernel
theorem dd_am_allocate_27 : decode by_am_allocate 27 = .ok (.aload_n 1, 1) := by decide +kernel
theorem dd_am_allocate_28 : decode by_am_allocate 28 = .ok (.iload_n 3, 1) := by decide +kernel
theorem dd_am_allocate_29 : decode by_am_allocate 29 = .ok (.invokevirtual 238, 3) := by decide +kernel
theorem dd_am_allocate_32 : decode by_am_allocate 32 = .ok (.iconst 3, 1) := by decide +kernel
theorem dd_am_allocate_33 : decode by_am_allocate 33 = .ok (.if_icmp .eq 6, 3) := by decide +kernel
theorem dd_am_allocate_36 : decode by_am_allocate 36 = .ok (.bipush 10, 2) := by decide +kernel
theorem dd_am_allocate_38 : decode by_am_allocate 38 = .ok (.ireturn, 1) := by decide +kernel
theorem dd_am_allocate_39 : decode by_am_allocate 39 = .ok (.aload_n 0, 1) := by decide +kernel
theorem dd_am_allocate_40 : decode by_am_allocate 40 = .ok (.getfield 18, 3) := by decide +kernel
theorem dd_am_allocate_43 : decode by_am_allocate 43 = .ok (.iload_n 3, 1) := by decide +kernel
theorem dd_am_allocate_44 : decode by_am_allocate 44 = .ok (.invokevirtual 259, 3) := by decide +kernel
theorem dd_am_allocate_47 : decode by_am_allocate 47 = .ok (.ifCond .ne 6, 3) := by decide +kernel
theorem dd_am_allocate_50 : decode by_am_allocate 50 = .ok (.bipush 7, 2) := by decide +kernel
theorem dd_am_allocate_52 : decode by_am_allocate 52 = .ok (.ireturn, 1) := by decide +kernel
theorem dd_am_allocate_53 : decode by_am_allocate 53 = .ok (.aload_n 0, 1) := by decide +kernel
theorem dd_am_allocate_54 : decode by_am_allocate 54 = .ok (.getfield 18, 3) := by decide +kernel
theorem dd_am_allocate_57 : decode by_am_allocate 57 = .ok (.getfield 109, 3) := by decide +kernel
theorem dd_am_allocate_60 : decode by_am_allocate 60 = .ok (.iload_n 3, 1) := by decide +kernel
theorem dd_am_allocate_61 : decode by_am_allocate 61 = .ok (.iload_n 2, 1) := by decide +kernel
theorem dd_am_allocate_62 : decode by_am_allocate 62 = .ok (.iastore, 1) := by decide +kernel
theorem dd_am_allocate_63 : decode by_am_allocate 63 = .ok (.iconst 0, 1) := by decide +kernel
theorem dd_am_allocate_64 : decode by_am_allocate 64 = .ok (.ireturn, 1) := by decide +kernel
def am_allocate_b0 (M : gw_M) (a0 : Nat) (a1 : Nat) (v2 : Int32) : Option (Int32 × gw_M) :=
  if (M.1 a1 2) < (1 : Int32) then (some ((13 : Int32), M)) else (if v2 < (0 : Int32) then (some ((13 : Int32), M)) else (if v2 ≤ (4 : Int32) then (gw_lt (M.1 (a1 + 1) 0) (fun x26 => gw_bd (od_marksOf_b0 M a1 x26) (fun r29 M29 => if r29 = (3 : Int32) then (gw_bd (le_isBlank_b0 M29 (a0 + 2) x26) (fun r44 M44 => if r44 = (0 : Int32) then (some ((7 : Int32), M44)) else (gw_gu (gw_in x26 8) (gw_lt (gw_sI M44 ((a0 + 2) + 3) x26.toNatClampNeg v2) (fun M62 => some ((0 : Int32), M62)))))) else (some ((10 : Int32), M29))))) else (some ((13 : Int32), M))))
set_option maxRecDepth 100000 in
set_option maxHeartbeats 4000000 in
theorem wb_am_allocate_0 {p : Program} {l : Launch} {e : Env} {s : State} {m : MethodId} {args : Array Value} {below : List Frame} {meth : Method} {c : Code} {X : gw_X} {Y : gw_M} {z : (Int32 × gw_M)} (C0 : gw_C ((Cond.code yy_am_allocate by_am_allocate 4 (some .int)) :: gw_w) by_am_allocate 4 (some .int) "AccountMachine" X p s m args meth c) (M : gw_M) (a0 : Nat) (a1 : Nat) (v2 : Int32) (H : Heap) (locs : List Loc) (ls : Array Slot) (ha0 : gc_k a0 = (2, 0)) (ha1 : gc_k a1 = (4, 0)) (G : gw_G X (gw_E X M Y) s H locs) (hl : lv_has ls 4 [(0, .ref (gc_a X a0)), (1, .ref (gc_a X a1)), (2, .int v2)]) (hF : am_allocate_b0  M a0 a1 v2 = some z) : W p l e rm_am_allocate s m args below meth c H locs 0 0 (MQ below (gw_Qi X (fun M => (gw_E X M Y)) z) args s 0 0 (gw_A X)) (F0 m 0 ls []) := by
  obtain ⟨hx, hb, hml, hown, hts, hr, hlocks, hK⟩ := id C0
  have hg : ∀ w ∈ gw_w, w.before args s = true := fun w h => hts w (List.mem_cons_of_mem _ h)
  unfold am_allocate_b0 at hF
  refine lv_aload_n hx hb dd_am_allocate_0 rfl (lv_at hl 1 rfl) ?_
  refine gn_od_count hx hb hg hown (gw_nw hK kn_23) hK G ha1 dd_am_allocate_1 ?_
  refine lv_iconst (v := (1 : Int32)) hx hb dd_am_allocate_4 (by decide) ?_
  refine lv_icmp_lt (tgt := 17) hx hb dd_am_allocate_5 (by decide) (fun h5 => ?_) (fun h5 => ?_)
  · replace hF := gw_et h5 hF
    refine lv_bipush (v := (13 : Int32)) hx hb dd_am_allocate_17 (by decide) ?_
    exact W.iret hx hb hr (fun t ht hW => gw_endi (EF := (fun M => (gw_E X M Y))) (M := M) G ht hF) G.2.2.2.2 dd_am_allocate_19 hlocks
  · replace hF := gw_ef h5 hF
    refine lv_iload_n hx hb dd_am_allocate_8 rfl (lv_at hl 2 rfl) ?_
    refine lv_if_lt (tgt := 17) hx hb dd_am_allocate_9 (by decide) (fun h9 => ?_) (fun h9 => ?_)
    · replace hF := gw_et h9 hF
      refine lv_bipush (v := (13 : Int32)) hx hb dd_am_allocate_17 (by decide) ?_
      exact W.iret hx hb hr (fun t ht hW => gw_endi (EF := (fun M => (gw_E X M Y))) (M := M) G ht hF) G.2.2.2.2 dd_am_allocate_19 hlocks
    · replace hF := gw_ef h9 hF
      refine lv_iload_n hx hb dd_am_allocate_12 rfl (lv_at hl 2 rfl) ?_
      refine lv_iconst (v := (4 : Int32)) hx hb dd_am_allocate_13 (by decide) ?_
      refine lv_icmp_le (tgt := 20) hx hb dd_am_allocate_14 (by decide) (fun h14 => ?_) (fun h14 => ?_)
      · replace hF := gw_et h14 hF
        refine lv_aload_n hx hb dd_am_allocate_20 rfl (lv_at hl 1 rfl) ?_
        refine gn_od_accounts hx hb hg hown (gw_nw hK kn_24) hK G ha1 dd_am_allocate_21 ?_
        refine lv_iconst (v := (0 : Int32)) hx hb dd_am_allocate_24 (by decide) ?_
        refine gc_iald hx hb hK G (gq_od_accounts ha1) (gw_vp (by decide)) (j := 0) (by decide) dd_am_allocate_25 ?_
        refine lv_topi (fun x26 e26 => ?_)
        replace hF := gw_ly e26 hF
        refine lv_istore_n (i := 3) (lv' := [(3, .int x26), (0, .ref (gc_a X a0)), (1, .ref (gc_a X a1)), (2, .int v2)]) hx hb dd_am_allocate_26 rfl hl (by decide) rfl (fun ls hl => ?_)
        refine lv_aload_n hx hb dd_am_allocate_27 rfl (lv_at hl 2 rfl) ?_
        refine lv_iload_n hx hb dd_am_allocate_28 rfl (lv_at hl 0 rfl) ?_
        obtain ⟨r29, M29, hc29, hF⟩ := gw_be hF
        refine gw_ci G (va_runVN (As := [.int x26]) (rest := []) ⟨hx, hb, hml, hown, hts⟩ (ct_od_marksOf l X Y M a1 x26 ha1 _ hc29) ⟨va_cnB 1 hts (gw_gN kw_13) rfl rfl rfl (hK.2.1 _ kn_25) (hg _ kw_14) (by decide +kernel) ⟨Nat.le_of_ble_eq_true rfl, Nat.le_of_ble_eq_true rfl⟩, hg _ kw_15, hg _ kw_16⟩ ⟨gw_blind, gw_recv_od hK G ha1, gw_pre hK G⟩ rfl rfl hl.1 rfl (Nat.le_of_ble_eq_true rfl) dd_am_allocate_29 ⟨Nat.le_of_ble_eq_true rfl, Nat.le_of_ble_eq_true rfl⟩) (fun H locs G => ?_)
        refine lv_iconst (v := (3 : Int32)) hx hb dd_am_allocate_32 (by decide) ?_
        refine W.eq (g2 := F0 m 33 _ _) rfl ?_
        refine lv_icmp_eq (tgt := 39) hx hb dd_am_allocate_33 (by decide) (fun h33 => ?_) (fun h33 => ?_)
        · replace hF := gw_et h33 hF
          refine lv_aload_n hx hb dd_am_allocate_39 rfl (lv_at hl 1 rfl) ?_
          refine gf_am_ledger hx hb hg hown (hg _ kw_124) hK G ha0 dd_am_allocate_40 ?_
          refine lv_iload_n hx hb dd_am_allocate_43 rfl (lv_at hl 0 rfl) ?_
          obtain ⟨r44, M44, hc44, hF⟩ := gw_be hF
          refine gw_ci G (va_runVN (As := [.int x26]) (rest := []) ⟨hx, hb, hml, hown, hts⟩ (ct_le_isBlank l X Y M29 (a0 + 2) x26 (gq_am_ledger ha0) _ hc44) ⟨va_cnB 1 hts (gw_gN kw_125) rfl rfl rfl (hK.2.1 _ kn_26) (hg _ kw_126) (by decide +kernel) ⟨Nat.le_of_ble_eq_true rfl, Nat.le_of_ble_eq_true rfl⟩, hg _ kw_127, hg _ kw_128⟩ ⟨gw_blind, gw_recv_le hK G (gq_am_ledger ha0), gw_pre hK G⟩ rfl rfl hl.1 rfl (Nat.le_of_ble_eq_true rfl) dd_am_allocate_44 ⟨Nat.le_of_ble_eq_true rfl, Nat.le_of_ble_eq_true rfl⟩) (fun H locs G => ?_)
          refine lv_if_ne (tgt := 53) hx hb dd_am_allocate_47 (by decide) (fun h47 => ?_) (fun h47 => ?_)
          · replace hF := gw_ef h47 hF
            refine lv_aload_n hx hb dd_am_allocate_53 rfl (lv_at hl 1 rfl) ?_
            refine gf_am_ledger hx hb hg hown (hg _ kw_124) hK G ha0 dd_am_allocate_54 ?_
            refine gn_le_sizes hx hb hg hown (gw_nw hK kn_29) hK G (gq_am_ledger ha0) dd_am_allocate_57 ?_
            refine lv_iload_n hx hb dd_am_allocate_60 rfl (lv_at hl 0 rfl) ?_
            refine lv_iload_n hx hb dd_am_allocate_61 rfl (lv_at hl 3 rfl) ?_
            obtain ⟨h62, hF⟩ := gw_gd hF
            refine gc_iast hx hb hK G (gq_le_sizes (gq_am_ledger ha0)) (gw_vp h62) (j := x26.toNatClampNeg) rfl dd_am_allocate_62 (fun M62 H locs e62 G => ?_)
            replace hF := gw_ly e62 hF
            refine lv_iconst (v := (0 : Int32)) hx hb dd_am_allocate_63 (by decide) ?_
            exact W.iret hx hb hr (fun t ht hW => gw_endi (EF := (fun M => (gw_E X M Y))) (M := M62) G ht hF) G.2.2.2.2 dd_am_allocate_64 hlocks
          · replace hF := gw_et h47 hF
            refine lv_bipush (v := (7 : Int32)) hx hb dd_am_allocate_50 (by decide) ?_
            exact W.iret hx hb hr (fun t ht hW => gw_endi (EF := (fun M => (gw_E X M Y))) (M := M44) G ht hF) G.2.2.2.2 dd_am_allocate_52 hlocks
        · replace hF := gw_ef h33 hF
          refine lv_bipush (v := (10 : Int32)) hx hb dd_am_allocate_36 (by decide) ?_
          exact W.iret hx hb hr (fun t ht hW => gw_endi (EF := (fun M => (gw_E X M Y))) (M := M29) G ht hF) G.2.2.2.2 dd_am_allocate_38 hlocks
      · replace hF := gw_ef h14 hF
        refine lv_bipush (v := (13 : Int32)) hx hb dd_am_allocate_17 (by decide) ?_
        exact W.iret hx hb hr (fun t ht hW => gw_endi (EF := (fun M => (gw_E X M Y))) (M := M) G ht hF) G.2.2.2.2 dd_am_allocate_19 hlocks
set_option maxRecDepth 100000 in
set_option maxHeartbeats 4000000 in
theorem ct_am_allocate (l : Launch) (X : gw_X) (Y : gw_M) (M : gw_M) (a0 : Nat) (a1 : Nat) (v2 : Int32) (ha0 : gc_k a0 = (2, 0)) (ha1 : gc_k a1 = (4, 0)) (z : (Int32 × gw_M)) (hF : am_allocate_b0 M a0 a1 v2 = some z) : Met l yy_am_allocate ((Cond.code yy_am_allocate by_am_allocate 4 (some .int)) :: gw_w) rm_am_allocate (va_Pc [.ref (gc_a X a0), .ref (gc_a X a1), .int v2] (gw_B X (gw_E X M Y))) (gw_Qi X (fun M => (gw_E X M Y)) z) 0 0 (gw_A X) := by
  refine Met.ofW (cc := by_am_allocate) (maxL := 4) (ret := (some .int)) (by decide) rfl ?_
  intro p e s m args below meth c s₁ B hml hv
  obtain ⟨rfl, hB⟩ := hv
  rw [lg_entry_eq]
  have hl := lv_entry ([.ref (gc_a X a0), .ref (gc_a X a1), .int v2]) (n := 4) (Nat.le_of_ble_eq_true rfl)
  generalize (lg_sl ([.ref (gc_a X a0), .ref (gc_a X a1), .int v2]) ++ List.replicate (4 - (lg_sl ([.ref (gc_a X a0), .ref (gc_a X a1), .int v2])).length) Slot.unset).toArray = ls at hl ⊢
  have hl : lv_has ls 4 [(0, .ref (gc_a X a0)), (1, .ref (gc_a X a1)), (2, .int v2)] := hl
  exact wb_am_allocate_0 (gw_ctx B hml rfl hB) M a0 a1 v2 _ _ _ ha0 ha1 (gw_start hB) hl hF
/-! AccountMachine.doSystem(LAccountMachine$Order;)I -/
abbrev rm_am_doSystem : Room := { frames := 2, cells := 0, slots := 0, locals := 47 }
theorem dd_am_doSystem_0 : decode by_am_doSystem 0 = .ok (.aload_n 0, 1) := by decide +kernel
theorem dd_am_doSystem_1 : decode by_am_doSystem 1 = .ok (.iconst 2, 1) := by decide +kernel
theorem dd_am_doSystem_2 : decode by_am_doSystem 2 = .ok (.invokevirtual 149, 3) := by decide +kernel
theorem dd_am_doSystem_5 : decode by_am_doSystem 5 = .ok (.ifCond .ne 5, 3) := by decide +kernel
theorem dd_am_doSystem_8 : decode by_am_doSystem 8 = .ok (.iconst 3, 1) := by decide +kernel
theorem dd_am_doSystem_9 : decode by_am_doSystem 9 = .ok (.ireturn, 1) := by decide +kernel
theorem dd_am_doSystem_10 : decode by_am_doSystem 10 = .ok (.aload_n 1, 1) := by decide +kernel
theorem dd_am_doSystem_11 : decode by_am_doSystem 11 = .ok (.getfield 246, 3) := by decide +kernel
theorem dd_am_doSystem_14 : decode by_am_doSystem 14 = .ok (.iconst 2, 1) := by decide +kernel
theorem dd_am_doSystem_15 : decode by_am_doSystem 15 = .ok (.ishr, 1) := by decide +kernel
theorem dd_am_doSystem_16 : decode by_am_doSystem 16 = .ok (.istore_n 2, 1) := by decide +kernel
theorem dd_am_doSystem_17 : decode by_am_doSystem 17 = .ok (.aload_n 1, 1) := by decide +kernel
theorem dd_am_doSystem_18 : decode by_am_doSystem 18 = .ok (.getfield 246, 3) := by decide +kernel
theorem dd_am_doSystem_21 : decode by_am_doSystem 21 = .ok (.iconst 3, 1) := by decide +kernel
theorem dd_am_doSystem_22 : decode by_am_doSystem 22 = .ok (.iand, 1) := by decide +kernel
theorem dd_am_doSystem_23 : decode by_am_doSystem 23 = .ok (.tableswitch 46 0 2 #[25, 32, 39], 25) := by decide +kernel
theorem dd_am_doSystem_48 : decode by_am_doSystem 48 = .ok (.aload_n 0, 1) := by decide +kernel
theorem dd_am_doSystem_49 : decode by_am_doSystem 49 = .ok (.aload_n 1, 1) := by decide +kernel
theorem dd_am_doSystem_50 : decode by_am_doSystem 50 = .ok (.iload_n 2, 1) := by decide +kernel
theorem dd_am_doSystem_51 : decode by_am_doSystem 51 = .ok (.invokevirtual 249, 3) := by decide +kernel
theorem dd_am_doSystem_54 : decode by_am_doSystem 54 = .ok (.ireturn, 1) := by decide +kernel
theorem dd_am_doSystem_55 : decode by_am_doSystem 55 = .ok (.aload_n 0, 1) := by decide +kernel
theorem dd_am_doSystem_56 : decode by_am_doSystem 56 = .ok (.aload_n 1, 1) := by decide +kernel
theorem dd_am_doSystem_57 : decode by_am_doSystem 57 = .ok (.iload_n 2, 1) := by decide +kernel
theorem dd_am_doSystem_58 : decode by_am_doSystem 58 = .ok (.invokevirtual 253, 3) := by decide +kernel
theorem dd_am_doSystem_61 : decode by_am_doSystem 61 = .ok (.ireturn, 1) := by decide +kernel
theorem dd_am_doSystem_62 : decode by_am_doSystem 62 = .ok (.aload_n 0, 1) := by decide +kernel
theorem dd_am_doSystem_63 : decode by_am_doSystem 63 = .ok (.aload_n 1, 1) := by decide +kernel
theorem dd_am_doSystem_64 : decode by_am_doSystem 64 = .ok (.iload_n 2, 1) := by decide +kernel
theorem dd_am_doSystem_65 : decode by_am_doSystem 65 = .ok (.invokevirtual 256, 3) := by decide +kernel
theorem dd_am_doSystem_68 : decode by_am_doSystem 68 = .ok (.ireturn, 1) := by decide +kernel
theorem dd_am_doSystem_69 : decode by_am_doSystem 69 = .ok (.bipush 13, 2) := by decide +kernel
theorem dd_am_doSystem_71 : decode by_am_doSystem 71 = .ok (.ireturn, 1) := by decide +kernel
def am_doSystem_b0 (M : gw_M) (a0 : Nat) (a1 : Nat) : Option (Int32 × gw_M) :=
  gw_bd (am_takeUnits_b0 M a0 (2 : Int32)) (fun r2 M2 => if r2 = (0 : Int32) then (some ((3 : Int32), M2)) else (gw_lt ((M2.1 a1 1) >>> ((2 : Int32) &&& 31)) (fun x16 => gw_lt ((M2.1 a1 1) &&& (3 : Int32)) (fun x23 => if x23 = (0 : Int32) then (gw_bd (am_transfer_b0 M2 a0 a1 x16) (fun r51 M51 => some (r51, M51))) else (if x23 = (1 : Int32) then (gw_bd (am_assign_b0 M2 a0 a1 x16) (fun r58 M58 => some (r58, M58))) else (if x23 = (2 : Int32) then (gw_bd (am_allocate_b0 M2 a0 a1 x16) (fun r65 M65 => some (r65, M65))) else (some ((13 : Int32), M2))))))))
set_option maxRecDepth 100000 in
set_option maxHeartbeats 4000000 in
theorem wb_am_doSystem_0 {p : Program} {l : Launch} {e : Env} {s : State} {m : MethodId} {args : Array Value} {below : List Frame} {meth : Method} {c : Code} {X : gw_X} {Y : gw_M} {z : (Int32 × gw_M)} (C0 : gw_C ((Cond.code yy_am_doSystem by_am_doSystem 3 (some .int)) :: gw_w) by_am_doSystem 3 (some .int) "AccountMachine" X p s m args meth c) (M : gw_M) (a0 : Nat) (a1 : Nat) (H : Heap) (locs : List Loc) (ls : Array Slot) (ha0 : gc_k a0 = (2, 0)) (ha1 : gc_k a1 = (4, 0)) (G : gw_G X (gw_E X M Y) s H locs) (hl : lv_has ls 3 [(0, .ref (gc_a X a0)), (1, .ref (gc_a X a1))]) (hF : am_doSystem_b0  M a0 a1 = some z) : W p l e rm_am_doSystem s m args below meth c H locs 0 0 (MQ below (gw_Qi X (fun M => (gw_E X M Y)) z) args s 0 0 (gw_A X)) (F0 m 0 ls []) := by
  obtain ⟨hx, hb, hml, hown, hts, hr, hlocks, hK⟩ := id C0
  have hg : ∀ w ∈ gw_w, w.before args s = true := fun w h => hts w (List.mem_cons_of_mem _ h)
  unfold am_doSystem_b0 at hF
  refine lv_aload_n hx hb dd_am_doSystem_0 rfl (lv_at hl 0 rfl) ?_
  refine lv_iconst (v := (2 : Int32)) hx hb dd_am_doSystem_1 (by decide) ?_
  obtain ⟨r2, M2, hc2, hF⟩ := gw_be hF
  refine gw_ci G (va_runV (As := [.int (2 : Int32)]) (rest := []) ⟨hx, hb, hml, hown, hts⟩ (ct_am_takeUnits l X Y M a0 (2 : Int32) ha0 _ hc2) (cwV 1 hts (gw_gV kw_131 kw_132 kw_133 kw_107 kw_130) rfl rfl rfl (by decide +kernel) ⟨Nat.le_of_ble_eq_true rfl, Nat.le_of_ble_eq_true rfl⟩) ⟨gw_blind, gw_recv_am hK G ha0, gw_pre hK G⟩ rfl rfl hl.1 rfl (Nat.le_of_ble_eq_true rfl) dd_am_doSystem_2 ⟨Nat.le_of_ble_eq_true rfl, Nat.le_of_ble_eq_true rfl⟩) (fun H locs G => ?_)
  refine lv_if_ne (tgt := 10) hx hb dd_am_doSystem_5 (by decide) (fun h5 => ?_) (fun h5 => ?_)
  · replace hF := gw_ef h5 hF
    refine lv_aload_n hx hb dd_am_doSystem_10 rfl (lv_at hl 1 rfl) ?_
    refine gn_od_argument hx hb hg hown (gw_nw hK kn_30) hK G ha1 dd_am_doSystem_11 ?_
    refine lv_iconst (v := (2 : Int32)) hx hb dd_am_doSystem_14 (by decide) ?_
    refine lv_ishr hx hb dd_am_doSystem_15 ?_
    refine lv_topi (fun x16 e16 => ?_)
    replace hF := gw_ly e16 hF
    refine lv_istore_n (i := 2) (lv' := [(2, .int x16), (0, .ref (gc_a X a0)), (1, .ref (gc_a X a1))]) hx hb dd_am_doSystem_16 rfl hl (by decide) rfl (fun ls hl => ?_)
    refine lv_aload_n hx hb dd_am_doSystem_17 rfl (lv_at hl 2 rfl) ?_
    refine gn_od_argument hx hb hg hown (gw_nw hK kn_30) hK G ha1 dd_am_doSystem_18 ?_
    refine lv_iconst (v := (3 : Int32)) hx hb dd_am_doSystem_21 (by decide) ?_
    refine lv_iand hx hb dd_am_doSystem_22 ?_
    refine W.eq (g2 := F0 m 23 _ _) rfl ?_
    refine lv_topi (fun x23 e23 => ?_)
    replace hF := gw_ly e23 hF
    by_cases q23_0 : x23 = (0 : Int32)
    · replace hF := gw_et q23_0 hF
      refine lv_tableIn (off := 25) (tgt := 48) hx hb dd_am_doSystem_23 (by rw [q23_0]; decide) (by rw [q23_0]; decide) (by rw [q23_0]; decide) (by decide) ?_
      refine lv_aload_n hx hb dd_am_doSystem_48 rfl (lv_at hl 1 rfl) ?_
      refine lv_aload_n hx hb dd_am_doSystem_49 rfl (lv_at hl 2 rfl) ?_
      refine lv_iload_n hx hb dd_am_doSystem_50 rfl (lv_at hl 0 rfl) ?_
      obtain ⟨r51, M51, hc51, hF⟩ := gw_be hF
      refine gw_ci G (va_runV (As := [.ref (gc_a X a1), .int x16]) (rest := []) ⟨hx, hb, hml, hown, hts⟩ (ct_am_transfer l X Y M2 a0 a1 x16 ha0 ha1 _ hc51) (cwV 2 hts (gw_gV kw_135 kw_136 kw_137 kw_107 kw_134) rfl rfl rfl (by decide +kernel) ⟨Nat.le_of_ble_eq_true rfl, Nat.le_of_ble_eq_true rfl⟩) ⟨gw_blind, gw_recv_am hK G ha0, gw_pre hK G⟩ rfl rfl hl.1 rfl (Nat.le_of_ble_eq_true rfl) dd_am_doSystem_51 ⟨Nat.le_of_ble_eq_true rfl, Nat.le_of_ble_eq_true rfl⟩) (fun H locs G => ?_)
      exact W.iret hx hb hr (fun t ht hW => gw_endi (EF := (fun M => (gw_E X M Y))) (M := M51) G ht hF) G.2.2.2.2 dd_am_doSystem_54 hlocks
    replace hF := gw_ef q23_0 hF
    by_cases q23_1 : x23 = (1 : Int32)
    · replace hF := gw_et q23_1 hF
      refine lv_tableIn (off := 32) (tgt := 55) hx hb dd_am_doSystem_23 (by rw [q23_1]; decide) (by rw [q23_1]; decide) (by rw [q23_1]; decide) (by decide) ?_
      refine lv_aload_n hx hb dd_am_doSystem_55 rfl (lv_at hl 1 rfl) ?_
      refine lv_aload_n hx hb dd_am_doSystem_56 rfl (lv_at hl 2 rfl) ?_
      refine lv_iload_n hx hb dd_am_doSystem_57 rfl (lv_at hl 0 rfl) ?_
      obtain ⟨r58, M58, hc58, hF⟩ := gw_be hF
      refine gw_ci G (va_runV (As := [.ref (gc_a X a1), .int x16]) (rest := []) ⟨hx, hb, hml, hown, hts⟩ (ct_am_assign l X Y M2 a0 a1 x16 ha0 ha1 _ hc58) (cwV 2 hts (gw_gV kw_139 kw_140 kw_141 kw_107 kw_138) rfl rfl rfl (by decide +kernel) ⟨Nat.le_of_ble_eq_true rfl, Nat.le_of_ble_eq_true rfl⟩) ⟨gw_blind, gw_recv_am hK G ha0, gw_pre hK G⟩ rfl rfl hl.1 rfl (Nat.le_of_ble_eq_true rfl) dd_am_doSystem_58 ⟨Nat.le_of_ble_eq_true rfl, Nat.le_of_ble_eq_true rfl⟩) (fun H locs G => ?_)
      exact W.iret hx hb hr (fun t ht hW => gw_endi (EF := (fun M => (gw_E X M Y))) (M := M58) G ht hF) G.2.2.2.2 dd_am_doSystem_61 hlocks
    replace hF := gw_ef q23_1 hF
    by_cases q23_2 : x23 = (2 : Int32)
    · replace hF := gw_et q23_2 hF
      refine lv_tableIn (off := 39) (tgt := 62) hx hb dd_am_doSystem_23 (by rw [q23_2]; decide) (by rw [q23_2]; decide) (by rw [q23_2]; decide) (by decide) ?_
      refine lv_aload_n hx hb dd_am_doSystem_62 rfl (lv_at hl 1 rfl) ?_
      refine lv_aload_n hx hb dd_am_doSystem_63 rfl (lv_at hl 2 rfl) ?_
      refine lv_iload_n hx hb dd_am_doSystem_64 rfl (lv_at hl 0 rfl) ?_
      obtain ⟨r65, M65, hc65, hF⟩ := gw_be hF
      refine gw_ci G (va_runV (As := [.ref (gc_a X a1), .int x16]) (rest := []) ⟨hx, hb, hml, hown, hts⟩ (ct_am_allocate l X Y M2 a0 a1 x16 ha0 ha1 _ hc65) (cwV 2 hts (gw_gV kw_143 kw_144 kw_145 kw_107 kw_142) rfl rfl rfl (by decide +kernel) ⟨Nat.le_of_ble_eq_true rfl, Nat.le_of_ble_eq_true rfl⟩) ⟨gw_blind, gw_recv_am hK G ha0, gw_pre hK G⟩ rfl rfl hl.1 rfl (Nat.le_of_ble_eq_true rfl) dd_am_doSystem_65 ⟨Nat.le_of_ble_eq_true rfl, Nat.le_of_ble_eq_true rfl⟩) (fun H locs G => ?_)
      exact W.iret hx hb hr (fun t ht hW => gw_endi (EF := (fun M => (gw_E X M Y))) (M := M65) G ht hF) G.2.2.2.2 dd_am_doSystem_68 hlocks
    replace hF := gw_ef q23_2 hF
    have n23_0 := gw_ne (c := (0 : Int32)) (n := 0) (by decide) q23_0
    have n23_1 := gw_ne (c := (1 : Int32)) (n := 1) (by decide) q23_1
    have n23_2 := gw_ne (c := (2 : Int32)) (n := 2) (by decide) q23_2
    refine lv_tableOut (tgt := 69) hx hb dd_am_doSystem_23 (by omega) (by decide) ?_
    refine lv_bipush (v := (13 : Int32)) hx hb dd_am_doSystem_69 (by decide) ?_
    exact W.iret hx hb hr (fun t ht hW => gw_endi (EF := (fun M => (gw_E X M Y))) (M := M2) G ht hF) G.2.2.2.2 dd_am_doSystem_71 hlocks
  · replace hF := gw_et h5 hF
    refine lv_iconst (v := (3 : Int32)) hx hb dd_am_doSystem_8 (by decide) ?_
    exact W.iret hx hb hr (fun t ht hW => gw_endi (EF := (fun M => (gw_E X M Y))) (M := M2) G ht hF) G.2.2.2.2 dd_am_doSystem_9 hlocks
set_option maxRecDepth 100000 in
set_option maxHeartbeats 4000000 in
theorem ct_am_doSystem (l : Launch) (X : gw_X) (Y : gw_M) (M : gw_M) (a0 : Nat) (a1 : Nat) (ha0 : gc_k a0 = (2, 0)) (ha1 : gc_k a1 = (4, 0)) (z : (Int32 × gw_M)) (hF : am_doSystem_b0 M a0 a1 = some z) : Met l yy_am_doSystem ((Cond.code yy_am_doSystem by_am_doSystem 3 (some .int)) :: gw_w) rm_am_doSystem (va_Pc [.ref (gc_a X a0), .ref (gc_a X a1)] (gw_B X (gw_E X M Y))) (gw_Qi X (fun M => (gw_E X M Y)) z) 0 0 (gw_A X) := by
  refine Met.ofW (cc := by_am_doSystem) (maxL := 3) (ret := (some .int)) (by decide) rfl ?_
  intro p e s m args below meth c s₁ B hml hv
  obtain ⟨rfl, hB⟩ := hv
  rw [lg_entry_eq]
  have hl := lv_entry ([.ref (gc_a X a0), .ref (gc_a X a1)]) (n := 3) (Nat.le_of_ble_eq_true rfl)
  generalize (lg_sl ([.ref (gc_a X a0), .ref (gc_a X a1)]) ++ List.replicate (3 - (lg_sl ([.ref (gc_a X a0), .ref (gc_a X a1)])).length) Slot.unset).toArray = ls at hl ⊢
  have hl : lv_has ls 3 [(0, .ref (gc_a X a0)), (1, .ref (gc_a X a1))] := hl
  exact wb_am_doSystem_0 (gw_ctx B hml rfl hB) M a0 a1 _ _ _ ha0 ha1 (gw_start hB) hl hF
/-! AccountMachine.writeLog(J)V -/
abbrev rm_am_writeLog : Room := { frames := 0, cells := 0, slots := 0, locals := 0 }
theorem dd_am_writeLog_0 : decode by_am_writeLog 0 = .ok (.aload_n 0, 1) := by decide +kernel
theorem dd_am_writeLog_1 : decode by_am_writeLog 1 = .ok (.getfield 51, 3) := by decide +kernel
theorem dd_am_writeLog_4 : decode by_am_writeLog 4 = .ok (.bipush 30, 2) := by decide +kernel
theorem dd_am_writeLog_6 : decode by_am_writeLog 6 = .ok (.if_icmp .ge 23, 3) := by decide +kernel
theorem dd_am_writeLog_9 : decode by_am_writeLog 9 = .ok (.aload_n 0, 1) := by decide +kernel
theorem dd_am_writeLog_10 : decode by_am_writeLog 10 = .ok (.getfield 47, 3) := by decide +kernel
theorem dd_am_writeLog_13 : decode by_am_writeLog 13 = .ok (.aload_n 0, 1) := by decide +kernel
theorem dd_am_writeLog_14 : decode by_am_writeLog 14 = .ok (.getfield 51, 3) := by decide +kernel
theorem dd_am_writeLog_17 : decode by_am_writeLog 17 = .ok (.lload_n 1, 1) := by decide +kernel
theorem dd_am_writeLog_18 : decode by_am_writeLog 18 = .ok (.lastore, 1) := by decide +kernel
theorem dd_am_writeLog_19 : decode by_am_writeLog 19 = .ok (.aload_n 0, 1) := by decide +kernel
theorem dd_am_writeLog_20 : decode by_am_writeLog 20 = .ok (.dup, 1) := by decide +kernel
theorem dd_am_writeLog_21 : decode by_am_writeLog 21 = .ok (.getfield 51, 3) := by decide +kernel
theorem dd_am_writeLog_24 : decode by_am_writeLog 24 = .ok (.iconst 1, 1) := by decide +kernel
theorem dd_am_writeLog_25 : decode by_am_writeLog 25 = .ok (.iadd, 1) := by decide +kernel
theorem dd_am_writeLog_26 : decode by_am_writeLog 26 = .ok (.putfield 51, 3) := by decide +kernel
theorem dd_am_writeLog_29 : decode by_am_writeLog 29 = .ok (.return_, 1) := by decide +kernel
def am_writeLog_b0 (M : gw_M) (a0 : Nat) (v1 : Int64) : Option (Unit × gw_M) :=
  if (30 : Int32) ≤ (M.1 a0 9) then (some ((), M)) else (gw_gu (gw_in (M.1 a0 9) 30) (gw_lt (gw_sL M (a0 + 14) ((M.1 a0 9).toNatClampNeg) v1) (fun M18 => gw_lt (gw_sI M18 a0 9 ((M18.1 a0 9) + (1 : Int32))) (fun M26 => some ((), M26)))))
set_option maxRecDepth 100000 in
set_option maxHeartbeats 4000000 in
theorem wb_am_writeLog_0 {p : Program} {l : Launch} {e : Env} {s : State} {m : MethodId} {args : Array Value} {below : List Frame} {meth : Method} {c : Code} {X : gw_X} {Y : gw_M} {z : (Unit × gw_M)} (C0 : gw_C ((Cond.code yy_am_writeLog by_am_writeLog 3 none) :: gw_w) by_am_writeLog 3 none "AccountMachine" X p s m args meth c) (M : gw_M) (a0 : Nat) (v1 : Int64) (H : Heap) (locs : List Loc) (ls : Array Slot) (ha0 : gc_k a0 = (2, 0)) (G : gw_G X (gw_E X M Y) s H locs) (hl : lv_has ls 3 [(0, .ref (gc_a X a0)), (1, .long v1)]) (hF : am_writeLog_b0  M a0 v1 = some z) : W p l e rm_am_writeLog s m args below meth c H locs 0 0 (MQ below (gw_Qv X (fun M => (gw_E X M Y)) z) args s 0 0 (gw_A X)) (F0 m 0 ls []) := by
  obtain ⟨hx, hb, hml, hown, hts, hr, hlocks, hK⟩ := id C0
  have hg : ∀ w ∈ gw_w, w.before args s = true := fun w h => hts w (List.mem_cons_of_mem _ h)
  unfold am_writeLog_b0 at hF
  refine lv_aload_n hx hb dd_am_writeLog_0 rfl (lv_at hl 0 rfl) ?_
  refine gf_am_logCount hx hb hg hown (hg _ kw_146) hK G ha0 dd_am_writeLog_1 ?_
  refine lv_bipush (v := (30 : Int32)) hx hb dd_am_writeLog_4 (by decide) ?_
  refine lv_icmp_ge (tgt := 29) hx hb dd_am_writeLog_6 (by decide) (fun h6 => ?_) (fun h6 => ?_)
  · replace hF := gw_et h6 hF
    exact W.vret hx hb hr (fun t ht hW => gw_endv (EF := (fun M => (gw_E X M Y))) (M := M) G ht hF) G.2.2.2.2 dd_am_writeLog_29 hlocks
  · replace hF := gw_ef h6 hF
    refine lv_aload_n hx hb dd_am_writeLog_9 rfl (lv_at hl 0 rfl) ?_
    refine gf_am_logWords hx hb hg hown (hg _ kw_147) hK G ha0 dd_am_writeLog_10 ?_
    refine lv_aload_n hx hb dd_am_writeLog_13 rfl (lv_at hl 0 rfl) ?_
    refine gf_am_logCount hx hb hg hown (hg _ kw_146) hK G ha0 dd_am_writeLog_14 ?_
    refine lv_lload_n hx hb dd_am_writeLog_17 rfl (lv_at hl 1 rfl) ?_
    obtain ⟨h18, hF⟩ := gw_gd hF
    refine gc_last hx hb hK G (gq_am_logWords ha0) (gw_vp h18) (j := (M.1 a0 9).toNatClampNeg) rfl dd_am_writeLog_18 (fun M18 H locs e18 G => ?_)
    replace hF := gw_ly e18 hF
    refine lv_aload_n hx hb dd_am_writeLog_19 rfl (lv_at hl 0 rfl) ?_
    refine lv_dup hx hb dd_am_writeLog_20 rfl ?_
    refine gf_am_logCount hx hb hg hown (hg _ kw_146) hK G ha0 dd_am_writeLog_21 ?_
    refine W.eq (g2 := F0 m 24 _ _) rfl ?_
    refine lv_iconst (v := (1 : Int32)) hx hb dd_am_writeLog_24 (by decide) ?_
    refine lv_iadd hx hb dd_am_writeLog_25 ?_
    refine gp_am_logCount hx hb hg hown (hg _ kw_146) hK G ha0 dd_am_writeLog_26 (fun M26 H locs e26 G => ?_)
    replace hF := gw_ly e26 hF
    exact W.vret hx hb hr (fun t ht hW => gw_endv (EF := (fun M => (gw_E X M Y))) (M := M26) G ht hF) G.2.2.2.2 dd_am_writeLog_29 hlocks
set_option maxRecDepth 100000 in
set_option maxHeartbeats 4000000 in
theorem ct_am_writeLog (l : Launch) (X : gw_X) (Y : gw_M) (M : gw_M) (a0 : Nat) (v1 : Int64) (ha0 : gc_k a0 = (2, 0)) (z : (Unit × gw_M)) (hF : am_writeLog_b0 M a0 v1 = some z) : Met l yy_am_writeLog ((Cond.code yy_am_writeLog by_am_writeLog 3 none) :: gw_w) rm_am_writeLog (va_Pc [.ref (gc_a X a0), .long v1] (gw_B X (gw_E X M Y))) (gw_Qv X (fun M => (gw_E X M Y)) z) 0 0 (gw_A X) := by
  refine Met.ofW (cc := by_am_writeLog) (maxL := 3) (ret := none) (by decide) rfl ?_
  intro p e s m args below meth c s₁ B hml hv
  obtain ⟨rfl, hB⟩ := hv
  rw [lg_entry_eq]
  have hl := lv_entry ([.ref (gc_a X a0), .long v1]) (n := 3) (Nat.le_of_ble_eq_true rfl)
  generalize (lg_sl ([.ref (gc_a X a0), .long v1]) ++ List.replicate (3 - (lg_sl ([.ref (gc_a X a0), .long v1])).length) Slot.unset).toArray = ls at hl ⊢
  have hl : lv_has ls 3 [(0, .ref (gc_a X a0)), (1, .long v1)] := hl
  exact wb_am_writeLog_0 (gw_ctx B hml rfl hB) M a0 v1 _ _ _ ha0 (gw_start hB) hl hF
/-! AccountMachine.askedCount(J)I -/
abbrev rm_am_askedCount : Room := { frames := 0, cells := 0, slots := 0, locals := 0 }
theorem dd_am_askedCount_0 : decode by_am_askedCount 0 = .ok (.iconst 0, 1) := by decide +kernel
theorem dd_am_askedCount_1 : decode by_am_askedCount 1 = .ok (.istore_n 2, 1) := by decide +kernel
theorem dd_am_askedCount_2 : decode by_am_askedCount 2 = .ok (.iload_n 2, 1) := by decide +kernel
theorem dd_am_askedCount_3 : decode by_am_askedCount 3 = .ok (.iconst 4, 1) := by decide +kernel
theorem dd_am_askedCount_4 : decode by_am_askedCount 4 = .ok (.if_icmp .ge 24, 3) := by decide +kernel
theorem dd_am_askedCount_7 : decode by_am_askedCount 7 = .ok (.lload_n 0, 1) := by decide +kernel
theorem dd_am_askedCount_8 : decode by_am_askedCount 8 = .ok (.bipush 8, 2) := by decide +kernel
theorem dd_am_askedCount_10 : decode by_am_askedCount 10 = .ok (.iload_n 2, 1) := by decide +kernel
theorem dd_am_askedCount_11 : decode by_am_askedCount 11 = .ok (.imul, 1) := by decide +kernel
theorem dd_am_askedCount_12 : decode by_am_askedCount 12 = .ok (.lshr, 1) := by decide +kernel
theorem dd_am_askedCount_13 : decode by_am_askedCount 13 = .ok (.ldc2_w 242, 3) := by decide +kernel
theorem dd_am_askedCount_16 : decode by_am_askedCount 16 = .ok (.land, 1) := by decide +kernel
theorem dd_am_askedCount_17 : decode by_am_askedCount 17 = .ok (.lconst 0, 1) := by decide +kernel
theorem dd_am_askedCount_18 : decode by_am_askedCount 18 = .ok (.lcmp, 1) := by decide +kernel
theorem dd_am_askedCount_19 : decode by_am_askedCount 19 = .ok (.ifCond .eq 9, 3) := by decide +kernel
theorem dd_am_askedCount_22 : decode by_am_askedCount 22 = .ok (.iinc 2 1, 3) := by decide +kernel
theorem dd_am_askedCount_25 : decode by_am_askedCount 25 = .ok (.goto (-23), 3) := by decide +kernel
theorem dd_am_askedCount_28 : decode by_am_askedCount 28 = .ok (.iload_n 2, 1) := by decide +kernel
theorem dd_am_askedCount_29 : decode by_am_askedCount 29 = .ok (.ireturn, 1) := by decide +kernel
def am_askedCount_b2 (K2 : gw_M → Int64 → Int32 → Option (Int32 × gw_M)) (M : gw_M) (v0 : Int64) (v2 : Int32) : Option (Int32 × gw_M) :=
  if (4 : Int32) ≤ v2 then (some (v2, M)) else (if (lg_cmp ((v0 >>> (((8 : Int32) * v2).toInt64 &&& 63)) &&& (16 : Int64)) (0 : Int64)) = (0 : Int32) then (some (v2, M)) else (K2 M v0 (v2 + (1 : Int32))))
def am_askedCount_l2 : Nat → gw_M → Int64 → Int32 → Option (Int32 × gw_M)
  | 0 => fun _ _ _ => none
  | n + 1 => am_askedCount_b2  (am_askedCount_l2  n)
def am_askedCount_b0 (M : gw_M) (v0 : Int64) : Option (Int32 × gw_M) :=
  am_askedCount_l2  2100 M v0 (0 : Int32)
set_option maxRecDepth 100000 in
set_option maxHeartbeats 4000000 in
theorem wb_am_askedCount_2 {p : Program} {l : Launch} {e : Env} {s : State} {m : MethodId} {args : Array Value} {below : List Frame} {meth : Method} {c : Code} {X : gw_X} {Y : gw_M} {z : (Int32 × gw_M)} (C0 : gw_C ((Cond.code yy_am_askedCount by_am_askedCount 3 (some .int)) :: gw_w) by_am_askedCount 3 (some .int) "AccountMachine" X p s m args meth c) {K2 : gw_M → Int64 → Int32 → Option (Int32 × gw_M)} (hK2 : ∀ (M : gw_M) (v0 : Int64) (v2 : Int32) (H : Heap) (locs : List Loc) (ls : Array Slot), gw_G X (gw_E X M Y) s H locs → lv_has ls 3 [(0, .long v0), (2, .int v2)] → K2 M v0 v2 = some z → W p l e rm_am_askedCount s m args below meth c H locs 0 0 (MQ below (gw_Qi X (fun M => (gw_E X M Y)) z) args s 0 0 (gw_A X)) (F0 m 2 ls [])) (M : gw_M) (v0 : Int64) (v2 : Int32) (H : Heap) (locs : List Loc) (ls : Array Slot) (G : gw_G X (gw_E X M Y) s H locs) (hl : lv_has ls 3 [(0, .long v0), (2, .int v2)]) (hF : am_askedCount_b2 K2 M v0 v2 = some z) : W p l e rm_am_askedCount s m args below meth c H locs 0 0 (MQ below (gw_Qi X (fun M => (gw_E X M Y)) z) args s 0 0 (gw_A X)) (F0 m 2 ls []) := by
  obtain ⟨hx, hb, hml, hown, hts, hr, hlocks, hK⟩ := id C0
  have hg : ∀ w ∈ gw_w, w.before args s = true := fun w h => hts w (List.mem_cons_of_mem _ h)
  unfold am_askedCount_b2 at hF
  refine lv_iload_n hx hb dd_am_askedCount_2 rfl (lv_at hl 1 rfl) ?_
  refine lv_iconst (v := (4 : Int32)) hx hb dd_am_askedCount_3 (by decide) ?_
  refine lv_icmp_ge (tgt := 28) hx hb dd_am_askedCount_4 (by decide) (fun h4 => ?_) (fun h4 => ?_)
  · replace hF := gw_et h4 hF
    refine lv_iload_n hx hb dd_am_askedCount_28 rfl (lv_at hl 1 rfl) ?_
    exact W.iret hx hb hr (fun t ht hW => gw_endi (EF := (fun M => (gw_E X M Y))) (M := M) G ht hF) G.2.2.2.2 dd_am_askedCount_29 hlocks
  · replace hF := gw_ef h4 hF
    refine lv_lload_n hx hb dd_am_askedCount_7 rfl (lv_at hl 0 rfl) ?_
    refine lv_bipush (v := (8 : Int32)) hx hb dd_am_askedCount_8 (by decide) ?_
    refine lv_iload_n hx hb dd_am_askedCount_10 rfl (lv_at hl 1 rfl) ?_
    refine lv_imul hx hb dd_am_askedCount_11 ?_
    refine lv_lshr (v := v0 >>> (((8 : Int32) * v2).toInt64 &&& 63)) hx hb dd_am_askedCount_12 rfl ?_
    refine lv_ldc2 (v := (16 : Int64)) hx hb hown (hg _ kw_148) dd_am_askedCount_13 ?_
    refine lv_land hx hb dd_am_askedCount_16 ?_
    refine lv_lconst (v := (0 : Int64)) hx hb dd_am_askedCount_17 (by decide) ?_
    refine W.lcmp hx hb dd_am_askedCount_18 ?_
    refine W.eq (g2 := F0 m 19 _ _) rfl ?_
    refine lv_if_eq (tgt := 28) hx hb dd_am_askedCount_19 (by decide) (fun h19 => ?_) (fun h19 => ?_)
    · replace hF := gw_et h19 hF
      refine lv_iload_n hx hb dd_am_askedCount_28 rfl (lv_at hl 1 rfl) ?_
      exact W.iret hx hb hr (fun t ht hW => gw_endi (EF := (fun M => (gw_E X M Y))) (M := M) G ht hF) G.2.2.2.2 dd_am_askedCount_29 hlocks
    · replace hF := gw_ef h19 hF
      refine lv_iinc (k := 1) (v := v2 + (1 : Int32)) (lv' := [(2, .int (v2 + (1 : Int32))), (0, .long v0)]) hx hb dd_am_askedCount_22 hl rfl rfl (by decide) rfl (fun ls hl => ?_)
      refine lv_goto (tgt := 2) hx hb dd_am_askedCount_25 (by decide) ?_
      exact hK2 M v0 (v2 + (1 : Int32)) _ _ _  G (lv_sub hl [1, 0] rfl) hF
theorem wl_am_askedCount_2 {p : Program} {l : Launch} {e : Env} {s : State} {m : MethodId} {args : Array Value} {below : List Frame} {meth : Method} {c : Code} {X : gw_X} {Y : gw_M} {z : (Int32 × gw_M)} (C0 : gw_C ((Cond.code yy_am_askedCount by_am_askedCount 3 (some .int)) :: gw_w) by_am_askedCount 3 (some .int) "AccountMachine" X p s m args meth c) : ∀ n : Nat, ∀ (M : gw_M) (v0 : Int64) (v2 : Int32) (H : Heap) (locs : List Loc) (ls : Array Slot), gw_G X (gw_E X M Y) s H locs → lv_has ls 3 [(0, .long v0), (2, .int v2)] → am_askedCount_l2  n M v0 v2 = some z → W p l e rm_am_askedCount s m args below meth c H locs 0 0 (MQ below (gw_Qi X (fun M => (gw_E X M Y)) z) args s 0 0 (gw_A X)) (F0 m 2 ls []) := by
  intro n
  induction n with
  | zero =>
    intro M v0 v2 H locs ls  G hl hF
    have hF : (none : Option (Int32 × gw_M)) = some z := hF
    cases hF
  | succ n ih =>
    intro M v0 v2 H locs ls  G hl hF
    exact wb_am_askedCount_2 C0  ih M v0 v2 H locs ls  G hl hF
set_option maxRecDepth 100000 in
set_option maxHeartbeats 4000000 in
theorem wb_am_askedCount_0 {p : Program} {l : Launch} {e : Env} {s : State} {m : MethodId} {args : Array Value} {below : List Frame} {meth : Method} {c : Code} {X : gw_X} {Y : gw_M} {z : (Int32 × gw_M)} (C0 : gw_C ((Cond.code yy_am_askedCount by_am_askedCount 3 (some .int)) :: gw_w) by_am_askedCount 3 (some .int) "AccountMachine" X p s m args meth c) (M : gw_M) (v0 : Int64) (H : Heap) (locs : List Loc) (ls : Array Slot) (G : gw_G X (gw_E X M Y) s H locs) (hl : lv_has ls 3 [(0, .long v0)]) (hF : am_askedCount_b0  M v0 = some z) : W p l e rm_am_askedCount s m args below meth c H locs 0 0 (MQ below (gw_Qi X (fun M => (gw_E X M Y)) z) args s 0 0 (gw_A X)) (F0 m 0 ls []) := by
  obtain ⟨hx, hb, hml, hown, hts, hr, hlocks, hK⟩ := id C0
  have hg : ∀ w ∈ gw_w, w.before args s = true := fun w h => hts w (List.mem_cons_of_mem _ h)
  unfold am_askedCount_b0 at hF
  refine lv_iconst (v := (0 : Int32)) hx hb dd_am_askedCount_0 (by decide) ?_
  refine lv_istore_n (i := 2) (lv' := [(2, .int (0 : Int32)), (0, .long v0)]) hx hb dd_am_askedCount_1 rfl hl (by decide) rfl (fun ls hl => ?_)
  exact wl_am_askedCount_2 C0  2100 M v0 (0 : Int32) _ _ _  G (lv_sub hl [1, 0] rfl) hF
set_option maxRecDepth 100000 in
set_option maxHeartbeats 4000000 in
theorem ct_am_askedCount (l : Launch) (X : gw_X) (Y : gw_M) (M : gw_M) (v0 : Int64) (z : (Int32 × gw_M)) (hF : am_askedCount_b0 M v0 = some z) : Met l yy_am_askedCount ((Cond.code yy_am_askedCount by_am_askedCount 3 (some .int)) :: gw_w) rm_am_askedCount (va_Pc [.long v0] (gw_B X (gw_E X M Y))) (gw_Qi X (fun M => (gw_E X M Y)) z) 0 0 (gw_A X) := by
  refine Met.ofW (cc := by_am_askedCount) (maxL := 3) (ret := (some .int)) (by decide) rfl ?_
  intro p e s m args below meth c s₁ B hml hv
  obtain ⟨rfl, hB⟩ := hv
  rw [lg_entry_eq]
  have hl := lv_entry ([.long v0]) (n := 3) (Nat.le_of_ble_eq_true rfl)
  generalize (lg_sl ([.long v0]) ++ List.replicate (3 - (lg_sl ([.long v0])).length) Slot.unset).toArray = ls at hl ⊢
  have hl : lv_has ls 3 [(0, .long v0)] := hl
  exact wb_am_askedCount_0 (gw_ctx B hml rfl hB) M v0 _ _ _  (gw_start hB) hl hF
/-! AccountMachine.askedSlot(JI)I -/
abbrev rm_am_askedSlot : Room := { frames := 0, cells := 0, slots := 0, locals := 0 }
theorem dd_am_askedSlot_0 : decode by_am_askedSlot 0 = .ok (.lload_n 0, 1) := by decide +kernel
theorem dd_am_askedSlot_1 : decode by_am_askedSlot 1 = .ok (.bipush 8, 2) := by decide +kernel
theorem dd_am_askedSlot_3 : decode by_am_askedSlot 3 = .ok (.iload_n 2, 1) := by decide +kernel
theorem dd_am_askedSlot_4 : decode by_am_askedSlot 4 = .ok (.imul, 1) := by decide +kernel
theorem dd_am_askedSlot_5 : decode by_am_askedSlot 5 = .ok (.lshr, 1) := by decide +kernel
theorem dd_am_askedSlot_6 : decode by_am_askedSlot 6 = .ok (.ldc2_w 244, 3) := by decide +kernel
theorem dd_am_askedSlot_9 : decode by_am_askedSlot 9 = .ok (.land, 1) := by decide +kernel
theorem dd_am_askedSlot_10 : decode by_am_askedSlot 10 = .ok (.l2i, 1) := by decide +kernel
theorem dd_am_askedSlot_11 : decode by_am_askedSlot 11 = .ok (.ireturn, 1) := by decide +kernel
def am_askedSlot_b0 (M : gw_M) (v0 : Int64) (v2 : Int32) : Option (Int32 × gw_M) :=
  some (((v0 >>> (((8 : Int32) * v2).toInt64 &&& 63)) &&& (3 : Int64)).toInt32, M)
set_option maxRecDepth 100000 in
set_option maxHeartbeats 4000000 in
theorem wb_am_askedSlot_0 {p : Program} {l : Launch} {e : Env} {s : State} {m : MethodId} {args : Array Value} {below : List Frame} {meth : Method} {c : Code} {X : gw_X} {Y : gw_M} {z : (Int32 × gw_M)} (C0 : gw_C ((Cond.code yy_am_askedSlot by_am_askedSlot 3 (some .int)) :: gw_w) by_am_askedSlot 3 (some .int) "AccountMachine" X p s m args meth c) (M : gw_M) (v0 : Int64) (v2 : Int32) (H : Heap) (locs : List Loc) (ls : Array Slot) (G : gw_G X (gw_E X M Y) s H locs) (hl : lv_has ls 3 [(0, .long v0), (2, .int v2)]) (hF : am_askedSlot_b0  M v0 v2 = some z) : W p l e rm_am_askedSlot s m args below meth c H locs 0 0 (MQ below (gw_Qi X (fun M => (gw_E X M Y)) z) args s 0 0 (gw_A X)) (F0 m 0 ls []) := by
  obtain ⟨hx, hb, hml, hown, hts, hr, hlocks, hK⟩ := id C0
  have hg : ∀ w ∈ gw_w, w.before args s = true := fun w h => hts w (List.mem_cons_of_mem _ h)
  unfold am_askedSlot_b0 at hF
  refine lv_lload_n hx hb dd_am_askedSlot_0 rfl (lv_at hl 0 rfl) ?_
  refine lv_bipush (v := (8 : Int32)) hx hb dd_am_askedSlot_1 (by decide) ?_
  refine lv_iload_n hx hb dd_am_askedSlot_3 rfl (lv_at hl 1 rfl) ?_
  refine lv_imul hx hb dd_am_askedSlot_4 ?_
  refine lv_lshr (v := v0 >>> (((8 : Int32) * v2).toInt64 &&& 63)) hx hb dd_am_askedSlot_5 rfl ?_
  refine lv_ldc2 (v := (3 : Int64)) hx hb hown (hg _ kw_149) dd_am_askedSlot_6 ?_
  refine lv_land hx hb dd_am_askedSlot_9 ?_
  refine lv_l2i (v := ((v0 >>> (((8 : Int32) * v2).toInt64 &&& 63)) &&& (3 : Int64)).toInt32) hx hb dd_am_askedSlot_10 rfl ?_
  exact W.iret hx hb hr (fun t ht hW => gw_endi (EF := (fun M => (gw_E X M Y))) (M := M) G ht hF) G.2.2.2.2 dd_am_askedSlot_11 hlocks
set_option maxRecDepth 100000 in
set_option maxHeartbeats 4000000 in
theorem ct_am_askedSlot (l : Launch) (X : gw_X) (Y : gw_M) (M : gw_M) (v0 : Int64) (v2 : Int32) (z : (Int32 × gw_M)) (hF : am_askedSlot_b0 M v0 v2 = some z) : Met l yy_am_askedSlot ((Cond.code yy_am_askedSlot by_am_askedSlot 3 (some .int)) :: gw_w) rm_am_askedSlot (va_Pc [.long v0, .int v2] (gw_B X (gw_E X M Y))) (gw_Qi X (fun M => (gw_E X M Y)) z) 0 0 (gw_A X) := by
  refine Met.ofW (cc := by_am_askedSlot) (maxL := 3) (ret := (some .int)) (by decide) rfl ?_
  intro p e s m args below meth c s₁ B hml hv
  obtain ⟨rfl, hB⟩ := hv
  rw [lg_entry_eq]
  have hl := lv_entry ([.long v0, .int v2]) (n := 3) (Nat.le_of_ble_eq_true rfl)
  generalize (lg_sl ([.long v0, .int v2]) ++ List.replicate (3 - (lg_sl ([.long v0, .int v2])).length) Slot.unset).toArray = ls at hl ⊢
  have hl : lv_has ls 3 [(0, .long v0), (2, .int v2)] := hl
  exact wb_am_askedSlot_0 (gw_ctx B hml rfl hB) M v0 v2 _ _ _  (gw_start hB) hl hF
/-! AccountMachine.askedMarks(JI)I -/
abbrev rm_am_askedMarks : Room := { frames := 0, cells := 0, slots := 0, locals := 0 }
theorem dd_am_askedMarks_0 : decode by_am_askedMarks 0 = .ok (.lload_n 0, 1) := by decide +kernel
theorem dd_am_askedMarks_1 : decode by_am_askedMarks 1 = .ok (.bipush 8, 2) := by decide +kernel
theorem dd_am_askedMarks_3 : decode by_am_askedMarks 3 = .ok (.iload_n 2, 1) := by decide +kernel
theorem dd_am_askedMarks_4 : decode by_am_askedMarks 4 = .ok (.imul, 1) := by decide +kernel
theorem dd_am_askedMarks_5 : decode by_am_askedMarks 5 = .ok (.iconst 2, 1) := by decide +kernel
theorem dd_am_askedMarks_6 : decode by_am_askedMarks 6 = .ok (.iadd, 1) := by decide +kernel
theorem dd_am_askedMarks_7 : decode by_am_askedMarks 7 = .ok (.lshr, 1) := by decide +kernel
theorem dd_am_askedMarks_8 : decode by_am_askedMarks 8 = .ok (.ldc2_w 244, 3) := by decide +kernel
theorem dd_am_askedMarks_11 : decode by_am_askedMarks 11 = .ok (.land, 1) := by decide +kernel
theorem dd_am_askedMarks_12 : decode by_am_askedMarks 12 = .ok (.l2i, 1) := by decide +kernel
theorem dd_am_askedMarks_13 : decode by_am_askedMarks 13 = .ok (.ireturn, 1) := by decide +kernel
def am_askedMarks_b0 (M : gw_M) (v0 : Int64) (v2 : Int32) : Option (Int32 × gw_M) :=
  some (((v0 >>> ((((8 : Int32) * v2) + (2 : Int32)).toInt64 &&& 63)) &&& (3 : Int64)).toInt32, M)
set_option maxRecDepth 100000 in
set_option maxHeartbeats 4000000 in
theorem wb_am_askedMarks_0 {p : Program} {l : Launch} {e : Env} {s : State} {m : MethodId} {args : Array Value} {below : List Frame} {meth : Method} {c : Code} {X : gw_X} {Y : gw_M} {z : (Int32 × gw_M)} (C0 : gw_C ((Cond.code yy_am_askedMarks by_am_askedMarks 3 (some .int)) :: gw_w) by_am_askedMarks 3 (some .int) "AccountMachine" X p s m args meth c) (M : gw_M) (v0 : Int64) (v2 : Int32) (H : Heap) (locs : List Loc) (ls : Array Slot) (G : gw_G X (gw_E X M Y) s H locs) (hl : lv_has ls 3 [(0, .long v0), (2, .int v2)]) (hF : am_askedMarks_b0  M v0 v2 = some z) : W p l e rm_am_askedMarks s m args below meth c H locs 0 0 (MQ below (gw_Qi X (fun M => (gw_E X M Y)) z) args s 0 0 (gw_A X)) (F0 m 0 ls []) := by
  obtain ⟨hx, hb, hml, hown, hts, hr, hlocks, hK⟩ := id C0
  have hg : ∀ w ∈ gw_w, w.before args s = true := fun w h => hts w (List.mem_cons_of_mem _ h)
  unfold am_askedMarks_b0 at hF
  refine lv_lload_n hx hb dd_am_askedMarks_0 rfl (lv_at hl 0 rfl) ?_
  refine lv_bipush (v := (8 : Int32)) hx hb dd_am_askedMarks_1 (by decide) ?_
  refine lv_iload_n hx hb dd_am_askedMarks_3 rfl (lv_at hl 1 rfl) ?_
  refine lv_imul hx hb dd_am_askedMarks_4 ?_
  refine lv_iconst (v := (2 : Int32)) hx hb dd_am_askedMarks_5 (by decide) ?_
  refine lv_iadd hx hb dd_am_askedMarks_6 ?_
  refine lv_lshr (v := v0 >>> ((((8 : Int32) * v2) + (2 : Int32)).toInt64 &&& 63)) hx hb dd_am_askedMarks_7 rfl ?_
  refine lv_ldc2 (v := (3 : Int64)) hx hb hown (hg _ kw_149) dd_am_askedMarks_8 ?_
  refine lv_land hx hb dd_am_askedMarks_11 ?_
  refine W.eq (g2 := F0 m 12 _ _) rfl ?_
  refine lv_l2i (v := ((v0 >>> ((((8 : Int32) * v2) + (2 : Int32)).toInt64 &&& 63)) &&& (3 : Int64)).toInt32) hx hb dd_am_askedMarks_12 rfl ?_
  exact W.iret hx hb hr (fun t ht hW => gw_endi (EF := (fun M => (gw_E X M Y))) (M := M) G ht hF) G.2.2.2.2 dd_am_askedMarks_13 hlocks
set_option maxRecDepth 100000 in
set_option maxHeartbeats 4000000 in
theorem ct_am_askedMarks (l : Launch) (X : gw_X) (Y : gw_M) (M : gw_M) (v0 : Int64) (v2 : Int32) (z : (Int32 × gw_M)) (hF : am_askedMarks_b0 M v0 v2 = some z) : Met l yy_am_askedMarks ((Cond.code yy_am_askedMarks by_am_askedMarks 3 (some .int)) :: gw_w) rm_am_askedMarks (va_Pc [.long v0, .int v2] (gw_B X (gw_E X M Y))) (gw_Qi X (fun M => (gw_E X M Y)) z) 0 0 (gw_A X) := by
  refine Met.ofW (cc := by_am_askedMarks) (maxL := 3) (ret := (some .int)) (by decide) rfl ?_
  intro p e s m args below meth c s₁ B hml hv
  obtain ⟨rfl, hB⟩ := hv
  rw [lg_entry_eq]
  have hl := lv_entry ([.long v0, .int v2]) (n := 3) (Nat.le_of_ble_eq_true rfl)
  generalize (lg_sl ([.long v0, .int v2]) ++ List.replicate (3 - (lg_sl ([.long v0, .int v2])).length) Slot.unset).toArray = ls at hl ⊢
  have hl : lv_has ls 3 [(0, .long v0), (2, .int v2)] := hl
  exact wb_am_askedMarks_0 (gw_ctx B hml rfl hB) M v0 v2 _ _ _  (gw_start hB) hl hF
/-! AccountMachine.seatOf(IJ)I -/
abbrev rm_am_seatOf : Room := { frames := 0, cells := 0, slots := 0, locals := 0 }
theorem dd_am_seatOf_0 : decode by_am_seatOf 0 = .ok (.iconst 3, 1) := by decide +kernel
theorem dd_am_seatOf_1 : decode by_am_seatOf 1 = .ok (.iload_n 0, 1) := by decide +kernel
theorem dd_am_seatOf_2 : decode by_am_seatOf 2 = .ok (.imul, 1) := by decide +kernel
theorem dd_am_seatOf_3 : decode by_am_seatOf 3 = .ok (.i2l, 1) := by decide +kernel
theorem dd_am_seatOf_4 : decode by_am_seatOf 4 = .ok (.lload_n 1, 1) := by decide +kernel
theorem dd_am_seatOf_5 : decode by_am_seatOf 5 = .ok (.ladd, 1) := by decide +kernel
theorem dd_am_seatOf_6 : decode by_am_seatOf 6 = .ok (.ldc2_w 209, 3) := by decide +kernel
theorem dd_am_seatOf_9 : decode by_am_seatOf 9 = .ok (.land, 1) := by decide +kernel
theorem dd_am_seatOf_10 : decode by_am_seatOf 10 = .ok (.l2i, 1) := by decide +kernel
theorem dd_am_seatOf_11 : decode by_am_seatOf 11 = .ok (.ireturn, 1) := by decide +kernel
def am_seatOf_b0 (M : gw_M) (v0 : Int32) (v1 : Int64) : Option (Int32 × gw_M) :=
  some ((((((3 : Int32) * v0).toInt64) + v1) &&& (7 : Int64)).toInt32, M)
set_option maxRecDepth 100000 in
set_option maxHeartbeats 4000000 in
theorem wb_am_seatOf_0 {p : Program} {l : Launch} {e : Env} {s : State} {m : MethodId} {args : Array Value} {below : List Frame} {meth : Method} {c : Code} {X : gw_X} {Y : gw_M} {z : (Int32 × gw_M)} (C0 : gw_C ((Cond.code yy_am_seatOf by_am_seatOf 3 (some .int)) :: gw_w) by_am_seatOf 3 (some .int) "AccountMachine" X p s m args meth c) (M : gw_M) (v0 : Int32) (v1 : Int64) (H : Heap) (locs : List Loc) (ls : Array Slot) (G : gw_G X (gw_E X M Y) s H locs) (hl : lv_has ls 3 [(0, .int v0), (1, .long v1)]) (hF : am_seatOf_b0  M v0 v1 = some z) : W p l e rm_am_seatOf s m args below meth c H locs 0 0 (MQ below (gw_Qi X (fun M => (gw_E X M Y)) z) args s 0 0 (gw_A X)) (F0 m 0 ls []) := by
  obtain ⟨hx, hb, hml, hown, hts, hr, hlocks, hK⟩ := id C0
  have hg : ∀ w ∈ gw_w, w.before args s = true := fun w h => hts w (List.mem_cons_of_mem _ h)
  unfold am_seatOf_b0 at hF
  refine lv_iconst (v := (3 : Int32)) hx hb dd_am_seatOf_0 (by decide) ?_
  refine lv_iload_n hx hb dd_am_seatOf_1 rfl (lv_at hl 0 rfl) ?_
  refine lv_imul hx hb dd_am_seatOf_2 ?_
  refine lv_i2l (v := ((3 : Int32) * v0).toInt64) hx hb dd_am_seatOf_3 rfl ?_
  refine lv_lload_n hx hb dd_am_seatOf_4 rfl (lv_at hl 1 rfl) ?_
  refine lv_ladd hx hb dd_am_seatOf_5 ?_
  refine lv_ldc2 (v := (7 : Int64)) hx hb hown (hg _ kw_150) dd_am_seatOf_6 ?_
  refine lv_land hx hb dd_am_seatOf_9 ?_
  refine lv_l2i (v := (((((3 : Int32) * v0).toInt64) + v1) &&& (7 : Int64)).toInt32) hx hb dd_am_seatOf_10 rfl ?_
  refine W.eq (g2 := F0 m 11 _ _) rfl ?_
  exact W.iret hx hb hr (fun t ht hW => gw_endi (EF := (fun M => (gw_E X M Y))) (M := M) G ht hF) G.2.2.2.2 dd_am_seatOf_11 hlocks
set_option maxRecDepth 100000 in
set_option maxHeartbeats 4000000 in
theorem ct_am_seatOf (l : Launch) (X : gw_X) (Y : gw_M) (M : gw_M) (v0 : Int32) (v1 : Int64) (z : (Int32 × gw_M)) (hF : am_seatOf_b0 M v0 v1 = some z) : Met l yy_am_seatOf ((Cond.code yy_am_seatOf by_am_seatOf 3 (some .int)) :: gw_w) rm_am_seatOf (va_Pc [.int v0, .long v1] (gw_B X (gw_E X M Y))) (gw_Qi X (fun M => (gw_E X M Y)) z) 0 0 (gw_A X) := by
  refine Met.ofW (cc := by_am_seatOf) (maxL := 3) (ret := (some .int)) (by decide) rfl ?_
  intro p e s m args below meth c s₁ B hml hv
  obtain ⟨rfl, hB⟩ := hv
  rw [lg_entry_eq]
  have hl := lv_entry ([.int v0, .long v1]) (n := 3) (Nat.le_of_ble_eq_true rfl)
  generalize (lg_sl ([.int v0, .long v1]) ++ List.replicate (3 - (lg_sl ([.int v0, .long v1])).length) Slot.unset).toArray = ls at hl ⊢
  have hl : lv_has ls 3 [(0, .int v0), (1, .long v1)] := hl
  exact wb_am_seatOf_0 (gw_ctx B hml rfl hB) M v0 v1 _ _ _  (gw_start hB) hl hF
/-! AccountMachine.exceedsRights(LAccountMachine$Frame;II)Z -/
abbrev rm_am_exceedsRights : Room := { frames := 1, cells := 0, slots := 0, locals := 23 }
theorem dd_am_exceedsRights_0 : decode by_am_exceedsRights 0 = .ok (.aload_n 0, 1) := by decide +kernel
theorem dd_am_exceedsRights_1 : decode by_am_exceedsRights 1 = .ok (.getfield 135, 3) := by decide +kernel
theorem dd_am_exceedsRights_4 : decode by_am_exceedsRights 4 = .ok (.getfield 120, 3) := by decide +kernel
theorem dd_am_exceedsRights_7 : decode by_am_exceedsRights 7 = .ok (.iload_n 1, 1) := by decide +kernel
theorem dd_am_exceedsRights_8 : decode by_am_exceedsRights 8 = .ok (.iaload, 1) := by decide +kernel
theorem dd_am_exceedsRights_9 : decode by_am_exceedsRights 9 = .ok (.istore_n 3, 1) := by decide +kernel
theorem dd_am_exceedsRights_10 : decode by_am_exceedsRights 10 = .ok (.aload_n 0, 1) := by decide +kernel
theorem dd_am_exceedsRights_11 : decode by_am_exceedsRights 11 = .ok (.getfield 135, 3) := by decide +kernel
theorem dd_am_exceedsRights_14 : decode by_am_exceedsRights 14 = .ok (.iload_n 3, 1) := by decide +kernel
theorem dd_am_exceedsRights_15 : decode by_am_exceedsRights 15 = .ok (.invokevirtual 238, 3) := by decide +kernel
theorem dd_am_exceedsRights_18 : decode by_am_exceedsRights 18 = .ok (.istore 4, 2) := by decide +kernel
theorem dd_am_exceedsRights_20 : decode by_am_exceedsRights 20 = .ok (.iload_n 3, 1) := by decide +kernel
theorem dd_am_exceedsRights_21 : decode by_am_exceedsRights 21 = .ok (.aload_n 0, 1) := by decide +kernel
theorem dd_am_exceedsRights_22 : decode by_am_exceedsRights 22 = .ok (.getfield 135, 3) := by decide +kernel
theorem dd_am_exceedsRights_25 : decode by_am_exceedsRights 25 = .ok (.getfield 126, 3) := by decide +kernel
theorem dd_am_exceedsRights_28 : decode by_am_exceedsRights 28 = .ok (.aload_n 0, 1) := by decide +kernel
theorem dd_am_exceedsRights_29 : decode by_am_exceedsRights 29 = .ok (.getfield 185, 3) := by decide +kernel
theorem dd_am_exceedsRights_32 : decode by_am_exceedsRights 32 = .ok (.iconst 4, 1) := by decide +kernel
theorem dd_am_exceedsRights_33 : decode by_am_exceedsRights 33 = .ok (.laload, 1) := by decide +kernel
theorem dd_am_exceedsRights_34 : decode by_am_exceedsRights 34 = .ok (.invokestatic 205, 3) := by decide +kernel
theorem dd_am_exceedsRights_37 : decode by_am_exceedsRights 37 = .ok (.if_icmp .ne 9, 3) := by decide +kernel
theorem dd_am_exceedsRights_40 : decode by_am_exceedsRights 40 = .ok (.iload 4, 2) := by decide +kernel
theorem dd_am_exceedsRights_42 : decode by_am_exceedsRights 42 = .ok (.iconst 1, 1) := by decide +kernel
theorem dd_am_exceedsRights_43 : decode by_am_exceedsRights 43 = .ok (.ior, 1) := by decide +kernel
theorem dd_am_exceedsRights_44 : decode by_am_exceedsRights 44 = .ok (.istore 4, 2) := by decide +kernel
theorem dd_am_exceedsRights_46 : decode by_am_exceedsRights 46 = .ok (.iload_n 2, 1) := by decide +kernel
theorem dd_am_exceedsRights_47 : decode by_am_exceedsRights 47 = .ok (.iload 4, 2) := by decide +kernel
theorem dd_am_exceedsRights_49 : decode by_am_exceedsRights 49 = .ok (.iconst (-1), 1) := by decide +kernel
theorem dd_am_exceedsRights_50 : decode by_am_exceedsRights 50 = .ok (.ixor, 1) := by decide +kernel
theorem dd_am_exceedsRights_51 : decode by_am_exceedsRights 51 = .ok (.iand, 1) := by decide +kernel
theorem dd_am_exceedsRights_52 : decode by_am_exceedsRights 52 = .ok (.ifCond .eq 7, 3) := by decide +kernel
theorem dd_am_exceedsRights_55 : decode by_am_exceedsRights 55 = .ok (.iconst 1, 1) := by decide +kernel
theorem dd_am_exceedsRights_56 : decode by_am_exceedsRights 56 = .ok (.goto 4, 3) := by decide +kernel
theorem dd_am_exceedsRights_59 : decode by_am_exceedsRights 59 = .ok (.iconst 0, 1) := by decide +kernel
theorem dd_am_exceedsRights_60 : decode by_am_exceedsRights 60 = .ok (.ireturn, 1) := by decide +kernel
def am_exceedsRights_b46 (M : gw_M) (v2 : Int32) (v4 : Int32) : Option (Int32 × gw_M) :=
  if (v2 &&& (v4 ^^^ (-1 : Int32))) = (0 : Int32) then (some ((0 : Int32), M)) else (some ((1 : Int32), M))
def am_exceedsRights_b0 (M : gw_M) (a0 : Nat) (v1 : Int32) (v2 : Int32) : Option (Int32 × gw_M) :=
  gw_gu (gw_in v1 4) (gw_lt (M.1 ((a0 + 1) + 1) v1.toNatClampNeg) (fun x9 => gw_bd (od_marksOf_b0 M (a0 + 1) x9) (fun r15 M15 => gw_bd (am_seatOf_b0 M15 (M15.1 (a0 + 1) 0) (M15.2 (a0 + 4) 4)) (fun r34 M34 => if x9 = r34 then (gw_lt (r15 ||| (1 : Int32)) (fun x44 => am_exceedsRights_b46  M34 v2 x44)) else (am_exceedsRights_b46  M34 v2 r15)))))
set_option maxRecDepth 100000 in
set_option maxHeartbeats 4000000 in
theorem wb_am_exceedsRights_46 {p : Program} {l : Launch} {e : Env} {s : State} {m : MethodId} {args : Array Value} {below : List Frame} {meth : Method} {c : Code} {X : gw_X} {Y : gw_M} {z : (Int32 × gw_M)} (C0 : gw_C ((Cond.code yy_am_exceedsRights by_am_exceedsRights 5 (some .boolean)) :: gw_w) by_am_exceedsRights 5 (some .boolean) "AccountMachine" X p s m args meth c) (M : gw_M) (v2 : Int32) (v4 : Int32) (H : Heap) (locs : List Loc) (ls : Array Slot) (G : gw_G X (gw_E X M Y) s H locs) (hl : lv_has ls 5 [(2, .int v2), (4, .int v4)]) (hF : am_exceedsRights_b46  M v2 v4 = some z) : W p l e rm_am_exceedsRights s m args below meth c H locs 0 0 (MQ below (gw_Qi X (fun M => (gw_E X M Y)) z) args s 0 0 (gw_A X)) (F0 m 46 ls []) := by
  obtain ⟨hx, hb, hml, hown, hts, hr, hlocks, hK⟩ := id C0
  have hg : ∀ w ∈ gw_w, w.before args s = true := fun w h => hts w (List.mem_cons_of_mem _ h)
  unfold am_exceedsRights_b46 at hF
  refine lv_iload_n hx hb dd_am_exceedsRights_46 rfl (lv_at hl 0 rfl) ?_
  refine lv_iload hx hb dd_am_exceedsRights_47 (lv_at hl 1 rfl) ?_
  refine lv_iconst (v := (-1 : Int32)) hx hb dd_am_exceedsRights_49 (by decide) ?_
  refine lv_ixor hx hb dd_am_exceedsRights_50 ?_
  refine lv_iand hx hb dd_am_exceedsRights_51 ?_
  refine lv_if_eq (tgt := 59) hx hb dd_am_exceedsRights_52 (by decide) (fun h52 => ?_) (fun h52 => ?_)
  · replace hF := gw_et h52 hF
    refine lv_iconst (v := (0 : Int32)) hx hb dd_am_exceedsRights_59 (by decide) ?_
    exact W.zret hx hb hr (by decide) (fun t ht hW => gw_endi (EF := (fun M => (gw_E X M Y))) (M := M) G ht hF) G.2.2.2.2 dd_am_exceedsRights_60 hlocks
  · replace hF := gw_ef h52 hF
    refine lv_iconst (v := (1 : Int32)) hx hb dd_am_exceedsRights_55 (by decide) ?_
    refine lv_goto (tgt := 60) hx hb dd_am_exceedsRights_56 (by decide) ?_
    exact W.zret hx hb hr (by decide) (fun t ht hW => gw_endi (EF := (fun M => (gw_E X M Y))) (M := M) G ht hF) G.2.2.2.2 dd_am_exceedsRights_60 hlocks
set_option maxRecDepth 100000 in
set_option maxHeartbeats 4000000 in
theorem wb_am_exceedsRights_0 {p : Program} {l : Launch} {e : Env} {s : State} {m : MethodId} {args : Array Value} {below : List Frame} {meth : Method} {c : Code} {X : gw_X} {Y : gw_M} {z : (Int32 × gw_M)} (C0 : gw_C ((Cond.code yy_am_exceedsRights by_am_exceedsRights 5 (some .boolean)) :: gw_w) by_am_exceedsRights 5 (some .boolean) "AccountMachine" X p s m args meth c) (M : gw_M) (a0 : Nat) (v1 : Int32) (v2 : Int32) (H : Heap) (locs : List Loc) (ls : Array Slot) (ha0 : gc_k a0 = (6, 0)) (G : gw_G X (gw_E X M Y) s H locs) (hl : lv_has ls 5 [(0, .ref (gc_a X a0)), (1, .int v1), (2, .int v2)]) (hF : am_exceedsRights_b0  M a0 v1 v2 = some z) : W p l e rm_am_exceedsRights s m args below meth c H locs 0 0 (MQ below (gw_Qi X (fun M => (gw_E X M Y)) z) args s 0 0 (gw_A X)) (F0 m 0 ls []) := by
  obtain ⟨hx, hb, hml, hown, hts, hr, hlocks, hK⟩ := id C0
  have hg : ∀ w ∈ gw_w, w.before args s = true := fun w h => hts w (List.mem_cons_of_mem _ h)
  unfold am_exceedsRights_b0 at hF
  refine lv_aload_n hx hb dd_am_exceedsRights_0 rfl (lv_at hl 0 rfl) ?_
  refine gn_fr_order hx hb hg hown (gw_nw hK kn_31) hK G ha0 dd_am_exceedsRights_1 ?_
  refine gn_od_accounts hx hb hg hown (gw_nw hK kn_24) hK G (gq_fr_order ha0) dd_am_exceedsRights_4 ?_
  refine lv_iload_n hx hb dd_am_exceedsRights_7 rfl (lv_at hl 1 rfl) ?_
  obtain ⟨h8, hF⟩ := gw_gd hF
  refine gc_iald hx hb hK G (gq_od_accounts (gq_fr_order ha0)) (gw_vp h8) (j := v1.toNatClampNeg) rfl dd_am_exceedsRights_8 ?_
  refine lv_topi (fun x9 e9 => ?_)
  replace hF := gw_ly e9 hF
  refine lv_istore_n (i := 3) (lv' := [(3, .int x9), (0, .ref (gc_a X a0)), (1, .int v1), (2, .int v2)]) hx hb dd_am_exceedsRights_9 rfl hl (by decide) rfl (fun ls hl => ?_)
  refine lv_aload_n hx hb dd_am_exceedsRights_10 rfl (lv_at hl 1 rfl) ?_
  refine gn_fr_order hx hb hg hown (gw_nw hK kn_31) hK G ha0 dd_am_exceedsRights_11 ?_
  refine lv_iload_n hx hb dd_am_exceedsRights_14 rfl (lv_at hl 0 rfl) ?_
  refine W.eq (g2 := F0 m 15 _ _) rfl ?_
  obtain ⟨r15, M15, hc15, hF⟩ := gw_be hF
  refine gw_ci G (va_runVN (As := [.int x9]) (rest := []) ⟨hx, hb, hml, hown, hts⟩ (ct_od_marksOf l X Y M (a0 + 1) x9 (gq_fr_order ha0) _ hc15) ⟨va_cnB 1 hts (gw_gN kw_13) rfl rfl rfl (hK.2.1 _ kn_25) (hg _ kw_14) (by decide +kernel) ⟨Nat.le_of_ble_eq_true rfl, Nat.le_of_ble_eq_true rfl⟩, hg _ kw_15, hg _ kw_16⟩ ⟨gw_blind, gw_recv_od hK G (gq_fr_order ha0), gw_pre hK G⟩ rfl rfl hl.1 rfl (Nat.le_of_ble_eq_true rfl) dd_am_exceedsRights_15 ⟨Nat.le_of_ble_eq_true rfl, Nat.le_of_ble_eq_true rfl⟩) (fun H locs G => ?_)
  refine lv_istore (i := 4) (lv' := [(4, .int r15), (3, .int x9), (0, .ref (gc_a X a0)), (1, .int v1), (2, .int v2)]) hx hb dd_am_exceedsRights_18 hl (by decide) rfl (fun ls hl => ?_)
  refine lv_iload_n hx hb dd_am_exceedsRights_20 rfl (lv_at hl 1 rfl) ?_
  refine lv_aload_n hx hb dd_am_exceedsRights_21 rfl (lv_at hl 2 rfl) ?_
  refine gn_fr_order hx hb hg hown (gw_nw hK kn_31) hK G ha0 dd_am_exceedsRights_22 ?_
  refine gn_od_program hx hb hg hown (gw_nw hK kn_32) hK G (gq_fr_order ha0) dd_am_exceedsRights_25 ?_
  refine lv_aload_n hx hb dd_am_exceedsRights_28 rfl (lv_at hl 2 rfl) ?_
  refine gn_fr_registers hx hb hg hown (gw_nw hK kn_33) hK G ha0 dd_am_exceedsRights_29 ?_
  refine lv_iconst (v := (4 : Int32)) hx hb dd_am_exceedsRights_32 (by decide) ?_
  refine gc_lald hx hb hK G (gq_fr_registers ha0) (gw_vp (by decide)) (j := 4) (by decide) dd_am_exceedsRights_33 ?_
  refine W.eq (g2 := F0 m 34 _ _) rfl ?_
  obtain ⟨r34, M34, hc34, hF⟩ := gw_be hF
  refine gw_ci G (va_runS (As := [.int (M15.1 (a0 + 1) 0), .long (M15.2 (a0 + 4) 4)]) (rest := [.int x9]) ⟨hx, hb, hml, hown, hts⟩ (ct_am_seatOf l X Y M15 (M15.1 (a0 + 1) 0) (M15.2 (a0 + 4) 4)  _ hc34) (cwS 2 hts (gw_gS kw_152 kw_153 kw_107 kw_151) rfl rfl rfl (by decide +kernel) ⟨Nat.le_of_ble_eq_true rfl, Nat.le_of_ble_eq_true rfl⟩) ⟨gw_blind, gw_pre hK G⟩ rfl rfl hl.1 rfl (Nat.le_of_ble_eq_true rfl) dd_am_exceedsRights_34 ⟨Nat.le_of_ble_eq_true rfl, Nat.le_of_ble_eq_true rfl⟩) (fun H locs G => ?_)
  refine lv_icmp_ne (tgt := 46) hx hb dd_am_exceedsRights_37 (by decide) (fun h37 => ?_) (fun h37 => ?_)
  · replace hF := gw_ef h37 hF
    exact wb_am_exceedsRights_46 C0  M34 v2 r15 _ _ _  G (lv_sub hl [4, 0] rfl) hF
  · replace hF := gw_et h37 hF
    refine lv_iload hx hb dd_am_exceedsRights_40 (lv_at hl 0 rfl) ?_
    refine lv_iconst (v := (1 : Int32)) hx hb dd_am_exceedsRights_42 (by decide) ?_
    refine lv_ior hx hb dd_am_exceedsRights_43 ?_
    refine lv_topi (fun x44 e44 => ?_)
    replace hF := gw_ly e44 hF
    refine lv_istore (i := 4) (lv' := [(4, .int x44), (3, .int x9), (0, .ref (gc_a X a0)), (1, .int v1), (2, .int v2)]) hx hb dd_am_exceedsRights_44 hl (by decide) rfl (fun ls hl => ?_)
    exact wb_am_exceedsRights_46 C0  M34 v2 x44 _ _ _  G (lv_sub hl [4, 0] rfl) hF
set_option maxRecDepth 100000 in
set_option maxHeartbeats 4000000 in
theorem ct_am_exceedsRights (l : Launch) (X : gw_X) (Y : gw_M) (M : gw_M) (a0 : Nat) (v1 : Int32) (v2 : Int32) (ha0 : gc_k a0 = (6, 0)) (z : (Int32 × gw_M)) (hF : am_exceedsRights_b0 M a0 v1 v2 = some z) : Met l yy_am_exceedsRights ((Cond.code yy_am_exceedsRights by_am_exceedsRights 5 (some .boolean)) :: gw_w) rm_am_exceedsRights (va_Pc [.ref (gc_a X a0), .int v1, .int v2] (gw_B X (gw_E X M Y))) (gw_Qi X (fun M => (gw_E X M Y)) z) 0 0 (gw_A X) := by
  refine Met.ofW (cc := by_am_exceedsRights) (maxL := 5) (ret := (some .boolean)) (by decide) rfl ?_
  intro p e s m args below meth c s₁ B hml hv
  obtain ⟨rfl, hB⟩ := hv
  rw [lg_entry_eq]
  have hl := lv_entry ([.ref (gc_a X a0), .int v1, .int v2]) (n := 5) (Nat.le_of_ble_eq_true rfl)
  generalize (lg_sl ([.ref (gc_a X a0), .int v1, .int v2]) ++ List.replicate (5 - (lg_sl ([.ref (gc_a X a0), .int v1, .int v2])).length) Slot.unset).toArray = ls at hl ⊢
  have hl : lv_has ls 5 [(0, .ref (gc_a X a0)), (1, .int v1), (2, .int v2)] := hl
  exact wb_am_exceedsRights_0 (gw_ctx B hml rfl hB) M a0 v1 v2 _ _ _ ha0 (gw_start hB) hl hF
/-! AccountMachine.isUnderWay(I)Z -/
abbrev rm_am_isUnderWay : Room := { frames := 0, cells := 0, slots := 0, locals := 0 }
theorem dd_am_isUnderWay_0 : decode by_am_isUnderWay 0 = .ok (.iconst 0, 1) := by decide +kernel
theorem dd_am_isUnderWay_1 : decode by_am_isUnderWay 1 = .ok (.istore_n 2, 1) := by decide +kernel
theorem dd_am_isUnderWay_2 : decode by_am_isUnderWay 2 = .ok (.iload_n 2, 1) := by decide +kernel
theorem dd_am_isUnderWay_3 : decode by_am_isUnderWay 3 = .ok (.aload_n 0, 1) := by decide +kernel
theorem dd_am_isUnderWay_4 : decode by_am_isUnderWay 4 = .ok (.getfield 41, 3) := by decide +kernel
theorem dd_am_isUnderWay_7 : decode by_am_isUnderWay 7 = .ok (.if_icmp .ge 27, 3) := by decide +kernel
theorem dd_am_isUnderWay_10 : decode by_am_isUnderWay 10 = .ok (.aload_n 0, 1) := by decide +kernel
theorem dd_am_isUnderWay_11 : decode by_am_isUnderWay 11 = .ok (.getfield 37, 3) := by decide +kernel
theorem dd_am_isUnderWay_14 : decode by_am_isUnderWay 14 = .ok (.iload_n 2, 1) := by decide +kernel
theorem dd_am_isUnderWay_15 : decode by_am_isUnderWay 15 = .ok (.aaload, 1) := by decide +kernel
theorem dd_am_isUnderWay_16 : decode by_am_isUnderWay 16 = .ok (.getfield 135, 3) := by decide +kernel
theorem dd_am_isUnderWay_19 : decode by_am_isUnderWay 19 = .ok (.getfield 126, 3) := by decide +kernel
theorem dd_am_isUnderWay_22 : decode by_am_isUnderWay 22 = .ok (.iload_n 1, 1) := by decide +kernel
theorem dd_am_isUnderWay_23 : decode by_am_isUnderWay 23 = .ok (.if_icmp .ne 5, 3) := by decide +kernel
theorem dd_am_isUnderWay_26 : decode by_am_isUnderWay 26 = .ok (.iconst 1, 1) := by decide +kernel
theorem dd_am_isUnderWay_27 : decode by_am_isUnderWay 27 = .ok (.ireturn, 1) := by decide +kernel
theorem dd_am_isUnderWay_28 : decode by_am_isUnderWay 28 = .ok (.iinc 2 1, 3) := by decide +kernel
theorem dd_am_isUnderWay_31 : decode by_am_isUnderWay 31 = .ok (.goto (-29), 3) := by decide +kernel
theorem dd_am_isUnderWay_34 : decode by_am_isUnderWay 34 = .ok (.iconst 0, 1) := by decide +kernel
theorem dd_am_isUnderWay_35 : decode by_am_isUnderWay 35 = .ok (.ireturn, 1) := by decide +kernel
def am_isUnderWay_b2 (K2 : gw_M → Nat → Int32 → Int32 → Option (Int32 × gw_M)) (M : gw_M) (a0 : Nat) (v1 : Int32) (v2 : Int32) : Option (Int32 × gw_M) :=
  if (M.1 a0 6) ≤ v2 then (some ((0 : Int32), M)) else (gw_gu (gw_in v2 4) (if (M.1 (((a0 + 13) + 35 + 7 * v2.toNatClampNeg) + 1) 0) = v1 then (some ((1 : Int32), M)) else (K2 M a0 v1 (v2 + (1 : Int32)))))
def am_isUnderWay_l2 : Nat → gw_M → Nat → Int32 → Int32 → Option (Int32 × gw_M)
  | 0 => fun _ _ _ _ => none
  | n + 1 => am_isUnderWay_b2  (am_isUnderWay_l2  n)
def am_isUnderWay_b0 (M : gw_M) (a0 : Nat) (v1 : Int32) : Option (Int32 × gw_M) :=
  am_isUnderWay_l2  2100 M a0 v1 (0 : Int32)
set_option maxRecDepth 100000 in
set_option maxHeartbeats 4000000 in
theorem wb_am_isUnderWay_2 {p : Program} {l : Launch} {e : Env} {s : State} {m : MethodId} {args : Array Value} {below : List Frame} {meth : Method} {c : Code} {X : gw_X} {Y : gw_M} {z : (Int32 × gw_M)} (C0 : gw_C ((Cond.code yy_am_isUnderWay by_am_isUnderWay 3 (some .boolean)) :: gw_w) by_am_isUnderWay 3 (some .boolean) "AccountMachine" X p s m args meth c) {K2 : gw_M → Nat → Int32 → Int32 → Option (Int32 × gw_M)} (hK2 : ∀ (M : gw_M) (a0 : Nat) (v1 : Int32) (v2 : Int32) (H : Heap) (locs : List Loc) (ls : Array Slot), gc_k a0 = (2, 0) → gw_G X (gw_E X M Y) s H locs → lv_has ls 3 [(0, .ref (gc_a X a0)), (1, .int v1), (2, .int v2)] → K2 M a0 v1 v2 = some z → W p l e rm_am_isUnderWay s m args below meth c H locs 0 0 (MQ below (gw_Qi X (fun M => (gw_E X M Y)) z) args s 0 0 (gw_A X)) (F0 m 2 ls [])) (M : gw_M) (a0 : Nat) (v1 : Int32) (v2 : Int32) (H : Heap) (locs : List Loc) (ls : Array Slot) (ha0 : gc_k a0 = (2, 0)) (G : gw_G X (gw_E X M Y) s H locs) (hl : lv_has ls 3 [(0, .ref (gc_a X a0)), (1, .int v1), (2, .int v2)]) (hF : am_isUnderWay_b2 K2 M a0 v1 v2 = some z) : W p l e rm_am_isUnderWay s m args below meth c H locs 0 0 (MQ below (gw_Qi X (fun M => (gw_E X M Y)) z) args s 0 0 (gw_A X)) (F0 m 2 ls []) := by
  obtain ⟨hx, hb, hml, hown, hts, hr, hlocks, hK⟩ := id C0
  have hg : ∀ w ∈ gw_w, w.before args s = true := fun w h => hts w (List.mem_cons_of_mem _ h)
  unfold am_isUnderWay_b2 at hF
  refine lv_iload_n hx hb dd_am_isUnderWay_2 rfl (lv_at hl 2 rfl) ?_
  refine lv_aload_n hx hb dd_am_isUnderWay_3 rfl (lv_at hl 0 rfl) ?_
  refine gf_am_depth hx hb hg hown (hg _ kw_154) hK G ha0 dd_am_isUnderWay_4 ?_
  refine lv_icmp_ge (tgt := 34) hx hb dd_am_isUnderWay_7 (by decide) (fun h7 => ?_) (fun h7 => ?_)
  · replace hF := gw_et h7 hF
    refine lv_iconst (v := (0 : Int32)) hx hb dd_am_isUnderWay_34 (by decide) ?_
    exact W.zret hx hb hr (by decide) (fun t ht hW => gw_endi (EF := (fun M => (gw_E X M Y))) (M := M) G ht hF) G.2.2.2.2 dd_am_isUnderWay_35 hlocks
  · replace hF := gw_ef h7 hF
    refine lv_aload_n hx hb dd_am_isUnderWay_10 rfl (lv_at hl 0 rfl) ?_
    refine gf_am_frames hx hb hg hown (hg _ kw_155) hK G ha0 dd_am_isUnderWay_11 ?_
    refine lv_iload_n hx hb dd_am_isUnderWay_14 rfl (lv_at hl 2 rfl) ?_
    obtain ⟨h15, hF⟩ := gw_gd hF
    refine gc_aald9 hx hb hK G (gq_am_frames ha0) (gw_vp h15) (j := v2.toNatClampNeg) rfl dd_am_isUnderWay_15 ?_
    refine gn_fr_order hx hb hg hown (gw_nw hK kn_31) hK G (gq_arr9 (gq_am_frames ha0) (gw_vj (gw_vp h15) rfl)) dd_am_isUnderWay_16 ?_
    refine gn_od_program hx hb hg hown (gw_nw hK kn_32) hK G (gq_fr_order (gq_arr9 (gq_am_frames ha0) (gw_vj (gw_vp h15) rfl))) dd_am_isUnderWay_19 ?_
    refine lv_iload_n hx hb dd_am_isUnderWay_22 rfl (lv_at hl 1 rfl) ?_
    refine lv_icmp_ne (tgt := 28) hx hb dd_am_isUnderWay_23 (by decide) (fun h23 => ?_) (fun h23 => ?_)
    · replace hF := gw_ef h23 hF
      refine lv_iinc (k := 2) (v := v2 + (1 : Int32)) (lv' := [(2, .int (v2 + (1 : Int32))), (0, .ref (gc_a X a0)), (1, .int v1)]) hx hb dd_am_isUnderWay_28 hl rfl rfl (by decide) rfl (fun ls hl => ?_)
      refine lv_goto (tgt := 2) hx hb dd_am_isUnderWay_31 (by decide) ?_
      exact hK2 M a0 v1 (v2 + (1 : Int32)) _ _ _ ha0 G (lv_sub hl [1, 2, 0] rfl) hF
    · replace hF := gw_et h23 hF
      refine lv_iconst (v := (1 : Int32)) hx hb dd_am_isUnderWay_26 (by decide) ?_
      exact W.zret hx hb hr (by decide) (fun t ht hW => gw_endi (EF := (fun M => (gw_E X M Y))) (M := M) G ht hF) G.2.2.2.2 dd_am_isUnderWay_27 hlocks
theorem wl_am_isUnderWay_2 {p : Program} {l : Launch} {e : Env} {s : State} {m : MethodId} {args : Array Value} {below : List Frame} {meth : Method} {c : Code} {X : gw_X} {Y : gw_M} {z : (Int32 × gw_M)} (C0 : gw_C ((Cond.code yy_am_isUnderWay by_am_isUnderWay 3 (some .boolean)) :: gw_w) by_am_isUnderWay 3 (some .boolean) "AccountMachine" X p s m args meth c) : ∀ n : Nat, ∀ (M : gw_M) (a0 : Nat) (v1 : Int32) (v2 : Int32) (H : Heap) (locs : List Loc) (ls : Array Slot), gc_k a0 = (2, 0) → gw_G X (gw_E X M Y) s H locs → lv_has ls 3 [(0, .ref (gc_a X a0)), (1, .int v1), (2, .int v2)] → am_isUnderWay_l2  n M a0 v1 v2 = some z → W p l e rm_am_isUnderWay s m args below meth c H locs 0 0 (MQ below (gw_Qi X (fun M => (gw_E X M Y)) z) args s 0 0 (gw_A X)) (F0 m 2 ls []) := by
  intro n
  induction n with
  | zero =>
    intro M a0 v1 v2 H locs ls ha0 G hl hF
    have hF : (none : Option (Int32 × gw_M)) = some z := hF
    cases hF
  | succ n ih =>
    intro M a0 v1 v2 H locs ls ha0 G hl hF
    exact wb_am_isUnderWay_2 C0  ih M a0 v1 v2 H locs ls ha0 G hl hF
set_option maxRecDepth 100000 in
set_option maxHeartbeats 4000000 in
theorem wb_am_isUnderWay_0 {p : Program} {l : Launch} {e : Env} {s : State} {m : MethodId} {args : Array Value} {below : List Frame} {meth : Method} {c : Code} {X : gw_X} {Y : gw_M} {z : (Int32 × gw_M)} (C0 : gw_C ((Cond.code yy_am_isUnderWay by_am_isUnderWay 3 (some .boolean)) :: gw_w) by_am_isUnderWay 3 (some .boolean) "AccountMachine" X p s m args meth c) (M : gw_M) (a0 : Nat) (v1 : Int32) (H : Heap) (locs : List Loc) (ls : Array Slot) (ha0 : gc_k a0 = (2, 0)) (G : gw_G X (gw_E X M Y) s H locs) (hl : lv_has ls 3 [(0, .ref (gc_a X a0)), (1, .int v1)]) (hF : am_isUnderWay_b0  M a0 v1 = some z) : W p l e rm_am_isUnderWay s m args below meth c H locs 0 0 (MQ below (gw_Qi X (fun M => (gw_E X M Y)) z) args s 0 0 (gw_A X)) (F0 m 0 ls []) := by
  obtain ⟨hx, hb, hml, hown, hts, hr, hlocks, hK⟩ := id C0
  have hg : ∀ w ∈ gw_w, w.before args s = true := fun w h => hts w (List.mem_cons_of_mem _ h)
  unfold am_isUnderWay_b0 at hF
  refine lv_iconst (v := (0 : Int32)) hx hb dd_am_isUnderWay_0 (by decide) ?_
  refine lv_istore_n (i := 2) (lv' := [(2, .int (0 : Int32)), (0, .ref (gc_a X a0)), (1, .int v1)]) hx hb dd_am_isUnderWay_1 rfl hl (by decide) rfl (fun ls hl => ?_)
  exact wl_am_isUnderWay_2 C0  2100 M a0 v1 (0 : Int32) _ _ _ ha0 G (lv_sub hl [1, 2, 0] rfl) hF
set_option maxRecDepth 100000 in
set_option maxHeartbeats 4000000 in
theorem ct_am_isUnderWay (l : Launch) (X : gw_X) (Y : gw_M) (M : gw_M) (a0 : Nat) (v1 : Int32) (ha0 : gc_k a0 = (2, 0)) (z : (Int32 × gw_M)) (hF : am_isUnderWay_b0 M a0 v1 = some z) : Met l yy_am_isUnderWay ((Cond.code yy_am_isUnderWay by_am_isUnderWay 3 (some .boolean)) :: gw_w) rm_am_isUnderWay (va_Pc [.ref (gc_a X a0), .int v1] (gw_B X (gw_E X M Y))) (gw_Qi X (fun M => (gw_E X M Y)) z) 0 0 (gw_A X) := by
  refine Met.ofW (cc := by_am_isUnderWay) (maxL := 3) (ret := (some .boolean)) (by decide) rfl ?_
  intro p e s m args below meth c s₁ B hml hv
  obtain ⟨rfl, hB⟩ := hv
  rw [lg_entry_eq]
  have hl := lv_entry ([.ref (gc_a X a0), .int v1]) (n := 3) (Nat.le_of_ble_eq_true rfl)
  generalize (lg_sl ([.ref (gc_a X a0), .int v1]) ++ List.replicate (3 - (lg_sl ([.ref (gc_a X a0), .int v1])).length) Slot.unset).toArray = ls at hl ⊢
  have hl : lv_has ls 3 [(0, .ref (gc_a X a0)), (1, .int v1)] := hl
  exact wb_am_isUnderWay_0 (gw_ctx B hml rfl hB) M a0 v1 _ _ _ ha0 (gw_start hB) hl hF
/-! AccountMachine.refusal(LAccountMachine$Frame;I)I -/
abbrev rm_am_refusal : Room := { frames := 2, cells := 0, slots := 0, locals := 47 }
theorem dd_am_refusal_0 : decode by_am_refusal 0 = .ok (.aload_n 1, 1) := by decide +kernel
theorem dd_am_refusal_1 : decode by_am_refusal 1 = .ok (.getfield 185, 3) := by decide +kernel
theorem dd_am_refusal_4 : decode by_am_refusal 4 = .ok (.iconst 2, 1) := by decide +kernel
theorem dd_am_refusal_5 : decode by_am_refusal 5 = .ok (.laload, 1) := by decide +kernel
theorem dd_am_refusal_6 : decode by_am_refusal 6 = .ok (.lstore_n 3, 1) := by decide +kernel
theorem dd_am_refusal_7 : decode by_am_refusal 7 = .ok (.lload_n 3, 1) := by decide +kernel
theorem dd_am_refusal_8 : decode by_am_refusal 8 = .ok (.invokestatic 220, 3) := by decide +kernel
theorem dd_am_refusal_11 : decode by_am_refusal 11 = .ok (.istore 5, 2) := by decide +kernel
theorem dd_am_refusal_13 : decode by_am_refusal 13 = .ok (.iconst 0, 1) := by decide +kernel
theorem dd_am_refusal_14 : decode by_am_refusal 14 = .ok (.istore 6, 2) := by decide +kernel
theorem dd_am_refusal_16 : decode by_am_refusal 16 = .ok (.iload 6, 2) := by decide +kernel
theorem dd_am_refusal_18 : decode by_am_refusal 18 = .ok (.iload 5, 2) := by decide +kernel
theorem dd_am_refusal_20 : decode by_am_refusal 20 = .ok (.if_icmp .ge 28, 3) := by decide +kernel
theorem dd_am_refusal_23 : decode by_am_refusal 23 = .ok (.lload_n 3, 1) := by decide +kernel
theorem dd_am_refusal_24 : decode by_am_refusal 24 = .ok (.iload 6, 2) := by decide +kernel
theorem dd_am_refusal_26 : decode by_am_refusal 26 = .ok (.invokestatic 224, 3) := by decide +kernel
theorem dd_am_refusal_29 : decode by_am_refusal 29 = .ok (.aload_n 1, 1) := by decide +kernel
theorem dd_am_refusal_30 : decode by_am_refusal 30 = .ok (.getfield 135, 3) := by decide +kernel
theorem dd_am_refusal_33 : decode by_am_refusal 33 = .ok (.getfield 119, 3) := by decide +kernel
theorem dd_am_refusal_36 : decode by_am_refusal 36 = .ok (.if_icmp .lt 6, 3) := by decide +kernel
theorem dd_am_refusal_39 : decode by_am_refusal 39 = .ok (.bipush 9, 2) := by decide +kernel
theorem dd_am_refusal_41 : decode by_am_refusal 41 = .ok (.ireturn, 1) := by decide +kernel
theorem dd_am_refusal_42 : decode by_am_refusal 42 = .ok (.iinc 6 1, 3) := by decide +kernel
theorem dd_am_refusal_45 : decode by_am_refusal 45 = .ok (.goto (-29), 3) := by decide +kernel
theorem dd_am_refusal_48 : decode by_am_refusal 48 = .ok (.iconst 0, 1) := by decide +kernel
theorem dd_am_refusal_49 : decode by_am_refusal 49 = .ok (.istore 6, 2) := by decide +kernel
theorem dd_am_refusal_51 : decode by_am_refusal 51 = .ok (.iload 6, 2) := by decide +kernel
theorem dd_am_refusal_53 : decode by_am_refusal 53 = .ok (.iload 5, 2) := by decide +kernel
theorem dd_am_refusal_55 : decode by_am_refusal 55 = .ok (.if_icmp .ge 31, 3) := by decide +kernel
theorem dd_am_refusal_58 : decode by_am_refusal 58 = .ok (.aload_n 1, 1) := by decide +kernel
theorem dd_am_refusal_59 : decode by_am_refusal 59 = .ok (.lload_n 3, 1) := by decide +kernel
theorem dd_am_refusal_60 : decode by_am_refusal 60 = .ok (.iload 6, 2) := by decide +kernel
theorem dd_am_refusal_62 : decode by_am_refusal 62 = .ok (.invokestatic 224, 3) := by decide +kernel
theorem dd_am_refusal_65 : decode by_am_refusal 65 = .ok (.lload_n 3, 1) := by decide +kernel
theorem dd_am_refusal_66 : decode by_am_refusal 66 = .ok (.iload 6, 2) := by decide +kernel
theorem dd_am_refusal_68 : decode by_am_refusal 68 = .ok (.invokestatic 228, 3) := by decide +kernel
theorem dd_am_refusal_71 : decode by_am_refusal 71 = .ok (.invokestatic 231, 3) := by decide +kernel
theorem dd_am_refusal_74 : decode by_am_refusal 74 = .ok (.ifCond .eq 6, 3) := by decide +kernel
theorem dd_am_refusal_77 : decode by_am_refusal 77 = .ok (.bipush 10, 2) := by decide +kernel
theorem dd_am_refusal_79 : decode by_am_refusal 79 = .ok (.ireturn, 1) := by decide +kernel
theorem dd_am_refusal_80 : decode by_am_refusal 80 = .ok (.iinc 6 1, 3) := by decide +kernel
theorem dd_am_refusal_83 : decode by_am_refusal 83 = .ok (.goto (-32), 3) := by decide +kernel
theorem dd_am_refusal_86 : decode by_am_refusal 86 = .ok (.iload_n 2, 1) := by decide +kernel
theorem dd_am_refusal_87 : decode by_am_refusal 87 = .ok (.ifCond .eq 25, 3) := by decide +kernel
theorem dd_am_refusal_90 : decode by_am_refusal 90 = .ok (.iload_n 2, 1) := by decide +kernel
theorem dd_am_refusal_91 : decode by_am_refusal 91 = .ok (.aload_n 1, 1) := by decide +kernel
theorem dd_am_refusal_92 : decode by_am_refusal 92 = .ok (.getfield 135, 3) := by decide +kernel
theorem dd_am_refusal_95 : decode by_am_refusal 95 = .ok (.getfield 126, 3) := by decide +kernel
theorem dd_am_refusal_98 : decode by_am_refusal 98 = .ok (.if_icmp .eq 14, 3) := by decide +kernel
theorem dd_am_refusal_101 : decode by_am_refusal 101 = .ok (.aload_n 0, 1) := by decide +kernel
theorem dd_am_refusal_102 : decode by_am_refusal 102 = .ok (.iload_n 2, 1) := by decide +kernel
theorem dd_am_refusal_103 : decode by_am_refusal 103 = .ok (.invokevirtual 235, 3) := by decide +kernel
theorem dd_am_refusal_106 : decode by_am_refusal 106 = .ok (.ifCond .eq 6, 3) := by decide +kernel
theorem dd_am_refusal_109 : decode by_am_refusal 109 = .ok (.bipush 11, 2) := by decide +kernel
theorem dd_am_refusal_111 : decode by_am_refusal 111 = .ok (.ireturn, 1) := by decide +kernel
theorem dd_am_refusal_112 : decode by_am_refusal 112 = .ok (.aload_n 0, 1) := by decide +kernel
theorem dd_am_refusal_113 : decode by_am_refusal 113 = .ok (.getfield 41, 3) := by decide +kernel
theorem dd_am_refusal_116 : decode by_am_refusal 116 = .ok (.iconst 4, 1) := by decide +kernel
theorem dd_am_refusal_117 : decode by_am_refusal 117 = .ok (.if_icmp .lt 8, 3) := by decide +kernel
theorem dd_am_refusal_120 : decode by_am_refusal 120 = .ok (.bipush 12, 2) := by decide +kernel
theorem dd_am_refusal_122 : decode by_am_refusal 122 = .ok (.goto 4, 3) := by decide +kernel
theorem dd_am_refusal_125 : decode by_am_refusal 125 = .ok (.iconst 0, 1) := by decide +kernel
theorem dd_am_refusal_126 : decode by_am_refusal 126 = .ok (.ireturn, 1) := by decide +kernel
def am_refusal_b112 (M : gw_M) (a0 : Nat) : Option (Int32 × gw_M) :=
  if (M.1 a0 6) < (4 : Int32) then (some ((0 : Int32), M)) else (some ((12 : Int32), M))
def am_refusal_b51 (K51 : gw_M → Nat → Nat → Int32 → Int64 → Int32 → Int32 → Option (Int32 × gw_M)) (M : gw_M) (a0 : Nat) (a1 : Nat) (v2 : Int32) (v3 : Int64) (v5 : Int32) (v6 : Int32) : Option (Int32 × gw_M) :=
  if v5 ≤ v6 then (if v2 = (0 : Int32) then (am_refusal_b112  M a0) else (if v2 = (M.1 (a1 + 1) 0) then (am_refusal_b112  M a0) else (gw_bd (am_isUnderWay_b0 M a0 v2) (fun r103 M103 => if r103 = (0 : Int32) then (am_refusal_b112  M103 a0) else (some ((11 : Int32), M103)))))) else (gw_bd (am_askedSlot_b0 M v3 v6) (fun r62 M62 => gw_bd (am_askedMarks_b0 M62 v3 v6) (fun r68 M68 => gw_bd (am_exceedsRights_b0 M68 a1 r62 r68) (fun r71 M71 => if r71 = (0 : Int32) then (K51 M71 a0 a1 v2 v3 v5 (v6 + (1 : Int32))) else (some ((10 : Int32), M71))))))
def am_refusal_l51 : Nat → gw_M → Nat → Nat → Int32 → Int64 → Int32 → Int32 → Option (Int32 × gw_M)
  | 0 => fun _ _ _ _ _ _ _ => none
  | n + 1 => am_refusal_b51  (am_refusal_l51  n)
def am_refusal_b16 (K16 : gw_M → Nat → Nat → Int32 → Int64 → Int32 → Int32 → Option (Int32 × gw_M)) (M : gw_M) (a0 : Nat) (a1 : Nat) (v2 : Int32) (v3 : Int64) (v5 : Int32) (v6 : Int32) : Option (Int32 × gw_M) :=
  if v5 ≤ v6 then (am_refusal_l51  2100 M a0 a1 v2 v3 v5 (0 : Int32)) else (gw_bd (am_askedSlot_b0 M v3 v6) (fun r26 M26 => if r26 < (M26.1 (a1 + 1) 2) then (K16 M26 a0 a1 v2 v3 v5 (v6 + (1 : Int32))) else (some ((9 : Int32), M26))))
def am_refusal_l16 : Nat → gw_M → Nat → Nat → Int32 → Int64 → Int32 → Int32 → Option (Int32 × gw_M)
  | 0 => fun _ _ _ _ _ _ _ => none
  | n + 1 => am_refusal_b16  (am_refusal_l16  n)
def am_refusal_b0 (M : gw_M) (a0 : Nat) (a1 : Nat) (v2 : Int32) : Option (Int32 × gw_M) :=
  gw_lt (M.2 (a1 + 4) 2) (fun x6 => gw_bd (am_askedCount_b0 M x6) (fun r8 M8 => am_refusal_l16  2100 M8 a0 a1 v2 x6 r8 (0 : Int32)))
set_option maxRecDepth 100000 in
set_option maxHeartbeats 4000000 in
theorem wb_am_refusal_112 {p : Program} {l : Launch} {e : Env} {s : State} {m : MethodId} {args : Array Value} {below : List Frame} {meth : Method} {c : Code} {X : gw_X} {Y : gw_M} {z : (Int32 × gw_M)} (C0 : gw_C ((Cond.code yy_am_refusal by_am_refusal 7 (some .int)) :: gw_w) by_am_refusal 7 (some .int) "AccountMachine" X p s m args meth c) (M : gw_M) (a0 : Nat) (H : Heap) (locs : List Loc) (ls : Array Slot) (ha0 : gc_k a0 = (2, 0)) (G : gw_G X (gw_E X M Y) s H locs) (hl : lv_has ls 7 [(0, .ref (gc_a X a0))]) (hF : am_refusal_b112  M a0 = some z) : W p l e rm_am_refusal s m args below meth c H locs 0 0 (MQ below (gw_Qi X (fun M => (gw_E X M Y)) z) args s 0 0 (gw_A X)) (F0 m 112 ls []) := by
  obtain ⟨hx, hb, hml, hown, hts, hr, hlocks, hK⟩ := id C0
  have hg : ∀ w ∈ gw_w, w.before args s = true := fun w h => hts w (List.mem_cons_of_mem _ h)
  unfold am_refusal_b112 at hF
  refine lv_aload_n hx hb dd_am_refusal_112 rfl (lv_at hl 0 rfl) ?_
  refine gf_am_depth hx hb hg hown (hg _ kw_154) hK G ha0 dd_am_refusal_113 ?_
  refine lv_iconst (v := (4 : Int32)) hx hb dd_am_refusal_116 (by decide) ?_
  refine lv_icmp_lt (tgt := 125) hx hb dd_am_refusal_117 (by decide) (fun h117 => ?_) (fun h117 => ?_)
  · replace hF := gw_et h117 hF
    refine lv_iconst (v := (0 : Int32)) hx hb dd_am_refusal_125 (by decide) ?_
    exact W.iret hx hb hr (fun t ht hW => gw_endi (EF := (fun M => (gw_E X M Y))) (M := M) G ht hF) G.2.2.2.2 dd_am_refusal_126 hlocks
  · replace hF := gw_ef h117 hF
    refine lv_bipush (v := (12 : Int32)) hx hb dd_am_refusal_120 (by decide) ?_
    refine lv_goto (tgt := 126) hx hb dd_am_refusal_122 (by decide) ?_
    exact W.iret hx hb hr (fun t ht hW => gw_endi (EF := (fun M => (gw_E X M Y))) (M := M) G ht hF) G.2.2.2.2 dd_am_refusal_126 hlocks
set_option maxRecDepth 100000 in
set_option maxHeartbeats 4000000 in
theorem wb_am_refusal_51 {p : Program} {l : Launch} {e : Env} {s : State} {m : MethodId} {args : Array Value} {below : List Frame} {meth : Method} {c : Code} {X : gw_X} {Y : gw_M} {z : (Int32 × gw_M)} (C0 : gw_C ((Cond.code yy_am_refusal by_am_refusal 7 (some .int)) :: gw_w) by_am_refusal 7 (some .int) "AccountMachine" X p s m args meth c) {K51 : gw_M → Nat → Nat → Int32 → Int64 → Int32 → Int32 → Option (Int32 × gw_M)} (hK51 : ∀ (M : gw_M) (a0 : Nat) (a1 : Nat) (v2 : Int32) (v3 : Int64) (v5 : Int32) (v6 : Int32) (H : Heap) (locs : List Loc) (ls : Array Slot), gc_k a0 = (2, 0) → gc_k a1 = (6, 0) → gw_G X (gw_E X M Y) s H locs → lv_has ls 7 [(0, .ref (gc_a X a0)), (1, .ref (gc_a X a1)), (2, .int v2), (3, .long v3), (5, .int v5), (6, .int v6)] → K51 M a0 a1 v2 v3 v5 v6 = some z → W p l e rm_am_refusal s m args below meth c H locs 0 0 (MQ below (gw_Qi X (fun M => (gw_E X M Y)) z) args s 0 0 (gw_A X)) (F0 m 51 ls [])) (M : gw_M) (a0 : Nat) (a1 : Nat) (v2 : Int32) (v3 : Int64) (v5 : Int32) (v6 : Int32) (H : Heap) (locs : List Loc) (ls : Array Slot) (ha0 : gc_k a0 = (2, 0)) (ha1 : gc_k a1 = (6, 0)) (G : gw_G X (gw_E X M Y) s H locs) (hl : lv_has ls 7 [(0, .ref (gc_a X a0)), (1, .ref (gc_a X a1)), (2, .int v2), (3, .long v3), (5, .int v5), (6, .int v6)]) (hF : am_refusal_b51 K51 M a0 a1 v2 v3 v5 v6 = some z) : W p l e rm_am_refusal s m args below meth c H locs 0 0 (MQ below (gw_Qi X (fun M => (gw_E X M Y)) z) args s 0 0 (gw_A X)) (F0 m 51 ls []) := by
  obtain ⟨hx, hb, hml, hown, hts, hr, hlocks, hK⟩ := id C0
  have hg : ∀ w ∈ gw_w, w.before args s = true := fun w h => hts w (List.mem_cons_of_mem _ h)
  unfold am_refusal_b51 at hF
  refine lv_iload hx hb dd_am_refusal_51 (lv_at hl 5 rfl) ?_
  refine lv_iload hx hb dd_am_refusal_53 (lv_at hl 4 rfl) ?_
  refine lv_icmp_ge (tgt := 86) hx hb dd_am_refusal_55 (by decide) (fun h55 => ?_) (fun h55 => ?_)
  · replace hF := gw_et h55 hF
    refine lv_iload_n hx hb dd_am_refusal_86 rfl (lv_at hl 2 rfl) ?_
    refine lv_if_eq (tgt := 112) hx hb dd_am_refusal_87 (by decide) (fun h87 => ?_) (fun h87 => ?_)
    · replace hF := gw_et h87 hF
      exact wb_am_refusal_112 C0  M a0 _ _ _ ha0 G (lv_sub hl [0] rfl) hF
    · replace hF := gw_ef h87 hF
      refine lv_iload_n hx hb dd_am_refusal_90 rfl (lv_at hl 2 rfl) ?_
      refine lv_aload_n hx hb dd_am_refusal_91 rfl (lv_at hl 1 rfl) ?_
      refine gn_fr_order hx hb hg hown (gw_nw hK kn_31) hK G ha1 dd_am_refusal_92 ?_
      refine gn_od_program hx hb hg hown (gw_nw hK kn_32) hK G (gq_fr_order ha1) dd_am_refusal_95 ?_
      refine lv_icmp_eq (tgt := 112) hx hb dd_am_refusal_98 (by decide) (fun h98 => ?_) (fun h98 => ?_)
      · replace hF := gw_et h98 hF
        exact wb_am_refusal_112 C0  M a0 _ _ _ ha0 G (lv_sub hl [0] rfl) hF
      · replace hF := gw_ef h98 hF
        refine lv_aload_n hx hb dd_am_refusal_101 rfl (lv_at hl 0 rfl) ?_
        refine lv_iload_n hx hb dd_am_refusal_102 rfl (lv_at hl 2 rfl) ?_
        obtain ⟨r103, M103, hc103, hF⟩ := gw_be hF
        refine gw_ci G (va_runV (As := [.int v2]) (rest := []) ⟨hx, hb, hml, hown, hts⟩ (ct_am_isUnderWay l X Y M a0 v2 ha0 _ hc103) (cwV 1 hts (gw_gV kw_157 kw_158 kw_159 kw_107 kw_156) rfl rfl rfl (by decide +kernel) ⟨Nat.le_of_ble_eq_true rfl, Nat.le_of_ble_eq_true rfl⟩) ⟨gw_blind, gw_recv_am hK G ha0, gw_pre hK G⟩ rfl rfl hl.1 rfl (Nat.le_of_ble_eq_true rfl) dd_am_refusal_103 ⟨Nat.le_of_ble_eq_true rfl, Nat.le_of_ble_eq_true rfl⟩) (fun H locs G => ?_)
        refine lv_if_eq (tgt := 112) hx hb dd_am_refusal_106 (by decide) (fun h106 => ?_) (fun h106 => ?_)
        · replace hF := gw_et h106 hF
          exact wb_am_refusal_112 C0  M103 a0 _ _ _ ha0 G (lv_sub hl [0] rfl) hF
        · replace hF := gw_ef h106 hF
          refine lv_bipush (v := (11 : Int32)) hx hb dd_am_refusal_109 (by decide) ?_
          exact W.iret hx hb hr (fun t ht hW => gw_endi (EF := (fun M => (gw_E X M Y))) (M := M103) G ht hF) G.2.2.2.2 dd_am_refusal_111 hlocks
  · replace hF := gw_ef h55 hF
    refine lv_aload_n hx hb dd_am_refusal_58 rfl (lv_at hl 1 rfl) ?_
    refine lv_lload_n hx hb dd_am_refusal_59 rfl (lv_at hl 3 rfl) ?_
    refine lv_iload hx hb dd_am_refusal_60 (lv_at hl 5 rfl) ?_
    obtain ⟨r62, M62, hc62, hF⟩ := gw_be hF
    refine gw_ci G (va_runS (As := [.long v3, .int v6]) (rest := [.ref (gc_a X a1)]) ⟨hx, hb, hml, hown, hts⟩ (ct_am_askedSlot l X Y M v3 v6  _ hc62) (cwS 2 hts (gw_gS kw_161 kw_162 kw_107 kw_160) rfl rfl rfl (by decide +kernel) ⟨Nat.le_of_ble_eq_true rfl, Nat.le_of_ble_eq_true rfl⟩) ⟨gw_blind, gw_pre hK G⟩ rfl rfl hl.1 rfl (Nat.le_of_ble_eq_true rfl) dd_am_refusal_62 ⟨Nat.le_of_ble_eq_true rfl, Nat.le_of_ble_eq_true rfl⟩) (fun H locs G => ?_)
    refine lv_lload_n hx hb dd_am_refusal_65 rfl (lv_at hl 3 rfl) ?_
    refine lv_iload hx hb dd_am_refusal_66 (lv_at hl 5 rfl) ?_
    obtain ⟨r68, M68, hc68, hF⟩ := gw_be hF
    refine gw_ci G (va_runS (As := [.long v3, .int v6]) (rest := [.int r62, .ref (gc_a X a1)]) ⟨hx, hb, hml, hown, hts⟩ (ct_am_askedMarks l X Y M62 v3 v6  _ hc68) (cwS 2 hts (gw_gS kw_164 kw_165 kw_107 kw_163) rfl rfl rfl (by decide +kernel) ⟨Nat.le_of_ble_eq_true rfl, Nat.le_of_ble_eq_true rfl⟩) ⟨gw_blind, gw_pre hK G⟩ rfl rfl hl.1 rfl (Nat.le_of_ble_eq_true rfl) dd_am_refusal_68 ⟨Nat.le_of_ble_eq_true rfl, Nat.le_of_ble_eq_true rfl⟩) (fun H locs G => ?_)
    obtain ⟨r71, M71, hc71, hF⟩ := gw_be hF
    refine gw_ci G (va_runS (As := [.ref (gc_a X a1), .int r62, .int r68]) (rest := []) ⟨hx, hb, hml, hown, hts⟩ (ct_am_exceedsRights l X Y M68 a1 r62 r68 ha1 _ hc71) (cwS 3 hts (gw_gS kw_167 kw_168 kw_107 kw_166) rfl rfl rfl (by decide +kernel) ⟨Nat.le_of_ble_eq_true rfl, Nat.le_of_ble_eq_true rfl⟩) ⟨gw_blind, gw_pre hK G⟩ rfl rfl hl.1 rfl (Nat.le_of_ble_eq_true rfl) dd_am_refusal_71 ⟨Nat.le_of_ble_eq_true rfl, Nat.le_of_ble_eq_true rfl⟩) (fun H locs G => ?_)
    refine lv_if_eq (tgt := 80) hx hb dd_am_refusal_74 (by decide) (fun h74 => ?_) (fun h74 => ?_)
    · replace hF := gw_et h74 hF
      refine lv_iinc (k := 5) (v := v6 + (1 : Int32)) (lv' := [(6, .int (v6 + (1 : Int32))), (0, .ref (gc_a X a0)), (1, .ref (gc_a X a1)), (2, .int v2), (3, .long v3), (5, .int v5)]) hx hb dd_am_refusal_80 hl rfl rfl (by decide) rfl (fun ls hl => ?_)
      refine lv_goto (tgt := 51) hx hb dd_am_refusal_83 (by decide) ?_
      exact hK51 M71 a0 a1 v2 v3 v5 (v6 + (1 : Int32)) _ _ _ ha0 ha1 G (lv_sub hl [1, 2, 3, 4, 5, 0] rfl) hF
    · replace hF := gw_ef h74 hF
      refine lv_bipush (v := (10 : Int32)) hx hb dd_am_refusal_77 (by decide) ?_
      exact W.iret hx hb hr (fun t ht hW => gw_endi (EF := (fun M => (gw_E X M Y))) (M := M71) G ht hF) G.2.2.2.2 dd_am_refusal_79 hlocks
theorem wl_am_refusal_51 {p : Program} {l : Launch} {e : Env} {s : State} {m : MethodId} {args : Array Value} {below : List Frame} {meth : Method} {c : Code} {X : gw_X} {Y : gw_M} {z : (Int32 × gw_M)} (C0 : gw_C ((Cond.code yy_am_refusal by_am_refusal 7 (some .int)) :: gw_w) by_am_refusal 7 (some .int) "AccountMachine" X p s m args meth c) : ∀ n : Nat, ∀ (M : gw_M) (a0 : Nat) (a1 : Nat) (v2 : Int32) (v3 : Int64) (v5 : Int32) (v6 : Int32) (H : Heap) (locs : List Loc) (ls : Array Slot), gc_k a0 = (2, 0) → gc_k a1 = (6, 0) → gw_G X (gw_E X M Y) s H locs → lv_has ls 7 [(0, .ref (gc_a X a0)), (1, .ref (gc_a X a1)), (2, .int v2), (3, .long v3), (5, .int v5), (6, .int v6)] → am_refusal_l51  n M a0 a1 v2 v3 v5 v6 = some z → W p l e rm_am_refusal s m args below meth c H locs 0 0 (MQ below (gw_Qi X (fun M => (gw_E X M Y)) z) args s 0 0 (gw_A X)) (F0 m 51 ls []) := by
  intro n
  induction n with
  | zero =>
    intro M a0 a1 v2 v3 v5 v6 H locs ls ha0 ha1 G hl hF
    have hF : (none : Option (Int32 × gw_M)) = some z := hF
    cases hF
  | succ n ih =>
    intro M a0 a1 v2 v3 v5 v6 H locs ls ha0 ha1 G hl hF
    exact wb_am_refusal_51 C0  ih M a0 a1 v2 v3 v5 v6 H locs ls ha0 ha1 G hl hF
set_option maxRecDepth 100000 in
set_option maxHeartbeats 4000000 in
theorem wb_am_refusal_16 {p : Program} {l : Launch} {e : Env} {s : State} {m : MethodId} {args : Array Value} {below : List Frame} {meth : Method} {c : Code} {X : gw_X} {Y : gw_M} {z : (Int32 × gw_M)} (C0 : gw_C ((Cond.code yy_am_refusal by_am_refusal 7 (some .int)) :: gw_w) by_am_refusal 7 (some .int) "AccountMachine" X p s m args meth c) {K16 : gw_M → Nat → Nat → Int32 → Int64 → Int32 → Int32 → Option (Int32 × gw_M)} (hK16 : ∀ (M : gw_M) (a0 : Nat) (a1 : Nat) (v2 : Int32) (v3 : Int64) (v5 : Int32) (v6 : Int32) (H : Heap) (locs : List Loc) (ls : Array Slot), gc_k a0 = (2, 0) → gc_k a1 = (6, 0) → gw_G X (gw_E X M Y) s H locs → lv_has ls 7 [(0, .ref (gc_a X a0)), (1, .ref (gc_a X a1)), (2, .int v2), (3, .long v3), (5, .int v5), (6, .int v6)] → K16 M a0 a1 v2 v3 v5 v6 = some z → W p l e rm_am_refusal s m args below meth c H locs 0 0 (MQ below (gw_Qi X (fun M => (gw_E X M Y)) z) args s 0 0 (gw_A X)) (F0 m 16 ls [])) (M : gw_M) (a0 : Nat) (a1 : Nat) (v2 : Int32) (v3 : Int64) (v5 : Int32) (v6 : Int32) (H : Heap) (locs : List Loc) (ls : Array Slot) (ha0 : gc_k a0 = (2, 0)) (ha1 : gc_k a1 = (6, 0)) (G : gw_G X (gw_E X M Y) s H locs) (hl : lv_has ls 7 [(0, .ref (gc_a X a0)), (1, .ref (gc_a X a1)), (2, .int v2), (3, .long v3), (5, .int v5), (6, .int v6)]) (hF : am_refusal_b16 K16 M a0 a1 v2 v3 v5 v6 = some z) : W p l e rm_am_refusal s m args below meth c H locs 0 0 (MQ below (gw_Qi X (fun M => (gw_E X M Y)) z) args s 0 0 (gw_A X)) (F0 m 16 ls []) := by
  obtain ⟨hx, hb, hml, hown, hts, hr, hlocks, hK⟩ := id C0
  have hg : ∀ w ∈ gw_w, w.before args s = true := fun w h => hts w (List.mem_cons_of_mem _ h)
  unfold am_refusal_b16 at hF
  refine lv_iload hx hb dd_am_refusal_16 (lv_at hl 5 rfl) ?_
  refine lv_iload hx hb dd_am_refusal_18 (lv_at hl 4 rfl) ?_
  refine lv_icmp_ge (tgt := 48) hx hb dd_am_refusal_20 (by decide) (fun h20 => ?_) (fun h20 => ?_)
  · replace hF := gw_et h20 hF
    refine lv_iconst (v := (0 : Int32)) hx hb dd_am_refusal_48 (by decide) ?_
    refine lv_istore (i := 6) (lv' := [(6, .int (0 : Int32)), (0, .ref (gc_a X a0)), (1, .ref (gc_a X a1)), (2, .int v2), (3, .long v3), (5, .int v5)]) hx hb dd_am_refusal_49 hl (by decide) rfl (fun ls hl => ?_)
    exact wl_am_refusal_51 C0  2100 M a0 a1 v2 v3 v5 (0 : Int32) _ _ _ ha0 ha1 G (lv_sub hl [1, 2, 3, 4, 5, 0] rfl) hF
  · replace hF := gw_ef h20 hF
    refine lv_lload_n hx hb dd_am_refusal_23 rfl (lv_at hl 3 rfl) ?_
    refine lv_iload hx hb dd_am_refusal_24 (lv_at hl 5 rfl) ?_
    obtain ⟨r26, M26, hc26, hF⟩ := gw_be hF
    refine gw_ci G (va_runS (As := [.long v3, .int v6]) (rest := []) ⟨hx, hb, hml, hown, hts⟩ (ct_am_askedSlot l X Y M v3 v6  _ hc26) (cwS 2 hts (gw_gS kw_161 kw_162 kw_107 kw_160) rfl rfl rfl (by decide +kernel) ⟨Nat.le_of_ble_eq_true rfl, Nat.le_of_ble_eq_true rfl⟩) ⟨gw_blind, gw_pre hK G⟩ rfl rfl hl.1 rfl (Nat.le_of_ble_eq_true rfl) dd_am_refusal_26 ⟨Nat.le_of_ble_eq_true rfl, Nat.le_of_ble_eq_true rfl⟩) (fun H locs G => ?_)
    refine lv_aload_n hx hb dd_am_refusal_29 rfl (lv_at hl 1 rfl) ?_
    refine gn_fr_order hx hb hg hown (gw_nw hK kn_31) hK G ha1 dd_am_refusal_30 ?_
    refine gn_od_count hx hb hg hown (gw_nw hK kn_23) hK G (gq_fr_order ha1) dd_am_refusal_33 ?_
    refine lv_icmp_lt (tgt := 42) hx hb dd_am_refusal_36 (by decide) (fun h36 => ?_) (fun h36 => ?_)
    · replace hF := gw_et h36 hF
      refine lv_iinc (k := 5) (v := v6 + (1 : Int32)) (lv' := [(6, .int (v6 + (1 : Int32))), (0, .ref (gc_a X a0)), (1, .ref (gc_a X a1)), (2, .int v2), (3, .long v3), (5, .int v5)]) hx hb dd_am_refusal_42 hl rfl rfl (by decide) rfl (fun ls hl => ?_)
      refine lv_goto (tgt := 16) hx hb dd_am_refusal_45 (by decide) ?_
      exact hK16 M26 a0 a1 v2 v3 v5 (v6 + (1 : Int32)) _ _ _ ha0 ha1 G (lv_sub hl [1, 2, 3, 4, 5, 0] rfl) hF
    · replace hF := gw_ef h36 hF
      refine lv_bipush (v := (9 : Int32)) hx hb dd_am_refusal_39 (by decide) ?_
      exact W.iret hx hb hr (fun t ht hW => gw_endi (EF := (fun M => (gw_E X M Y))) (M := M26) G ht hF) G.2.2.2.2 dd_am_refusal_41 hlocks
theorem wl_am_refusal_16 {p : Program} {l : Launch} {e : Env} {s : State} {m : MethodId} {args : Array Value} {below : List Frame} {meth : Method} {c : Code} {X : gw_X} {Y : gw_M} {z : (Int32 × gw_M)} (C0 : gw_C ((Cond.code yy_am_refusal by_am_refusal 7 (some .int)) :: gw_w) by_am_refusal 7 (some .int) "AccountMachine" X p s m args meth c) : ∀ n : Nat, ∀ (M : gw_M) (a0 : Nat) (a1 : Nat) (v2 : Int32) (v3 : Int64) (v5 : Int32) (v6 : Int32) (H : Heap) (locs : List Loc) (ls : Array Slot), gc_k a0 = (2, 0) → gc_k a1 = (6, 0) → gw_G X (gw_E X M Y) s H locs → lv_has ls 7 [(0, .ref (gc_a X a0)), (1, .ref (gc_a X a1)), (2, .int v2), (3, .long v3), (5, .int v5), (6, .int v6)] → am_refusal_l16  n M a0 a1 v2 v3 v5 v6 = some z → W p l e rm_am_refusal s m args below meth c H locs 0 0 (MQ below (gw_Qi X (fun M => (gw_E X M Y)) z) args s 0 0 (gw_A X)) (F0 m 16 ls []) := by
  intro n
  induction n with
  | zero =>
    intro M a0 a1 v2 v3 v5 v6 H locs ls ha0 ha1 G hl hF
    have hF : (none : Option (Int32 × gw_M)) = some z := hF
    cases hF
  | succ n ih =>
    intro M a0 a1 v2 v3 v5 v6 H locs ls ha0 ha1 G hl hF
    exact wb_am_refusal_16 C0  ih M a0 a1 v2 v3 v5 v6 H locs ls ha0 ha1 G hl hF
set_option maxRecDepth 100000 in
set_option maxHeartbeats 4000000 in
theorem wb_am_refusal_0 {p : Program} {l : Launch} {e : Env} {s : State} {m : MethodId} {args : Array Value} {below : List Frame} {meth : Method} {c : Code} {X : gw_X} {Y : gw_M} {z : (Int32 × gw_M)} (C0 : gw_C ((Cond.code yy_am_refusal by_am_refusal 7 (some .int)) :: gw_w) by_am_refusal 7 (some .int) "AccountMachine" X p s m args meth c) (M : gw_M) (a0 : Nat) (a1 : Nat) (v2 : Int32) (H : Heap) (locs : List Loc) (ls : Array Slot) (ha0 : gc_k a0 = (2, 0)) (ha1 : gc_k a1 = (6, 0)) (G : gw_G X (gw_E X M Y) s H locs) (hl : lv_has ls 7 [(0, .ref (gc_a X a0)), (1, .ref (gc_a X a1)), (2, .int v2)]) (hF : am_refusal_b0  M a0 a1 v2 = some z) : W p l e rm_am_refusal s m args below meth c H locs 0 0 (MQ below (gw_Qi X (fun M => (gw_E X M Y)) z) args s 0 0 (gw_A X)) (F0 m 0 ls []) := by
  obtain ⟨hx, hb, hml, hown, hts, hr, hlocks, hK⟩ := id C0
  have hg : ∀ w ∈ gw_w, w.before args s = true := fun w h => hts w (List.mem_cons_of_mem _ h)
  unfold am_refusal_b0 at hF
  refine lv_aload_n hx hb dd_am_refusal_0 rfl (lv_at hl 1 rfl) ?_
  refine gn_fr_registers hx hb hg hown (gw_nw hK kn_33) hK G ha1 dd_am_refusal_1 ?_
  refine lv_iconst (v := (2 : Int32)) hx hb dd_am_refusal_4 (by decide) ?_
  refine gc_lald hx hb hK G (gq_fr_registers ha1) (gw_vp (by decide)) (j := 2) (by decide) dd_am_refusal_5 ?_
  refine lv_topl (fun x6 e6 => ?_)
  replace hF := gw_ly e6 hF
  refine lv_lstore_n (i := 3) (lv' := [(3, .long x6), (0, .ref (gc_a X a0)), (1, .ref (gc_a X a1)), (2, .int v2)]) hx hb dd_am_refusal_6 rfl hl (by decide) rfl (fun ls hl => ?_)
  refine lv_lload_n hx hb dd_am_refusal_7 rfl (lv_at hl 0 rfl) ?_
  obtain ⟨r8, M8, hc8, hF⟩ := gw_be hF
  refine gw_ci G (va_runS (As := [.long x6]) (rest := []) ⟨hx, hb, hml, hown, hts⟩ (ct_am_askedCount l X Y M x6  _ hc8) (cwS 1 hts (gw_gS kw_170 kw_171 kw_107 kw_169) rfl rfl rfl (by decide +kernel) ⟨Nat.le_of_ble_eq_true rfl, Nat.le_of_ble_eq_true rfl⟩) ⟨gw_blind, gw_pre hK G⟩ rfl rfl hl.1 rfl (Nat.le_of_ble_eq_true rfl) dd_am_refusal_8 ⟨Nat.le_of_ble_eq_true rfl, Nat.le_of_ble_eq_true rfl⟩) (fun H locs G => ?_)
  refine lv_istore (i := 5) (lv' := [(5, .int r8), (3, .long x6), (0, .ref (gc_a X a0)), (1, .ref (gc_a X a1)), (2, .int v2)]) hx hb dd_am_refusal_11 hl (by decide) rfl (fun ls hl => ?_)
  refine lv_iconst (v := (0 : Int32)) hx hb dd_am_refusal_13 (by decide) ?_
  refine W.eq (g2 := F0 m 14 _ _) rfl ?_
  refine lv_istore (i := 6) (lv' := [(6, .int (0 : Int32)), (5, .int r8), (3, .long x6), (0, .ref (gc_a X a0)), (1, .ref (gc_a X a1)), (2, .int v2)]) hx hb dd_am_refusal_14 hl (by decide) rfl (fun ls hl => ?_)
  exact wl_am_refusal_16 C0  2100 M8 a0 a1 v2 x6 r8 (0 : Int32) _ _ _ ha0 ha1 G (lv_sub hl [3, 4, 5, 2, 1, 0] rfl) hF
set_option maxRecDepth 100000 in
set_option maxHeartbeats 4000000 in
theorem ct_am_refusal (l : Launch) (X : gw_X) (Y : gw_M) (M : gw_M) (a0 : Nat) (a1 : Nat) (v2 : Int32) (ha0 : gc_k a0 = (2, 0)) (ha1 : gc_k a1 = (6, 0)) (z : (Int32 × gw_M)) (hF : am_refusal_b0 M a0 a1 v2 = some z) : Met l yy_am_refusal ((Cond.code yy_am_refusal by_am_refusal 7 (some .int)) :: gw_w) rm_am_refusal (va_Pc [.ref (gc_a X a0), .ref (gc_a X a1), .int v2] (gw_B X (gw_E X M Y))) (gw_Qi X (fun M => (gw_E X M Y)) z) 0 0 (gw_A X) := by
  refine Met.ofW (cc := by_am_refusal) (maxL := 7) (ret := (some .int)) (by decide) rfl ?_
  intro p e s m args below meth c s₁ B hml hv
  obtain ⟨rfl, hB⟩ := hv
  rw [lg_entry_eq]
  have hl := lv_entry ([.ref (gc_a X a0), .ref (gc_a X a1), .int v2]) (n := 7) (Nat.le_of_ble_eq_true rfl)
  generalize (lg_sl ([.ref (gc_a X a0), .ref (gc_a X a1), .int v2]) ++ List.replicate (7 - (lg_sl ([.ref (gc_a X a0), .ref (gc_a X a1), .int v2])).length) Slot.unset).toArray = ls at hl ⊢
  have hl : lv_has ls 7 [(0, .ref (gc_a X a0)), (1, .ref (gc_a X a1)), (2, .int v2)] := hl
  exact wb_am_refusal_0 (gw_ctx B hml rfl hB) M a0 a1 v2 _ _ _ ha0 ha1 (gw_start hB) hl hF
/-! AccountMachine.fillOrder(LAccountMachine$Order;LAccountMachine$Frame;)V -/
abbrev rm_am_fillOrder : Room := { frames := 1, cells := 0, slots := 0, locals := 22 }
theorem dd_am_fillOrder_0 : decode by_am_fillOrder 0 = .ok (.aload_n 1, 1) := by decide +kernel
theorem dd_am_fillOrder_1 : decode by_am_fillOrder 1 = .ok (.getfield 185, 3) := by decide +kernel
theorem dd_am_fillOrder_4 : decode by_am_fillOrder 4 = .ok (.iconst 2, 1) := by decide +kernel
theorem dd_am_fillOrder_5 : decode by_am_fillOrder 5 = .ok (.laload, 1) := by decide +kernel
theorem dd_am_fillOrder_6 : decode by_am_fillOrder 6 = .ok (.lstore_n 2, 1) := by decide +kernel
theorem dd_am_fillOrder_7 : decode by_am_fillOrder 7 = .ok (.lload_n 2, 1) := by decide +kernel
theorem dd_am_fillOrder_8 : decode by_am_fillOrder 8 = .ok (.invokestatic 220, 3) := by decide +kernel
theorem dd_am_fillOrder_11 : decode by_am_fillOrder 11 = .ok (.istore 4, 2) := by decide +kernel
theorem dd_am_fillOrder_13 : decode by_am_fillOrder 13 = .ok (.aload_n 0, 1) := by decide +kernel
theorem dd_am_fillOrder_14 : decode by_am_fillOrder 14 = .ok (.aload_n 1, 1) := by decide +kernel
theorem dd_am_fillOrder_15 : decode by_am_fillOrder 15 = .ok (.getfield 185, 3) := by decide +kernel
theorem dd_am_fillOrder_18 : decode by_am_fillOrder 18 = .ok (.iconst 1, 1) := by decide +kernel
theorem dd_am_fillOrder_19 : decode by_am_fillOrder 19 = .ok (.laload, 1) := by decide +kernel
theorem dd_am_fillOrder_20 : decode by_am_fillOrder 20 = .ok (.l2i, 1) := by decide +kernel
theorem dd_am_fillOrder_21 : decode by_am_fillOrder 21 = .ok (.aload_n 1, 1) := by decide +kernel
theorem dd_am_fillOrder_22 : decode by_am_fillOrder 22 = .ok (.getfield 185, 3) := by decide +kernel
theorem dd_am_fillOrder_25 : decode by_am_fillOrder 25 = .ok (.iconst 3, 1) := by decide +kernel
theorem dd_am_fillOrder_26 : decode by_am_fillOrder 26 = .ok (.laload, 1) := by decide +kernel
theorem dd_am_fillOrder_27 : decode by_am_fillOrder 27 = .ok (.l2i, 1) := by decide +kernel
theorem dd_am_fillOrder_28 : decode by_am_fillOrder 28 = .ok (.invokevirtual 79, 3) := by decide +kernel
theorem dd_am_fillOrder_31 : decode by_am_fillOrder 31 = .ok (.iconst 0, 1) := by decide +kernel
theorem dd_am_fillOrder_32 : decode by_am_fillOrder 32 = .ok (.istore 5, 2) := by decide +kernel
theorem dd_am_fillOrder_34 : decode by_am_fillOrder 34 = .ok (.iload 5, 2) := by decide +kernel
theorem dd_am_fillOrder_36 : decode by_am_fillOrder 36 = .ok (.iload 4, 2) := by decide +kernel
theorem dd_am_fillOrder_38 : decode by_am_fillOrder 38 = .ok (.if_icmp .ge 34, 3) := by decide +kernel
theorem dd_am_fillOrder_41 : decode by_am_fillOrder 41 = .ok (.aload_n 0, 1) := by decide +kernel
theorem dd_am_fillOrder_42 : decode by_am_fillOrder 42 = .ok (.aload_n 1, 1) := by decide +kernel
theorem dd_am_fillOrder_43 : decode by_am_fillOrder 43 = .ok (.getfield 135, 3) := by decide +kernel
theorem dd_am_fillOrder_46 : decode by_am_fillOrder 46 = .ok (.getfield 120, 3) := by decide +kernel
theorem dd_am_fillOrder_49 : decode by_am_fillOrder 49 = .ok (.lload_n 2, 1) := by decide +kernel
theorem dd_am_fillOrder_50 : decode by_am_fillOrder 50 = .ok (.iload 5, 2) := by decide +kernel
theorem dd_am_fillOrder_52 : decode by_am_fillOrder 52 = .ok (.invokestatic 224, 3) := by decide +kernel
theorem dd_am_fillOrder_55 : decode by_am_fillOrder 55 = .ok (.iaload, 1) := by decide +kernel
theorem dd_am_fillOrder_56 : decode by_am_fillOrder 56 = .ok (.lload_n 2, 1) := by decide +kernel
theorem dd_am_fillOrder_57 : decode by_am_fillOrder 57 = .ok (.iload 5, 2) := by decide +kernel
theorem dd_am_fillOrder_59 : decode by_am_fillOrder 59 = .ok (.invokestatic 228, 3) := by decide +kernel
theorem dd_am_fillOrder_62 : decode by_am_fillOrder 62 = .ok (.invokevirtual 86, 3) := by decide +kernel
theorem dd_am_fillOrder_65 : decode by_am_fillOrder 65 = .ok (.pop, 1) := by decide +kernel
theorem dd_am_fillOrder_66 : decode by_am_fillOrder 66 = .ok (.iinc 5 1, 3) := by decide +kernel
theorem dd_am_fillOrder_69 : decode by_am_fillOrder 69 = .ok (.goto (-35), 3) := by decide +kernel
theorem dd_am_fillOrder_72 : decode by_am_fillOrder 72 = .ok (.return_, 1) := by decide +kernel
def am_fillOrder_b34 (K34 : gw_M → Nat → Nat → Int64 → Int32 → Int32 → Option (Unit × gw_M)) (M : gw_M) (a0 : Nat) (a1 : Nat) (v2 : Int64) (v4 : Int32) (v5 : Int32) : Option (Unit × gw_M) :=
  if v4 ≤ v5 then (some ((), M)) else (gw_bd (am_askedSlot_b0 M v2 v5) (fun r52 M52 => gw_gu (gw_in r52 4) (gw_bd (am_askedMarks_b0 M52 v2 v5) (fun r59 M59 => gw_bd (od_addSlot_b0 M59 a0 (M52.1 ((a1 + 1) + 1) r52.toNatClampNeg) r59) (fun r62 M62 => K34 M62 a0 a1 v2 v4 (v5 + (1 : Int32)))))))
def am_fillOrder_l34 : Nat → gw_M → Nat → Nat → Int64 → Int32 → Int32 → Option (Unit × gw_M)
  | 0 => fun _ _ _ _ _ _ => none
  | n + 1 => am_fillOrder_b34  (am_fillOrder_l34  n)
def am_fillOrder_b0 (M : gw_M) (a0 : Nat) (a1 : Nat) : Option (Unit × gw_M) :=
  gw_lt (M.2 (a1 + 4) 2) (fun x6 => gw_bd (am_askedCount_b0 M x6) (fun r8 M8 => gw_bd (od_reset_b0 M8 a0 ((M8.2 (a1 + 4) 1).toInt32) ((M8.2 (a1 + 4) 3).toInt32)) (fun _ M28 => am_fillOrder_l34  2100 M28 a0 a1 x6 r8 (0 : Int32))))
set_option maxRecDepth 100000 in
set_option maxHeartbeats 4000000 in
theorem wb_am_fillOrder_34 {p : Program} {l : Launch} {e : Env} {s : State} {m : MethodId} {args : Array Value} {below : List Frame} {meth : Method} {c : Code} {X : gw_X} {Y : gw_M} {z : (Unit × gw_M)} (C0 : gw_C ((Cond.code yy_am_fillOrder by_am_fillOrder 6 none) :: gw_w) by_am_fillOrder 6 none "AccountMachine" X p s m args meth c) {K34 : gw_M → Nat → Nat → Int64 → Int32 → Int32 → Option (Unit × gw_M)} (hK34 : ∀ (M : gw_M) (a0 : Nat) (a1 : Nat) (v2 : Int64) (v4 : Int32) (v5 : Int32) (H : Heap) (locs : List Loc) (ls : Array Slot), gc_k a0 = (4, 0) → gc_k a1 = (6, 0) → gw_G X (gw_E X M Y) s H locs → lv_has ls 6 [(0, .ref (gc_a X a0)), (1, .ref (gc_a X a1)), (2, .long v2), (4, .int v4), (5, .int v5)] → K34 M a0 a1 v2 v4 v5 = some z → W p l e rm_am_fillOrder s m args below meth c H locs 0 0 (MQ below (gw_Qv X (fun M => (gw_E X M Y)) z) args s 0 0 (gw_A X)) (F0 m 34 ls [])) (M : gw_M) (a0 : Nat) (a1 : Nat) (v2 : Int64) (v4 : Int32) (v5 : Int32) (H : Heap) (locs : List Loc) (ls : Array Slot) (ha0 : gc_k a0 = (4, 0)) (ha1 : gc_k a1 = (6, 0)) (G : gw_G X (gw_E X M Y) s H locs) (hl : lv_has ls 6 [(0, .ref (gc_a X a0)), (1, .ref (gc_a X a1)), (2, .long v2), (4, .int v4), (5, .int v5)]) (hF : am_fillOrder_b34 K34 M a0 a1 v2 v4 v5 = some z) : W p l e rm_am_fillOrder s m args below meth c H locs 0 0 (MQ below (gw_Qv X (fun M => (gw_E X M Y)) z) args s 0 0 (gw_A X)) (F0 m 34 ls []) := by
  obtain ⟨hx, hb, hml, hown, hts, hr, hlocks, hK⟩ := id C0
  have hg : ∀ w ∈ gw_w, w.before args s = true := fun w h => hts w (List.mem_cons_of_mem _ h)
  unfold am_fillOrder_b34 at hF
  refine lv_iload hx hb dd_am_fillOrder_34 (lv_at hl 4 rfl) ?_
  refine lv_iload hx hb dd_am_fillOrder_36 (lv_at hl 3 rfl) ?_
  refine lv_icmp_ge (tgt := 72) hx hb dd_am_fillOrder_38 (by decide) (fun h38 => ?_) (fun h38 => ?_)
  · replace hF := gw_et h38 hF
    exact W.vret hx hb hr (fun t ht hW => gw_endv (EF := (fun M => (gw_E X M Y))) (M := M) G ht hF) G.2.2.2.2 dd_am_fillOrder_72 hlocks
  · replace hF := gw_ef h38 hF
    refine lv_aload_n hx hb dd_am_fillOrder_41 rfl (lv_at hl 0 rfl) ?_
    refine lv_aload_n hx hb dd_am_fillOrder_42 rfl (lv_at hl 1 rfl) ?_
    refine gn_fr_order hx hb hg hown (gw_nw hK kn_31) hK G ha1 dd_am_fillOrder_43 ?_
    refine gn_od_accounts hx hb hg hown (gw_nw hK kn_24) hK G (gq_fr_order ha1) dd_am_fillOrder_46 ?_
    refine lv_lload_n hx hb dd_am_fillOrder_49 rfl (lv_at hl 2 rfl) ?_
    refine lv_iload hx hb dd_am_fillOrder_50 (lv_at hl 4 rfl) ?_
    obtain ⟨r52, M52, hc52, hF⟩ := gw_be hF
    refine gw_ci G (va_runS (As := [.long v2, .int v5]) (rest := [.ref (gc_a X ((a1 + 1) + 1)), .ref (gc_a X a0)]) ⟨hx, hb, hml, hown, hts⟩ (ct_am_askedSlot l X Y M v2 v5  _ hc52) (cwS 2 hts (gw_gS kw_161 kw_162 kw_107 kw_160) rfl rfl rfl (by decide +kernel) ⟨Nat.le_of_ble_eq_true rfl, Nat.le_of_ble_eq_true rfl⟩) ⟨gw_blind, gw_pre hK G⟩ rfl rfl hl.1 rfl (Nat.le_of_ble_eq_true rfl) dd_am_fillOrder_52 ⟨Nat.le_of_ble_eq_true rfl, Nat.le_of_ble_eq_true rfl⟩) (fun H locs G => ?_)
    obtain ⟨h55, hF⟩ := gw_gd hF
    refine gc_iald hx hb hK G (gq_od_accounts (gq_fr_order ha1)) (gw_vp h55) (j := r52.toNatClampNeg) rfl dd_am_fillOrder_55 ?_
    refine lv_lload_n hx hb dd_am_fillOrder_56 rfl (lv_at hl 2 rfl) ?_
    refine W.eq (g2 := F0 m 57 _ _) rfl ?_
    refine lv_iload hx hb dd_am_fillOrder_57 (lv_at hl 4 rfl) ?_
    obtain ⟨r59, M59, hc59, hF⟩ := gw_be hF
    refine gw_ci G (va_runS (As := [.long v2, .int v5]) (rest := [.int (M52.1 ((a1 + 1) + 1) r52.toNatClampNeg), .ref (gc_a X a0)]) ⟨hx, hb, hml, hown, hts⟩ (ct_am_askedMarks l X Y M52 v2 v5  _ hc59) (cwS 2 hts (gw_gS kw_164 kw_165 kw_107 kw_163) rfl rfl rfl (by decide +kernel) ⟨Nat.le_of_ble_eq_true rfl, Nat.le_of_ble_eq_true rfl⟩) ⟨gw_blind, gw_pre hK G⟩ rfl rfl hl.1 rfl (Nat.le_of_ble_eq_true rfl) dd_am_fillOrder_59 ⟨Nat.le_of_ble_eq_true rfl, Nat.le_of_ble_eq_true rfl⟩) (fun H locs G => ?_)
    obtain ⟨r62, M62, hc62, hF⟩ := gw_be hF
    refine gw_ci G (va_runVN (As := [.int (M52.1 ((a1 + 1) + 1) r52.toNatClampNeg), .int r59]) (rest := []) ⟨hx, hb, hml, hown, hts⟩ (ct_od_addSlot l X Y M59 a0 (M52.1 ((a1 + 1) + 1) r52.toNatClampNeg) r59 ha0 _ hc62) ⟨va_cnB 2 hts (gw_gN kw_73) rfl rfl rfl (hK.2.1 _ kn_21) (hg _ kw_14) (by decide +kernel) ⟨Nat.le_of_ble_eq_true rfl, Nat.le_of_ble_eq_true rfl⟩, hg _ kw_75, hg _ kw_76⟩ ⟨gw_blind, gw_recv_od hK G ha0, gw_pre hK G⟩ rfl rfl hl.1 rfl (Nat.le_of_ble_eq_true rfl) dd_am_fillOrder_62 ⟨Nat.le_of_ble_eq_true rfl, Nat.le_of_ble_eq_true rfl⟩) (fun H locs G => ?_)
    refine lv_pop hx hb dd_am_fillOrder_65 rfl ?_
    refine lv_iinc (k := 4) (v := v5 + (1 : Int32)) (lv' := [(5, .int (v5 + (1 : Int32))), (0, .ref (gc_a X a0)), (1, .ref (gc_a X a1)), (2, .long v2), (4, .int v4)]) hx hb dd_am_fillOrder_66 hl rfl rfl (by decide) rfl (fun ls hl => ?_)
    refine lv_goto (tgt := 34) hx hb dd_am_fillOrder_69 (by decide) ?_
    exact hK34 M62 a0 a1 v2 v4 (v5 + (1 : Int32)) _ _ _ ha0 ha1 G (lv_sub hl [1, 2, 3, 4, 0] rfl) hF
theorem wl_am_fillOrder_34 {p : Program} {l : Launch} {e : Env} {s : State} {m : MethodId} {args : Array Value} {below : List Frame} {meth : Method} {c : Code} {X : gw_X} {Y : gw_M} {z : (Unit × gw_M)} (C0 : gw_C ((Cond.code yy_am_fillOrder by_am_fillOrder 6 none) :: gw_w) by_am_fillOrder 6 none "AccountMachine" X p s m args meth c) : ∀ n : Nat, ∀ (M : gw_M) (a0 : Nat) (a1 : Nat) (v2 : Int64) (v4 : Int32) (v5 : Int32) (H : Heap) (locs : List Loc) (ls : Array Slot), gc_k a0 = (4, 0) → gc_k a1 = (6, 0) → gw_G X (gw_E X M Y) s H locs → lv_has ls 6 [(0, .ref (gc_a X a0)), (1, .ref (gc_a X a1)), (2, .long v2), (4, .int v4), (5, .int v5)] → am_fillOrder_l34  n M a0 a1 v2 v4 v5 = some z → W p l e rm_am_fillOrder s m args below meth c H locs 0 0 (MQ below (gw_Qv X (fun M => (gw_E X M Y)) z) args s 0 0 (gw_A X)) (F0 m 34 ls []) := by
  intro n
  induction n with
  | zero =>
    intro M a0 a1 v2 v4 v5 H locs ls ha0 ha1 G hl hF
    have hF : (none : Option (Unit × gw_M)) = some z := hF
    cases hF
  | succ n ih =>
    intro M a0 a1 v2 v4 v5 H locs ls ha0 ha1 G hl hF
    exact wb_am_fillOrder_34 C0  ih M a0 a1 v2 v4 v5 H locs ls ha0 ha1 G hl hF
set_option maxRecDepth 100000 in
set_option maxHeartbeats 4000000 in
theorem wb_am_fillOrder_0 {p : Program} {l : Launch} {e : Env} {s : State} {m : MethodId} {args : Array Value} {below : List Frame} {meth : Method} {c : Code} {X : gw_X} {Y : gw_M} {z : (Unit × gw_M)} (C0 : gw_C ((Cond.code yy_am_fillOrder by_am_fillOrder 6 none) :: gw_w) by_am_fillOrder 6 none "AccountMachine" X p s m args meth c) (M : gw_M) (a0 : Nat) (a1 : Nat) (H : Heap) (locs : List Loc) (ls : Array Slot) (ha0 : gc_k a0 = (4, 0)) (ha1 : gc_k a1 = (6, 0)) (G : gw_G X (gw_E X M Y) s H locs) (hl : lv_has ls 6 [(0, .ref (gc_a X a0)), (1, .ref (gc_a X a1))]) (hF : am_fillOrder_b0  M a0 a1 = some z) : W p l e rm_am_fillOrder s m args below meth c H locs 0 0 (MQ below (gw_Qv X (fun M => (gw_E X M Y)) z) args s 0 0 (gw_A X)) (F0 m 0 ls []) := by
  obtain ⟨hx, hb, hml, hown, hts, hr, hlocks, hK⟩ := id C0
  have hg : ∀ w ∈ gw_w, w.before args s = true := fun w h => hts w (List.mem_cons_of_mem _ h)
  unfold am_fillOrder_b0 at hF
  refine lv_aload_n hx hb dd_am_fillOrder_0 rfl (lv_at hl 1 rfl) ?_
  refine gn_fr_registers hx hb hg hown (gw_nw hK kn_33) hK G ha1 dd_am_fillOrder_1 ?_
  refine lv_iconst (v := (2 : Int32)) hx hb dd_am_fillOrder_4 (by decide) ?_
  refine gc_lald hx hb hK G (gq_fr_registers ha1) (gw_vp (by decide)) (j := 2) (by decide) dd_am_fillOrder_5 ?_
  refine lv_topl (fun x6 e6 => ?_)
  replace hF := gw_ly e6 hF
  refine lv_lstore_n (i := 2) (lv' := [(2, .long x6), (0, .ref (gc_a X a0)), (1, .ref (gc_a X a1))]) hx hb dd_am_fillOrder_6 rfl hl (by decide) rfl (fun ls hl => ?_)
  refine lv_lload_n hx hb dd_am_fillOrder_7 rfl (lv_at hl 0 rfl) ?_
  obtain ⟨r8, M8, hc8, hF⟩ := gw_be hF
  refine gw_ci G (va_runS (As := [.long x6]) (rest := []) ⟨hx, hb, hml, hown, hts⟩ (ct_am_askedCount l X Y M x6  _ hc8) (cwS 1 hts (gw_gS kw_170 kw_171 kw_107 kw_169) rfl rfl rfl (by decide +kernel) ⟨Nat.le_of_ble_eq_true rfl, Nat.le_of_ble_eq_true rfl⟩) ⟨gw_blind, gw_pre hK G⟩ rfl rfl hl.1 rfl (Nat.le_of_ble_eq_true rfl) dd_am_fillOrder_8 ⟨Nat.le_of_ble_eq_true rfl, Nat.le_of_ble_eq_true rfl⟩) (fun H locs G => ?_)
  refine lv_istore (i := 4) (lv' := [(4, .int r8), (2, .long x6), (0, .ref (gc_a X a0)), (1, .ref (gc_a X a1))]) hx hb dd_am_fillOrder_11 hl (by decide) rfl (fun ls hl => ?_)
  refine lv_aload_n hx hb dd_am_fillOrder_13 rfl (lv_at hl 2 rfl) ?_
  refine W.eq (g2 := F0 m 14 _ _) rfl ?_
  refine lv_aload_n hx hb dd_am_fillOrder_14 rfl (lv_at hl 3 rfl) ?_
  refine gn_fr_registers hx hb hg hown (gw_nw hK kn_33) hK G ha1 dd_am_fillOrder_15 ?_
  refine lv_iconst (v := (1 : Int32)) hx hb dd_am_fillOrder_18 (by decide) ?_
  refine gc_lald hx hb hK G (gq_fr_registers ha1) (gw_vp (by decide)) (j := 1) (by decide) dd_am_fillOrder_19 ?_
  refine lv_l2i (v := (M8.2 (a1 + 4) 1).toInt32) hx hb dd_am_fillOrder_20 rfl ?_
  refine lv_aload_n hx hb dd_am_fillOrder_21 rfl (lv_at hl 3 rfl) ?_
  refine gn_fr_registers hx hb hg hown (gw_nw hK kn_33) hK G ha1 dd_am_fillOrder_22 ?_
  refine lv_iconst (v := (3 : Int32)) hx hb dd_am_fillOrder_25 (by decide) ?_
  refine gc_lald hx hb hK G (gq_fr_registers ha1) (gw_vp (by decide)) (j := 3) (by decide) dd_am_fillOrder_26 ?_
  refine lv_l2i (v := (M8.2 (a1 + 4) 3).toInt32) hx hb dd_am_fillOrder_27 rfl ?_
  refine W.eq (g2 := F0 m 28 _ _) rfl ?_
  obtain ⟨u28, M28, hc28, hF⟩ := gw_be hF
  refine gw_cv G (va_runVN (As := [.int ((M8.2 (a1 + 4) 1).toInt32), .int ((M8.2 (a1 + 4) 3).toInt32)]) (rest := []) ⟨hx, hb, hml, hown, hts⟩ (ct_od_reset l X Y M8 a0 ((M8.2 (a1 + 4) 1).toInt32) ((M8.2 (a1 + 4) 3).toInt32) ha0 _ hc28) ⟨va_cnB 2 hts (gw_gN kw_77) rfl rfl rfl (hK.2.1 _ kn_20) (hg _ kw_14) (by decide +kernel) ⟨Nat.le_of_ble_eq_true rfl, Nat.le_of_ble_eq_true rfl⟩, hg _ kw_79, hg _ kw_80⟩ ⟨gw_blind, gw_recv_od hK G ha0, gw_pre hK G⟩ rfl rfl hl.1 rfl (Nat.le_of_ble_eq_true rfl) dd_am_fillOrder_28 ⟨Nat.le_of_ble_eq_true rfl, Nat.le_of_ble_eq_true rfl⟩) (fun H locs G => ?_)
  refine lv_iconst (v := (0 : Int32)) hx hb dd_am_fillOrder_31 (by decide) ?_
  refine lv_istore (i := 5) (lv' := [(5, .int (0 : Int32)), (4, .int r8), (2, .long x6), (0, .ref (gc_a X a0)), (1, .ref (gc_a X a1))]) hx hb dd_am_fillOrder_32 hl (by decide) rfl (fun ls hl => ?_)
  exact wl_am_fillOrder_34 C0  2100 M28 a0 a1 x6 r8 (0 : Int32) _ _ _ ha0 ha1 G (lv_sub hl [3, 4, 2, 1, 0] rfl) hF
set_option maxRecDepth 100000 in
set_option maxHeartbeats 4000000 in
theorem ct_am_fillOrder (l : Launch) (X : gw_X) (Y : gw_M) (M : gw_M) (a0 : Nat) (a1 : Nat) (ha0 : gc_k a0 = (4, 0)) (ha1 : gc_k a1 = (6, 0)) (z : (Unit × gw_M)) (hF : am_fillOrder_b0 M a0 a1 = some z) : Met l yy_am_fillOrder ((Cond.code yy_am_fillOrder by_am_fillOrder 6 none) :: gw_w) rm_am_fillOrder (va_Pc [.ref (gc_a X a0), .ref (gc_a X a1)] (gw_B X (gw_E X M Y))) (gw_Qv X (fun M => (gw_E X M Y)) z) 0 0 (gw_A X) := by
  refine Met.ofW (cc := by_am_fillOrder) (maxL := 6) (ret := none) (by decide) rfl ?_
  intro p e s m args below meth c s₁ B hml hv
  obtain ⟨rfl, hB⟩ := hv
  rw [lg_entry_eq]
  have hl := lv_entry ([.ref (gc_a X a0), .ref (gc_a X a1)]) (n := 6) (Nat.le_of_ble_eq_true rfl)
  generalize (lg_sl ([.ref (gc_a X a0), .ref (gc_a X a1)]) ++ List.replicate (6 - (lg_sl ([.ref (gc_a X a0), .ref (gc_a X a1)])).length) Slot.unset).toArray = ls at hl ⊢
  have hl : lv_has ls 6 [(0, .ref (gc_a X a0)), (1, .ref (gc_a X a1))] := hl
  exact wb_am_fillOrder_0 (gw_ctx B hml rfl hB) M a0 a1 _ _ _ ha0 ha1 (gw_start hB) hl hF
/-! AccountMachine.invoke(LAccountMachine$Frame;)I -/
abbrev rm_am_invoke : Room := { frames := 3, cells := 0, slots := 0, locals := 79 }
theorem dd_am_invoke_0 : decode by_am_invoke 0 = .ok (.aload_n 1, 1) := by decide +kernel
theorem dd_am_invoke_1 : decode by_am_invoke 1 = .ok (.getfield 185, 3) := by decide +kernel
theorem dd_am_invoke_4 : decode by_am_invoke 4 = .ok (.iconst 1, 1) := by decide +kernel
theorem dd_am_invoke_5 : decode by_am_invoke 5 = .ok (.laload, 1) := by decide +kernel
theorem dd_am_invoke_6 : decode by_am_invoke 6 = .ok (.lstore_n 2, 1) := by decide +kernel
theorem dd_am_invoke_7 : decode by_am_invoke 7 = .ok (.lload_n 2, 1) := by decide +kernel
theorem dd_am_invoke_8 : decode by_am_invoke 8 = .ok (.lconst 0, 1) := by decide +kernel
theorem dd_am_invoke_9 : decode by_am_invoke 9 = .ok (.lcmp, 1) := by decide +kernel
theorem dd_am_invoke_10 : decode by_am_invoke 10 = .ok (.ifCond .lt 20, 3) := by decide +kernel
theorem dd_am_invoke_13 : decode by_am_invoke 13 = .ok (.lload_n 2, 1) := by decide +kernel
theorem dd_am_invoke_14 : decode by_am_invoke 14 = .ok (.ldc2_w 211, 3) := by decide +kernel
theorem dd_am_invoke_17 : decode by_am_invoke 17 = .ok (.lcmp, 1) := by decide +kernel
theorem dd_am_invoke_18 : decode by_am_invoke 18 = .ok (.ifCond .ge 12, 3) := by decide +kernel
theorem dd_am_invoke_21 : decode by_am_invoke 21 = .ok (.aload_n 0, 1) := by decide +kernel
theorem dd_am_invoke_22 : decode by_am_invoke 22 = .ok (.lload_n 2, 1) := by decide +kernel
theorem dd_am_invoke_23 : decode by_am_invoke 23 = .ok (.l2i, 1) := by decide +kernel
theorem dd_am_invoke_24 : decode by_am_invoke 24 = .ok (.invokevirtual 129, 3) := by decide +kernel
theorem dd_am_invoke_27 : decode by_am_invoke 27 = .ok (.ifCond .ne 5, 3) := by decide +kernel
theorem dd_am_invoke_30 : decode by_am_invoke 30 = .ok (.iconst 1, 1) := by decide +kernel
theorem dd_am_invoke_31 : decode by_am_invoke 31 = .ok (.ireturn, 1) := by decide +kernel
theorem dd_am_invoke_32 : decode by_am_invoke 32 = .ok (.aload_n 0, 1) := by decide +kernel
theorem dd_am_invoke_33 : decode by_am_invoke 33 = .ok (.aload_n 1, 1) := by decide +kernel
theorem dd_am_invoke_34 : decode by_am_invoke 34 = .ok (.lload_n 2, 1) := by decide +kernel
theorem dd_am_invoke_35 : decode by_am_invoke 35 = .ok (.l2i, 1) := by decide +kernel
theorem dd_am_invoke_36 : decode by_am_invoke 36 = .ok (.invokevirtual 213, 3) := by decide +kernel
theorem dd_am_invoke_39 : decode by_am_invoke 39 = .ok (.istore 4, 2) := by decide +kernel
theorem dd_am_invoke_41 : decode by_am_invoke 41 = .ok (.iload 4, 2) := by decide +kernel
theorem dd_am_invoke_43 : decode by_am_invoke 43 = .ok (.ifCond .ne 13, 3) := by decide +kernel
theorem dd_am_invoke_46 : decode by_am_invoke 46 = .ok (.aload_n 1, 1) := by decide +kernel
theorem dd_am_invoke_47 : decode by_am_invoke 47 = .ok (.aload_n 0, 1) := by decide +kernel
theorem dd_am_invoke_48 : decode by_am_invoke 48 = .ok (.getfield 18, 3) := by decide +kernel
theorem dd_am_invoke_51 : decode by_am_invoke 51 = .ok (.invokevirtual 188, 3) := by decide +kernel
theorem dd_am_invoke_54 : decode by_am_invoke 54 = .ok (.istore 4, 2) := by decide +kernel
theorem dd_am_invoke_56 : decode by_am_invoke 56 = .ok (.iload 4, 2) := by decide +kernel
theorem dd_am_invoke_58 : decode by_am_invoke 58 = .ok (.ifCond .eq 6, 3) := by decide +kernel
theorem dd_am_invoke_61 : decode by_am_invoke 61 = .ok (.iload 4, 2) := by decide +kernel
theorem dd_am_invoke_63 : decode by_am_invoke 63 = .ok (.ireturn, 1) := by decide +kernel
theorem dd_am_invoke_64 : decode by_am_invoke 64 = .ok (.aload_n 0, 1) := by decide +kernel
theorem dd_am_invoke_65 : decode by_am_invoke 65 = .ok (.getfield 37, 3) := by decide +kernel
theorem dd_am_invoke_68 : decode by_am_invoke 68 = .ok (.aload_n 0, 1) := by decide +kernel
theorem dd_am_invoke_69 : decode by_am_invoke 69 = .ok (.getfield 41, 3) := by decide +kernel
theorem dd_am_invoke_72 : decode by_am_invoke 72 = .ok (.aaload, 1) := by decide +kernel
theorem dd_am_invoke_73 : decode by_am_invoke 73 = .ok (.astore 5, 2) := by decide +kernel
theorem dd_am_invoke_75 : decode by_am_invoke 75 = .ok (.aload 5, 2) := by decide +kernel
theorem dd_am_invoke_77 : decode by_am_invoke 77 = .ok (.getfield 135, 3) := by decide +kernel
theorem dd_am_invoke_80 : decode by_am_invoke 80 = .ok (.aload_n 1, 1) := by decide +kernel
theorem dd_am_invoke_81 : decode by_am_invoke 81 = .ok (.invokestatic 216, 3) := by decide +kernel
theorem dd_am_invoke_84 : decode by_am_invoke 84 = .ok (.lload_n 2, 1) := by decide +kernel
theorem dd_am_invoke_85 : decode by_am_invoke 85 = .ok (.lconst 0, 1) := by decide +kernel
theorem dd_am_invoke_86 : decode by_am_invoke 86 = .ok (.lcmp, 1) := by decide +kernel
theorem dd_am_invoke_87 : decode by_am_invoke 87 = .ok (.ifCond .ne 25, 3) := by decide +kernel
theorem dd_am_invoke_90 : decode by_am_invoke 90 = .ok (.aload_n 0, 1) := by decide +kernel
theorem dd_am_invoke_91 : decode by_am_invoke 91 = .ok (.aload 5, 2) := by decide +kernel
theorem dd_am_invoke_93 : decode by_am_invoke 93 = .ok (.getfield 135, 3) := by decide +kernel
theorem dd_am_invoke_96 : decode by_am_invoke 96 = .ok (.invokevirtual 132, 3) := by decide +kernel
theorem dd_am_invoke_99 : decode by_am_invoke 99 = .ok (.istore 4, 2) := by decide +kernel
theorem dd_am_invoke_101 : decode by_am_invoke 101 = .ok (.aload_n 1, 1) := by decide +kernel
theorem dd_am_invoke_102 : decode by_am_invoke 102 = .ok (.aload_n 0, 1) := by decide +kernel
theorem dd_am_invoke_103 : decode by_am_invoke 103 = .ok (.getfield 18, 3) := by decide +kernel
theorem dd_am_invoke_106 : decode by_am_invoke 106 = .ok (.invokevirtual 192, 3) := by decide +kernel
theorem dd_am_invoke_109 : decode by_am_invoke 109 = .ok (.iload 4, 2) := by decide +kernel
theorem dd_am_invoke_111 : decode by_am_invoke 111 = .ok (.ireturn, 1) := by decide +kernel
theorem dd_am_invoke_112 : decode by_am_invoke 112 = .ok (.aload 5, 2) := by decide +kernel
theorem dd_am_invoke_114 : decode by_am_invoke 114 = .ok (.aload_n 0, 1) := by decide +kernel
theorem dd_am_invoke_115 : decode by_am_invoke 115 = .ok (.getfield 18, 3) := by decide +kernel
theorem dd_am_invoke_118 : decode by_am_invoke 118 = .ok (.invokevirtual 142, 3) := by decide +kernel
theorem dd_am_invoke_121 : decode by_am_invoke 121 = .ok (.aload_n 0, 1) := by decide +kernel
theorem dd_am_invoke_122 : decode by_am_invoke 122 = .ok (.dup, 1) := by decide +kernel
theorem dd_am_invoke_123 : decode by_am_invoke 123 = .ok (.getfield 41, 3) := by decide +kernel
theorem dd_am_invoke_126 : decode by_am_invoke 126 = .ok (.iconst 1, 1) := by decide +kernel
theorem dd_am_invoke_127 : decode by_am_invoke 127 = .ok (.iadd, 1) := by decide +kernel
theorem dd_am_invoke_128 : decode by_am_invoke 128 = .ok (.putfield 41, 3) := by decide +kernel
theorem dd_am_invoke_131 : decode by_am_invoke 131 = .ok (.iconst 0, 1) := by decide +kernel
theorem dd_am_invoke_132 : decode by_am_invoke 132 = .ok (.ireturn, 1) := by decide +kernel
def am_invoke_b56 (M : gw_M) (a0 : Nat) (a1 : Nat) (v2 : Int64) (v4 : Int32) : Option (Int32 × gw_M) :=
  if v4 = (0 : Int32) then (gw_gu (gw_in (M.1 a0 6) 4) (gw_lt ((a0 + 13) + 35 + 7 * ((M.1 a0 6).toNatClampNeg)) (fun x73 => gw_bd (am_fillOrder_b0 M (x73 + 1) a1) (fun _ M81 => if (lg_cmp v2 (0 : Int64)) = (0 : Int32) then (gw_bd (am_doSystem_b0 M81 a0 (x73 + 1)) (fun r96 M96 => gw_bd (fr_resume_b0 M96 a1 (a0 + 2)) (fun _ M106 => some (r96, M106)))) else (gw_bd (fr_begin_b0 M81 x73 (a0 + 2)) (fun _ M118 => gw_lt (gw_sI M118 a0 6 ((M118.1 a0 6) + (1 : Int32))) (fun M128 => some ((0 : Int32), M128)))))))) else (some (v4, M))
def am_invoke_b0 (M : gw_M) (a0 : Nat) (a1 : Nat) : Option (Int32 × gw_M) :=
  gw_lt (M.2 (a1 + 4) 1) (fun x6 => if (lg_cmp x6 (0 : Int64)) < (0 : Int32) then (some ((1 : Int32), M)) else (if (0 : Int32) ≤ (lg_cmp x6 (4 : Int64)) then (some ((1 : Int32), M)) else (gw_bd (am_canRun_b0 M a0 x6.toInt32) (fun r24 M24 => if r24 = (0 : Int32) then (some ((1 : Int32), M24)) else (gw_bd (am_refusal_b0 M24 a0 a1 x6.toInt32) (fun r36 M36 => if r36 = (0 : Int32) then (gw_bd (fr_handBack_b0 M36 a1 (a0 + 2)) (fun r51 M51 => am_invoke_b56  M51 a0 a1 x6 r51)) else (am_invoke_b56  M36 a0 a1 x6 r36)))))))
set_option maxRecDepth 100000 in
set_option maxHeartbeats 4000000 in
theorem wb_am_invoke_56 {p : Program} {l : Launch} {e : Env} {s : State} {m : MethodId} {args : Array Value} {below : List Frame} {meth : Method} {c : Code} {X : gw_X} {Y : gw_M} {z : (Int32 × gw_M)} (C0 : gw_C ((Cond.code yy_am_invoke by_am_invoke 6 (some .int)) :: gw_w) by_am_invoke 6 (some .int) "AccountMachine" X p s m args meth c) (M : gw_M) (a0 : Nat) (a1 : Nat) (v2 : Int64) (v4 : Int32) (H : Heap) (locs : List Loc) (ls : Array Slot) (ha0 : gc_k a0 = (2, 0)) (ha1 : gc_k a1 = (6, 0)) (G : gw_G X (gw_E X M Y) s H locs) (hl : lv_has ls 6 [(0, .ref (gc_a X a0)), (1, .ref (gc_a X a1)), (2, .long v2), (4, .int v4)]) (hF : am_invoke_b56  M a0 a1 v2 v4 = some z) : W p l e rm_am_invoke s m args below meth c H locs 0 0 (MQ below (gw_Qi X (fun M => (gw_E X M Y)) z) args s 0 0 (gw_A X)) (F0 m 56 ls []) := by
  obtain ⟨hx, hb, hml, hown, hts, hr, hlocks, hK⟩ := id C0
  have hg : ∀ w ∈ gw_w, w.before args s = true := fun w h => hts w (List.mem_cons_of_mem _ h)
  unfold am_invoke_b56 at hF
  refine lv_iload hx hb dd_am_invoke_56 (lv_at hl 3 rfl) ?_
  refine lv_if_eq (tgt := 64) hx hb dd_am_invoke_58 (by decide) (fun h58 => ?_) (fun h58 => ?_)
  · replace hF := gw_et h58 hF
    refine lv_aload_n hx hb dd_am_invoke_64 rfl (lv_at hl 0 rfl) ?_
    refine gf_am_frames hx hb hg hown (hg _ kw_155) hK G ha0 dd_am_invoke_65 ?_
    refine lv_aload_n hx hb dd_am_invoke_68 rfl (lv_at hl 0 rfl) ?_
    refine gf_am_depth hx hb hg hown (hg _ kw_154) hK G ha0 dd_am_invoke_69 ?_
    obtain ⟨h72, hF⟩ := gw_gd hF
    refine gc_aald9 hx hb hK G (gq_am_frames ha0) (gw_vp h72) (j := (M.1 a0 6).toNatClampNeg) rfl dd_am_invoke_72 ?_
    refine gw_topa (gq_arr9 (gq_am_frames ha0) (gw_vj (gw_vp h72) rfl)) (fun x73 e73 hx73 => ?_)
    replace hF := gw_ly e73 hF
    refine lv_astore (i := 5) (lv' := [(5, .ref (gc_a X x73)), (0, .ref (gc_a X a0)), (1, .ref (gc_a X a1)), (2, .long v2), (4, .int v4)]) hx hb dd_am_invoke_73 hl (by decide) rfl (fun ls hl => ?_)
    refine lv_aload hx hb dd_am_invoke_75 (lv_at hl 0 rfl) ?_
    refine gn_fr_order hx hb hg hown (gw_nw hK kn_31) hK G hx73 dd_am_invoke_77 ?_
    refine lv_aload_n hx hb dd_am_invoke_80 rfl (lv_at hl 2 rfl) ?_
    refine W.eq (g2 := F0 m 81 _ _) rfl ?_
    obtain ⟨u81, M81, hc81, hF⟩ := gw_be hF
    refine gw_cv G (va_runS (As := [.ref (gc_a X (x73 + 1)), .ref (gc_a X a1)]) (rest := []) ⟨hx, hb, hml, hown, hts⟩ (ct_am_fillOrder l X Y M (x73 + 1) a1 (gq_fr_order hx73) ha1 _ hc81) (cwS 2 hts (gw_gS kw_173 kw_174 kw_107 kw_172) rfl rfl rfl (by decide +kernel) ⟨Nat.le_of_ble_eq_true rfl, Nat.le_of_ble_eq_true rfl⟩) ⟨gw_blind, gw_pre hK G⟩ rfl rfl hl.1 rfl (Nat.le_of_ble_eq_true rfl) dd_am_invoke_81 ⟨Nat.le_of_ble_eq_true rfl, Nat.le_of_ble_eq_true rfl⟩) (fun H locs G => ?_)
    refine lv_lload_n hx hb dd_am_invoke_84 rfl (lv_at hl 3 rfl) ?_
    refine lv_lconst (v := (0 : Int64)) hx hb dd_am_invoke_85 (by decide) ?_
    refine W.lcmp hx hb dd_am_invoke_86 ?_
    refine lv_if_ne (tgt := 112) hx hb dd_am_invoke_87 (by decide) (fun h87 => ?_) (fun h87 => ?_)
    · replace hF := gw_ef h87 hF
      refine lv_aload hx hb dd_am_invoke_112 (lv_at hl 0 rfl) ?_
      refine lv_aload_n hx hb dd_am_invoke_114 rfl (lv_at hl 1 rfl) ?_
      refine gf_am_ledger hx hb hg hown (hg _ kw_124) hK G ha0 dd_am_invoke_115 ?_
      obtain ⟨u118, M118, hc118, hF⟩ := gw_be hF
      refine gw_cv G (va_runVN (As := [.ref (gc_a X (a0 + 2))]) (rest := []) ⟨hx, hb, hml, hown, hts⟩ (ct_fr_begin l X Y M81 x73 (a0 + 2) hx73 (gq_am_ledger ha0) _ hc118) ⟨va_cnB 1 hts (gw_gN kw_175) rfl rfl rfl (hK.2.1 _ kn_34) (hg _ kw_8) (by decide +kernel) ⟨Nat.le_of_ble_eq_true rfl, Nat.le_of_ble_eq_true rfl⟩, hg _ kw_176, hg _ kw_177⟩ ⟨gw_blind, gw_recv_fr hK G hx73, gw_pre hK G⟩ rfl rfl hl.1 rfl (Nat.le_of_ble_eq_true rfl) dd_am_invoke_118 ⟨Nat.le_of_ble_eq_true rfl, Nat.le_of_ble_eq_true rfl⟩) (fun H locs G => ?_)
      refine lv_aload_n hx hb dd_am_invoke_121 rfl (lv_at hl 1 rfl) ?_
      refine lv_dup hx hb dd_am_invoke_122 rfl ?_
      refine gf_am_depth hx hb hg hown (hg _ kw_154) hK G ha0 dd_am_invoke_123 ?_
      refine lv_iconst (v := (1 : Int32)) hx hb dd_am_invoke_126 (by decide) ?_
      refine lv_iadd hx hb dd_am_invoke_127 ?_
      refine W.eq (g2 := F0 m 128 _ _) rfl ?_
      refine gp_am_depth hx hb hg hown (hg _ kw_154) hK G ha0 dd_am_invoke_128 (fun M128 H locs e128 G => ?_)
      replace hF := gw_ly e128 hF
      refine lv_iconst (v := (0 : Int32)) hx hb dd_am_invoke_131 (by decide) ?_
      exact W.iret hx hb hr (fun t ht hW => gw_endi (EF := (fun M => (gw_E X M Y))) (M := M128) G ht hF) G.2.2.2.2 dd_am_invoke_132 hlocks
    · replace hF := gw_et h87 hF
      refine lv_aload_n hx hb dd_am_invoke_90 rfl (lv_at hl 1 rfl) ?_
      refine lv_aload hx hb dd_am_invoke_91 (lv_at hl 0 rfl) ?_
      refine gn_fr_order hx hb hg hown (gw_nw hK kn_31) hK G hx73 dd_am_invoke_93 ?_
      obtain ⟨r96, M96, hc96, hF⟩ := gw_be hF
      refine gw_ci G (va_runV (As := [.ref (gc_a X (x73 + 1))]) (rest := []) ⟨hx, hb, hml, hown, hts⟩ (ct_am_doSystem l X Y M81 a0 (x73 + 1) ha0 (gq_fr_order hx73) _ hc96) (cwV 1 hts (gw_gV kw_179 kw_180 kw_181 kw_107 kw_178) rfl rfl rfl (by decide +kernel) ⟨Nat.le_of_ble_eq_true rfl, Nat.le_of_ble_eq_true rfl⟩) ⟨gw_blind, gw_recv_am hK G ha0, gw_pre hK G⟩ rfl rfl hl.1 rfl (Nat.le_of_ble_eq_true rfl) dd_am_invoke_96 ⟨Nat.le_of_ble_eq_true rfl, Nat.le_of_ble_eq_true rfl⟩) (fun H locs G => ?_)
      refine lv_istore (i := 4) (lv' := [(4, .int r96), (5, .ref (gc_a X x73)), (0, .ref (gc_a X a0)), (1, .ref (gc_a X a1)), (2, .long v2)]) hx hb dd_am_invoke_99 hl (by decide) rfl (fun ls hl => ?_)
      refine lv_aload_n hx hb dd_am_invoke_101 rfl (lv_at hl 3 rfl) ?_
      refine lv_aload_n hx hb dd_am_invoke_102 rfl (lv_at hl 2 rfl) ?_
      refine gf_am_ledger hx hb hg hown (hg _ kw_124) hK G ha0 dd_am_invoke_103 ?_
      obtain ⟨u106, M106, hc106, hF⟩ := gw_be hF
      refine gw_cv G (va_runVN (As := [.ref (gc_a X (a0 + 2))]) (rest := []) ⟨hx, hb, hml, hown, hts⟩ (ct_fr_resume l X Y M96 a1 (a0 + 2) ha1 (gq_am_ledger ha0) _ hc106) ⟨va_cnB 1 hts (gw_gN kw_182) rfl rfl rfl (hK.2.1 _ kn_35) (hg _ kw_8) (by decide +kernel) ⟨Nat.le_of_ble_eq_true rfl, Nat.le_of_ble_eq_true rfl⟩, hg _ kw_183, hg _ kw_184⟩ ⟨gw_blind, gw_recv_fr hK G ha1, gw_pre hK G⟩ rfl rfl hl.1 rfl (Nat.le_of_ble_eq_true rfl) dd_am_invoke_106 ⟨Nat.le_of_ble_eq_true rfl, Nat.le_of_ble_eq_true rfl⟩) (fun H locs G => ?_)
      refine W.eq (g2 := F0 m 109 _ _) rfl ?_
      refine lv_iload hx hb dd_am_invoke_109 (lv_at hl 0 rfl) ?_
      exact W.iret hx hb hr (fun t ht hW => gw_endi (EF := (fun M => (gw_E X M Y))) (M := M106) G ht hF) G.2.2.2.2 dd_am_invoke_111 hlocks
  · replace hF := gw_ef h58 hF
    refine lv_iload hx hb dd_am_invoke_61 (lv_at hl 3 rfl) ?_
    exact W.iret hx hb hr (fun t ht hW => gw_endi (EF := (fun M => (gw_E X M Y))) (M := M) G ht hF) G.2.2.2.2 dd_am_invoke_63 hlocks
set_option maxRecDepth 100000 in
set_option maxHeartbeats 4000000 in
theorem wb_am_invoke_0 {p : Program} {l : Launch} {e : Env} {s : State} {m : MethodId} {args : Array Value} {below : List Frame} {meth : Method} {c : Code} {X : gw_X} {Y : gw_M} {z : (Int32 × gw_M)} (C0 : gw_C ((Cond.code yy_am_invoke by_am_invoke 6 (some .int)) :: gw_w) by_am_invoke 6 (some .int) "AccountMachine" X p s m args meth c) (M : gw_M) (a0 : Nat) (a1 : Nat) (H : Heap) (locs : List Loc) (ls : Array Slot) (ha0 : gc_k a0 = (2, 0)) (ha1 : gc_k a1 = (6, 0)) (G : gw_G X (gw_E X M Y) s H locs) (hl : lv_has ls 6 [(0, .ref (gc_a X a0)), (1, .ref (gc_a X a1))]) (hF : am_invoke_b0  M a0 a1 = some z) : W p l e rm_am_invoke s m args below meth c H locs 0 0 (MQ below (gw_Qi X (fun M => (gw_E X M Y)) z) args s 0 0 (gw_A X)) (F0 m 0 ls []) := by
  obtain ⟨hx, hb, hml, hown, hts, hr, hlocks, hK⟩ := id C0
  have hg : ∀ w ∈ gw_w, w.before args s = true := fun w h => hts w (List.mem_cons_of_mem _ h)
  unfold am_invoke_b0 at hF
  refine lv_aload_n hx hb dd_am_invoke_0 rfl (lv_at hl 1 rfl) ?_
  refine gn_fr_registers hx hb hg hown (gw_nw hK kn_33) hK G ha1 dd_am_invoke_1 ?_
  refine lv_iconst (v := (1 : Int32)) hx hb dd_am_invoke_4 (by decide) ?_
  refine gc_lald hx hb hK G (gq_fr_registers ha1) (gw_vp (by decide)) (j := 1) (by decide) dd_am_invoke_5 ?_
  refine lv_topl (fun x6 e6 => ?_)
  replace hF := gw_ly e6 hF
  refine lv_lstore_n (i := 2) (lv' := [(2, .long x6), (0, .ref (gc_a X a0)), (1, .ref (gc_a X a1))]) hx hb dd_am_invoke_6 rfl hl (by decide) rfl (fun ls hl => ?_)
  refine lv_lload_n hx hb dd_am_invoke_7 rfl (lv_at hl 0 rfl) ?_
  refine lv_lconst (v := (0 : Int64)) hx hb dd_am_invoke_8 (by decide) ?_
  refine W.lcmp hx hb dd_am_invoke_9 ?_
  refine lv_if_lt (tgt := 30) hx hb dd_am_invoke_10 (by decide) (fun h10 => ?_) (fun h10 => ?_)
  · replace hF := gw_et h10 hF
    refine lv_iconst (v := (1 : Int32)) hx hb dd_am_invoke_30 (by decide) ?_
    exact W.iret hx hb hr (fun t ht hW => gw_endi (EF := (fun M => (gw_E X M Y))) (M := M) G ht hF) G.2.2.2.2 dd_am_invoke_31 hlocks
  · replace hF := gw_ef h10 hF
    refine lv_lload_n hx hb dd_am_invoke_13 rfl (lv_at hl 0 rfl) ?_
    refine lv_ldc2 (v := (4 : Int64)) hx hb hown (hg _ kw_185) dd_am_invoke_14 ?_
    refine W.lcmp hx hb dd_am_invoke_17 ?_
    refine lv_if_ge (tgt := 30) hx hb dd_am_invoke_18 (by decide) (fun h18 => ?_) (fun h18 => ?_)
    · replace hF := gw_et h18 hF
      refine lv_iconst (v := (1 : Int32)) hx hb dd_am_invoke_30 (by decide) ?_
      exact W.iret hx hb hr (fun t ht hW => gw_endi (EF := (fun M => (gw_E X M Y))) (M := M) G ht hF) G.2.2.2.2 dd_am_invoke_31 hlocks
    · replace hF := gw_ef h18 hF
      refine lv_aload_n hx hb dd_am_invoke_21 rfl (lv_at hl 1 rfl) ?_
      refine lv_lload_n hx hb dd_am_invoke_22 rfl (lv_at hl 0 rfl) ?_
      refine lv_l2i (v := x6.toInt32) hx hb dd_am_invoke_23 rfl ?_
      obtain ⟨r24, M24, hc24, hF⟩ := gw_be hF
      refine gw_ci G (va_runV (As := [.int x6.toInt32]) (rest := []) ⟨hx, hb, hml, hown, hts⟩ (ct_am_canRun l X Y M a0 x6.toInt32 ha0 _ hc24) (cwV 1 hts (gw_gV kw_187 kw_188 kw_189 kw_107 kw_186) rfl rfl rfl (by decide +kernel) ⟨Nat.le_of_ble_eq_true rfl, Nat.le_of_ble_eq_true rfl⟩) ⟨gw_blind, gw_recv_am hK G ha0, gw_pre hK G⟩ rfl rfl hl.1 rfl (Nat.le_of_ble_eq_true rfl) dd_am_invoke_24 ⟨Nat.le_of_ble_eq_true rfl, Nat.le_of_ble_eq_true rfl⟩) (fun H locs G => ?_)
      refine lv_if_ne (tgt := 32) hx hb dd_am_invoke_27 (by decide) (fun h27 => ?_) (fun h27 => ?_)
      · replace hF := gw_ef h27 hF
        refine lv_aload_n hx hb dd_am_invoke_32 rfl (lv_at hl 1 rfl) ?_
        refine lv_aload_n hx hb dd_am_invoke_33 rfl (lv_at hl 2 rfl) ?_
        refine lv_lload_n hx hb dd_am_invoke_34 rfl (lv_at hl 0 rfl) ?_
        refine lv_l2i (v := x6.toInt32) hx hb dd_am_invoke_35 rfl ?_
        obtain ⟨r36, M36, hc36, hF⟩ := gw_be hF
        refine gw_ci G (va_runV (As := [.ref (gc_a X a1), .int x6.toInt32]) (rest := []) ⟨hx, hb, hml, hown, hts⟩ (ct_am_refusal l X Y M24 a0 a1 x6.toInt32 ha0 ha1 _ hc36) (cwV 2 hts (gw_gV kw_191 kw_192 kw_193 kw_107 kw_190) rfl rfl rfl (by decide +kernel) ⟨Nat.le_of_ble_eq_true rfl, Nat.le_of_ble_eq_true rfl⟩) ⟨gw_blind, gw_recv_am hK G ha0, gw_pre hK G⟩ rfl rfl hl.1 rfl (Nat.le_of_ble_eq_true rfl) dd_am_invoke_36 ⟨Nat.le_of_ble_eq_true rfl, Nat.le_of_ble_eq_true rfl⟩) (fun H locs G => ?_)
        refine lv_istore (i := 4) (lv' := [(4, .int r36), (2, .long x6), (0, .ref (gc_a X a0)), (1, .ref (gc_a X a1))]) hx hb dd_am_invoke_39 hl (by decide) rfl (fun ls hl => ?_)
        refine lv_iload hx hb dd_am_invoke_41 (lv_at hl 0 rfl) ?_
        refine lv_if_ne (tgt := 56) hx hb dd_am_invoke_43 (by decide) (fun h43 => ?_) (fun h43 => ?_)
        · replace hF := gw_ef h43 hF
          exact wb_am_invoke_56 C0  M36 a0 a1 x6 r36 _ _ _ ha0 ha1 G (lv_sub hl [2, 3, 1, 0] rfl) hF
        · replace hF := gw_et h43 hF
          refine lv_aload_n hx hb dd_am_invoke_46 rfl (lv_at hl 3 rfl) ?_
          refine lv_aload_n hx hb dd_am_invoke_47 rfl (lv_at hl 2 rfl) ?_
          refine gf_am_ledger hx hb hg hown (hg _ kw_124) hK G ha0 dd_am_invoke_48 ?_
          obtain ⟨r51, M51, hc51, hF⟩ := gw_be hF
          refine gw_ci G (va_runVN (As := [.ref (gc_a X (a0 + 2))]) (rest := []) ⟨hx, hb, hml, hown, hts⟩ (ct_fr_handBack l X Y M36 a1 (a0 + 2) ha1 (gq_am_ledger ha0) _ hc51) ⟨va_cnB 1 hts (gw_gN kw_194) rfl rfl rfl (hK.2.1 _ kn_36) (hg _ kw_8) (by decide +kernel) ⟨Nat.le_of_ble_eq_true rfl, Nat.le_of_ble_eq_true rfl⟩, hg _ kw_195, hg _ kw_196⟩ ⟨gw_blind, gw_recv_fr hK G ha1, gw_pre hK G⟩ rfl rfl hl.1 rfl (Nat.le_of_ble_eq_true rfl) dd_am_invoke_51 ⟨Nat.le_of_ble_eq_true rfl, Nat.le_of_ble_eq_true rfl⟩) (fun H locs G => ?_)
          refine lv_istore (i := 4) (lv' := [(4, .int r51), (2, .long x6), (0, .ref (gc_a X a0)), (1, .ref (gc_a X a1))]) hx hb dd_am_invoke_54 hl (by decide) rfl (fun ls hl => ?_)
          exact wb_am_invoke_56 C0  M51 a0 a1 x6 r51 _ _ _ ha0 ha1 G (lv_sub hl [2, 3, 1, 0] rfl) hF
      · replace hF := gw_et h27 hF
        refine lv_iconst (v := (1 : Int32)) hx hb dd_am_invoke_30 (by decide) ?_
        exact W.iret hx hb hr (fun t ht hW => gw_endi (EF := (fun M => (gw_E X M Y))) (M := M24) G ht hF) G.2.2.2.2 dd_am_invoke_31 hlocks
set_option maxRecDepth 100000 in
set_option maxHeartbeats 4000000 in
theorem ct_am_invoke (l : Launch) (X : gw_X) (Y : gw_M) (M : gw_M) (a0 : Nat) (a1 : Nat) (ha0 : gc_k a0 = (2, 0)) (ha1 : gc_k a1 = (6, 0)) (z : (Int32 × gw_M)) (hF : am_invoke_b0 M a0 a1 = some z) : Met l yy_am_invoke ((Cond.code yy_am_invoke by_am_invoke 6 (some .int)) :: gw_w) rm_am_invoke (va_Pc [.ref (gc_a X a0), .ref (gc_a X a1)] (gw_B X (gw_E X M Y))) (gw_Qi X (fun M => (gw_E X M Y)) z) 0 0 (gw_A X) := by
  refine Met.ofW (cc := by_am_invoke) (maxL := 6) (ret := (some .int)) (by decide) rfl ?_
  intro p e s m args below meth c s₁ B hml hv
  obtain ⟨rfl, hB⟩ := hv
  rw [lg_entry_eq]
  have hl := lv_entry ([.ref (gc_a X a0), .ref (gc_a X a1)]) (n := 6) (Nat.le_of_ble_eq_true rfl)
  generalize (lg_sl ([.ref (gc_a X a0), .ref (gc_a X a1)]) ++ List.replicate (6 - (lg_sl ([.ref (gc_a X a0), .ref (gc_a X a1)])).length) Slot.unset).toArray = ls at hl ⊢
  have hl : lv_has ls 6 [(0, .ref (gc_a X a0)), (1, .ref (gc_a X a1))] := hl
  exact wb_am_invoke_0 (gw_ctx B hml rfl hB) M a0 a1 _ _ _ ha0 ha1 (gw_start hB) hl hF
/-! AccountMachine.serve(LAccountMachine$Frame;I)I -/
abbrev rm_am_serve : Room := { frames := 4, cells := 0, slots := 0, locals := 104 }
theorem dd_am_serve_0 : decode by_am_serve 0 = .ok (.aload_n 0, 1) := by decide +kernel
theorem dd_am_serve_1 : decode by_am_serve 1 = .ok (.getstatic 195, 3) := by decide +kernel
theorem dd_am_serve_4 : decode by_am_serve 4 = .ok (.iload_n 2, 1) := by decide +kernel
theorem dd_am_serve_5 : decode by_am_serve 5 = .ok (.iaload, 1) := by decide +kernel
theorem dd_am_serve_6 : decode by_am_serve 6 = .ok (.invokevirtual 149, 3) := by decide +kernel
theorem dd_am_serve_9 : decode by_am_serve 9 = .ok (.ifCond .ne 5, 3) := by decide +kernel
theorem dd_am_serve_12 : decode by_am_serve 12 = .ok (.iconst 3, 1) := by decide +kernel
theorem dd_am_serve_13 : decode by_am_serve 13 = .ok (.ireturn, 1) := by decide +kernel
theorem dd_am_serve_14 : decode by_am_serve 14 = .ok (.iload_n 2, 1) := by decide +kernel
theorem dd_am_serve_15 : decode by_am_serve 15 = .ok (.tableswitch 84 0 3 #[29, 41, 47, 59], 29) := by decide +kernel
theorem dd_am_serve_44 : decode by_am_serve 44 = .ok (.aload_n 0, 1) := by decide +kernel
theorem dd_am_serve_45 : decode by_am_serve 45 = .ok (.aload_n 1, 1) := by decide +kernel
theorem dd_am_serve_46 : decode by_am_serve 46 = .ok (.getfield 185, 3) := by decide +kernel
theorem dd_am_serve_49 : decode by_am_serve 49 = .ok (.iconst 1, 1) := by decide +kernel
theorem dd_am_serve_50 : decode by_am_serve 50 = .ok (.laload, 1) := by decide +kernel
theorem dd_am_serve_51 : decode by_am_serve 51 = .ok (.invokevirtual 198, 3) := by decide +kernel
theorem dd_am_serve_54 : decode by_am_serve 54 = .ok (.iconst 0, 1) := by decide +kernel
theorem dd_am_serve_55 : decode by_am_serve 55 = .ok (.ireturn, 1) := by decide +kernel
theorem dd_am_serve_56 : decode by_am_serve 56 = .ok (.aload_n 0, 1) := by decide +kernel
theorem dd_am_serve_57 : decode by_am_serve 57 = .ok (.aload_n 1, 1) := by decide +kernel
theorem dd_am_serve_58 : decode by_am_serve 58 = .ok (.invokevirtual 202, 3) := by decide +kernel
theorem dd_am_serve_61 : decode by_am_serve 61 = .ok (.ireturn, 1) := by decide +kernel
theorem dd_am_serve_62 : decode by_am_serve 62 = .ok (.aload_n 0, 1) := by decide +kernel
theorem dd_am_serve_63 : decode by_am_serve 63 = .ok (.aload_n 1, 1) := by decide +kernel
theorem dd_am_serve_64 : decode by_am_serve 64 = .ok (.getfield 185, 3) := by decide +kernel
theorem dd_am_serve_67 : decode by_am_serve 67 = .ok (.iconst 1, 1) := by decide +kernel
theorem dd_am_serve_68 : decode by_am_serve 68 = .ok (.laload, 1) := by decide +kernel
theorem dd_am_serve_69 : decode by_am_serve 69 = .ok (.putfield 54, 3) := by decide +kernel
theorem dd_am_serve_72 : decode by_am_serve 72 = .ok (.iconst 0, 1) := by decide +kernel
theorem dd_am_serve_73 : decode by_am_serve 73 = .ok (.ireturn, 1) := by decide +kernel
theorem dd_am_serve_74 : decode by_am_serve 74 = .ok (.aload_n 1, 1) := by decide +kernel
theorem dd_am_serve_75 : decode by_am_serve 75 = .ok (.getfield 185, 3) := by decide +kernel
theorem dd_am_serve_78 : decode by_am_serve 78 = .ok (.iconst 0, 1) := by decide +kernel
theorem dd_am_serve_79 : decode by_am_serve 79 = .ok (.aload_n 1, 1) := by decide +kernel
theorem dd_am_serve_80 : decode by_am_serve 80 = .ok (.getfield 135, 3) := by decide +kernel
theorem dd_am_serve_83 : decode by_am_serve 83 = .ok (.getfield 126, 3) := by decide +kernel
theorem dd_am_serve_86 : decode by_am_serve 86 = .ok (.aload_n 1, 1) := by decide +kernel
theorem dd_am_serve_87 : decode by_am_serve 87 = .ok (.getfield 185, 3) := by decide +kernel
theorem dd_am_serve_90 : decode by_am_serve 90 = .ok (.iconst 1, 1) := by decide +kernel
theorem dd_am_serve_91 : decode by_am_serve 91 = .ok (.laload, 1) := by decide +kernel
theorem dd_am_serve_92 : decode by_am_serve 92 = .ok (.invokestatic 205, 3) := by decide +kernel
theorem dd_am_serve_95 : decode by_am_serve 95 = .ok (.i2l, 1) := by decide +kernel
theorem dd_am_serve_96 : decode by_am_serve 96 = .ok (.lastore, 1) := by decide +kernel
theorem dd_am_serve_97 : decode by_am_serve 97 = .ok (.iconst 0, 1) := by decide +kernel
theorem dd_am_serve_98 : decode by_am_serve 98 = .ok (.ireturn, 1) := by decide +kernel
theorem dd_am_serve_99 : decode by_am_serve 99 = .ok (.iconst 0, 1) := by decide +kernel
theorem dd_am_serve_100 : decode by_am_serve 100 = .ok (.ireturn, 1) := by decide +kernel
def am_serve_b0 (M : gw_M) (a0 : Nat) (a1 : Nat) (v2 : Int32) : Option (Int32 × gw_M) :=
  gw_gu (gw_in v2 4) (gw_bd (am_takeUnits_b0 M a0 (gw_un v2.toNatClampNeg)) (fun r6 M6 => if r6 = (0 : Int32) then (some ((3 : Int32), M6)) else (if v2 = (0 : Int32) then (gw_bd (am_writeLog_b0 M6 a0 (M6.2 (a1 + 4) 1)) (fun _ M51 => some ((0 : Int32), M51))) else (if v2 = (1 : Int32) then (gw_bd (am_invoke_b0 M6 a0 a1) (fun r58 M58 => some (r58, M58))) else (if v2 = (2 : Int32) then (gw_lt (gw_sL M6 a0 10 (M6.2 (a1 + 4) 1)) (fun M69 => some ((0 : Int32), M69))) else (if v2 = (3 : Int32) then (gw_bd (am_seatOf_b0 M6 (M6.1 (a1 + 1) 0) (M6.2 (a1 + 4) 1)) (fun r92 M92 => gw_lt (gw_sL M92 (a1 + 4) 0 r92.toInt64) (fun M96 => some ((0 : Int32), M96)))) else (some ((0 : Int32), M6))))))))
set_option maxRecDepth 100000 in
set_option maxHeartbeats 4000000 in
theorem wb_am_serve_0 {p : Program} {l : Launch} {e : Env} {s : State} {m : MethodId} {args : Array Value} {below : List Frame} {meth : Method} {c : Code} {X : gw_X} {Y : gw_M} {z : (Int32 × gw_M)} (C0 : gw_C ((Cond.code yy_am_serve by_am_serve 3 (some .int)) :: gw_w) by_am_serve 3 (some .int) "AccountMachine" X p s m args meth c) (M : gw_M) (a0 : Nat) (a1 : Nat) (v2 : Int32) (H : Heap) (locs : List Loc) (ls : Array Slot) (ha0 : gc_k a0 = (2, 0)) (ha1 : gc_k a1 = (6, 0)) (G : gw_G X (gw_E X M Y) s H locs) (hl : lv_has ls 3 [(0, .ref (gc_a X a0)), (1, .ref (gc_a X a1)), (2, .int v2)]) (hF : am_serve_b0  M a0 a1 v2 = some z) : W p l e rm_am_serve s m args below meth c H locs 0 0 (MQ below (gw_Qi X (fun M => (gw_E X M Y)) z) args s 0 0 (gw_A X)) (F0 m 0 ls []) := by
  obtain ⟨hx, hb, hml, hown, hts, hr, hlocks, hK⟩ := id C0
  have hg : ∀ w ∈ gw_w, w.before args s = true := fun w h => hts w (List.mem_cons_of_mem _ h)
  unfold am_serve_b0 at hF
  refine lv_aload_n hx hb dd_am_serve_0 rfl (lv_at hl 0 rfl) ?_
  refine gw_gets hx hb hown (hg _ kw_197) hK G dd_am_serve_1 ?_
  refine lv_iload_n hx hb dd_am_serve_4 rfl (lv_at hl 2 rfl) ?_
  obtain ⟨h5, hF⟩ := gw_gd hF
  refine gw_ti hx hb hK G (gw_vp h5) (j := v2.toNatClampNeg) rfl dd_am_serve_5 ?_
  obtain ⟨r6, M6, hc6, hF⟩ := gw_be hF
  refine gw_ci G (va_runV (As := [.int (gw_un v2.toNatClampNeg)]) (rest := []) ⟨hx, hb, hml, hown, hts⟩ (ct_am_takeUnits l X Y M a0 (gw_un v2.toNatClampNeg) ha0 _ hc6) (cwV 1 hts (gw_gV kw_131 kw_132 kw_133 kw_107 kw_130) rfl rfl rfl (by decide +kernel) ⟨Nat.le_of_ble_eq_true rfl, Nat.le_of_ble_eq_true rfl⟩) ⟨gw_blind, gw_recv_am hK G ha0, gw_pre hK G⟩ rfl rfl hl.1 rfl (Nat.le_of_ble_eq_true rfl) dd_am_serve_6 ⟨Nat.le_of_ble_eq_true rfl, Nat.le_of_ble_eq_true rfl⟩) (fun H locs G => ?_)
  refine lv_if_ne (tgt := 14) hx hb dd_am_serve_9 (by decide) (fun h9 => ?_) (fun h9 => ?_)
  · replace hF := gw_ef h9 hF
    refine lv_iload_n hx hb dd_am_serve_14 rfl (lv_at hl 2 rfl) ?_
    by_cases q15_0 : v2 = (0 : Int32)
    · replace hF := gw_et q15_0 hF
      refine lv_tableIn (off := 29) (tgt := 44) hx hb dd_am_serve_15 (by rw [q15_0]; decide) (by rw [q15_0]; decide) (by rw [q15_0]; decide) (by decide) ?_
      refine lv_aload_n hx hb dd_am_serve_44 rfl (lv_at hl 0 rfl) ?_
      refine lv_aload_n hx hb dd_am_serve_45 rfl (lv_at hl 1 rfl) ?_
      refine gn_fr_registers hx hb hg hown (gw_nw hK kn_33) hK G ha1 dd_am_serve_46 ?_
      refine lv_iconst (v := (1 : Int32)) hx hb dd_am_serve_49 (by decide) ?_
      refine gc_lald hx hb hK G (gq_fr_registers ha1) (gw_vp (by decide)) (j := 1) (by decide) dd_am_serve_50 ?_
      obtain ⟨u51, M51, hc51, hF⟩ := gw_be hF
      refine gw_cv G (va_runV (As := [.long (M6.2 (a1 + 4) 1)]) (rest := []) ⟨hx, hb, hml, hown, hts⟩ (ct_am_writeLog l X Y M6 a0 (M6.2 (a1 + 4) 1) ha0 _ hc51) (cwV 1 hts (gw_gV kw_199 kw_200 kw_201 kw_107 kw_198) rfl rfl rfl (by decide +kernel) ⟨Nat.le_of_ble_eq_true rfl, Nat.le_of_ble_eq_true rfl⟩) ⟨gw_blind, gw_recv_am hK G ha0, gw_pre hK G⟩ rfl rfl hl.1 rfl (Nat.le_of_ble_eq_true rfl) dd_am_serve_51 ⟨Nat.le_of_ble_eq_true rfl, Nat.le_of_ble_eq_true rfl⟩) (fun H locs G => ?_)
      refine lv_iconst (v := (0 : Int32)) hx hb dd_am_serve_54 (by decide) ?_
      exact W.iret hx hb hr (fun t ht hW => gw_endi (EF := (fun M => (gw_E X M Y))) (M := M51) G ht hF) G.2.2.2.2 dd_am_serve_55 hlocks
    replace hF := gw_ef q15_0 hF
    by_cases q15_1 : v2 = (1 : Int32)
    · replace hF := gw_et q15_1 hF
      refine lv_tableIn (off := 41) (tgt := 56) hx hb dd_am_serve_15 (by rw [q15_1]; decide) (by rw [q15_1]; decide) (by rw [q15_1]; decide) (by decide) ?_
      refine lv_aload_n hx hb dd_am_serve_56 rfl (lv_at hl 0 rfl) ?_
      refine lv_aload_n hx hb dd_am_serve_57 rfl (lv_at hl 1 rfl) ?_
      obtain ⟨r58, M58, hc58, hF⟩ := gw_be hF
      refine gw_ci G (va_runV (As := [.ref (gc_a X a1)]) (rest := []) ⟨hx, hb, hml, hown, hts⟩ (ct_am_invoke l X Y M6 a0 a1 ha0 ha1 _ hc58) (cwV 1 hts (gw_gV kw_203 kw_204 kw_205 kw_107 kw_202) rfl rfl rfl (by decide +kernel) ⟨Nat.le_of_ble_eq_true rfl, Nat.le_of_ble_eq_true rfl⟩) ⟨gw_blind, gw_recv_am hK G ha0, gw_pre hK G⟩ rfl rfl hl.1 rfl (Nat.le_of_ble_eq_true rfl) dd_am_serve_58 ⟨Nat.le_of_ble_eq_true rfl, Nat.le_of_ble_eq_true rfl⟩) (fun H locs G => ?_)
      exact W.iret hx hb hr (fun t ht hW => gw_endi (EF := (fun M => (gw_E X M Y))) (M := M58) G ht hF) G.2.2.2.2 dd_am_serve_61 hlocks
    replace hF := gw_ef q15_1 hF
    by_cases q15_2 : v2 = (2 : Int32)
    · replace hF := gw_et q15_2 hF
      refine lv_tableIn (off := 47) (tgt := 62) hx hb dd_am_serve_15 (by rw [q15_2]; decide) (by rw [q15_2]; decide) (by rw [q15_2]; decide) (by decide) ?_
      refine lv_aload_n hx hb dd_am_serve_62 rfl (lv_at hl 0 rfl) ?_
      refine lv_aload_n hx hb dd_am_serve_63 rfl (lv_at hl 1 rfl) ?_
      refine gn_fr_registers hx hb hg hown (gw_nw hK kn_33) hK G ha1 dd_am_serve_64 ?_
      refine lv_iconst (v := (1 : Int32)) hx hb dd_am_serve_67 (by decide) ?_
      refine gc_lald hx hb hK G (gq_fr_registers ha1) (gw_vp (by decide)) (j := 1) (by decide) dd_am_serve_68 ?_
      refine gp_am_given hx hb hg hown (hg _ kw_206) hK G ha0 dd_am_serve_69 (fun M69 H locs e69 G => ?_)
      replace hF := gw_ly e69 hF
      refine lv_iconst (v := (0 : Int32)) hx hb dd_am_serve_72 (by decide) ?_
      exact W.iret hx hb hr (fun t ht hW => gw_endi (EF := (fun M => (gw_E X M Y))) (M := M69) G ht hF) G.2.2.2.2 dd_am_serve_73 hlocks
    replace hF := gw_ef q15_2 hF
    by_cases q15_3 : v2 = (3 : Int32)
    · replace hF := gw_et q15_3 hF
      refine lv_tableIn (off := 59) (tgt := 74) hx hb dd_am_serve_15 (by rw [q15_3]; decide) (by rw [q15_3]; decide) (by rw [q15_3]; decide) (by decide) ?_
      refine lv_aload_n hx hb dd_am_serve_74 rfl (lv_at hl 1 rfl) ?_
      refine gn_fr_registers hx hb hg hown (gw_nw hK kn_33) hK G ha1 dd_am_serve_75 ?_
      refine lv_iconst (v := (0 : Int32)) hx hb dd_am_serve_78 (by decide) ?_
      refine lv_aload_n hx hb dd_am_serve_79 rfl (lv_at hl 1 rfl) ?_
      refine gn_fr_order hx hb hg hown (gw_nw hK kn_31) hK G ha1 dd_am_serve_80 ?_
      refine gn_od_program hx hb hg hown (gw_nw hK kn_32) hK G (gq_fr_order ha1) dd_am_serve_83 ?_
      refine lv_aload_n hx hb dd_am_serve_86 rfl (lv_at hl 1 rfl) ?_
      refine gn_fr_registers hx hb hg hown (gw_nw hK kn_33) hK G ha1 dd_am_serve_87 ?_
      refine lv_iconst (v := (1 : Int32)) hx hb dd_am_serve_90 (by decide) ?_
      refine W.eq (g2 := F0 m 91 _ _) rfl ?_
      refine gc_lald hx hb hK G (gq_fr_registers ha1) (gw_vp (by decide)) (j := 1) (by decide) dd_am_serve_91 ?_
      obtain ⟨r92, M92, hc92, hF⟩ := gw_be hF
      refine gw_ci G (va_runS (As := [.int (M6.1 (a1 + 1) 0), .long (M6.2 (a1 + 4) 1)]) (rest := [.int (0 : Int32), .ref (gc_a X (a1 + 4))]) ⟨hx, hb, hml, hown, hts⟩ (ct_am_seatOf l X Y M6 (M6.1 (a1 + 1) 0) (M6.2 (a1 + 4) 1)  _ hc92) (cwS 2 hts (gw_gS kw_152 kw_153 kw_107 kw_151) rfl rfl rfl (by decide +kernel) ⟨Nat.le_of_ble_eq_true rfl, Nat.le_of_ble_eq_true rfl⟩) ⟨gw_blind, gw_pre hK G⟩ rfl rfl hl.1 rfl (Nat.le_of_ble_eq_true rfl) dd_am_serve_92 ⟨Nat.le_of_ble_eq_true rfl, Nat.le_of_ble_eq_true rfl⟩) (fun H locs G => ?_)
      refine lv_i2l (v := r92.toInt64) hx hb dd_am_serve_95 rfl ?_
      refine gc_last hx hb hK G (gq_fr_registers ha1) (gw_vp (by decide)) (j := 0) (by decide) dd_am_serve_96 (fun M96 H locs e96 G => ?_)
      replace hF := gw_ly e96 hF
      refine lv_iconst (v := (0 : Int32)) hx hb dd_am_serve_97 (by decide) ?_
      exact W.iret hx hb hr (fun t ht hW => gw_endi (EF := (fun M => (gw_E X M Y))) (M := M96) G ht hF) G.2.2.2.2 dd_am_serve_98 hlocks
    replace hF := gw_ef q15_3 hF
    have n15_0 := gw_ne (c := (0 : Int32)) (n := 0) (by decide) q15_0
    have n15_1 := gw_ne (c := (1 : Int32)) (n := 1) (by decide) q15_1
    have n15_2 := gw_ne (c := (2 : Int32)) (n := 2) (by decide) q15_2
    have n15_3 := gw_ne (c := (3 : Int32)) (n := 3) (by decide) q15_3
    refine lv_tableOut (tgt := 99) hx hb dd_am_serve_15 (by omega) (by decide) ?_
    refine lv_iconst (v := (0 : Int32)) hx hb dd_am_serve_99 (by decide) ?_
    exact W.iret hx hb hr (fun t ht hW => gw_endi (EF := (fun M => (gw_E X M Y))) (M := M6) G ht hF) G.2.2.2.2 dd_am_serve_100 hlocks
  · replace hF := gw_et h9 hF
    refine lv_iconst (v := (3 : Int32)) hx hb dd_am_serve_12 (by decide) ?_
    exact W.iret hx hb hr (fun t ht hW => gw_endi (EF := (fun M => (gw_E X M Y))) (M := M6) G ht hF) G.2.2.2.2 dd_am_serve_13 hlocks
set_option maxRecDepth 100000 in
set_option maxHeartbeats 4000000 in
theorem ct_am_serve (l : Launch) (X : gw_X) (Y : gw_M) (M : gw_M) (a0 : Nat) (a1 : Nat) (v2 : Int32) (ha0 : gc_k a0 = (2, 0)) (ha1 : gc_k a1 = (6, 0)) (z : (Int32 × gw_M)) (hF : am_serve_b0 M a0 a1 v2 = some z) : Met l yy_am_serve ((Cond.code yy_am_serve by_am_serve 3 (some .int)) :: gw_w) rm_am_serve (va_Pc [.ref (gc_a X a0), .ref (gc_a X a1), .int v2] (gw_B X (gw_E X M Y))) (gw_Qi X (fun M => (gw_E X M Y)) z) 0 0 (gw_A X) := by
  refine Met.ofW (cc := by_am_serve) (maxL := 3) (ret := (some .int)) (by decide) rfl ?_
  intro p e s m args below meth c s₁ B hml hv
  obtain ⟨rfl, hB⟩ := hv
  rw [lg_entry_eq]
  have hl := lv_entry ([.ref (gc_a X a0), .ref (gc_a X a1), .int v2]) (n := 3) (Nat.le_of_ble_eq_true rfl)
  generalize (lg_sl ([.ref (gc_a X a0), .ref (gc_a X a1), .int v2]) ++ List.replicate (3 - (lg_sl ([.ref (gc_a X a0), .ref (gc_a X a1), .int v2])).length) Slot.unset).toArray = ls at hl ⊢
  have hl : lv_has ls 3 [(0, .ref (gc_a X a0)), (1, .ref (gc_a X a1)), (2, .int v2)] := hl
  exact wb_am_serve_0 (gw_ctx B hml rfl hB) M a0 a1 v2 _ _ _ ha0 ha1 (gw_start hB) hl hF
/-! AccountMachine.finish(LAccountMachine$Frame;)I -/
abbrev rm_am_finish : Room := { frames := 3, cells := 0, slots := 0, locals := 79 }
theorem dd_am_finish_0 : decode by_am_finish 0 = .ok (.aload_n 1, 1) := by decide +kernel
theorem dd_am_finish_1 : decode by_am_finish 1 = .ok (.getfield 185, 3) := by decide +kernel
theorem dd_am_finish_4 : decode by_am_finish 4 = .ok (.iconst 0, 1) := by decide +kernel
theorem dd_am_finish_5 : decode by_am_finish 5 = .ok (.laload, 1) := by decide +kernel
theorem dd_am_finish_6 : decode by_am_finish 6 = .ok (.lconst 0, 1) := by decide +kernel
theorem dd_am_finish_7 : decode by_am_finish 7 = .ok (.lcmp, 1) := by decide +kernel
theorem dd_am_finish_8 : decode by_am_finish 8 = .ok (.ifCond .eq 5, 3) := by decide +kernel
theorem dd_am_finish_11 : decode by_am_finish 11 = .ok (.iconst 5, 1) := by decide +kernel
theorem dd_am_finish_12 : decode by_am_finish 12 = .ok (.ireturn, 1) := by decide +kernel
theorem dd_am_finish_13 : decode by_am_finish 13 = .ok (.aload_n 1, 1) := by decide +kernel
theorem dd_am_finish_14 : decode by_am_finish 14 = .ok (.aload_n 0, 1) := by decide +kernel
theorem dd_am_finish_15 : decode by_am_finish 15 = .ok (.getfield 18, 3) := by decide +kernel
theorem dd_am_finish_18 : decode by_am_finish 18 = .ok (.invokevirtual 188, 3) := by decide +kernel
theorem dd_am_finish_21 : decode by_am_finish 21 = .ok (.istore_n 2, 1) := by decide +kernel
theorem dd_am_finish_22 : decode by_am_finish 22 = .ok (.aload_n 0, 1) := by decide +kernel
theorem dd_am_finish_23 : decode by_am_finish 23 = .ok (.dup, 1) := by decide +kernel
theorem dd_am_finish_24 : decode by_am_finish 24 = .ok (.getfield 41, 3) := by decide +kernel
theorem dd_am_finish_27 : decode by_am_finish 27 = .ok (.iconst 1, 1) := by decide +kernel
theorem dd_am_finish_28 : decode by_am_finish 28 = .ok (.isub, 1) := by decide +kernel
theorem dd_am_finish_29 : decode by_am_finish 29 = .ok (.putfield 41, 3) := by decide +kernel
theorem dd_am_finish_32 : decode by_am_finish 32 = .ok (.iload_n 2, 1) := by decide +kernel
theorem dd_am_finish_33 : decode by_am_finish 33 = .ok (.ifCond .ne 28, 3) := by decide +kernel
theorem dd_am_finish_36 : decode by_am_finish 36 = .ok (.aload_n 0, 1) := by decide +kernel
theorem dd_am_finish_37 : decode by_am_finish 37 = .ok (.getfield 41, 3) := by decide +kernel
theorem dd_am_finish_40 : decode by_am_finish 40 = .ok (.ifCond .le 21, 3) := by decide +kernel
theorem dd_am_finish_43 : decode by_am_finish 43 = .ok (.aload_n 0, 1) := by decide +kernel
theorem dd_am_finish_44 : decode by_am_finish 44 = .ok (.getfield 37, 3) := by decide +kernel
theorem dd_am_finish_47 : decode by_am_finish 47 = .ok (.aload_n 0, 1) := by decide +kernel
theorem dd_am_finish_48 : decode by_am_finish 48 = .ok (.getfield 41, 3) := by decide +kernel
theorem dd_am_finish_51 : decode by_am_finish 51 = .ok (.iconst 1, 1) := by decide +kernel
theorem dd_am_finish_52 : decode by_am_finish 52 = .ok (.isub, 1) := by decide +kernel
theorem dd_am_finish_53 : decode by_am_finish 53 = .ok (.aaload, 1) := by decide +kernel
theorem dd_am_finish_54 : decode by_am_finish 54 = .ok (.aload_n 0, 1) := by decide +kernel
theorem dd_am_finish_55 : decode by_am_finish 55 = .ok (.getfield 18, 3) := by decide +kernel
theorem dd_am_finish_58 : decode by_am_finish 58 = .ok (.invokevirtual 192, 3) := by decide +kernel
theorem dd_am_finish_61 : decode by_am_finish 61 = .ok (.iload_n 2, 1) := by decide +kernel
theorem dd_am_finish_62 : decode by_am_finish 62 = .ok (.ireturn, 1) := by decide +kernel
def am_finish_b0 (M : gw_M) (a0 : Nat) (a1 : Nat) : Option (Int32 × gw_M) :=
  if (lg_cmp (M.2 (a1 + 4) 0) (0 : Int64)) = (0 : Int32) then (gw_bd (fr_handBack_b0 M a1 (a0 + 2)) (fun r18 M18 => gw_lt (gw_sI M18 a0 6 ((M18.1 a0 6) - (1 : Int32))) (fun M29 => if r18 = (0 : Int32) then (if (M29.1 a0 6) ≤ (0 : Int32) then (some (r18, M29)) else (gw_gu (gw_in ((M29.1 a0 6) - (1 : Int32)) 4) (gw_bd (fr_resume_b0 M29 ((a0 + 13) + 35 + 7 * (((M29.1 a0 6) - (1 : Int32)).toNatClampNeg)) (a0 + 2)) (fun _ M58 => some (r18, M58))))) else (some (r18, M29))))) else (some ((5 : Int32), M))
set_option maxRecDepth 100000 in
set_option maxHeartbeats 4000000 in
theorem wb_am_finish_0 {p : Program} {l : Launch} {e : Env} {s : State} {m : MethodId} {args : Array Value} {below : List Frame} {meth : Method} {c : Code} {X : gw_X} {Y : gw_M} {z : (Int32 × gw_M)} (C0 : gw_C ((Cond.code yy_am_finish by_am_finish 3 (some .int)) :: gw_w) by_am_finish 3 (some .int) "AccountMachine" X p s m args meth c) (M : gw_M) (a0 : Nat) (a1 : Nat) (H : Heap) (locs : List Loc) (ls : Array Slot) (ha0 : gc_k a0 = (2, 0)) (ha1 : gc_k a1 = (6, 0)) (G : gw_G X (gw_E X M Y) s H locs) (hl : lv_has ls 3 [(0, .ref (gc_a X a0)), (1, .ref (gc_a X a1))]) (hF : am_finish_b0  M a0 a1 = some z) : W p l e rm_am_finish s m args below meth c H locs 0 0 (MQ below (gw_Qi X (fun M => (gw_E X M Y)) z) args s 0 0 (gw_A X)) (F0 m 0 ls []) := by
  obtain ⟨hx, hb, hml, hown, hts, hr, hlocks, hK⟩ := id C0
  have hg : ∀ w ∈ gw_w, w.before args s = true := fun w h => hts w (List.mem_cons_of_mem _ h)
  unfold am_finish_b0 at hF
  refine lv_aload_n hx hb dd_am_finish_0 rfl (lv_at hl 1 rfl) ?_
  refine gn_fr_registers hx hb hg hown (gw_nw hK kn_33) hK G ha1 dd_am_finish_1 ?_
  refine lv_iconst (v := (0 : Int32)) hx hb dd_am_finish_4 (by decide) ?_
  refine gc_lald hx hb hK G (gq_fr_registers ha1) (gw_vp (by decide)) (j := 0) (by decide) dd_am_finish_5 ?_
  refine lv_lconst (v := (0 : Int64)) hx hb dd_am_finish_6 (by decide) ?_
  refine W.lcmp hx hb dd_am_finish_7 ?_
  refine lv_if_eq (tgt := 13) hx hb dd_am_finish_8 (by decide) (fun h8 => ?_) (fun h8 => ?_)
  · replace hF := gw_et h8 hF
    refine lv_aload_n hx hb dd_am_finish_13 rfl (lv_at hl 1 rfl) ?_
    refine lv_aload_n hx hb dd_am_finish_14 rfl (lv_at hl 0 rfl) ?_
    refine gf_am_ledger hx hb hg hown (hg _ kw_124) hK G ha0 dd_am_finish_15 ?_
    obtain ⟨r18, M18, hc18, hF⟩ := gw_be hF
    refine gw_ci G (va_runVN (As := [.ref (gc_a X (a0 + 2))]) (rest := []) ⟨hx, hb, hml, hown, hts⟩ (ct_fr_handBack l X Y M a1 (a0 + 2) ha1 (gq_am_ledger ha0) _ hc18) ⟨va_cnB 1 hts (gw_gN kw_194) rfl rfl rfl (hK.2.1 _ kn_36) (hg _ kw_8) (by decide +kernel) ⟨Nat.le_of_ble_eq_true rfl, Nat.le_of_ble_eq_true rfl⟩, hg _ kw_195, hg _ kw_196⟩ ⟨gw_blind, gw_recv_fr hK G ha1, gw_pre hK G⟩ rfl rfl hl.1 rfl (Nat.le_of_ble_eq_true rfl) dd_am_finish_18 ⟨Nat.le_of_ble_eq_true rfl, Nat.le_of_ble_eq_true rfl⟩) (fun H locs G => ?_)
    refine lv_istore_n (i := 2) (lv' := [(2, .int r18), (0, .ref (gc_a X a0)), (1, .ref (gc_a X a1))]) hx hb dd_am_finish_21 rfl hl (by decide) rfl (fun ls hl => ?_)
    refine lv_aload_n hx hb dd_am_finish_22 rfl (lv_at hl 1 rfl) ?_
    refine lv_dup hx hb dd_am_finish_23 rfl ?_
    refine gf_am_depth hx hb hg hown (hg _ kw_154) hK G ha0 dd_am_finish_24 ?_
    refine lv_iconst (v := (1 : Int32)) hx hb dd_am_finish_27 (by decide) ?_
    refine W.eq (g2 := F0 m 28 _ _) rfl ?_
    refine lv_isub hx hb dd_am_finish_28 ?_
    refine gp_am_depth hx hb hg hown (hg _ kw_154) hK G ha0 dd_am_finish_29 (fun M29 H locs e29 G => ?_)
    replace hF := gw_ly e29 hF
    refine lv_iload_n hx hb dd_am_finish_32 rfl (lv_at hl 0 rfl) ?_
    refine lv_if_ne (tgt := 61) hx hb dd_am_finish_33 (by decide) (fun h33 => ?_) (fun h33 => ?_)
    · replace hF := gw_ef h33 hF
      refine lv_iload_n hx hb dd_am_finish_61 rfl (lv_at hl 0 rfl) ?_
      exact W.iret hx hb hr (fun t ht hW => gw_endi (EF := (fun M => (gw_E X M Y))) (M := M29) G ht hF) G.2.2.2.2 dd_am_finish_62 hlocks
    · replace hF := gw_et h33 hF
      refine lv_aload_n hx hb dd_am_finish_36 rfl (lv_at hl 1 rfl) ?_
      refine gf_am_depth hx hb hg hown (hg _ kw_154) hK G ha0 dd_am_finish_37 ?_
      refine lv_if_le (tgt := 61) hx hb dd_am_finish_40 (by decide) (fun h40 => ?_) (fun h40 => ?_)
      · replace hF := gw_et h40 hF
        refine lv_iload_n hx hb dd_am_finish_61 rfl (lv_at hl 0 rfl) ?_
        exact W.iret hx hb hr (fun t ht hW => gw_endi (EF := (fun M => (gw_E X M Y))) (M := M29) G ht hF) G.2.2.2.2 dd_am_finish_62 hlocks
      · replace hF := gw_ef h40 hF
        refine lv_aload_n hx hb dd_am_finish_43 rfl (lv_at hl 1 rfl) ?_
        refine gf_am_frames hx hb hg hown (hg _ kw_155) hK G ha0 dd_am_finish_44 ?_
        refine lv_aload_n hx hb dd_am_finish_47 rfl (lv_at hl 1 rfl) ?_
        refine gf_am_depth hx hb hg hown (hg _ kw_154) hK G ha0 dd_am_finish_48 ?_
        refine lv_iconst (v := (1 : Int32)) hx hb dd_am_finish_51 (by decide) ?_
        refine lv_isub hx hb dd_am_finish_52 ?_
        obtain ⟨h53, hF⟩ := gw_gd hF
        refine gc_aald9 hx hb hK G (gq_am_frames ha0) (gw_vp h53) (j := ((M29.1 a0 6) - (1 : Int32)).toNatClampNeg) rfl dd_am_finish_53 ?_
        refine lv_aload_n hx hb dd_am_finish_54 rfl (lv_at hl 1 rfl) ?_
        refine gf_am_ledger hx hb hg hown (hg _ kw_124) hK G ha0 dd_am_finish_55 ?_
        refine W.eq (g2 := F0 m 58 _ _) rfl ?_
        obtain ⟨u58, M58, hc58, hF⟩ := gw_be hF
        refine gw_cv G (va_runVN (As := [.ref (gc_a X (a0 + 2))]) (rest := []) ⟨hx, hb, hml, hown, hts⟩ (ct_fr_resume l X Y M29 ((a0 + 13) + 35 + 7 * (((M29.1 a0 6) - (1 : Int32)).toNatClampNeg)) (a0 + 2) (gq_arr9 (gq_am_frames ha0) (gw_vj (gw_vp h53) rfl)) (gq_am_ledger ha0) _ hc58) ⟨va_cnB 1 hts (gw_gN kw_182) rfl rfl rfl (hK.2.1 _ kn_35) (hg _ kw_8) (by decide +kernel) ⟨Nat.le_of_ble_eq_true rfl, Nat.le_of_ble_eq_true rfl⟩, hg _ kw_183, hg _ kw_184⟩ ⟨gw_blind, gw_recv_fr hK G (gq_arr9 (gq_am_frames ha0) (gw_vj (gw_vp h53) rfl)), gw_pre hK G⟩ rfl rfl hl.1 rfl (Nat.le_of_ble_eq_true rfl) dd_am_finish_58 ⟨Nat.le_of_ble_eq_true rfl, Nat.le_of_ble_eq_true rfl⟩) (fun H locs G => ?_)
        refine lv_iload_n hx hb dd_am_finish_61 rfl (lv_at hl 0 rfl) ?_
        exact W.iret hx hb hr (fun t ht hW => gw_endi (EF := (fun M => (gw_E X M Y))) (M := M58) G ht hF) G.2.2.2.2 dd_am_finish_62 hlocks
  · replace hF := gw_ef h8 hF
    refine lv_iconst (v := (5 : Int32)) hx hb dd_am_finish_11 (by decide) ?_
    exact W.iret hx hb hr (fun t ht hW => gw_endi (EF := (fun M => (gw_E X M Y))) (M := M) G ht hF) G.2.2.2.2 dd_am_finish_12 hlocks
set_option maxRecDepth 100000 in
set_option maxHeartbeats 4000000 in
theorem ct_am_finish (l : Launch) (X : gw_X) (Y : gw_M) (M : gw_M) (a0 : Nat) (a1 : Nat) (ha0 : gc_k a0 = (2, 0)) (ha1 : gc_k a1 = (6, 0)) (z : (Int32 × gw_M)) (hF : am_finish_b0 M a0 a1 = some z) : Met l yy_am_finish ((Cond.code yy_am_finish by_am_finish 3 (some .int)) :: gw_w) rm_am_finish (va_Pc [.ref (gc_a X a0), .ref (gc_a X a1)] (gw_B X (gw_E X M Y))) (gw_Qi X (fun M => (gw_E X M Y)) z) 0 0 (gw_A X) := by
  refine Met.ofW (cc := by_am_finish) (maxL := 3) (ret := (some .int)) (by decide) rfl ?_
  intro p e s m args below meth c s₁ B hml hv
  obtain ⟨rfl, hB⟩ := hv
  rw [lg_entry_eq]
  have hl := lv_entry ([.ref (gc_a X a0), .ref (gc_a X a1)]) (n := 3) (Nat.le_of_ble_eq_true rfl)
  generalize (lg_sl ([.ref (gc_a X a0), .ref (gc_a X a1)]) ++ List.replicate (3 - (lg_sl ([.ref (gc_a X a0), .ref (gc_a X a1)])).length) Slot.unset).toArray = ls at hl ⊢
  have hl : lv_has ls 3 [(0, .ref (gc_a X a0)), (1, .ref (gc_a X a1))] := hl
  exact wb_am_finish_0 (gw_ctx B hml rfl hB) M a0 a1 _ _ _ ha0 ha1 (gw_start hB) hl hF
/-! AccountMachine.step(LAccountMachine$Frame;)I -/
abbrev rm_am_step : Room := { frames := 5, cells := 0, slots := 0, locals := 126 }
theorem dd_am_step_0 : decode by_am_step 0 = .ok (.aload_n 0, 1) := by decide +kernel
theorem dd_am_step_1 : decode by_am_step 1 = .ok (.iconst 1, 1) := by decide +kernel
theorem dd_am_step_2 : decode by_am_step 2 = .ok (.invokevirtual 149, 3) := by decide +kernel
theorem dd_am_step_5 : decode by_am_step 5 = .ok (.ifCond .ne 5, 3) := by decide +kernel
theorem dd_am_step_8 : decode by_am_step 8 = .ok (.iconst 3, 1) := by decide +kernel
theorem dd_am_step_9 : decode by_am_step 9 = .ok (.ireturn, 1) := by decide +kernel
theorem dd_am_step_10 : decode by_am_step 10 = .ok (.aload_n 0, 1) := by decide +kernel
theorem dd_am_step_11 : decode by_am_step 11 = .ok (.getfield 11, 3) := by decide +kernel
theorem dd_am_step_14 : decode by_am_step 14 = .ok (.aload_n 1, 1) := by decide +kernel
theorem dd_am_step_15 : decode by_am_step 15 = .ok (.getfield 135, 3) := by decide +kernel
theorem dd_am_step_18 : decode by_am_step 18 = .ok (.getfield 126, 3) := by decide +kernel
theorem dd_am_step_21 : decode by_am_step 21 = .ok (.aaload, 1) := by decide +kernel
theorem dd_am_step_22 : decode by_am_step 22 = .ok (.astore_n 2, 1) := by decide +kernel
theorem dd_am_step_23 : decode by_am_step 23 = .ok (.aload_n 1, 1) := by decide +kernel
theorem dd_am_step_24 : decode by_am_step 24 = .ok (.getfield 152, 3) := by decide +kernel
theorem dd_am_step_27 : decode by_am_step 27 = .ok (.istore_n 3, 1) := by decide +kernel
theorem dd_am_step_28 : decode by_am_step 28 = .ok (.aload_n 1, 1) := by decide +kernel
theorem dd_am_step_29 : decode by_am_step 29 = .ok (.iload_n 3, 1) := by decide +kernel
theorem dd_am_step_30 : decode by_am_step 30 = .ok (.iconst 1, 1) := by decide +kernel
theorem dd_am_step_31 : decode by_am_step 31 = .ok (.iadd, 1) := by decide +kernel
theorem dd_am_step_32 : decode by_am_step 32 = .ok (.putfield 152, 3) := by decide +kernel
theorem dd_am_step_35 : decode by_am_step 35 = .ok (.aload_n 2, 1) := by decide +kernel
theorem dd_am_step_36 : decode by_am_step 36 = .ok (.getfield 155, 3) := by decide +kernel
theorem dd_am_step_39 : decode by_am_step 39 = .ok (.iload_n 3, 1) := by decide +kernel
theorem dd_am_step_40 : decode by_am_step 40 = .ok (.iaload, 1) := by decide +kernel
theorem dd_am_step_41 : decode by_am_step 41 = .ok (.tableswitch 98 8 15 #[47, 47, 54, 54, 54, 62, 69, 81], 47) := by decide +kernel
theorem dd_am_step_88 : decode by_am_step 88 = .ok (.aload_n 1, 1) := by decide +kernel
theorem dd_am_step_89 : decode by_am_step 89 = .ok (.aload_n 2, 1) := by decide +kernel
theorem dd_am_step_90 : decode by_am_step 90 = .ok (.iload_n 3, 1) := by decide +kernel
theorem dd_am_step_91 : decode by_am_step 91 = .ok (.invokevirtual 158, 3) := by decide +kernel
theorem dd_am_step_94 : decode by_am_step 94 = .ok (.ireturn, 1) := by decide +kernel
theorem dd_am_step_95 : decode by_am_step 95 = .ok (.aload_n 1, 1) := by decide +kernel
theorem dd_am_step_96 : decode by_am_step 96 = .ok (.aload_n 2, 1) := by decide +kernel
theorem dd_am_step_97 : decode by_am_step 97 = .ok (.iload_n 3, 1) := by decide +kernel
theorem dd_am_step_98 : decode by_am_step 98 = .ok (.invokevirtual 162, 3) := by decide +kernel
theorem dd_am_step_101 : decode by_am_step 101 = .ok (.iconst 0, 1) := by decide +kernel
theorem dd_am_step_102 : decode by_am_step 102 = .ok (.ireturn, 1) := by decide +kernel
theorem dd_am_step_103 : decode by_am_step 103 = .ok (.aload_n 1, 1) := by decide +kernel
theorem dd_am_step_104 : decode by_am_step 104 = .ok (.aload_n 2, 1) := by decide +kernel
theorem dd_am_step_105 : decode by_am_step 105 = .ok (.iload_n 3, 1) := by decide +kernel
theorem dd_am_step_106 : decode by_am_step 106 = .ok (.invokevirtual 166, 3) := by decide +kernel
theorem dd_am_step_109 : decode by_am_step 109 = .ok (.ireturn, 1) := by decide +kernel
theorem dd_am_step_110 : decode by_am_step 110 = .ok (.aload_n 0, 1) := by decide +kernel
theorem dd_am_step_111 : decode by_am_step 111 = .ok (.aload_n 1, 1) := by decide +kernel
theorem dd_am_step_112 : decode by_am_step 112 = .ok (.aload_n 2, 1) := by decide +kernel
theorem dd_am_step_113 : decode by_am_step 113 = .ok (.getfield 169, 3) := by decide +kernel
theorem dd_am_step_116 : decode by_am_step 116 = .ok (.iload_n 3, 1) := by decide +kernel
theorem dd_am_step_117 : decode by_am_step 117 = .ok (.iaload, 1) := by decide +kernel
theorem dd_am_step_118 : decode by_am_step 118 = .ok (.invokevirtual 172, 3) := by decide +kernel
theorem dd_am_step_121 : decode by_am_step 121 = .ok (.ireturn, 1) := by decide +kernel
theorem dd_am_step_122 : decode by_am_step 122 = .ok (.aload_n 1, 1) := by decide +kernel
theorem dd_am_step_123 : decode by_am_step 123 = .ok (.invokevirtual 176, 3) := by decide +kernel
theorem dd_am_step_126 : decode by_am_step 126 = .ok (.ifCond .eq 7, 3) := by decide +kernel
theorem dd_am_step_129 : decode by_am_step 129 = .ok (.iconst 0, 1) := by decide +kernel
theorem dd_am_step_130 : decode by_am_step 130 = .ok (.goto 8, 3) := by decide +kernel
theorem dd_am_step_133 : decode by_am_step 133 = .ok (.aload_n 0, 1) := by decide +kernel
theorem dd_am_step_134 : decode by_am_step 134 = .ok (.aload_n 1, 1) := by decide +kernel
theorem dd_am_step_135 : decode by_am_step 135 = .ok (.invokevirtual 179, 3) := by decide +kernel
theorem dd_am_step_138 : decode by_am_step 138 = .ok (.ireturn, 1) := by decide +kernel
theorem dd_am_step_139 : decode by_am_step 139 = .ok (.aload_n 1, 1) := by decide +kernel
theorem dd_am_step_140 : decode by_am_step 140 = .ok (.aload_n 2, 1) := by decide +kernel
theorem dd_am_step_141 : decode by_am_step 141 = .ok (.iload_n 3, 1) := by decide +kernel
theorem dd_am_step_142 : decode by_am_step 142 = .ok (.invokevirtual 182, 3) := by decide +kernel
theorem dd_am_step_145 : decode by_am_step 145 = .ok (.iconst 0, 1) := by decide +kernel
theorem dd_am_step_146 : decode by_am_step 146 = .ok (.ireturn, 1) := by decide +kernel
def am_step_b95 (M : gw_M) (a1 : Nat) (a2 : Nat) (v3 : Int32) : Option (Int32 × gw_M) :=
  gw_bd (fr_jump_b0 M a1 a2 v3) (fun _ M98 => some ((0 : Int32), M98))
def am_step_b88 (M : gw_M) (a1 : Nat) (a2 : Nat) (v3 : Int32) : Option (Int32 × gw_M) :=
  gw_bd (fr_reachMemory_b0 M a1 a2 v3) (fun r91 M91 => some (r91, M91))
def am_step_b0 (M : gw_M) (a0 : Nat) (a1 : Nat) : Option (Int32 × gw_M) :=
  gw_bd (am_takeUnits_b0 M a0 (1 : Int32)) (fun r2 M2 => if r2 = (0 : Int32) then (some ((3 : Int32), M2)) else (gw_gu (gw_in (M2.1 (a1 + 1) 0) 4) (gw_lt ((a0 + 1) + 14 + 6 * ((M2.1 (a1 + 1) 0).toNatClampNeg)) (fun x22 => gw_lt (M2.1 a1 5) (fun x27 => gw_lt (gw_sI M2 a1 5 (x27 + (1 : Int32))) (fun M32 => gw_gu (gw_in x27 32) (gw_lt (M32.1 (x22 + 1) x27.toNatClampNeg) (fun x41 => if x41 = (8 : Int32) then (am_step_b88  M32 a1 x22 x27) else (if x41 = (9 : Int32) then (am_step_b88  M32 a1 x22 x27) else (if x41 = (10 : Int32) then (am_step_b95  M32 a1 x22 x27) else (if x41 = (11 : Int32) then (am_step_b95  M32 a1 x22 x27) else (if x41 = (12 : Int32) then (am_step_b95  M32 a1 x22 x27) else (if x41 = (13 : Int32) then (gw_bd (fr_call_b0 M32 a1 x22 x27) (fun r106 M106 => some (r106, M106))) else (if x41 = (14 : Int32) then (gw_gu (gw_in x27 32) (gw_bd (am_serve_b0 M32 a0 a1 (M32.1 (x22 + 5) x27.toNatClampNeg)) (fun r118 M118 => some (r118, M118)))) else (if x41 = (15 : Int32) then (gw_bd (fr_goBack_b0 M32 a1) (fun r123 M123 => if r123 = (0 : Int32) then (gw_bd (am_finish_b0 M123 a0 a1) (fun r135 M135 => some (r135, M135))) else (some ((0 : Int32), M123)))) else (gw_bd (fr_reckon_b0 M32 a1 x22 x27) (fun _ M142 => some ((0 : Int32), M142))))))))))))))))))
set_option maxRecDepth 100000 in
set_option maxHeartbeats 4000000 in
theorem wb_am_step_95 {p : Program} {l : Launch} {e : Env} {s : State} {m : MethodId} {args : Array Value} {below : List Frame} {meth : Method} {c : Code} {X : gw_X} {Y : gw_M} {z : (Int32 × gw_M)} (C0 : gw_C ((Cond.code yy_am_step by_am_step 4 (some .int)) :: gw_w) by_am_step 4 (some .int) "AccountMachine" X p s m args meth c) (M : gw_M) (a1 : Nat) (a2 : Nat) (v3 : Int32) (H : Heap) (locs : List Loc) (ls : Array Slot) (ha1 : gc_k a1 = (6, 0)) (ha2 : gc_k a2 = (5, 0)) (G : gw_G X (gw_E X M Y) s H locs) (hl : lv_has ls 4 [(1, .ref (gc_a X a1)), (2, .ref (gc_a X a2)), (3, .int v3)]) (hF : am_step_b95  M a1 a2 v3 = some z) : W p l e rm_am_step s m args below meth c H locs 0 0 (MQ below (gw_Qi X (fun M => (gw_E X M Y)) z) args s 0 0 (gw_A X)) (F0 m 95 ls []) := by
  obtain ⟨hx, hb, hml, hown, hts, hr, hlocks, hK⟩ := id C0
  have hg : ∀ w ∈ gw_w, w.before args s = true := fun w h => hts w (List.mem_cons_of_mem _ h)
  unfold am_step_b95 at hF
  refine lv_aload_n hx hb dd_am_step_95 rfl (lv_at hl 0 rfl) ?_
  refine lv_aload_n hx hb dd_am_step_96 rfl (lv_at hl 1 rfl) ?_
  refine lv_iload_n hx hb dd_am_step_97 rfl (lv_at hl 2 rfl) ?_
  obtain ⟨u98, M98, hc98, hF⟩ := gw_be hF
  refine gw_cv G (va_runVN (As := [.ref (gc_a X a2), .int v3]) (rest := []) ⟨hx, hb, hml, hown, hts⟩ (ct_fr_jump l X Y M a1 a2 v3 ha1 ha2 _ hc98) ⟨va_cnB 2 hts (gw_gN kw_207) rfl rfl rfl (hK.2.1 _ kn_37) (hg _ kw_8) (by decide +kernel) ⟨Nat.le_of_ble_eq_true rfl, Nat.le_of_ble_eq_true rfl⟩, hg _ kw_208, hg _ kw_209⟩ ⟨gw_blind, gw_recv_fr hK G ha1, gw_pre hK G⟩ rfl rfl hl.1 rfl (Nat.le_of_ble_eq_true rfl) dd_am_step_98 ⟨Nat.le_of_ble_eq_true rfl, Nat.le_of_ble_eq_true rfl⟩) (fun H locs G => ?_)
  refine lv_iconst (v := (0 : Int32)) hx hb dd_am_step_101 (by decide) ?_
  exact W.iret hx hb hr (fun t ht hW => gw_endi (EF := (fun M => (gw_E X M Y))) (M := M98) G ht hF) G.2.2.2.2 dd_am_step_102 hlocks
set_option maxRecDepth 100000 in
set_option maxHeartbeats 4000000 in
theorem wb_am_step_88 {p : Program} {l : Launch} {e : Env} {s : State} {m : MethodId} {args : Array Value} {below : List Frame} {meth : Method} {c : Code} {X : gw_X} {Y : gw_M} {z : (Int32 × gw_M)} (C0 : gw_C ((Cond.code yy_am_step by_am_step 4 (some .int)) :: gw_w) by_am_step 4 (some .int) "AccountMachine" X p s m args meth c) (M : gw_M) (a1 : Nat) (a2 : Nat) (v3 : Int32) (H : Heap) (locs : List Loc) (ls : Array Slot) (ha1 : gc_k a1 = (6, 0)) (ha2 : gc_k a2 = (5, 0)) (G : gw_G X (gw_E X M Y) s H locs) (hl : lv_has ls 4 [(1, .ref (gc_a X a1)), (2, .ref (gc_a X a2)), (3, .int v3)]) (hF : am_step_b88  M a1 a2 v3 = some z) : W p l e rm_am_step s m args below meth c H locs 0 0 (MQ below (gw_Qi X (fun M => (gw_E X M Y)) z) args s 0 0 (gw_A X)) (F0 m 88 ls []) := by
  obtain ⟨hx, hb, hml, hown, hts, hr, hlocks, hK⟩ := id C0
  have hg : ∀ w ∈ gw_w, w.before args s = true := fun w h => hts w (List.mem_cons_of_mem _ h)
  unfold am_step_b88 at hF
  refine lv_aload_n hx hb dd_am_step_88 rfl (lv_at hl 0 rfl) ?_
  refine lv_aload_n hx hb dd_am_step_89 rfl (lv_at hl 1 rfl) ?_
  refine lv_iload_n hx hb dd_am_step_90 rfl (lv_at hl 2 rfl) ?_
  obtain ⟨r91, M91, hc91, hF⟩ := gw_be hF
  refine gw_ci G (va_runVN (As := [.ref (gc_a X a2), .int v3]) (rest := []) ⟨hx, hb, hml, hown, hts⟩ (ct_fr_reachMemory l X Y M a1 a2 v3 ha1 ha2 _ hc91) ⟨va_cnB 2 hts (gw_gN kw_210) rfl rfl rfl (hK.2.1 _ kn_38) (hg _ kw_8) (by decide +kernel) ⟨Nat.le_of_ble_eq_true rfl, Nat.le_of_ble_eq_true rfl⟩, hg _ kw_211, hg _ kw_212⟩ ⟨gw_blind, gw_recv_fr hK G ha1, gw_pre hK G⟩ rfl rfl hl.1 rfl (Nat.le_of_ble_eq_true rfl) dd_am_step_91 ⟨Nat.le_of_ble_eq_true rfl, Nat.le_of_ble_eq_true rfl⟩) (fun H locs G => ?_)
  exact W.iret hx hb hr (fun t ht hW => gw_endi (EF := (fun M => (gw_E X M Y))) (M := M91) G ht hF) G.2.2.2.2 dd_am_step_94 hlocks
set_option maxRecDepth 100000 in
set_option maxHeartbeats 4000000 in
theorem wb_am_step_0 {p : Program} {l : Launch} {e : Env} {s : State} {m : MethodId} {args : Array Value} {below : List Frame} {meth : Method} {c : Code} {X : gw_X} {Y : gw_M} {z : (Int32 × gw_M)} (C0 : gw_C ((Cond.code yy_am_step by_am_step 4 (some .int)) :: gw_w) by_am_step 4 (some .int) "AccountMachine" X p s m args meth c) (M : gw_M) (a0 : Nat) (a1 : Nat) (H : Heap) (locs : List Loc) (ls : Array Slot) (ha0 : gc_k a0 = (2, 0)) (ha1 : gc_k a1 = (6, 0)) (G : gw_G X (gw_E X M Y) s H locs) (hl : lv_has ls 4 [(0, .ref (gc_a X a0)), (1, .ref (gc_a X a1))]) (hF : am_step_b0  M a0 a1 = some z) : W p l e rm_am_step s m args below meth c H locs 0 0 (MQ below (gw_Qi X (fun M => (gw_E X M Y)) z) args s 0 0 (gw_A X)) (F0 m 0 ls []) := by
  obtain ⟨hx, hb, hml, hown, hts, hr, hlocks, hK⟩ := id C0
  have hg : ∀ w ∈ gw_w, w.before args s = true := fun w h => hts w (List.mem_cons_of_mem _ h)
  unfold am_step_b0 at hF
  refine lv_aload_n hx hb dd_am_step_0 rfl (lv_at hl 0 rfl) ?_
  refine lv_iconst (v := (1 : Int32)) hx hb dd_am_step_1 (by decide) ?_
  obtain ⟨r2, M2, hc2, hF⟩ := gw_be hF
  refine gw_ci G (va_runV (As := [.int (1 : Int32)]) (rest := []) ⟨hx, hb, hml, hown, hts⟩ (ct_am_takeUnits l X Y M a0 (1 : Int32) ha0 _ hc2) (cwV 1 hts (gw_gV kw_131 kw_132 kw_133 kw_107 kw_130) rfl rfl rfl (by decide +kernel) ⟨Nat.le_of_ble_eq_true rfl, Nat.le_of_ble_eq_true rfl⟩) ⟨gw_blind, gw_recv_am hK G ha0, gw_pre hK G⟩ rfl rfl hl.1 rfl (Nat.le_of_ble_eq_true rfl) dd_am_step_2 ⟨Nat.le_of_ble_eq_true rfl, Nat.le_of_ble_eq_true rfl⟩) (fun H locs G => ?_)
  refine lv_if_ne (tgt := 10) hx hb dd_am_step_5 (by decide) (fun h5 => ?_) (fun h5 => ?_)
  · replace hF := gw_ef h5 hF
    refine lv_aload_n hx hb dd_am_step_10 rfl (lv_at hl 0 rfl) ?_
    refine gf_am_programs hx hb hg hown (hg _ kw_108) hK G ha0 dd_am_step_11 ?_
    refine lv_aload_n hx hb dd_am_step_14 rfl (lv_at hl 1 rfl) ?_
    refine gn_fr_order hx hb hg hown (gw_nw hK kn_31) hK G ha1 dd_am_step_15 ?_
    refine gn_od_program hx hb hg hown (gw_nw hK kn_32) hK G (gq_fr_order ha1) dd_am_step_18 ?_
    obtain ⟨h21, hF⟩ := gw_gd hF
    refine gc_aald7 hx hb hK G (gq_am_programs ha0) (gw_vp h21) (j := (M2.1 (a1 + 1) 0).toNatClampNeg) rfl dd_am_step_21 ?_
    refine gw_topa (gq_arr7 (gq_am_programs ha0) (gw_vj (gw_vp h21) rfl)) (fun x22 e22 hx22 => ?_)
    replace hF := gw_ly e22 hF
    refine lv_astore_n (i := 2) (lv' := [(2, .ref (gc_a X x22)), (0, .ref (gc_a X a0)), (1, .ref (gc_a X a1))]) hx hb dd_am_step_22 rfl hl (by decide) rfl (fun ls hl => ?_)
    refine lv_aload_n hx hb dd_am_step_23 rfl (lv_at hl 2 rfl) ?_
    refine gn_fr_place hx hb hg hown (gw_nw hK kn_39) hK G ha1 dd_am_step_24 ?_
    refine W.eq (g2 := F0 m 27 _ _) rfl ?_
    refine lv_topi (fun x27 e27 => ?_)
    replace hF := gw_ly e27 hF
    refine lv_istore_n (i := 3) (lv' := [(3, .int x27), (2, .ref (gc_a X x22)), (0, .ref (gc_a X a0)), (1, .ref (gc_a X a1))]) hx hb dd_am_step_27 rfl hl (by decide) rfl (fun ls hl => ?_)
    refine lv_aload_n hx hb dd_am_step_28 rfl (lv_at hl 3 rfl) ?_
    refine lv_iload_n hx hb dd_am_step_29 rfl (lv_at hl 0 rfl) ?_
    refine lv_iconst (v := (1 : Int32)) hx hb dd_am_step_30 (by decide) ?_
    refine lv_iadd hx hb dd_am_step_31 ?_
    refine gm_fr_place hx hb hg hown (gw_nw hK kn_39) hK G ha1 dd_am_step_32 (fun M32 H locs e32 G => ?_)
    replace hF := gw_ly e32 hF
    refine lv_aload_n hx hb dd_am_step_35 rfl (lv_at hl 1 rfl) ?_
    refine gn_pr_kinds hx hb hg hown (gw_nw hK kn_40) hK G hx22 dd_am_step_36 ?_
    refine lv_iload_n hx hb dd_am_step_39 rfl (lv_at hl 0 rfl) ?_
    obtain ⟨h40, hF⟩ := gw_gd hF
    refine gc_iald hx hb hK G (gq_pr_kinds hx22) (gw_vp h40) (j := x27.toNatClampNeg) rfl dd_am_step_40 ?_
    refine W.eq (g2 := F0 m 41 _ _) rfl ?_
    refine lv_topi (fun x41 e41 => ?_)
    replace hF := gw_ly e41 hF
    by_cases q41_8 : x41 = (8 : Int32)
    · replace hF := gw_et q41_8 hF
      refine lv_tableIn (off := 47) (tgt := 88) hx hb dd_am_step_41 (by rw [q41_8]; decide) (by rw [q41_8]; decide) (by rw [q41_8]; decide) (by decide) ?_
      exact wb_am_step_88 C0  M32 a1 x22 x27 _ _ _ ha1 hx22 G (lv_sub hl [3, 1, 0] rfl) hF
    replace hF := gw_ef q41_8 hF
    by_cases q41_9 : x41 = (9 : Int32)
    · replace hF := gw_et q41_9 hF
      refine lv_tableIn (off := 47) (tgt := 88) hx hb dd_am_step_41 (by rw [q41_9]; decide) (by rw [q41_9]; decide) (by rw [q41_9]; decide) (by decide) ?_
      exact wb_am_step_88 C0  M32 a1 x22 x27 _ _ _ ha1 hx22 G (lv_sub hl [3, 1, 0] rfl) hF
    replace hF := gw_ef q41_9 hF
    by_cases q41_10 : x41 = (10 : Int32)
    · replace hF := gw_et q41_10 hF
      refine lv_tableIn (off := 54) (tgt := 95) hx hb dd_am_step_41 (by rw [q41_10]; decide) (by rw [q41_10]; decide) (by rw [q41_10]; decide) (by decide) ?_
      exact wb_am_step_95 C0  M32 a1 x22 x27 _ _ _ ha1 hx22 G (lv_sub hl [3, 1, 0] rfl) hF
    replace hF := gw_ef q41_10 hF
    by_cases q41_11 : x41 = (11 : Int32)
    · replace hF := gw_et q41_11 hF
      refine lv_tableIn (off := 54) (tgt := 95) hx hb dd_am_step_41 (by rw [q41_11]; decide) (by rw [q41_11]; decide) (by rw [q41_11]; decide) (by decide) ?_
      exact wb_am_step_95 C0  M32 a1 x22 x27 _ _ _ ha1 hx22 G (lv_sub hl [3, 1, 0] rfl) hF
    replace hF := gw_ef q41_11 hF
    by_cases q41_12 : x41 = (12 : Int32)
    · replace hF := gw_et q41_12 hF
      refine lv_tableIn (off := 54) (tgt := 95) hx hb dd_am_step_41 (by rw [q41_12]; decide) (by rw [q41_12]; decide) (by rw [q41_12]; decide) (by decide) ?_
      exact wb_am_step_95 C0  M32 a1 x22 x27 _ _ _ ha1 hx22 G (lv_sub hl [3, 1, 0] rfl) hF
    replace hF := gw_ef q41_12 hF
    by_cases q41_13 : x41 = (13 : Int32)
    · replace hF := gw_et q41_13 hF
      refine lv_tableIn (off := 62) (tgt := 103) hx hb dd_am_step_41 (by rw [q41_13]; decide) (by rw [q41_13]; decide) (by rw [q41_13]; decide) (by decide) ?_
      refine lv_aload_n hx hb dd_am_step_103 rfl (lv_at hl 3 rfl) ?_
      refine lv_aload_n hx hb dd_am_step_104 rfl (lv_at hl 1 rfl) ?_
      refine lv_iload_n hx hb dd_am_step_105 rfl (lv_at hl 0 rfl) ?_
      obtain ⟨r106, M106, hc106, hF⟩ := gw_be hF
      refine gw_ci G (va_runVN (As := [.ref (gc_a X x22), .int x27]) (rest := []) ⟨hx, hb, hml, hown, hts⟩ (ct_fr_call l X Y M32 a1 x22 x27 ha1 hx22 _ hc106) ⟨va_cnB 2 hts (gw_gN kw_213) rfl rfl rfl (hK.2.1 _ kn_41) (hg _ kw_8) (by decide +kernel) ⟨Nat.le_of_ble_eq_true rfl, Nat.le_of_ble_eq_true rfl⟩, hg _ kw_214, hg _ kw_215⟩ ⟨gw_blind, gw_recv_fr hK G ha1, gw_pre hK G⟩ rfl rfl hl.1 rfl (Nat.le_of_ble_eq_true rfl) dd_am_step_106 ⟨Nat.le_of_ble_eq_true rfl, Nat.le_of_ble_eq_true rfl⟩) (fun H locs G => ?_)
      exact W.iret hx hb hr (fun t ht hW => gw_endi (EF := (fun M => (gw_E X M Y))) (M := M106) G ht hF) G.2.2.2.2 dd_am_step_109 hlocks
    replace hF := gw_ef q41_13 hF
    by_cases q41_14 : x41 = (14 : Int32)
    · replace hF := gw_et q41_14 hF
      refine lv_tableIn (off := 69) (tgt := 110) hx hb dd_am_step_41 (by rw [q41_14]; decide) (by rw [q41_14]; decide) (by rw [q41_14]; decide) (by decide) ?_
      refine lv_aload_n hx hb dd_am_step_110 rfl (lv_at hl 2 rfl) ?_
      refine lv_aload_n hx hb dd_am_step_111 rfl (lv_at hl 3 rfl) ?_
      refine lv_aload_n hx hb dd_am_step_112 rfl (lv_at hl 1 rfl) ?_
      refine gn_pr_numbers hx hb hg hown (gw_nw hK kn_42) hK G hx22 dd_am_step_113 ?_
      refine lv_iload_n hx hb dd_am_step_116 rfl (lv_at hl 0 rfl) ?_
      obtain ⟨h117, hF⟩ := gw_gd hF
      refine gc_iald hx hb hK G (gq_pr_numbers hx22) (gw_vp h117) (j := x27.toNatClampNeg) rfl dd_am_step_117 ?_
      obtain ⟨r118, M118, hc118, hF⟩ := gw_be hF
      refine gw_ci G (va_runV (As := [.ref (gc_a X a1), .int (M32.1 (x22 + 5) x27.toNatClampNeg)]) (rest := []) ⟨hx, hb, hml, hown, hts⟩ (ct_am_serve l X Y M32 a0 a1 (M32.1 (x22 + 5) x27.toNatClampNeg) ha0 ha1 _ hc118) (cwV 2 hts (gw_gV kw_217 kw_218 kw_219 kw_107 kw_216) rfl rfl rfl (by decide +kernel) ⟨Nat.le_of_ble_eq_true rfl, Nat.le_of_ble_eq_true rfl⟩) ⟨gw_blind, gw_recv_am hK G ha0, gw_pre hK G⟩ rfl rfl hl.1 rfl (Nat.le_of_ble_eq_true rfl) dd_am_step_118 ⟨Nat.le_of_ble_eq_true rfl, Nat.le_of_ble_eq_true rfl⟩) (fun H locs G => ?_)
      exact W.iret hx hb hr (fun t ht hW => gw_endi (EF := (fun M => (gw_E X M Y))) (M := M118) G ht hF) G.2.2.2.2 dd_am_step_121 hlocks
    replace hF := gw_ef q41_14 hF
    by_cases q41_15 : x41 = (15 : Int32)
    · replace hF := gw_et q41_15 hF
      refine lv_tableIn (off := 81) (tgt := 122) hx hb dd_am_step_41 (by rw [q41_15]; decide) (by rw [q41_15]; decide) (by rw [q41_15]; decide) (by decide) ?_
      refine lv_aload_n hx hb dd_am_step_122 rfl (lv_at hl 3 rfl) ?_
      obtain ⟨r123, M123, hc123, hF⟩ := gw_be hF
      refine gw_ci G (va_runVN (As := []) (rest := []) ⟨hx, hb, hml, hown, hts⟩ (ct_fr_goBack l X Y M32 a1 ha1 _ hc123) ⟨va_cnB 0 hts (gw_gN kw_220) rfl rfl rfl (hK.2.1 _ kn_43) (hg _ kw_8) (by decide +kernel) ⟨Nat.le_of_ble_eq_true rfl, Nat.le_of_ble_eq_true rfl⟩, hg _ kw_221, hg _ kw_222⟩ ⟨gw_blind, gw_recv_fr hK G ha1, gw_pre hK G⟩ rfl rfl hl.1 rfl (Nat.le_of_ble_eq_true rfl) dd_am_step_123 ⟨Nat.le_of_ble_eq_true rfl, Nat.le_of_ble_eq_true rfl⟩) (fun H locs G => ?_)
      refine lv_if_eq (tgt := 133) hx hb dd_am_step_126 (by decide) (fun h126 => ?_) (fun h126 => ?_)
      · replace hF := gw_et h126 hF
        refine lv_aload_n hx hb dd_am_step_133 rfl (lv_at hl 2 rfl) ?_
        refine lv_aload_n hx hb dd_am_step_134 rfl (lv_at hl 3 rfl) ?_
        obtain ⟨r135, M135, hc135, hF⟩ := gw_be hF
        refine gw_ci G (va_runV (As := [.ref (gc_a X a1)]) (rest := []) ⟨hx, hb, hml, hown, hts⟩ (ct_am_finish l X Y M123 a0 a1 ha0 ha1 _ hc135) (cwV 1 hts (gw_gV kw_224 kw_225 kw_226 kw_107 kw_223) rfl rfl rfl (by decide +kernel) ⟨Nat.le_of_ble_eq_true rfl, Nat.le_of_ble_eq_true rfl⟩) ⟨gw_blind, gw_recv_am hK G ha0, gw_pre hK G⟩ rfl rfl hl.1 rfl (Nat.le_of_ble_eq_true rfl) dd_am_step_135 ⟨Nat.le_of_ble_eq_true rfl, Nat.le_of_ble_eq_true rfl⟩) (fun H locs G => ?_)
        exact W.iret hx hb hr (fun t ht hW => gw_endi (EF := (fun M => (gw_E X M Y))) (M := M135) G ht hF) G.2.2.2.2 dd_am_step_138 hlocks
      · replace hF := gw_ef h126 hF
        refine lv_iconst (v := (0 : Int32)) hx hb dd_am_step_129 (by decide) ?_
        refine lv_goto (tgt := 138) hx hb dd_am_step_130 (by decide) ?_
        exact W.iret hx hb hr (fun t ht hW => gw_endi (EF := (fun M => (gw_E X M Y))) (M := M123) G ht hF) G.2.2.2.2 dd_am_step_138 hlocks
    replace hF := gw_ef q41_15 hF
    have n41_8 := gw_ne (c := (8 : Int32)) (n := 8) (by decide) q41_8
    have n41_9 := gw_ne (c := (9 : Int32)) (n := 9) (by decide) q41_9
    have n41_10 := gw_ne (c := (10 : Int32)) (n := 10) (by decide) q41_10
    have n41_11 := gw_ne (c := (11 : Int32)) (n := 11) (by decide) q41_11
    have n41_12 := gw_ne (c := (12 : Int32)) (n := 12) (by decide) q41_12
    have n41_13 := gw_ne (c := (13 : Int32)) (n := 13) (by decide) q41_13
    have n41_14 := gw_ne (c := (14 : Int32)) (n := 14) (by decide) q41_14
    have n41_15 := gw_ne (c := (15 : Int32)) (n := 15) (by decide) q41_15
    refine lv_tableOut (tgt := 139) hx hb dd_am_step_41 (by omega) (by decide) ?_
    refine lv_aload_n hx hb dd_am_step_139 rfl (lv_at hl 3 rfl) ?_
    refine lv_aload_n hx hb dd_am_step_140 rfl (lv_at hl 1 rfl) ?_
    refine lv_iload_n hx hb dd_am_step_141 rfl (lv_at hl 0 rfl) ?_
    obtain ⟨u142, M142, hc142, hF⟩ := gw_be hF
    refine gw_cv G (va_runVN (As := [.ref (gc_a X x22), .int x27]) (rest := []) ⟨hx, hb, hml, hown, hts⟩ (ct_fr_reckon l X Y M32 a1 x22 x27 ha1 hx22 _ hc142) ⟨va_cnB 2 hts (gw_gN kw_227) rfl rfl rfl (hK.2.1 _ kn_44) (hg _ kw_8) (by decide +kernel) ⟨Nat.le_of_ble_eq_true rfl, Nat.le_of_ble_eq_true rfl⟩, hg _ kw_228, hg _ kw_229⟩ ⟨gw_blind, gw_recv_fr hK G ha1, gw_pre hK G⟩ rfl rfl hl.1 rfl (Nat.le_of_ble_eq_true rfl) dd_am_step_142 ⟨Nat.le_of_ble_eq_true rfl, Nat.le_of_ble_eq_true rfl⟩) (fun H locs G => ?_)
    refine lv_iconst (v := (0 : Int32)) hx hb dd_am_step_145 (by decide) ?_
    exact W.iret hx hb hr (fun t ht hW => gw_endi (EF := (fun M => (gw_E X M Y))) (M := M142) G ht hF) G.2.2.2.2 dd_am_step_146 hlocks
  · replace hF := gw_et h5 hF
    refine lv_iconst (v := (3 : Int32)) hx hb dd_am_step_8 (by decide) ?_
    exact W.iret hx hb hr (fun t ht hW => gw_endi (EF := (fun M => (gw_E X M Y))) (M := M2) G ht hF) G.2.2.2.2 dd_am_step_9 hlocks
set_option maxRecDepth 100000 in
set_option maxHeartbeats 4000000 in
theorem ct_am_step (l : Launch) (X : gw_X) (Y : gw_M) (M : gw_M) (a0 : Nat) (a1 : Nat) (ha0 : gc_k a0 = (2, 0)) (ha1 : gc_k a1 = (6, 0)) (z : (Int32 × gw_M)) (hF : am_step_b0 M a0 a1 = some z) : Met l yy_am_step ((Cond.code yy_am_step by_am_step 4 (some .int)) :: gw_w) rm_am_step (va_Pc [.ref (gc_a X a0), .ref (gc_a X a1)] (gw_B X (gw_E X M Y))) (gw_Qi X (fun M => (gw_E X M Y)) z) 0 0 (gw_A X) := by
  refine Met.ofW (cc := by_am_step) (maxL := 4) (ret := (some .int)) (by decide) rfl ?_
  intro p e s m args below meth c s₁ B hml hv
  obtain ⟨rfl, hB⟩ := hv
  rw [lg_entry_eq]
  have hl := lv_entry ([.ref (gc_a X a0), .ref (gc_a X a1)]) (n := 4) (Nat.le_of_ble_eq_true rfl)
  generalize (lg_sl ([.ref (gc_a X a0), .ref (gc_a X a1)]) ++ List.replicate (4 - (lg_sl ([.ref (gc_a X a0), .ref (gc_a X a1)])).length) Slot.unset).toArray = ls at hl ⊢
  have hl : lv_has ls 4 [(0, .ref (gc_a X a0)), (1, .ref (gc_a X a1))] := hl
  exact wb_am_step_0 (gw_ctx B hml rfl hB) M a0 a1 _ _ _ ha0 ha1 (gw_start hB) hl hF
/-! AccountMachine.carryOut(LAccountMachine$Order;)I -/
abbrev rm_am_carryOut : Room := { frames := 6, cells := 0, slots := 0, locals := 149 }
theorem dd_am_carryOut_0 : decode by_am_carryOut 0 = .ok (.aload_n 0, 1) := by decide +kernel
theorem dd_am_carryOut_1 : decode by_am_carryOut 1 = .ok (.aload_n 1, 1) := by decide +kernel
theorem dd_am_carryOut_2 : decode by_am_carryOut 2 = .ok (.getfield 126, 3) := by decide +kernel
theorem dd_am_carryOut_5 : decode by_am_carryOut 5 = .ok (.invokevirtual 129, 3) := by decide +kernel
theorem dd_am_carryOut_8 : decode by_am_carryOut 8 = .ok (.ifCond .ne 5, 3) := by decide +kernel
theorem dd_am_carryOut_11 : decode by_am_carryOut 11 = .ok (.iconst 1, 1) := by decide +kernel
theorem dd_am_carryOut_12 : decode by_am_carryOut 12 = .ok (.ireturn, 1) := by decide +kernel
theorem dd_am_carryOut_13 : decode by_am_carryOut 13 = .ok (.aload_n 1, 1) := by decide +kernel
theorem dd_am_carryOut_14 : decode by_am_carryOut 14 = .ok (.getfield 126, 3) := by decide +kernel
theorem dd_am_carryOut_17 : decode by_am_carryOut 17 = .ok (.ifCond .ne 9, 3) := by decide +kernel
theorem dd_am_carryOut_20 : decode by_am_carryOut 20 = .ok (.aload_n 0, 1) := by decide +kernel
theorem dd_am_carryOut_21 : decode by_am_carryOut 21 = .ok (.aload_n 1, 1) := by decide +kernel
theorem dd_am_carryOut_22 : decode by_am_carryOut 22 = .ok (.invokevirtual 132, 3) := by decide +kernel
theorem dd_am_carryOut_25 : decode by_am_carryOut 25 = .ok (.ireturn, 1) := by decide +kernel
theorem dd_am_carryOut_26 : decode by_am_carryOut 26 = .ok (.aload_n 0, 1) := by decide +kernel
theorem dd_am_carryOut_27 : decode by_am_carryOut 27 = .ok (.getfield 37, 3) := by decide +kernel
theorem dd_am_carryOut_30 : decode by_am_carryOut 30 = .ok (.iconst 0, 1) := by decide +kernel
theorem dd_am_carryOut_31 : decode by_am_carryOut 31 = .ok (.aaload, 1) := by decide +kernel
theorem dd_am_carryOut_32 : decode by_am_carryOut 32 = .ok (.getfield 135, 3) := by decide +kernel
theorem dd_am_carryOut_35 : decode by_am_carryOut 35 = .ok (.aload_n 1, 1) := by decide +kernel
theorem dd_am_carryOut_36 : decode by_am_carryOut 36 = .ok (.invokevirtual 139, 3) := by decide +kernel
theorem dd_am_carryOut_39 : decode by_am_carryOut 39 = .ok (.aload_n 0, 1) := by decide +kernel
theorem dd_am_carryOut_40 : decode by_am_carryOut 40 = .ok (.getfield 37, 3) := by decide +kernel
theorem dd_am_carryOut_43 : decode by_am_carryOut 43 = .ok (.iconst 0, 1) := by decide +kernel
theorem dd_am_carryOut_44 : decode by_am_carryOut 44 = .ok (.aaload, 1) := by decide +kernel
theorem dd_am_carryOut_45 : decode by_am_carryOut 45 = .ok (.aload_n 0, 1) := by decide +kernel
theorem dd_am_carryOut_46 : decode by_am_carryOut 46 = .ok (.getfield 18, 3) := by decide +kernel
theorem dd_am_carryOut_49 : decode by_am_carryOut 49 = .ok (.invokevirtual 142, 3) := by decide +kernel
theorem dd_am_carryOut_52 : decode by_am_carryOut 52 = .ok (.aload_n 0, 1) := by decide +kernel
theorem dd_am_carryOut_53 : decode by_am_carryOut 53 = .ok (.iconst 1, 1) := by decide +kernel
theorem dd_am_carryOut_54 : decode by_am_carryOut 54 = .ok (.putfield 41, 3) := by decide +kernel
theorem dd_am_carryOut_57 : decode by_am_carryOut 57 = .ok (.iconst 0, 1) := by decide +kernel
theorem dd_am_carryOut_58 : decode by_am_carryOut 58 = .ok (.istore_n 2, 1) := by decide +kernel
theorem dd_am_carryOut_59 : decode by_am_carryOut 59 = .ok (.iconst 0, 1) := by decide +kernel
theorem dd_am_carryOut_60 : decode by_am_carryOut 60 = .ok (.istore_n 3, 1) := by decide +kernel
theorem dd_am_carryOut_61 : decode by_am_carryOut 61 = .ok (.iload_n 3, 1) := by decide +kernel
theorem dd_am_carryOut_62 : decode by_am_carryOut 62 = .ok (.sipush 2000, 3) := by decide +kernel
theorem dd_am_carryOut_65 : decode by_am_carryOut 65 = .ok (.if_icmp .gt 36, 3) := by decide +kernel
theorem dd_am_carryOut_68 : decode by_am_carryOut 68 = .ok (.aload_n 0, 1) := by decide +kernel
theorem dd_am_carryOut_69 : decode by_am_carryOut 69 = .ok (.getfield 41, 3) := by decide +kernel
theorem dd_am_carryOut_72 : decode by_am_carryOut 72 = .ok (.ifCond .le 29, 3) := by decide +kernel
theorem dd_am_carryOut_75 : decode by_am_carryOut 75 = .ok (.iload_n 2, 1) := by decide +kernel
theorem dd_am_carryOut_76 : decode by_am_carryOut 76 = .ok (.ifCond .ne 25, 3) := by decide +kernel
theorem dd_am_carryOut_79 : decode by_am_carryOut 79 = .ok (.aload_n 0, 1) := by decide +kernel
theorem dd_am_carryOut_80 : decode by_am_carryOut 80 = .ok (.aload_n 0, 1) := by decide +kernel
theorem dd_am_carryOut_81 : decode by_am_carryOut 81 = .ok (.getfield 37, 3) := by decide +kernel
theorem dd_am_carryOut_84 : decode by_am_carryOut 84 = .ok (.aload_n 0, 1) := by decide +kernel
theorem dd_am_carryOut_85 : decode by_am_carryOut 85 = .ok (.getfield 41, 3) := by decide +kernel
theorem dd_am_carryOut_88 : decode by_am_carryOut 88 = .ok (.iconst 1, 1) := by decide +kernel
theorem dd_am_carryOut_89 : decode by_am_carryOut 89 = .ok (.isub, 1) := by decide +kernel
theorem dd_am_carryOut_90 : decode by_am_carryOut 90 = .ok (.aaload, 1) := by decide +kernel
theorem dd_am_carryOut_91 : decode by_am_carryOut 91 = .ok (.invokevirtual 145, 3) := by decide +kernel
theorem dd_am_carryOut_94 : decode by_am_carryOut 94 = .ok (.istore_n 2, 1) := by decide +kernel
theorem dd_am_carryOut_95 : decode by_am_carryOut 95 = .ok (.iinc 3 1, 3) := by decide +kernel
theorem dd_am_carryOut_98 : decode by_am_carryOut 98 = .ok (.goto (-37), 3) := by decide +kernel
theorem dd_am_carryOut_101 : decode by_am_carryOut 101 = .ok (.iload_n 2, 1) := by decide +kernel
theorem dd_am_carryOut_102 : decode by_am_carryOut 102 = .ok (.ireturn, 1) := by decide +kernel
def am_carryOut_b61 (K61 : gw_M → Nat → Int32 → Int32 → Option (Int32 × gw_M)) (M : gw_M) (a0 : Nat) (v2 : Int32) (v3 : Int32) : Option (Int32 × gw_M) :=
  if (2000 : Int32) < v3 then (some (v2, M)) else (if (M.1 a0 6) ≤ (0 : Int32) then (some (v2, M)) else (if v2 = (0 : Int32) then (gw_gu (gw_in ((M.1 a0 6) - (1 : Int32)) 4) (gw_bd (am_step_b0 M a0 ((a0 + 13) + 35 + 7 * (((M.1 a0 6) - (1 : Int32)).toNatClampNeg))) (fun r91 M91 => K61 M91 a0 r91 (v3 + (1 : Int32))))) else (some (v2, M))))
def am_carryOut_l61 : Nat → gw_M → Nat → Int32 → Int32 → Option (Int32 × gw_M)
  | 0 => fun _ _ _ _ => none
  | n + 1 => am_carryOut_b61  (am_carryOut_l61  n)
def am_carryOut_b0 (M : gw_M) (a0 : Nat) (a1 : Nat) : Option (Int32 × gw_M) :=
  gw_bd (am_canRun_b0 M a0 (M.1 a1 0)) (fun r5 M5 => if r5 = (0 : Int32) then (some ((1 : Int32), M5)) else (if (M5.1 a1 0) = (0 : Int32) then (gw_bd (am_doSystem_b0 M5 a0 a1) (fun r22 M22 => some (r22, M22))) else (gw_bd (od_copyFrom_b0 M5 (((a0 + 13) + 35 + 7 * 0) + 1) a1) (fun _ M36 => gw_bd (fr_begin_b0 M36 ((a0 + 13) + 35 + 7 * 0) (a0 + 2)) (fun _ M49 => gw_lt (gw_sI M49 a0 6 (1 : Int32)) (fun M54 => am_carryOut_l61  2100 M54 a0 (0 : Int32) (0 : Int32)))))))
set_option maxRecDepth 100000 in
set_option maxHeartbeats 4000000 in
theorem wb_am_carryOut_61 {p : Program} {l : Launch} {e : Env} {s : State} {m : MethodId} {args : Array Value} {below : List Frame} {meth : Method} {c : Code} {X : gw_X} {Y : gw_M} {z : (Int32 × gw_M)} (C0 : gw_C ((Cond.code yy_am_carryOut by_am_carryOut 4 (some .int)) :: gw_w) by_am_carryOut 4 (some .int) "AccountMachine" X p s m args meth c) {K61 : gw_M → Nat → Int32 → Int32 → Option (Int32 × gw_M)} (hK61 : ∀ (M : gw_M) (a0 : Nat) (v2 : Int32) (v3 : Int32) (H : Heap) (locs : List Loc) (ls : Array Slot), gc_k a0 = (2, 0) → gw_G X (gw_E X M Y) s H locs → lv_has ls 4 [(0, .ref (gc_a X a0)), (2, .int v2), (3, .int v3)] → K61 M a0 v2 v3 = some z → W p l e rm_am_carryOut s m args below meth c H locs 0 0 (MQ below (gw_Qi X (fun M => (gw_E X M Y)) z) args s 0 0 (gw_A X)) (F0 m 61 ls [])) (M : gw_M) (a0 : Nat) (v2 : Int32) (v3 : Int32) (H : Heap) (locs : List Loc) (ls : Array Slot) (ha0 : gc_k a0 = (2, 0)) (G : gw_G X (gw_E X M Y) s H locs) (hl : lv_has ls 4 [(0, .ref (gc_a X a0)), (2, .int v2), (3, .int v3)]) (hF : am_carryOut_b61 K61 M a0 v2 v3 = some z) : W p l e rm_am_carryOut s m args below meth c H locs 0 0 (MQ below (gw_Qi X (fun M => (gw_E X M Y)) z) args s 0 0 (gw_A X)) (F0 m 61 ls []) := by
  obtain ⟨hx, hb, hml, hown, hts, hr, hlocks, hK⟩ := id C0
  have hg : ∀ w ∈ gw_w, w.before args s = true := fun w h => hts w (List.mem_cons_of_mem _ h)
  unfold am_carryOut_b61 at hF
  refine lv_iload_n hx hb dd_am_carryOut_61 rfl (lv_at hl 2 rfl) ?_
  refine lv_sipush (v := (2000 : Int32)) hx hb dd_am_carryOut_62 (by decide) ?_
  refine lv_icmp_gt (tgt := 101) hx hb dd_am_carryOut_65 (by decide) (fun h65 => ?_) (fun h65 => ?_)
  · replace hF := gw_et h65 hF
    refine lv_iload_n hx hb dd_am_carryOut_101 rfl (lv_at hl 1 rfl) ?_
    exact W.iret hx hb hr (fun t ht hW => gw_endi (EF := (fun M => (gw_E X M Y))) (M := M) G ht hF) G.2.2.2.2 dd_am_carryOut_102 hlocks
  · replace hF := gw_ef h65 hF
    refine lv_aload_n hx hb dd_am_carryOut_68 rfl (lv_at hl 0 rfl) ?_
    refine gf_am_depth hx hb hg hown (hg _ kw_154) hK G ha0 dd_am_carryOut_69 ?_
    refine lv_if_le (tgt := 101) hx hb dd_am_carryOut_72 (by decide) (fun h72 => ?_) (fun h72 => ?_)
    · replace hF := gw_et h72 hF
      refine lv_iload_n hx hb dd_am_carryOut_101 rfl (lv_at hl 1 rfl) ?_
      exact W.iret hx hb hr (fun t ht hW => gw_endi (EF := (fun M => (gw_E X M Y))) (M := M) G ht hF) G.2.2.2.2 dd_am_carryOut_102 hlocks
    · replace hF := gw_ef h72 hF
      refine lv_iload_n hx hb dd_am_carryOut_75 rfl (lv_at hl 1 rfl) ?_
      refine lv_if_ne (tgt := 101) hx hb dd_am_carryOut_76 (by decide) (fun h76 => ?_) (fun h76 => ?_)
      · replace hF := gw_ef h76 hF
        refine lv_iload_n hx hb dd_am_carryOut_101 rfl (lv_at hl 1 rfl) ?_
        exact W.iret hx hb hr (fun t ht hW => gw_endi (EF := (fun M => (gw_E X M Y))) (M := M) G ht hF) G.2.2.2.2 dd_am_carryOut_102 hlocks
      · replace hF := gw_et h76 hF
        refine lv_aload_n hx hb dd_am_carryOut_79 rfl (lv_at hl 0 rfl) ?_
        refine lv_aload_n hx hb dd_am_carryOut_80 rfl (lv_at hl 0 rfl) ?_
        refine gf_am_frames hx hb hg hown (hg _ kw_155) hK G ha0 dd_am_carryOut_81 ?_
        refine lv_aload_n hx hb dd_am_carryOut_84 rfl (lv_at hl 0 rfl) ?_
        refine gf_am_depth hx hb hg hown (hg _ kw_154) hK G ha0 dd_am_carryOut_85 ?_
        refine lv_iconst (v := (1 : Int32)) hx hb dd_am_carryOut_88 (by decide) ?_
        refine lv_isub hx hb dd_am_carryOut_89 ?_
        obtain ⟨h90, hF⟩ := gw_gd hF
        refine gc_aald9 hx hb hK G (gq_am_frames ha0) (gw_vp h90) (j := ((M.1 a0 6) - (1 : Int32)).toNatClampNeg) rfl dd_am_carryOut_90 ?_
        obtain ⟨r91, M91, hc91, hF⟩ := gw_be hF
        refine gw_ci G (va_runV (As := [.ref (gc_a X ((a0 + 13) + 35 + 7 * (((M.1 a0 6) - (1 : Int32)).toNatClampNeg)))]) (rest := []) ⟨hx, hb, hml, hown, hts⟩ (ct_am_step l X Y M a0 ((a0 + 13) + 35 + 7 * (((M.1 a0 6) - (1 : Int32)).toNatClampNeg)) ha0 (gq_arr9 (gq_am_frames ha0) (gw_vj (gw_vp h90) rfl)) _ hc91) (cwV 1 hts (gw_gV kw_231 kw_232 kw_233 kw_107 kw_230) rfl rfl rfl (by decide +kernel) ⟨Nat.le_of_ble_eq_true rfl, Nat.le_of_ble_eq_true rfl⟩) ⟨gw_blind, gw_recv_am hK G ha0, gw_pre hK G⟩ rfl rfl hl.1 rfl (Nat.le_of_ble_eq_true rfl) dd_am_carryOut_91 ⟨Nat.le_of_ble_eq_true rfl, Nat.le_of_ble_eq_true rfl⟩) (fun H locs G => ?_)
        refine W.eq (g2 := F0 m 94 _ _) rfl ?_
        refine lv_istore_n (i := 2) (lv' := [(2, .int r91), (0, .ref (gc_a X a0)), (3, .int v3)]) hx hb dd_am_carryOut_94 rfl hl (by decide) rfl (fun ls hl => ?_)
        refine lv_iinc (k := 2) (v := v3 + (1 : Int32)) (lv' := [(3, .int (v3 + (1 : Int32))), (2, .int r91), (0, .ref (gc_a X a0))]) hx hb dd_am_carryOut_95 hl rfl rfl (by decide) rfl (fun ls hl => ?_)
        refine lv_goto (tgt := 61) hx hb dd_am_carryOut_98 (by decide) ?_
        exact hK61 M91 a0 r91 (v3 + (1 : Int32)) _ _ _ ha0 G (lv_sub hl [2, 1, 0] rfl) hF
theorem wl_am_carryOut_61 {p : Program} {l : Launch} {e : Env} {s : State} {m : MethodId} {args : Array Value} {below : List Frame} {meth : Method} {c : Code} {X : gw_X} {Y : gw_M} {z : (Int32 × gw_M)} (C0 : gw_C ((Cond.code yy_am_carryOut by_am_carryOut 4 (some .int)) :: gw_w) by_am_carryOut 4 (some .int) "AccountMachine" X p s m args meth c) : ∀ n : Nat, ∀ (M : gw_M) (a0 : Nat) (v2 : Int32) (v3 : Int32) (H : Heap) (locs : List Loc) (ls : Array Slot), gc_k a0 = (2, 0) → gw_G X (gw_E X M Y) s H locs → lv_has ls 4 [(0, .ref (gc_a X a0)), (2, .int v2), (3, .int v3)] → am_carryOut_l61  n M a0 v2 v3 = some z → W p l e rm_am_carryOut s m args below meth c H locs 0 0 (MQ below (gw_Qi X (fun M => (gw_E X M Y)) z) args s 0 0 (gw_A X)) (F0 m 61 ls []) := by
  intro n
  induction n with
  | zero =>
    intro M a0 v2 v3 H locs ls ha0 G hl hF
    have hF : (none : Option (Int32 × gw_M)) = some z := hF
    cases hF
  | succ n ih =>
    intro M a0 v2 v3 H locs ls ha0 G hl hF
    exact wb_am_carryOut_61 C0  ih M a0 v2 v3 H locs ls ha0 G hl hF
set_option maxRecDepth 100000 in
set_option maxHeartbeats 4000000 in
theorem wb_am_carryOut_0 {p : Program} {l : Launch} {e : Env} {s : State} {m : MethodId} {args : Array Value} {below : List Frame} {meth : Method} {c : Code} {X : gw_X} {Y : gw_M} {z : (Int32 × gw_M)} (C0 : gw_C ((Cond.code yy_am_carryOut by_am_carryOut 4 (some .int)) :: gw_w) by_am_carryOut 4 (some .int) "AccountMachine" X p s m args meth c) (M : gw_M) (a0 : Nat) (a1 : Nat) (H : Heap) (locs : List Loc) (ls : Array Slot) (ha0 : gc_k a0 = (2, 0)) (ha1 : gc_k a1 = (4, 0)) (G : gw_G X (gw_E X M Y) s H locs) (hl : lv_has ls 4 [(0, .ref (gc_a X a0)), (1, .ref (gc_a X a1))]) (hF : am_carryOut_b0  M a0 a1 = some z) : W p l e rm_am_carryOut s m args below meth c H locs 0 0 (MQ below (gw_Qi X (fun M => (gw_E X M Y)) z) args s 0 0 (gw_A X)) (F0 m 0 ls []) := by
  obtain ⟨hx, hb, hml, hown, hts, hr, hlocks, hK⟩ := id C0
  have hg : ∀ w ∈ gw_w, w.before args s = true := fun w h => hts w (List.mem_cons_of_mem _ h)
  unfold am_carryOut_b0 at hF
  refine lv_aload_n hx hb dd_am_carryOut_0 rfl (lv_at hl 0 rfl) ?_
  refine lv_aload_n hx hb dd_am_carryOut_1 rfl (lv_at hl 1 rfl) ?_
  refine gn_od_program hx hb hg hown (gw_nw hK kn_32) hK G ha1 dd_am_carryOut_2 ?_
  obtain ⟨r5, M5, hc5, hF⟩ := gw_be hF
  refine gw_ci G (va_runV (As := [.int (M.1 a1 0)]) (rest := []) ⟨hx, hb, hml, hown, hts⟩ (ct_am_canRun l X Y M a0 (M.1 a1 0) ha0 _ hc5) (cwV 1 hts (gw_gV kw_187 kw_188 kw_189 kw_107 kw_186) rfl rfl rfl (by decide +kernel) ⟨Nat.le_of_ble_eq_true rfl, Nat.le_of_ble_eq_true rfl⟩) ⟨gw_blind, gw_recv_am hK G ha0, gw_pre hK G⟩ rfl rfl hl.1 rfl (Nat.le_of_ble_eq_true rfl) dd_am_carryOut_5 ⟨Nat.le_of_ble_eq_true rfl, Nat.le_of_ble_eq_true rfl⟩) (fun H locs G => ?_)
  refine lv_if_ne (tgt := 13) hx hb dd_am_carryOut_8 (by decide) (fun h8 => ?_) (fun h8 => ?_)
  · replace hF := gw_ef h8 hF
    refine lv_aload_n hx hb dd_am_carryOut_13 rfl (lv_at hl 1 rfl) ?_
    refine gn_od_program hx hb hg hown (gw_nw hK kn_32) hK G ha1 dd_am_carryOut_14 ?_
    refine lv_if_ne (tgt := 26) hx hb dd_am_carryOut_17 (by decide) (fun h17 => ?_) (fun h17 => ?_)
    · replace hF := gw_ef h17 hF
      refine lv_aload_n hx hb dd_am_carryOut_26 rfl (lv_at hl 0 rfl) ?_
      refine gf_am_frames hx hb hg hown (hg _ kw_155) hK G ha0 dd_am_carryOut_27 ?_
      refine lv_iconst (v := (0 : Int32)) hx hb dd_am_carryOut_30 (by decide) ?_
      refine gc_aald9 hx hb hK G (gq_am_frames ha0) (gw_vp (by decide)) (j := 0) (by decide) dd_am_carryOut_31 ?_
      refine gn_fr_order hx hb hg hown (gw_nw hK kn_31) hK G (gq_arr9 (j := 0) (gq_am_frames ha0) (by decide)) dd_am_carryOut_32 ?_
      refine lv_aload_n hx hb dd_am_carryOut_35 rfl (lv_at hl 1 rfl) ?_
      obtain ⟨u36, M36, hc36, hF⟩ := gw_be hF
      refine gw_cv G (va_runVN (As := [.ref (gc_a X a1)]) (rest := []) ⟨hx, hb, hml, hown, hts⟩ (ct_od_copyFrom l X Y M5 (((a0 + 13) + 35 + 7 * 0) + 1) a1 (gq_fr_order (gq_arr9 (j := 0) (gq_am_frames ha0) (by decide))) ha1 _ hc36) ⟨va_cnB 1 hts (gw_gN kw_234) rfl rfl rfl (hK.2.1 _ kn_45) (hg _ kw_14) (by decide +kernel) ⟨Nat.le_of_ble_eq_true rfl, Nat.le_of_ble_eq_true rfl⟩, hg _ kw_235, hg _ kw_236⟩ ⟨gw_blind, gw_recv_od hK G (gq_fr_order (gq_arr9 (j := 0) (gq_am_frames ha0) (by decide))), gw_pre hK G⟩ rfl rfl hl.1 rfl (Nat.le_of_ble_eq_true rfl) dd_am_carryOut_36 ⟨Nat.le_of_ble_eq_true rfl, Nat.le_of_ble_eq_true rfl⟩) (fun H locs G => ?_)
      refine lv_aload_n hx hb dd_am_carryOut_39 rfl (lv_at hl 0 rfl) ?_
      refine gf_am_frames hx hb hg hown (hg _ kw_155) hK G ha0 dd_am_carryOut_40 ?_
      refine W.eq (g2 := F0 m 43 _ _) rfl ?_
      refine lv_iconst (v := (0 : Int32)) hx hb dd_am_carryOut_43 (by decide) ?_
      refine gc_aald9 hx hb hK G (gq_am_frames ha0) (gw_vp (by decide)) (j := 0) (by decide) dd_am_carryOut_44 ?_
      refine lv_aload_n hx hb dd_am_carryOut_45 rfl (lv_at hl 0 rfl) ?_
      refine gf_am_ledger hx hb hg hown (hg _ kw_124) hK G ha0 dd_am_carryOut_46 ?_
      obtain ⟨u49, M49, hc49, hF⟩ := gw_be hF
      refine gw_cv G (va_runVN (As := [.ref (gc_a X (a0 + 2))]) (rest := []) ⟨hx, hb, hml, hown, hts⟩ (ct_fr_begin l X Y M36 ((a0 + 13) + 35 + 7 * 0) (a0 + 2) (gq_arr9 (j := 0) (gq_am_frames ha0) (by decide)) (gq_am_ledger ha0) _ hc49) ⟨va_cnB 1 hts (gw_gN kw_175) rfl rfl rfl (hK.2.1 _ kn_34) (hg _ kw_8) (by decide +kernel) ⟨Nat.le_of_ble_eq_true rfl, Nat.le_of_ble_eq_true rfl⟩, hg _ kw_176, hg _ kw_177⟩ ⟨gw_blind, gw_recv_fr hK G (gq_arr9 (j := 0) (gq_am_frames ha0) (by decide)), gw_pre hK G⟩ rfl rfl hl.1 rfl (Nat.le_of_ble_eq_true rfl) dd_am_carryOut_49 ⟨Nat.le_of_ble_eq_true rfl, Nat.le_of_ble_eq_true rfl⟩) (fun H locs G => ?_)
      refine lv_aload_n hx hb dd_am_carryOut_52 rfl (lv_at hl 0 rfl) ?_
      refine lv_iconst (v := (1 : Int32)) hx hb dd_am_carryOut_53 (by decide) ?_
      refine gp_am_depth hx hb hg hown (hg _ kw_154) hK G ha0 dd_am_carryOut_54 (fun M54 H locs e54 G => ?_)
      replace hF := gw_ly e54 hF
      refine lv_iconst (v := (0 : Int32)) hx hb dd_am_carryOut_57 (by decide) ?_
      refine lv_istore_n (i := 2) (lv' := [(2, .int (0 : Int32)), (0, .ref (gc_a X a0)), (1, .ref (gc_a X a1))]) hx hb dd_am_carryOut_58 rfl hl (by decide) rfl (fun ls hl => ?_)
      refine W.eq (g2 := F0 m 59 _ _) rfl ?_
      refine lv_iconst (v := (0 : Int32)) hx hb dd_am_carryOut_59 (by decide) ?_
      refine lv_istore_n (i := 3) (lv' := [(3, .int (0 : Int32)), (2, .int (0 : Int32)), (0, .ref (gc_a X a0)), (1, .ref (gc_a X a1))]) hx hb dd_am_carryOut_60 rfl hl (by decide) rfl (fun ls hl => ?_)
      exact wl_am_carryOut_61 C0  2100 M54 a0 (0 : Int32) (0 : Int32) _ _ _ ha0 G (lv_sub hl [2, 1, 0] rfl) hF
    · replace hF := gw_et h17 hF
      refine lv_aload_n hx hb dd_am_carryOut_20 rfl (lv_at hl 0 rfl) ?_
      refine lv_aload_n hx hb dd_am_carryOut_21 rfl (lv_at hl 1 rfl) ?_
      obtain ⟨r22, M22, hc22, hF⟩ := gw_be hF
      refine gw_ci G (va_runV (As := [.ref (gc_a X a1)]) (rest := []) ⟨hx, hb, hml, hown, hts⟩ (ct_am_doSystem l X Y M5 a0 a1 ha0 ha1 _ hc22) (cwV 1 hts (gw_gV kw_179 kw_180 kw_181 kw_107 kw_178) rfl rfl rfl (by decide +kernel) ⟨Nat.le_of_ble_eq_true rfl, Nat.le_of_ble_eq_true rfl⟩) ⟨gw_blind, gw_recv_am hK G ha0, gw_pre hK G⟩ rfl rfl hl.1 rfl (Nat.le_of_ble_eq_true rfl) dd_am_carryOut_22 ⟨Nat.le_of_ble_eq_true rfl, Nat.le_of_ble_eq_true rfl⟩) (fun H locs G => ?_)
      exact W.iret hx hb hr (fun t ht hW => gw_endi (EF := (fun M => (gw_E X M Y))) (M := M22) G ht hF) G.2.2.2.2 dd_am_carryOut_25 hlocks
  · replace hF := gw_et h8 hF
    refine lv_iconst (v := (1 : Int32)) hx hb dd_am_carryOut_11 (by decide) ?_
    exact W.iret hx hb hr (fun t ht hW => gw_endi (EF := (fun M => (gw_E X M Y))) (M := M5) G ht hF) G.2.2.2.2 dd_am_carryOut_12 hlocks
set_option maxRecDepth 100000 in
set_option maxHeartbeats 4000000 in
theorem ct_am_carryOut (l : Launch) (X : gw_X) (Y : gw_M) (M : gw_M) (a0 : Nat) (a1 : Nat) (ha0 : gc_k a0 = (2, 0)) (ha1 : gc_k a1 = (4, 0)) (z : (Int32 × gw_M)) (hF : am_carryOut_b0 M a0 a1 = some z) : Met l yy_am_carryOut ((Cond.code yy_am_carryOut by_am_carryOut 4 (some .int)) :: gw_w) rm_am_carryOut (va_Pc [.ref (gc_a X a0), .ref (gc_a X a1)] (gw_B X (gw_E X M Y))) (gw_Qi X (fun M => (gw_E X M Y)) z) 0 0 (gw_A X) := by
  refine Met.ofW (cc := by_am_carryOut) (maxL := 4) (ret := (some .int)) (by decide) rfl ?_
  intro p e s m args below meth c s₁ B hml hv
  obtain ⟨rfl, hB⟩ := hv
  rw [lg_entry_eq]
  have hl := lv_entry ([.ref (gc_a X a0), .ref (gc_a X a1)]) (n := 4) (Nat.le_of_ble_eq_true rfl)
  generalize (lg_sl ([.ref (gc_a X a0), .ref (gc_a X a1)]) ++ List.replicate (4 - (lg_sl ([.ref (gc_a X a0), .ref (gc_a X a1)])).length) Slot.unset).toArray = ls at hl ⊢
  have hl : lv_has ls 4 [(0, .ref (gc_a X a0)), (1, .ref (gc_a X a1))] := hl
  exact wb_am_carryOut_0 (gw_ctx B hml rfl hB) M a0 a1 _ _ _ ha0 ha1 (gw_start hB) hl hF
/-! AccountMachine.owesRent()Z -/
abbrev rm_am_owesRent : Room := { frames := 0, cells := 0, slots := 0, locals := 0 }
theorem dd_am_owesRent_0 : decode by_am_owesRent 0 = .ok (.iconst 0, 1) := by decide +kernel
theorem dd_am_owesRent_1 : decode by_am_owesRent 1 = .ok (.istore_n 1, 1) := by decide +kernel
theorem dd_am_owesRent_2 : decode by_am_owesRent 2 = .ok (.iload_n 1, 1) := by decide +kernel
theorem dd_am_owesRent_3 : decode by_am_owesRent 3 = .ok (.aload_n 0, 1) := by decide +kernel
theorem dd_am_owesRent_4 : decode by_am_owesRent 4 = .ok (.getfield 31, 3) := by decide +kernel
theorem dd_am_owesRent_7 : decode by_am_owesRent 7 = .ok (.if_icmp .ge 105, 3) := by decide +kernel
theorem dd_am_owesRent_10 : decode by_am_owesRent 10 = .ok (.aload_n 0, 1) := by decide +kernel
theorem dd_am_owesRent_11 : decode by_am_owesRent 11 = .ok (.getfield 27, 3) := by decide +kernel
theorem dd_am_owesRent_14 : decode by_am_owesRent 14 = .ok (.iload_n 1, 1) := by decide +kernel
theorem dd_am_owesRent_15 : decode by_am_owesRent 15 = .ok (.aaload, 1) := by decide +kernel
theorem dd_am_owesRent_16 : decode by_am_owesRent 16 = .ok (.astore_n 2, 1) := by decide +kernel
theorem dd_am_owesRent_17 : decode by_am_owesRent 17 = .ok (.iconst 0, 1) := by decide +kernel
theorem dd_am_owesRent_18 : decode by_am_owesRent 18 = .ok (.istore_n 3, 1) := by decide +kernel
theorem dd_am_owesRent_19 : decode by_am_owesRent 19 = .ok (.iload_n 3, 1) := by decide +kernel
theorem dd_am_owesRent_20 : decode by_am_owesRent 20 = .ok (.aload_n 2, 1) := by decide +kernel
theorem dd_am_owesRent_21 : decode by_am_owesRent 21 = .ok (.getfield 119, 3) := by decide +kernel
theorem dd_am_owesRent_24 : decode by_am_owesRent 24 = .ok (.if_icmp .ge 82, 3) := by decide +kernel
theorem dd_am_owesRent_27 : decode by_am_owesRent 27 = .ok (.aload_n 2, 1) := by decide +kernel
theorem dd_am_owesRent_28 : decode by_am_owesRent 28 = .ok (.getfield 120, 3) := by decide +kernel
theorem dd_am_owesRent_31 : decode by_am_owesRent 31 = .ok (.iload_n 3, 1) := by decide +kernel
theorem dd_am_owesRent_32 : decode by_am_owesRent 32 = .ok (.iaload, 1) := by decide +kernel
theorem dd_am_owesRent_33 : decode by_am_owesRent 33 = .ok (.istore 4, 2) := by decide +kernel
theorem dd_am_owesRent_35 : decode by_am_owesRent 35 = .ok (.aload_n 0, 1) := by decide +kernel
theorem dd_am_owesRent_36 : decode by_am_owesRent 36 = .ok (.getfield 18, 3) := by decide +kernel
theorem dd_am_owesRent_39 : decode by_am_owesRent 39 = .ok (.getfield 102, 3) := by decide +kernel
theorem dd_am_owesRent_42 : decode by_am_owesRent 42 = .ok (.iload 4, 2) := by decide +kernel
theorem dd_am_owesRent_44 : decode by_am_owesRent 44 = .ok (.iaload, 1) := by decide +kernel
theorem dd_am_owesRent_45 : decode by_am_owesRent 45 = .ok (.ifCond .eq 34, 3) := by decide +kernel
theorem dd_am_owesRent_48 : decode by_am_owesRent 48 = .ok (.aload_n 0, 1) := by decide +kernel
theorem dd_am_owesRent_49 : decode by_am_owesRent 49 = .ok (.getfield 18, 3) := by decide +kernel
theorem dd_am_owesRent_52 : decode by_am_owesRent 52 = .ok (.getfield 102, 3) := by decide +kernel
theorem dd_am_owesRent_55 : decode by_am_owesRent 55 = .ok (.iload 4, 2) := by decide +kernel
theorem dd_am_owesRent_57 : decode by_am_owesRent 57 = .ok (.iaload, 1) := by decide +kernel
theorem dd_am_owesRent_58 : decode by_am_owesRent 58 = .ok (.iconst 5, 1) := by decide +kernel
theorem dd_am_owesRent_59 : decode by_am_owesRent 59 = .ok (.iconst 2, 1) := by decide +kernel
theorem dd_am_owesRent_60 : decode by_am_owesRent 60 = .ok (.aload_n 0, 1) := by decide +kernel
theorem dd_am_owesRent_61 : decode by_am_owesRent 61 = .ok (.getfield 18, 3) := by decide +kernel
theorem dd_am_owesRent_64 : decode by_am_owesRent 64 = .ok (.getfield 109, 3) := by decide +kernel
theorem dd_am_owesRent_67 : decode by_am_owesRent 67 = .ok (.iload 4, 2) := by decide +kernel
theorem dd_am_owesRent_69 : decode by_am_owesRent 69 = .ok (.iaload, 1) := by decide +kernel
theorem dd_am_owesRent_70 : decode by_am_owesRent 70 = .ok (.imul, 1) := by decide +kernel
theorem dd_am_owesRent_71 : decode by_am_owesRent 71 = .ok (.iadd, 1) := by decide +kernel
theorem dd_am_owesRent_72 : decode by_am_owesRent 72 = .ok (.if_icmp .ge 7, 3) := by decide +kernel
theorem dd_am_owesRent_75 : decode by_am_owesRent 75 = .ok (.iconst 1, 1) := by decide +kernel
theorem dd_am_owesRent_76 : decode by_am_owesRent 76 = .ok (.goto 4, 3) := by decide +kernel
theorem dd_am_owesRent_79 : decode by_am_owesRent 79 = .ok (.iconst 0, 1) := by decide +kernel
theorem dd_am_owesRent_80 : decode by_am_owesRent 80 = .ok (.istore 5, 2) := by decide +kernel
theorem dd_am_owesRent_82 : decode by_am_owesRent 82 = .ok (.iload 5, 2) := by decide +kernel
theorem dd_am_owesRent_84 : decode by_am_owesRent 84 = .ok (.ifCond .eq 16, 3) := by decide +kernel
theorem dd_am_owesRent_87 : decode by_am_owesRent 87 = .ok (.aload_n 2, 1) := by decide +kernel
theorem dd_am_owesRent_88 : decode by_am_owesRent 88 = .ok (.getfield 123, 3) := by decide +kernel
theorem dd_am_owesRent_91 : decode by_am_owesRent 91 = .ok (.iload_n 3, 1) := by decide +kernel
theorem dd_am_owesRent_92 : decode by_am_owesRent 92 = .ok (.iaload, 1) := by decide +kernel
theorem dd_am_owesRent_93 : decode by_am_owesRent 93 = .ok (.iconst 2, 1) := by decide +kernel
theorem dd_am_owesRent_94 : decode by_am_owesRent 94 = .ok (.iand, 1) := by decide +kernel
theorem dd_am_owesRent_95 : decode by_am_owesRent 95 = .ok (.ifCond .eq 5, 3) := by decide +kernel
theorem dd_am_owesRent_98 : decode by_am_owesRent 98 = .ok (.iconst 1, 1) := by decide +kernel
theorem dd_am_owesRent_99 : decode by_am_owesRent 99 = .ok (.ireturn, 1) := by decide +kernel
theorem dd_am_owesRent_100 : decode by_am_owesRent 100 = .ok (.iinc 3 1, 3) := by decide +kernel
theorem dd_am_owesRent_103 : decode by_am_owesRent 103 = .ok (.goto (-84), 3) := by decide +kernel
theorem dd_am_owesRent_106 : decode by_am_owesRent 106 = .ok (.iinc 1 1, 3) := by decide +kernel
theorem dd_am_owesRent_109 : decode by_am_owesRent 109 = .ok (.goto (-107), 3) := by decide +kernel
theorem dd_am_owesRent_112 : decode by_am_owesRent 112 = .ok (.iconst 0, 1) := by decide +kernel
theorem dd_am_owesRent_113 : decode by_am_owesRent 113 = .ok (.ireturn, 1) := by decide +kernel
def am_owesRent_b100 (K2 : gw_M → Nat → Int32 → Option (Int32 × gw_M)) (K19 : gw_M → Nat → Int32 → Nat → Int32 → Option (Int32 × gw_M)) (M : gw_M) (a0 : Nat) (v1 : Int32) (a2 : Nat) (v3 : Int32) : Option (Int32 × gw_M) :=
  K19 M a0 v1 a2 (v3 + (1 : Int32))
def am_owesRent_b80 (K2 : gw_M → Nat → Int32 → Option (Int32 × gw_M)) (K19 : gw_M → Nat → Int32 → Nat → Int32 → Option (Int32 × gw_M)) (M : gw_M) (a0 : Nat) (v1 : Int32) (a2 : Nat) (v3 : Int32) (t0 : Int32) : Option (Int32 × gw_M) :=
  if t0 = (0 : Int32) then (am_owesRent_b100 K2 K19 M a0 v1 a2 v3) else (gw_gu (gw_in v3 4) (if ((M.1 (a2 + 2) v3.toNatClampNeg) &&& (2 : Int32)) = (0 : Int32) then (am_owesRent_b100 K2 K19 M a0 v1 a2 v3) else (some ((1 : Int32), M))))
def am_owesRent_b79 (K2 : gw_M → Nat → Int32 → Option (Int32 × gw_M)) (K19 : gw_M → Nat → Int32 → Nat → Int32 → Option (Int32 × gw_M)) (M : gw_M) (a0 : Nat) (v1 : Int32) (a2 : Nat) (v3 : Int32) : Option (Int32 × gw_M) :=
  am_owesRent_b80 K2 K19 M a0 v1 a2 v3 (0 : Int32)
def am_owesRent_b19 (K2 : gw_M → Nat → Int32 → Option (Int32 × gw_M)) (K19 : gw_M → Nat → Int32 → Nat → Int32 → Option (Int32 × gw_M)) (M : gw_M) (a0 : Nat) (v1 : Int32) (a2 : Nat) (v3 : Int32) : Option (Int32 × gw_M) :=
  if (M.1 a2 2) ≤ v3 then (K2 M a0 (v1 + (1 : Int32))) else (gw_gu (gw_in v3 4) (gw_lt (M.1 (a2 + 1) v3.toNatClampNeg) (fun x33 => gw_gu (gw_in x33 8) (if (M.1 ((a0 + 2) + 1) x33.toNatClampNeg) = (0 : Int32) then (am_owesRent_b79 K2 K19 M a0 v1 a2 v3) else (gw_gu (gw_in x33 8) (gw_gu (gw_in x33 8) (if ((5 : Int32) + ((2 : Int32) * (M.1 ((a0 + 2) + 3) x33.toNatClampNeg))) ≤ (M.1 ((a0 + 2) + 1) x33.toNatClampNeg) then (am_owesRent_b79 K2 K19 M a0 v1 a2 v3) else (am_owesRent_b80 K2 K19 M a0 v1 a2 v3 (1 : Int32)))))))))
def am_owesRent_l19 (K2 : gw_M → Nat → Int32 → Option (Int32 × gw_M)) : Nat → gw_M → Nat → Int32 → Nat → Int32 → Option (Int32 × gw_M)
  | 0 => fun _ _ _ _ _ => none
  | n + 1 => am_owesRent_b19 K2 (am_owesRent_l19 K2 n)
def am_owesRent_b2 (K2 : gw_M → Nat → Int32 → Option (Int32 × gw_M)) (M : gw_M) (a0 : Nat) (v1 : Int32) : Option (Int32 × gw_M) :=
  if (M.1 a0 4) ≤ v1 then (some ((0 : Int32), M)) else (gw_gu (gw_in v1 3) (gw_lt ((a0 + 12) + 27 + 3 * v1.toNatClampNeg) (fun x16 => am_owesRent_l19 K2 2100 M a0 v1 x16 (0 : Int32))))
def am_owesRent_l2 : Nat → gw_M → Nat → Int32 → Option (Int32 × gw_M)
  | 0 => fun _ _ _ => none
  | n + 1 => am_owesRent_b2  (am_owesRent_l2  n)
def am_owesRent_b0 (M : gw_M) (a0 : Nat) : Option (Int32 × gw_M) :=
  am_owesRent_l2  2100 M a0 (0 : Int32)
set_option maxRecDepth 100000 in
set_option maxHeartbeats 4000000 in
theorem wb_am_owesRent_100 {p : Program} {l : Launch} {e : Env} {s : State} {m : MethodId} {args : Array Value} {below : List Frame} {meth : Method} {c : Code} {X : gw_X} {Y : gw_M} {z : (Int32 × gw_M)} (C0 : gw_C ((Cond.code yy_am_owesRent by_am_owesRent 6 (some .boolean)) :: gw_w) by_am_owesRent 6 (some .boolean) "AccountMachine" X p s m args meth c) {K2 : gw_M → Nat → Int32 → Option (Int32 × gw_M)} {K19 : gw_M → Nat → Int32 → Nat → Int32 → Option (Int32 × gw_M)} (hK2 : ∀ (M : gw_M) (a0 : Nat) (v1 : Int32) (H : Heap) (locs : List Loc) (ls : Array Slot), gc_k a0 = (2, 0) → gw_G X (gw_E X M Y) s H locs → lv_has ls 6 [(0, .ref (gc_a X a0)), (1, .int v1)] → K2 M a0 v1 = some z → W p l e rm_am_owesRent s m args below meth c H locs 0 0 (MQ below (gw_Qi X (fun M => (gw_E X M Y)) z) args s 0 0 (gw_A X)) (F0 m 2 ls [])) (hK19 : ∀ (M : gw_M) (a0 : Nat) (v1 : Int32) (a2 : Nat) (v3 : Int32) (H : Heap) (locs : List Loc) (ls : Array Slot), gc_k a0 = (2, 0) → gc_k a2 = (4, 0) → gw_G X (gw_E X M Y) s H locs → lv_has ls 6 [(0, .ref (gc_a X a0)), (1, .int v1), (2, .ref (gc_a X a2)), (3, .int v3)] → K19 M a0 v1 a2 v3 = some z → W p l e rm_am_owesRent s m args below meth c H locs 0 0 (MQ below (gw_Qi X (fun M => (gw_E X M Y)) z) args s 0 0 (gw_A X)) (F0 m 19 ls [])) (M : gw_M) (a0 : Nat) (v1 : Int32) (a2 : Nat) (v3 : Int32) (H : Heap) (locs : List Loc) (ls : Array Slot) (ha0 : gc_k a0 = (2, 0)) (ha2 : gc_k a2 = (4, 0)) (G : gw_G X (gw_E X M Y) s H locs) (hl : lv_has ls 6 [(0, .ref (gc_a X a0)), (1, .int v1), (2, .ref (gc_a X a2)), (3, .int v3)]) (hF : am_owesRent_b100 K2 K19 M a0 v1 a2 v3 = some z) : W p l e rm_am_owesRent s m args below meth c H locs 0 0 (MQ below (gw_Qi X (fun M => (gw_E X M Y)) z) args s 0 0 (gw_A X)) (F0 m 100 ls []) := by
  obtain ⟨hx, hb, hml, hown, hts, hr, hlocks, hK⟩ := id C0
  have hg : ∀ w ∈ gw_w, w.before args s = true := fun w h => hts w (List.mem_cons_of_mem _ h)
  unfold am_owesRent_b100 at hF
  refine lv_iinc (k := 3) (v := v3 + (1 : Int32)) (lv' := [(3, .int (v3 + (1 : Int32))), (0, .ref (gc_a X a0)), (1, .int v1), (2, .ref (gc_a X a2))]) hx hb dd_am_owesRent_100 hl rfl rfl (by decide) rfl (fun ls hl => ?_)
  refine lv_goto (tgt := 19) hx hb dd_am_owesRent_103 (by decide) ?_
  exact hK19 M a0 v1 a2 (v3 + (1 : Int32)) _ _ _ ha0 ha2 G (lv_sub hl [1, 2, 3, 0] rfl) hF
set_option maxRecDepth 100000 in
set_option maxHeartbeats 4000000 in
theorem wb_am_owesRent_80 {p : Program} {l : Launch} {e : Env} {s : State} {m : MethodId} {args : Array Value} {below : List Frame} {meth : Method} {c : Code} {X : gw_X} {Y : gw_M} {z : (Int32 × gw_M)} (C0 : gw_C ((Cond.code yy_am_owesRent by_am_owesRent 6 (some .boolean)) :: gw_w) by_am_owesRent 6 (some .boolean) "AccountMachine" X p s m args meth c) {K2 : gw_M → Nat → Int32 → Option (Int32 × gw_M)} {K19 : gw_M → Nat → Int32 → Nat → Int32 → Option (Int32 × gw_M)} (hK2 : ∀ (M : gw_M) (a0 : Nat) (v1 : Int32) (H : Heap) (locs : List Loc) (ls : Array Slot), gc_k a0 = (2, 0) → gw_G X (gw_E X M Y) s H locs → lv_has ls 6 [(0, .ref (gc_a X a0)), (1, .int v1)] → K2 M a0 v1 = some z → W p l e rm_am_owesRent s m args below meth c H locs 0 0 (MQ below (gw_Qi X (fun M => (gw_E X M Y)) z) args s 0 0 (gw_A X)) (F0 m 2 ls [])) (hK19 : ∀ (M : gw_M) (a0 : Nat) (v1 : Int32) (a2 : Nat) (v3 : Int32) (H : Heap) (locs : List Loc) (ls : Array Slot), gc_k a0 = (2, 0) → gc_k a2 = (4, 0) → gw_G X (gw_E X M Y) s H locs → lv_has ls 6 [(0, .ref (gc_a X a0)), (1, .int v1), (2, .ref (gc_a X a2)), (3, .int v3)] → K19 M a0 v1 a2 v3 = some z → W p l e rm_am_owesRent s m args below meth c H locs 0 0 (MQ below (gw_Qi X (fun M => (gw_E X M Y)) z) args s 0 0 (gw_A X)) (F0 m 19 ls [])) (M : gw_M) (a0 : Nat) (v1 : Int32) (a2 : Nat) (v3 : Int32) (t0 : Int32) (H : Heap) (locs : List Loc) (ls : Array Slot) (ha0 : gc_k a0 = (2, 0)) (ha2 : gc_k a2 = (4, 0)) (G : gw_G X (gw_E X M Y) s H locs) (hl : lv_has ls 6 [(0, .ref (gc_a X a0)), (1, .int v1), (2, .ref (gc_a X a2)), (3, .int v3)]) (hF : am_owesRent_b80 K2 K19 M a0 v1 a2 v3 t0 = some z) : W p l e rm_am_owesRent s m args below meth c H locs 0 0 (MQ below (gw_Qi X (fun M => (gw_E X M Y)) z) args s 0 0 (gw_A X)) (F0 m 80 ls [.int t0]) := by
  obtain ⟨hx, hb, hml, hown, hts, hr, hlocks, hK⟩ := id C0
  have hg : ∀ w ∈ gw_w, w.before args s = true := fun w h => hts w (List.mem_cons_of_mem _ h)
  unfold am_owesRent_b80 at hF
  refine lv_istore (i := 5) (lv' := [(5, .int t0), (0, .ref (gc_a X a0)), (1, .int v1), (2, .ref (gc_a X a2)), (3, .int v3)]) hx hb dd_am_owesRent_80 hl (by decide) rfl (fun ls hl => ?_)
  refine lv_iload hx hb dd_am_owesRent_82 (lv_at hl 0 rfl) ?_
  refine lv_if_eq (tgt := 100) hx hb dd_am_owesRent_84 (by decide) (fun h84 => ?_) (fun h84 => ?_)
  · replace hF := gw_et h84 hF
    exact wb_am_owesRent_100 C0 hK2 hK19 M a0 v1 a2 v3 _ _ _ ha0 ha2 G (lv_sub hl [1, 2, 3, 4] rfl) hF
  · replace hF := gw_ef h84 hF
    refine lv_aload_n hx hb dd_am_owesRent_87 rfl (lv_at hl 3 rfl) ?_
    refine gn_od_marks hx hb hg hown (gw_nw hK kn_46) hK G ha2 dd_am_owesRent_88 ?_
    refine lv_iload_n hx hb dd_am_owesRent_91 rfl (lv_at hl 4 rfl) ?_
    obtain ⟨h92, hF⟩ := gw_gd hF
    refine gc_iald hx hb hK G (gq_od_marks ha2) (gw_vp h92) (j := v3.toNatClampNeg) rfl dd_am_owesRent_92 ?_
    refine lv_iconst (v := (2 : Int32)) hx hb dd_am_owesRent_93 (by decide) ?_
    refine lv_iand hx hb dd_am_owesRent_94 ?_
    refine lv_if_eq (tgt := 100) hx hb dd_am_owesRent_95 (by decide) (fun h95 => ?_) (fun h95 => ?_)
    · replace hF := gw_et h95 hF
      exact wb_am_owesRent_100 C0 hK2 hK19 M a0 v1 a2 v3 _ _ _ ha0 ha2 G (lv_sub hl [1, 2, 3, 4] rfl) hF
    · replace hF := gw_ef h95 hF
      refine lv_iconst (v := (1 : Int32)) hx hb dd_am_owesRent_98 (by decide) ?_
      exact W.zret hx hb hr (by decide) (fun t ht hW => gw_endi (EF := (fun M => (gw_E X M Y))) (M := M) G ht hF) G.2.2.2.2 dd_am_owesRent_99 hlocks
set_option maxRecDepth 100000 in
set_option maxHeartbeats 4000000 in
theorem wb_am_owesRent_79 {p : Program} {l : Launch} {e : Env} {s : State} {m : MethodId} {args : Array Value} {below : List Frame} {meth : Method} {c : Code} {X : gw_X} {Y : gw_M} {z : (Int32 × gw_M)} (C0 : gw_C ((Cond.code yy_am_owesRent by_am_owesRent 6 (some .boolean)) :: gw_w) by_am_owesRent 6 (some .boolean) "AccountMachine" X p s m args meth c) {K2 : gw_M → Nat → Int32 → Option (Int32 × gw_M)} {K19 : gw_M → Nat → Int32 → Nat → Int32 → Option (Int32 × gw_M)} (hK2 : ∀ (M : gw_M) (a0 : Nat) (v1 : Int32) (H : Heap) (locs : List Loc) (ls : Array Slot), gc_k a0 = (2, 0) → gw_G X (gw_E X M Y) s H locs → lv_has ls 6 [(0, .ref (gc_a X a0)), (1, .int v1)] → K2 M a0 v1 = some z → W p l e rm_am_owesRent s m args below meth c H locs 0 0 (MQ below (gw_Qi X (fun M => (gw_E X M Y)) z) args s 0 0 (gw_A X)) (F0 m 2 ls [])) (hK19 : ∀ (M : gw_M) (a0 : Nat) (v1 : Int32) (a2 : Nat) (v3 : Int32) (H : Heap) (locs : List Loc) (ls : Array Slot), gc_k a0 = (2, 0) → gc_k a2 = (4, 0) → gw_G X (gw_E X M Y) s H locs → lv_has ls 6 [(0, .ref (gc_a X a0)), (1, .int v1), (2, .ref (gc_a X a2)), (3, .int v3)] → K19 M a0 v1 a2 v3 = some z → W p l e rm_am_owesRent s m args below meth c H locs 0 0 (MQ below (gw_Qi X (fun M => (gw_E X M Y)) z) args s 0 0 (gw_A X)) (F0 m 19 ls [])) (M : gw_M) (a0 : Nat) (v1 : Int32) (a2 : Nat) (v3 : Int32) (H : Heap) (locs : List Loc) (ls : Array Slot) (ha0 : gc_k a0 = (2, 0)) (ha2 : gc_k a2 = (4, 0)) (G : gw_G X (gw_E X M Y) s H locs) (hl : lv_has ls 6 [(0, .ref (gc_a X a0)), (1, .int v1), (2, .ref (gc_a X a2)), (3, .int v3)]) (hF : am_owesRent_b79 K2 K19 M a0 v1 a2 v3 = some z) : W p l e rm_am_owesRent s m args below meth c H locs 0 0 (MQ below (gw_Qi X (fun M => (gw_E X M Y)) z) args s 0 0 (gw_A X)) (F0 m 79 ls []) := by
  obtain ⟨hx, hb, hml, hown, hts, hr, hlocks, hK⟩ := id C0
  have hg : ∀ w ∈ gw_w, w.before args s = true := fun w h => hts w (List.mem_cons_of_mem _ h)
  unfold am_owesRent_b79 at hF
  refine lv_iconst (v := (0 : Int32)) hx hb dd_am_owesRent_79 (by decide) ?_
  exact wb_am_owesRent_80 C0 hK2 hK19 M a0 v1 a2 v3 (0 : Int32) _ _ _ ha0 ha2 G (lv_sub hl [0, 1, 2, 3] rfl) hF
set_option maxRecDepth 100000 in
set_option maxHeartbeats 4000000 in
theorem wb_am_owesRent_19 {p : Program} {l : Launch} {e : Env} {s : State} {m : MethodId} {args : Array Value} {below : List Frame} {meth : Method} {c : Code} {X : gw_X} {Y : gw_M} {z : (Int32 × gw_M)} (C0 : gw_C ((Cond.code yy_am_owesRent by_am_owesRent 6 (some .boolean)) :: gw_w) by_am_owesRent 6 (some .boolean) "AccountMachine" X p s m args meth c) {K2 : gw_M → Nat → Int32 → Option (Int32 × gw_M)} {K19 : gw_M → Nat → Int32 → Nat → Int32 → Option (Int32 × gw_M)} (hK2 : ∀ (M : gw_M) (a0 : Nat) (v1 : Int32) (H : Heap) (locs : List Loc) (ls : Array Slot), gc_k a0 = (2, 0) → gw_G X (gw_E X M Y) s H locs → lv_has ls 6 [(0, .ref (gc_a X a0)), (1, .int v1)] → K2 M a0 v1 = some z → W p l e rm_am_owesRent s m args below meth c H locs 0 0 (MQ below (gw_Qi X (fun M => (gw_E X M Y)) z) args s 0 0 (gw_A X)) (F0 m 2 ls [])) (hK19 : ∀ (M : gw_M) (a0 : Nat) (v1 : Int32) (a2 : Nat) (v3 : Int32) (H : Heap) (locs : List Loc) (ls : Array Slot), gc_k a0 = (2, 0) → gc_k a2 = (4, 0) → gw_G X (gw_E X M Y) s H locs → lv_has ls 6 [(0, .ref (gc_a X a0)), (1, .int v1), (2, .ref (gc_a X a2)), (3, .int v3)] → K19 M a0 v1 a2 v3 = some z → W p l e rm_am_owesRent s m args below meth c H locs 0 0 (MQ below (gw_Qi X (fun M => (gw_E X M Y)) z) args s 0 0 (gw_A X)) (F0 m 19 ls [])) (M : gw_M) (a0 : Nat) (v1 : Int32) (a2 : Nat) (v3 : Int32) (H : Heap) (locs : List Loc) (ls : Array Slot) (ha0 : gc_k a0 = (2, 0)) (ha2 : gc_k a2 = (4, 0)) (G : gw_G X (gw_E X M Y) s H locs) (hl : lv_has ls 6 [(0, .ref (gc_a X a0)), (1, .int v1), (2, .ref (gc_a X a2)), (3, .int v3)]) (hF : am_owesRent_b19 K2 K19 M a0 v1 a2 v3 = some z) : W p l e rm_am_owesRent s m args below meth c H locs 0 0 (MQ below (gw_Qi X (fun M => (gw_E X M Y)) z) args s 0 0 (gw_A X)) (F0 m 19 ls []) := by
  obtain ⟨hx, hb, hml, hown, hts, hr, hlocks, hK⟩ := id C0
  have hg : ∀ w ∈ gw_w, w.before args s = true := fun w h => hts w (List.mem_cons_of_mem _ h)
  unfold am_owesRent_b19 at hF
  refine lv_iload_n hx hb dd_am_owesRent_19 rfl (lv_at hl 3 rfl) ?_
  refine lv_aload_n hx hb dd_am_owesRent_20 rfl (lv_at hl 2 rfl) ?_
  refine gn_od_count hx hb hg hown (gw_nw hK kn_23) hK G ha2 dd_am_owesRent_21 ?_
  refine lv_icmp_ge (tgt := 106) hx hb dd_am_owesRent_24 (by decide) (fun h24 => ?_) (fun h24 => ?_)
  · replace hF := gw_et h24 hF
    refine lv_iinc (k := 1) (v := v1 + (1 : Int32)) (lv' := [(1, .int (v1 + (1 : Int32))), (0, .ref (gc_a X a0)), (2, .ref (gc_a X a2)), (3, .int v3)]) hx hb dd_am_owesRent_106 hl rfl rfl (by decide) rfl (fun ls hl => ?_)
    refine lv_goto (tgt := 2) hx hb dd_am_owesRent_109 (by decide) ?_
    exact hK2 M a0 (v1 + (1 : Int32)) _ _ _ ha0 G (lv_sub hl [1, 0] rfl) hF
  · replace hF := gw_ef h24 hF
    refine lv_aload_n hx hb dd_am_owesRent_27 rfl (lv_at hl 2 rfl) ?_
    refine gn_od_accounts hx hb hg hown (gw_nw hK kn_24) hK G ha2 dd_am_owesRent_28 ?_
    refine lv_iload_n hx hb dd_am_owesRent_31 rfl (lv_at hl 3 rfl) ?_
    obtain ⟨h32, hF⟩ := gw_gd hF
    refine gc_iald hx hb hK G (gq_od_accounts ha2) (gw_vp h32) (j := v3.toNatClampNeg) rfl dd_am_owesRent_32 ?_
    refine lv_topi (fun x33 e33 => ?_)
    replace hF := gw_ly e33 hF
    refine lv_istore (i := 4) (lv' := [(4, .int x33), (0, .ref (gc_a X a0)), (1, .int v1), (2, .ref (gc_a X a2)), (3, .int v3)]) hx hb dd_am_owesRent_33 hl (by decide) rfl (fun ls hl => ?_)
    refine lv_aload_n hx hb dd_am_owesRent_35 rfl (lv_at hl 1 rfl) ?_
    refine gf_am_ledger hx hb hg hown (hg _ kw_124) hK G ha0 dd_am_owesRent_36 ?_
    refine gn_le_balances hx hb hg hown (gw_nw hK kn_27) hK G (gq_am_ledger ha0) dd_am_owesRent_39 ?_
    refine lv_iload hx hb dd_am_owesRent_42 (lv_at hl 0 rfl) ?_
    refine W.eq (g2 := F0 m 44 _ _) rfl ?_
    obtain ⟨h44, hF⟩ := gw_gd hF
    refine gc_iald hx hb hK G (gq_le_balances (gq_am_ledger ha0)) (gw_vp h44) (j := x33.toNatClampNeg) rfl dd_am_owesRent_44 ?_
    refine lv_if_eq (tgt := 79) hx hb dd_am_owesRent_45 (by decide) (fun h45 => ?_) (fun h45 => ?_)
    · replace hF := gw_et h45 hF
      exact wb_am_owesRent_79 C0 hK2 hK19 M a0 v1 a2 v3 _ _ _ ha0 ha2 G (lv_sub hl [1, 2, 3, 4] rfl) hF
    · replace hF := gw_ef h45 hF
      refine lv_aload_n hx hb dd_am_owesRent_48 rfl (lv_at hl 1 rfl) ?_
      refine gf_am_ledger hx hb hg hown (hg _ kw_124) hK G ha0 dd_am_owesRent_49 ?_
      refine gn_le_balances hx hb hg hown (gw_nw hK kn_27) hK G (gq_am_ledger ha0) dd_am_owesRent_52 ?_
      refine lv_iload hx hb dd_am_owesRent_55 (lv_at hl 0 rfl) ?_
      obtain ⟨h57, hF⟩ := gw_gd hF
      refine gc_iald hx hb hK G (gq_le_balances (gq_am_ledger ha0)) (gw_vp h57) (j := x33.toNatClampNeg) rfl dd_am_owesRent_57 ?_
      refine lv_iconst (v := (5 : Int32)) hx hb dd_am_owesRent_58 (by decide) ?_
      refine lv_iconst (v := (2 : Int32)) hx hb dd_am_owesRent_59 (by decide) ?_
      refine lv_aload_n hx hb dd_am_owesRent_60 rfl (lv_at hl 1 rfl) ?_
      refine gf_am_ledger hx hb hg hown (hg _ kw_124) hK G ha0 dd_am_owesRent_61 ?_
      refine W.eq (g2 := F0 m 64 _ _) rfl ?_
      refine gn_le_sizes hx hb hg hown (gw_nw hK kn_29) hK G (gq_am_ledger ha0) dd_am_owesRent_64 ?_
      refine lv_iload hx hb dd_am_owesRent_67 (lv_at hl 0 rfl) ?_
      obtain ⟨h69, hF⟩ := gw_gd hF
      refine gc_iald hx hb hK G (gq_le_sizes (gq_am_ledger ha0)) (gw_vp h69) (j := x33.toNatClampNeg) rfl dd_am_owesRent_69 ?_
      refine lv_imul hx hb dd_am_owesRent_70 ?_
      refine lv_iadd hx hb dd_am_owesRent_71 ?_
      refine lv_icmp_ge (tgt := 79) hx hb dd_am_owesRent_72 (by decide) (fun h72 => ?_) (fun h72 => ?_)
      · replace hF := gw_et h72 hF
        exact wb_am_owesRent_79 C0 hK2 hK19 M a0 v1 a2 v3 _ _ _ ha0 ha2 G (lv_sub hl [1, 2, 3, 4] rfl) hF
      · replace hF := gw_ef h72 hF
        refine lv_iconst (v := (1 : Int32)) hx hb dd_am_owesRent_75 (by decide) ?_
        refine lv_goto (tgt := 80) hx hb dd_am_owesRent_76 (by decide) ?_
        exact wb_am_owesRent_80 C0 hK2 hK19 M a0 v1 a2 v3 (1 : Int32) _ _ _ ha0 ha2 G (lv_sub hl [1, 2, 3, 4] rfl) hF
theorem wl_am_owesRent_19 {p : Program} {l : Launch} {e : Env} {s : State} {m : MethodId} {args : Array Value} {below : List Frame} {meth : Method} {c : Code} {X : gw_X} {Y : gw_M} {z : (Int32 × gw_M)} (C0 : gw_C ((Cond.code yy_am_owesRent by_am_owesRent 6 (some .boolean)) :: gw_w) by_am_owesRent 6 (some .boolean) "AccountMachine" X p s m args meth c) {K2 : gw_M → Nat → Int32 → Option (Int32 × gw_M)} (hK2 : ∀ (M : gw_M) (a0 : Nat) (v1 : Int32) (H : Heap) (locs : List Loc) (ls : Array Slot), gc_k a0 = (2, 0) → gw_G X (gw_E X M Y) s H locs → lv_has ls 6 [(0, .ref (gc_a X a0)), (1, .int v1)] → K2 M a0 v1 = some z → W p l e rm_am_owesRent s m args below meth c H locs 0 0 (MQ below (gw_Qi X (fun M => (gw_E X M Y)) z) args s 0 0 (gw_A X)) (F0 m 2 ls [])) : ∀ n : Nat, ∀ (M : gw_M) (a0 : Nat) (v1 : Int32) (a2 : Nat) (v3 : Int32) (H : Heap) (locs : List Loc) (ls : Array Slot), gc_k a0 = (2, 0) → gc_k a2 = (4, 0) → gw_G X (gw_E X M Y) s H locs → lv_has ls 6 [(0, .ref (gc_a X a0)), (1, .int v1), (2, .ref (gc_a X a2)), (3, .int v3)] → am_owesRent_l19 K2 n M a0 v1 a2 v3 = some z → W p l e rm_am_owesRent s m args below meth c H locs 0 0 (MQ below (gw_Qi X (fun M => (gw_E X M Y)) z) args s 0 0 (gw_A X)) (F0 m 19 ls []) := by
  intro n
  induction n with
  | zero =>
    intro M a0 v1 a2 v3 H locs ls ha0 ha2 G hl hF
    have hF : (none : Option (Int32 × gw_M)) = some z := hF
    cases hF
  | succ n ih =>
    intro M a0 v1 a2 v3 H locs ls ha0 ha2 G hl hF
    exact wb_am_owesRent_19 C0 hK2 ih M a0 v1 a2 v3 H locs ls ha0 ha2 G hl hF
set_option maxRecDepth 100000 in
set_option maxHeartbeats 4000000 in
theorem wb_am_owesRent_2 {p : Program} {l : Launch} {e : Env} {s : State} {m : MethodId} {args : Array Value} {below : List Frame} {meth : Method} {c : Code} {X : gw_X} {Y : gw_M} {z : (Int32 × gw_M)} (C0 : gw_C ((Cond.code yy_am_owesRent by_am_owesRent 6 (some .boolean)) :: gw_w) by_am_owesRent 6 (some .boolean) "AccountMachine" X p s m args meth c) {K2 : gw_M → Nat → Int32 → Option (Int32 × gw_M)} (hK2 : ∀ (M : gw_M) (a0 : Nat) (v1 : Int32) (H : Heap) (locs : List Loc) (ls : Array Slot), gc_k a0 = (2, 0) → gw_G X (gw_E X M Y) s H locs → lv_has ls 6 [(0, .ref (gc_a X a0)), (1, .int v1)] → K2 M a0 v1 = some z → W p l e rm_am_owesRent s m args below meth c H locs 0 0 (MQ below (gw_Qi X (fun M => (gw_E X M Y)) z) args s 0 0 (gw_A X)) (F0 m 2 ls [])) (M : gw_M) (a0 : Nat) (v1 : Int32) (H : Heap) (locs : List Loc) (ls : Array Slot) (ha0 : gc_k a0 = (2, 0)) (G : gw_G X (gw_E X M Y) s H locs) (hl : lv_has ls 6 [(0, .ref (gc_a X a0)), (1, .int v1)]) (hF : am_owesRent_b2 K2 M a0 v1 = some z) : W p l e rm_am_owesRent s m args below meth c H locs 0 0 (MQ below (gw_Qi X (fun M => (gw_E X M Y)) z) args s 0 0 (gw_A X)) (F0 m 2 ls []) := by
  obtain ⟨hx, hb, hml, hown, hts, hr, hlocks, hK⟩ := id C0
  have hg : ∀ w ∈ gw_w, w.before args s = true := fun w h => hts w (List.mem_cons_of_mem _ h)
  unfold am_owesRent_b2 at hF
  refine lv_iload_n hx hb dd_am_owesRent_2 rfl (lv_at hl 1 rfl) ?_
  refine lv_aload_n hx hb dd_am_owesRent_3 rfl (lv_at hl 0 rfl) ?_
  refine gf_am_orderCount hx hb hg hown (hg _ kw_118) hK G ha0 dd_am_owesRent_4 ?_
  refine lv_icmp_ge (tgt := 112) hx hb dd_am_owesRent_7 (by decide) (fun h7 => ?_) (fun h7 => ?_)
  · replace hF := gw_et h7 hF
    refine lv_iconst (v := (0 : Int32)) hx hb dd_am_owesRent_112 (by decide) ?_
    exact W.zret hx hb hr (by decide) (fun t ht hW => gw_endi (EF := (fun M => (gw_E X M Y))) (M := M) G ht hF) G.2.2.2.2 dd_am_owesRent_113 hlocks
  · replace hF := gw_ef h7 hF
    refine lv_aload_n hx hb dd_am_owesRent_10 rfl (lv_at hl 0 rfl) ?_
    refine gf_am_orders hx hb hg hown (hg _ kw_119) hK G ha0 dd_am_owesRent_11 ?_
    refine lv_iload_n hx hb dd_am_owesRent_14 rfl (lv_at hl 1 rfl) ?_
    obtain ⟨h15, hF⟩ := gw_gd hF
    refine gc_aald8 hx hb hK G (gq_am_orders ha0) (gw_vp h15) (j := v1.toNatClampNeg) rfl dd_am_owesRent_15 ?_
    refine gw_topa (gq_arr8 (gq_am_orders ha0) (gw_vj (gw_vp h15) rfl)) (fun x16 e16 hx16 => ?_)
    replace hF := gw_ly e16 hF
    refine lv_astore_n (i := 2) (lv' := [(2, .ref (gc_a X x16)), (0, .ref (gc_a X a0)), (1, .int v1)]) hx hb dd_am_owesRent_16 rfl hl (by decide) rfl (fun ls hl => ?_)
    refine lv_iconst (v := (0 : Int32)) hx hb dd_am_owesRent_17 (by decide) ?_
    refine lv_istore_n (i := 3) (lv' := [(3, .int (0 : Int32)), (2, .ref (gc_a X x16)), (0, .ref (gc_a X a0)), (1, .int v1)]) hx hb dd_am_owesRent_18 rfl hl (by decide) rfl (fun ls hl => ?_)
    exact wl_am_owesRent_19 C0 hK2 2100 M a0 v1 x16 (0 : Int32) _ _ _ ha0 hx16 G (lv_sub hl [2, 3, 1, 0] rfl) hF
theorem wl_am_owesRent_2 {p : Program} {l : Launch} {e : Env} {s : State} {m : MethodId} {args : Array Value} {below : List Frame} {meth : Method} {c : Code} {X : gw_X} {Y : gw_M} {z : (Int32 × gw_M)} (C0 : gw_C ((Cond.code yy_am_owesRent by_am_owesRent 6 (some .boolean)) :: gw_w) by_am_owesRent 6 (some .boolean) "AccountMachine" X p s m args meth c) : ∀ n : Nat, ∀ (M : gw_M) (a0 : Nat) (v1 : Int32) (H : Heap) (locs : List Loc) (ls : Array Slot), gc_k a0 = (2, 0) → gw_G X (gw_E X M Y) s H locs → lv_has ls 6 [(0, .ref (gc_a X a0)), (1, .int v1)] → am_owesRent_l2  n M a0 v1 = some z → W p l e rm_am_owesRent s m args below meth c H locs 0 0 (MQ below (gw_Qi X (fun M => (gw_E X M Y)) z) args s 0 0 (gw_A X)) (F0 m 2 ls []) := by
  intro n
  induction n with
  | zero =>
    intro M a0 v1 H locs ls ha0 G hl hF
    have hF : (none : Option (Int32 × gw_M)) = some z := hF
    cases hF
  | succ n ih =>
    intro M a0 v1 H locs ls ha0 G hl hF
    exact wb_am_owesRent_2 C0  ih M a0 v1 H locs ls ha0 G hl hF
set_option maxRecDepth 100000 in
set_option maxHeartbeats 4000000 in
theorem wb_am_owesRent_0 {p : Program} {l : Launch} {e : Env} {s : State} {m : MethodId} {args : Array Value} {below : List Frame} {meth : Method} {c : Code} {X : gw_X} {Y : gw_M} {z : (Int32 × gw_M)} (C0 : gw_C ((Cond.code yy_am_owesRent by_am_owesRent 6 (some .boolean)) :: gw_w) by_am_owesRent 6 (some .boolean) "AccountMachine" X p s m args meth c) (M : gw_M) (a0 : Nat) (H : Heap) (locs : List Loc) (ls : Array Slot) (ha0 : gc_k a0 = (2, 0)) (G : gw_G X (gw_E X M Y) s H locs) (hl : lv_has ls 6 [(0, .ref (gc_a X a0))]) (hF : am_owesRent_b0  M a0 = some z) : W p l e rm_am_owesRent s m args below meth c H locs 0 0 (MQ below (gw_Qi X (fun M => (gw_E X M Y)) z) args s 0 0 (gw_A X)) (F0 m 0 ls []) := by
  obtain ⟨hx, hb, hml, hown, hts, hr, hlocks, hK⟩ := id C0
  have hg : ∀ w ∈ gw_w, w.before args s = true := fun w h => hts w (List.mem_cons_of_mem _ h)
  unfold am_owesRent_b0 at hF
  refine lv_iconst (v := (0 : Int32)) hx hb dd_am_owesRent_0 (by decide) ?_
  refine lv_istore_n (i := 1) (lv' := [(1, .int (0 : Int32)), (0, .ref (gc_a X a0))]) hx hb dd_am_owesRent_1 rfl hl (by decide) rfl (fun ls hl => ?_)
  exact wl_am_owesRent_2 C0  2100 M a0 (0 : Int32) _ _ _ ha0 G (lv_sub hl [1, 0] rfl) hF
set_option maxRecDepth 100000 in
set_option maxHeartbeats 4000000 in
theorem ct_am_owesRent (l : Launch) (X : gw_X) (Y : gw_M) (M : gw_M) (a0 : Nat) (ha0 : gc_k a0 = (2, 0)) (z : (Int32 × gw_M)) (hF : am_owesRent_b0 M a0 = some z) : Met l yy_am_owesRent ((Cond.code yy_am_owesRent by_am_owesRent 6 (some .boolean)) :: gw_w) rm_am_owesRent (va_Pc [.ref (gc_a X a0)] (gw_B X (gw_E X M Y))) (gw_Qi X (fun M => (gw_E X M Y)) z) 0 0 (gw_A X) := by
  refine Met.ofW (cc := by_am_owesRent) (maxL := 6) (ret := (some .boolean)) (by decide) rfl ?_
  intro p e s m args below meth c s₁ B hml hv
  obtain ⟨rfl, hB⟩ := hv
  rw [lg_entry_eq]
  have hl := lv_entry ([.ref (gc_a X a0)]) (n := 6) (Nat.le_of_ble_eq_true rfl)
  generalize (lg_sl ([.ref (gc_a X a0)]) ++ List.replicate (6 - (lg_sl ([.ref (gc_a X a0)])).length) Slot.unset).toArray = ls at hl ⊢
  have hl : lv_has ls 6 [(0, .ref (gc_a X a0))] := hl
  exact wb_am_owesRent_0 (gw_ctx B hml rfl hB) M a0 _ _ _ ha0 (gw_start hB) hl hF
/-! AccountMachine.run(I)I -/
abbrev rm_am_run : Room := { frames := 7, cells := 0, slots := 0, locals := 172 }
theorem dd_am_run_0 : decode by_am_run 0 = .ok (.aload_n 0, 1) := by decide +kernel
theorem dd_am_run_1 : decode by_am_run 1 = .ok (.getfield 31, 3) := by decide +kernel
theorem dd_am_run_4 : decode by_am_run 4 = .ok (.ifCond .eq 14, 3) := by decide +kernel
theorem dd_am_run_7 : decode by_am_run 7 = .ok (.iload_n 1, 1) := by decide +kernel
theorem dd_am_run_8 : decode by_am_run 8 = .ok (.ifCond .lt 10, 3) := by decide +kernel
theorem dd_am_run_11 : decode by_am_run 11 = .ok (.iload_n 1, 1) := by decide +kernel
theorem dd_am_run_12 : decode by_am_run 12 = .ok (.sipush 2000, 3) := by decide +kernel
theorem dd_am_run_15 : decode by_am_run 15 = .ok (.if_icmp .le 5, 3) := by decide +kernel
theorem dd_am_run_18 : decode by_am_run 18 = .ok (.iconst (-1), 1) := by decide +kernel
theorem dd_am_run_19 : decode by_am_run 19 = .ok (.ireturn, 1) := by decide +kernel
theorem dd_am_run_20 : decode by_am_run 20 = .ok (.aload_n 0, 1) := by decide +kernel
theorem dd_am_run_21 : decode by_am_run 21 = .ok (.iload_n 1, 1) := by decide +kernel
theorem dd_am_run_22 : decode by_am_run 22 = .ok (.putfield 44, 3) := by decide +kernel
theorem dd_am_run_25 : decode by_am_run 25 = .ok (.aload_n 0, 1) := by decide +kernel
theorem dd_am_run_26 : decode by_am_run 26 = .ok (.iconst 0, 1) := by decide +kernel
theorem dd_am_run_27 : decode by_am_run 27 = .ok (.putfield 51, 3) := by decide +kernel
theorem dd_am_run_30 : decode by_am_run 30 = .ok (.aload_n 0, 1) := by decide +kernel
theorem dd_am_run_31 : decode by_am_run 31 = .ok (.lconst 0, 1) := by decide +kernel
theorem dd_am_run_32 : decode by_am_run 32 = .ok (.putfield 54, 3) := by decide +kernel
theorem dd_am_run_35 : decode by_am_run 35 = .ok (.aload_n 0, 1) := by decide +kernel
theorem dd_am_run_36 : decode by_am_run 36 = .ok (.getfield 22, 3) := by decide +kernel
theorem dd_am_run_39 : decode by_am_run 39 = .ok (.aload_n 0, 1) := by decide +kernel
theorem dd_am_run_40 : decode by_am_run 40 = .ok (.getfield 18, 3) := by decide +kernel
theorem dd_am_run_43 : decode by_am_run 43 = .ok (.invokevirtual 90, 3) := by decide +kernel
theorem dd_am_run_46 : decode by_am_run 46 = .ok (.iconst 0, 1) := by decide +kernel
theorem dd_am_run_47 : decode by_am_run 47 = .ok (.istore_n 2, 1) := by decide +kernel
theorem dd_am_run_48 : decode by_am_run 48 = .ok (.iconst 0, 1) := by decide +kernel
theorem dd_am_run_49 : decode by_am_run 49 = .ok (.istore_n 3, 1) := by decide +kernel
theorem dd_am_run_50 : decode by_am_run 50 = .ok (.iload_n 3, 1) := by decide +kernel
theorem dd_am_run_51 : decode by_am_run 51 = .ok (.aload_n 0, 1) := by decide +kernel
theorem dd_am_run_52 : decode by_am_run 52 = .ok (.getfield 31, 3) := by decide +kernel
theorem dd_am_run_55 : decode by_am_run 55 = .ok (.if_icmp .ge 35, 3) := by decide +kernel
theorem dd_am_run_58 : decode by_am_run 58 = .ok (.iload_n 2, 1) := by decide +kernel
theorem dd_am_run_59 : decode by_am_run 59 = .ok (.ifCond .ne 31, 3) := by decide +kernel
theorem dd_am_run_62 : decode by_am_run 62 = .ok (.aload_n 0, 1) := by decide +kernel
theorem dd_am_run_63 : decode by_am_run 63 = .ok (.aload_n 0, 1) := by decide +kernel
theorem dd_am_run_64 : decode by_am_run 64 = .ok (.getfield 27, 3) := by decide +kernel
theorem dd_am_run_67 : decode by_am_run 67 = .ok (.iload_n 3, 1) := by decide +kernel
theorem dd_am_run_68 : decode by_am_run 68 = .ok (.aaload, 1) := by decide +kernel
theorem dd_am_run_69 : decode by_am_run 69 = .ok (.invokevirtual 94, 3) := by decide +kernel
theorem dd_am_run_72 : decode by_am_run 72 = .ok (.istore_n 2, 1) := by decide +kernel
theorem dd_am_run_73 : decode by_am_run 73 = .ok (.iload_n 2, 1) := by decide +kernel
theorem dd_am_run_74 : decode by_am_run 74 = .ok (.ifCond .eq 10, 3) := by decide +kernel
theorem dd_am_run_77 : decode by_am_run 77 = .ok (.iload_n 2, 1) := by decide +kernel
theorem dd_am_run_78 : decode by_am_run 78 = .ok (.bipush 100, 2) := by decide +kernel
theorem dd_am_run_80 : decode by_am_run 80 = .ok (.iload_n 3, 1) := by decide +kernel
theorem dd_am_run_81 : decode by_am_run 81 = .ok (.imul, 1) := by decide +kernel
theorem dd_am_run_82 : decode by_am_run 82 = .ok (.iadd, 1) := by decide +kernel
theorem dd_am_run_83 : decode by_am_run 83 = .ok (.istore_n 2, 1) := by decide +kernel
theorem dd_am_run_84 : decode by_am_run 84 = .ok (.iinc 3 1, 3) := by decide +kernel
theorem dd_am_run_87 : decode by_am_run 87 = .ok (.goto (-37), 3) := by decide +kernel
theorem dd_am_run_90 : decode by_am_run 90 = .ok (.iload_n 2, 1) := by decide +kernel
theorem dd_am_run_91 : decode by_am_run 91 = .ok (.ifCond .ne 14, 3) := by decide +kernel
theorem dd_am_run_94 : decode by_am_run 94 = .ok (.aload_n 0, 1) := by decide +kernel
theorem dd_am_run_95 : decode by_am_run 95 = .ok (.invokevirtual 98, 3) := by decide +kernel
theorem dd_am_run_98 : decode by_am_run 98 = .ok (.ifCond .eq 7, 3) := by decide +kernel
theorem dd_am_run_101 : decode by_am_run 101 = .ok (.sipush 314, 3) := by decide +kernel
theorem dd_am_run_104 : decode by_am_run 104 = .ok (.istore_n 2, 1) := by decide +kernel
theorem dd_am_run_105 : decode by_am_run 105 = .ok (.iload_n 2, 1) := by decide +kernel
theorem dd_am_run_106 : decode by_am_run 106 = .ok (.ifCond .eq 14, 3) := by decide +kernel
theorem dd_am_run_109 : decode by_am_run 109 = .ok (.aload_n 0, 1) := by decide +kernel
theorem dd_am_run_110 : decode by_am_run 110 = .ok (.getfield 18, 3) := by decide +kernel
theorem dd_am_run_113 : decode by_am_run 113 = .ok (.aload_n 0, 1) := by decide +kernel
theorem dd_am_run_114 : decode by_am_run 114 = .ok (.getfield 22, 3) := by decide +kernel
theorem dd_am_run_117 : decode by_am_run 117 = .ok (.invokevirtual 90, 3) := by decide +kernel
theorem dd_am_run_120 : decode by_am_run 120 = .ok (.aload_n 0, 1) := by decide +kernel
theorem dd_am_run_121 : decode by_am_run 121 = .ok (.iconst 0, 1) := by decide +kernel
theorem dd_am_run_122 : decode by_am_run 122 = .ok (.putfield 31, 3) := by decide +kernel
theorem dd_am_run_125 : decode by_am_run 125 = .ok (.iload_n 2, 1) := by decide +kernel
theorem dd_am_run_126 : decode by_am_run 126 = .ok (.ireturn, 1) := by decide +kernel
def am_run_b120 (M : gw_M) (a0 : Nat) (v2 : Int32) : Option (Int32 × gw_M) :=
  gw_lt (gw_sI M a0 4 (0 : Int32)) (fun M122 => some (v2, M122))
def am_run_b105 (M : gw_M) (a0 : Nat) (v2 : Int32) : Option (Int32 × gw_M) :=
  if v2 = (0 : Int32) then (am_run_b120  M a0 v2) else (gw_bd (le_copyFrom_b0 M (a0 + 2) (a0 + 7)) (fun _ M117 => am_run_b120  M117 a0 v2))
def am_run_b90 (M : gw_M) (a0 : Nat) (v2 : Int32) : Option (Int32 × gw_M) :=
  if v2 = (0 : Int32) then (gw_bd (am_owesRent_b0 M a0) (fun r95 M95 => if r95 = (0 : Int32) then (am_run_b105  M95 a0 v2) else (am_run_b105  M95 a0 (314 : Int32)))) else (am_run_b105  M a0 v2)
def am_run_b84 (K50 : gw_M → Nat → Int32 → Int32 → Option (Int32 × gw_M)) (M : gw_M) (a0 : Nat) (v2 : Int32) (v3 : Int32) : Option (Int32 × gw_M) :=
  K50 M a0 v2 (v3 + (1 : Int32))
def am_run_b50 (K50 : gw_M → Nat → Int32 → Int32 → Option (Int32 × gw_M)) (M : gw_M) (a0 : Nat) (v2 : Int32) (v3 : Int32) : Option (Int32 × gw_M) :=
  if (M.1 a0 4) ≤ v3 then (am_run_b90  M a0 v2) else (if v2 = (0 : Int32) then (gw_gu (gw_in v3 3) (gw_bd (am_carryOut_b0 M a0 ((a0 + 12) + 27 + 3 * v3.toNatClampNeg)) (fun r69 M69 => if r69 = (0 : Int32) then (am_run_b84 K50 M69 a0 r69 v3) else (gw_lt (r69 + ((100 : Int32) * v3)) (fun x83 => am_run_b84 K50 M69 a0 x83 v3))))) else (am_run_b90  M a0 v2))
def am_run_l50 : Nat → gw_M → Nat → Int32 → Int32 → Option (Int32 × gw_M)
  | 0 => fun _ _ _ _ => none
  | n + 1 => am_run_b50  (am_run_l50  n)
def am_run_b0 (M : gw_M) (a0 : Nat) (v1 : Int32) : Option (Int32 × gw_M) :=
  if (M.1 a0 4) = (0 : Int32) then (some ((-1 : Int32), M)) else (if v1 < (0 : Int32) then (some ((-1 : Int32), M)) else (if v1 ≤ (2000 : Int32) then (gw_lt (gw_sI M a0 7 v1) (fun M22 => gw_lt (gw_sI M22 a0 9 (0 : Int32)) (fun M27 => gw_lt (gw_sL M27 a0 10 (0 : Int64)) (fun M32 => gw_bd (le_copyFrom_b0 M32 (a0 + 7) (a0 + 2)) (fun _ M43 => am_run_l50  2100 M43 a0 (0 : Int32) (0 : Int32)))))) else (some ((-1 : Int32), M))))
set_option maxRecDepth 100000 in
set_option maxHeartbeats 4000000 in
theorem wb_am_run_120 {p : Program} {l : Launch} {e : Env} {s : State} {m : MethodId} {args : Array Value} {below : List Frame} {meth : Method} {c : Code} {X : gw_X} {Y : gw_M} {z : (Int32 × gw_M)} (C0 : gw_C ((Cond.code yy_am_run by_am_run 4 (some .int)) :: gw_w) by_am_run 4 (some .int) "AccountMachine" X p s m args meth c) (M : gw_M) (a0 : Nat) (v2 : Int32) (H : Heap) (locs : List Loc) (ls : Array Slot) (ha0 : gc_k a0 = (2, 0)) (G : gw_G X (gw_E X M Y) s H locs) (hl : lv_has ls 4 [(0, .ref (gc_a X a0)), (2, .int v2)]) (hF : am_run_b120  M a0 v2 = some z) : W p l e rm_am_run s m args below meth c H locs 0 0 (MQ below (gw_Qi X (fun M => (gw_E X M Y)) z) args s 0 0 (gw_A X)) (F0 m 120 ls []) := by
  obtain ⟨hx, hb, hml, hown, hts, hr, hlocks, hK⟩ := id C0
  have hg : ∀ w ∈ gw_w, w.before args s = true := fun w h => hts w (List.mem_cons_of_mem _ h)
  unfold am_run_b120 at hF
  refine lv_aload_n hx hb dd_am_run_120 rfl (lv_at hl 0 rfl) ?_
  refine lv_iconst (v := (0 : Int32)) hx hb dd_am_run_121 (by decide) ?_
  refine gp_am_orderCount hx hb hg hown (hg _ kw_118) hK G ha0 dd_am_run_122 (fun M122 H locs e122 G => ?_)
  replace hF := gw_ly e122 hF
  refine lv_iload_n hx hb dd_am_run_125 rfl (lv_at hl 1 rfl) ?_
  exact W.iret hx hb hr (fun t ht hW => gw_endi (EF := (fun M => (gw_E X M Y))) (M := M122) G ht hF) G.2.2.2.2 dd_am_run_126 hlocks
set_option maxRecDepth 100000 in
set_option maxHeartbeats 4000000 in
theorem wb_am_run_105 {p : Program} {l : Launch} {e : Env} {s : State} {m : MethodId} {args : Array Value} {below : List Frame} {meth : Method} {c : Code} {X : gw_X} {Y : gw_M} {z : (Int32 × gw_M)} (C0 : gw_C ((Cond.code yy_am_run by_am_run 4 (some .int)) :: gw_w) by_am_run 4 (some .int) "AccountMachine" X p s m args meth c) (M : gw_M) (a0 : Nat) (v2 : Int32) (H : Heap) (locs : List Loc) (ls : Array Slot) (ha0 : gc_k a0 = (2, 0)) (G : gw_G X (gw_E X M Y) s H locs) (hl : lv_has ls 4 [(0, .ref (gc_a X a0)), (2, .int v2)]) (hF : am_run_b105  M a0 v2 = some z) : W p l e rm_am_run s m args below meth c H locs 0 0 (MQ below (gw_Qi X (fun M => (gw_E X M Y)) z) args s 0 0 (gw_A X)) (F0 m 105 ls []) := by
  obtain ⟨hx, hb, hml, hown, hts, hr, hlocks, hK⟩ := id C0
  have hg : ∀ w ∈ gw_w, w.before args s = true := fun w h => hts w (List.mem_cons_of_mem _ h)
  unfold am_run_b105 at hF
  refine lv_iload_n hx hb dd_am_run_105 rfl (lv_at hl 1 rfl) ?_
  refine lv_if_eq (tgt := 120) hx hb dd_am_run_106 (by decide) (fun h106 => ?_) (fun h106 => ?_)
  · replace hF := gw_et h106 hF
    exact wb_am_run_120 C0  M a0 v2 _ _ _ ha0 G (lv_sub hl [0, 1] rfl) hF
  · replace hF := gw_ef h106 hF
    refine lv_aload_n hx hb dd_am_run_109 rfl (lv_at hl 0 rfl) ?_
    refine gf_am_ledger hx hb hg hown (hg _ kw_124) hK G ha0 dd_am_run_110 ?_
    refine lv_aload_n hx hb dd_am_run_113 rfl (lv_at hl 0 rfl) ?_
    refine gf_am_before hx hb hg hown (hg _ kw_237) hK G ha0 dd_am_run_114 ?_
    obtain ⟨u117, M117, hc117, hF⟩ := gw_be hF
    refine gw_cv G (va_runVN (As := [.ref (gc_a X (a0 + 7))]) (rest := []) ⟨hx, hb, hml, hown, hts⟩ (ct_le_copyFrom l X Y M (a0 + 2) (a0 + 7) (gq_am_ledger ha0) (gq_am_before ha0) _ hc117) ⟨va_cnB 1 hts (gw_gN kw_238) rfl rfl rfl (hK.2.1 _ kn_47) (hg _ kw_126) (by decide +kernel) ⟨Nat.le_of_ble_eq_true rfl, Nat.le_of_ble_eq_true rfl⟩, hg _ kw_239, hg _ kw_240⟩ ⟨gw_blind, gw_recv_le hK G (gq_am_ledger ha0), gw_pre hK G⟩ rfl rfl hl.1 rfl (Nat.le_of_ble_eq_true rfl) dd_am_run_117 ⟨Nat.le_of_ble_eq_true rfl, Nat.le_of_ble_eq_true rfl⟩) (fun H locs G => ?_)
    exact wb_am_run_120 C0  M117 a0 v2 _ _ _ ha0 G (lv_sub hl [0, 1] rfl) hF
set_option maxRecDepth 100000 in
set_option maxHeartbeats 4000000 in
theorem wb_am_run_90 {p : Program} {l : Launch} {e : Env} {s : State} {m : MethodId} {args : Array Value} {below : List Frame} {meth : Method} {c : Code} {X : gw_X} {Y : gw_M} {z : (Int32 × gw_M)} (C0 : gw_C ((Cond.code yy_am_run by_am_run 4 (some .int)) :: gw_w) by_am_run 4 (some .int) "AccountMachine" X p s m args meth c) (M : gw_M) (a0 : Nat) (v2 : Int32) (H : Heap) (locs : List Loc) (ls : Array Slot) (ha0 : gc_k a0 = (2, 0)) (G : gw_G X (gw_E X M Y) s H locs) (hl : lv_has ls 4 [(0, .ref (gc_a X a0)), (2, .int v2)]) (hF : am_run_b90  M a0 v2 = some z) : W p l e rm_am_run s m args below meth c H locs 0 0 (MQ below (gw_Qi X (fun M => (gw_E X M Y)) z) args s 0 0 (gw_A X)) (F0 m 90 ls []) := by
  obtain ⟨hx, hb, hml, hown, hts, hr, hlocks, hK⟩ := id C0
  have hg : ∀ w ∈ gw_w, w.before args s = true := fun w h => hts w (List.mem_cons_of_mem _ h)
  unfold am_run_b90 at hF
  refine lv_iload_n hx hb dd_am_run_90 rfl (lv_at hl 1 rfl) ?_
  refine lv_if_ne (tgt := 105) hx hb dd_am_run_91 (by decide) (fun h91 => ?_) (fun h91 => ?_)
  · replace hF := gw_ef h91 hF
    exact wb_am_run_105 C0  M a0 v2 _ _ _ ha0 G (lv_sub hl [0, 1] rfl) hF
  · replace hF := gw_et h91 hF
    refine lv_aload_n hx hb dd_am_run_94 rfl (lv_at hl 0 rfl) ?_
    obtain ⟨r95, M95, hc95, hF⟩ := gw_be hF
    refine gw_ci G (va_runV (As := []) (rest := []) ⟨hx, hb, hml, hown, hts⟩ (ct_am_owesRent l X Y M a0 ha0 _ hc95) (cwV 0 hts (gw_gV kw_242 kw_243 kw_244 kw_107 kw_241) rfl rfl rfl (by decide +kernel) ⟨Nat.le_of_ble_eq_true rfl, Nat.le_of_ble_eq_true rfl⟩) ⟨gw_blind, gw_recv_am hK G ha0, gw_pre hK G⟩ rfl rfl hl.1 rfl (Nat.le_of_ble_eq_true rfl) dd_am_run_95 ⟨Nat.le_of_ble_eq_true rfl, Nat.le_of_ble_eq_true rfl⟩) (fun H locs G => ?_)
    refine lv_if_eq (tgt := 105) hx hb dd_am_run_98 (by decide) (fun h98 => ?_) (fun h98 => ?_)
    · replace hF := gw_et h98 hF
      exact wb_am_run_105 C0  M95 a0 v2 _ _ _ ha0 G (lv_sub hl [0, 1] rfl) hF
    · replace hF := gw_ef h98 hF
      refine lv_sipush (v := (314 : Int32)) hx hb dd_am_run_101 (by decide) ?_
      refine lv_istore_n (i := 2) (lv' := [(2, .int (314 : Int32)), (0, .ref (gc_a X a0))]) hx hb dd_am_run_104 rfl hl (by decide) rfl (fun ls hl => ?_)
      exact wb_am_run_105 C0  M95 a0 (314 : Int32) _ _ _ ha0 G (lv_sub hl [1, 0] rfl) hF
set_option maxRecDepth 100000 in
set_option maxHeartbeats 4000000 in
theorem wb_am_run_84 {p : Program} {l : Launch} {e : Env} {s : State} {m : MethodId} {args : Array Value} {below : List Frame} {meth : Method} {c : Code} {X : gw_X} {Y : gw_M} {z : (Int32 × gw_M)} (C0 : gw_C ((Cond.code yy_am_run by_am_run 4 (some .int)) :: gw_w) by_am_run 4 (some .int) "AccountMachine" X p s m args meth c) {K50 : gw_M → Nat → Int32 → Int32 → Option (Int32 × gw_M)} (hK50 : ∀ (M : gw_M) (a0 : Nat) (v2 : Int32) (v3 : Int32) (H : Heap) (locs : List Loc) (ls : Array Slot), gc_k a0 = (2, 0) → gw_G X (gw_E X M Y) s H locs → lv_has ls 4 [(0, .ref (gc_a X a0)), (2, .int v2), (3, .int v3)] → K50 M a0 v2 v3 = some z → W p l e rm_am_run s m args below meth c H locs 0 0 (MQ below (gw_Qi X (fun M => (gw_E X M Y)) z) args s 0 0 (gw_A X)) (F0 m 50 ls [])) (M : gw_M) (a0 : Nat) (v2 : Int32) (v3 : Int32) (H : Heap) (locs : List Loc) (ls : Array Slot) (ha0 : gc_k a0 = (2, 0)) (G : gw_G X (gw_E X M Y) s H locs) (hl : lv_has ls 4 [(0, .ref (gc_a X a0)), (2, .int v2), (3, .int v3)]) (hF : am_run_b84 K50 M a0 v2 v3 = some z) : W p l e rm_am_run s m args below meth c H locs 0 0 (MQ below (gw_Qi X (fun M => (gw_E X M Y)) z) args s 0 0 (gw_A X)) (F0 m 84 ls []) := by
  obtain ⟨hx, hb, hml, hown, hts, hr, hlocks, hK⟩ := id C0
  have hg : ∀ w ∈ gw_w, w.before args s = true := fun w h => hts w (List.mem_cons_of_mem _ h)
  unfold am_run_b84 at hF
  refine lv_iinc (k := 2) (v := v3 + (1 : Int32)) (lv' := [(3, .int (v3 + (1 : Int32))), (0, .ref (gc_a X a0)), (2, .int v2)]) hx hb dd_am_run_84 hl rfl rfl (by decide) rfl (fun ls hl => ?_)
  refine lv_goto (tgt := 50) hx hb dd_am_run_87 (by decide) ?_
  exact hK50 M a0 v2 (v3 + (1 : Int32)) _ _ _ ha0 G (lv_sub hl [1, 2, 0] rfl) hF
set_option maxRecDepth 100000 in
set_option maxHeartbeats 4000000 in
theorem wb_am_run_50 {p : Program} {l : Launch} {e : Env} {s : State} {m : MethodId} {args : Array Value} {below : List Frame} {meth : Method} {c : Code} {X : gw_X} {Y : gw_M} {z : (Int32 × gw_M)} (C0 : gw_C ((Cond.code yy_am_run by_am_run 4 (some .int)) :: gw_w) by_am_run 4 (some .int) "AccountMachine" X p s m args meth c) {K50 : gw_M → Nat → Int32 → Int32 → Option (Int32 × gw_M)} (hK50 : ∀ (M : gw_M) (a0 : Nat) (v2 : Int32) (v3 : Int32) (H : Heap) (locs : List Loc) (ls : Array Slot), gc_k a0 = (2, 0) → gw_G X (gw_E X M Y) s H locs → lv_has ls 4 [(0, .ref (gc_a X a0)), (2, .int v2), (3, .int v3)] → K50 M a0 v2 v3 = some z → W p l e rm_am_run s m args below meth c H locs 0 0 (MQ below (gw_Qi X (fun M => (gw_E X M Y)) z) args s 0 0 (gw_A X)) (F0 m 50 ls [])) (M : gw_M) (a0 : Nat) (v2 : Int32) (v3 : Int32) (H : Heap) (locs : List Loc) (ls : Array Slot) (ha0 : gc_k a0 = (2, 0)) (G : gw_G X (gw_E X M Y) s H locs) (hl : lv_has ls 4 [(0, .ref (gc_a X a0)), (2, .int v2), (3, .int v3)]) (hF : am_run_b50 K50 M a0 v2 v3 = some z) : W p l e rm_am_run s m args below meth c H locs 0 0 (MQ below (gw_Qi X (fun M => (gw_E X M Y)) z) args s 0 0 (gw_A X)) (F0 m 50 ls []) := by
  obtain ⟨hx, hb, hml, hown, hts, hr, hlocks, hK⟩ := id C0
  have hg : ∀ w ∈ gw_w, w.before args s = true := fun w h => hts w (List.mem_cons_of_mem _ h)
  unfold am_run_b50 at hF
  refine lv_iload_n hx hb dd_am_run_50 rfl (lv_at hl 2 rfl) ?_
  refine lv_aload_n hx hb dd_am_run_51 rfl (lv_at hl 0 rfl) ?_
  refine gf_am_orderCount hx hb hg hown (hg _ kw_118) hK G ha0 dd_am_run_52 ?_
  refine lv_icmp_ge (tgt := 90) hx hb dd_am_run_55 (by decide) (fun h55 => ?_) (fun h55 => ?_)
  · replace hF := gw_et h55 hF
    exact wb_am_run_90 C0  M a0 v2 _ _ _ ha0 G (lv_sub hl [0, 1] rfl) hF
  · replace hF := gw_ef h55 hF
    refine lv_iload_n hx hb dd_am_run_58 rfl (lv_at hl 1 rfl) ?_
    refine lv_if_ne (tgt := 90) hx hb dd_am_run_59 (by decide) (fun h59 => ?_) (fun h59 => ?_)
    · replace hF := gw_ef h59 hF
      exact wb_am_run_90 C0  M a0 v2 _ _ _ ha0 G (lv_sub hl [0, 1] rfl) hF
    · replace hF := gw_et h59 hF
      refine lv_aload_n hx hb dd_am_run_62 rfl (lv_at hl 0 rfl) ?_
      refine lv_aload_n hx hb dd_am_run_63 rfl (lv_at hl 0 rfl) ?_
      refine gf_am_orders hx hb hg hown (hg _ kw_119) hK G ha0 dd_am_run_64 ?_
      refine lv_iload_n hx hb dd_am_run_67 rfl (lv_at hl 2 rfl) ?_
      obtain ⟨h68, hF⟩ := gw_gd hF
      refine gc_aald8 hx hb hK G (gq_am_orders ha0) (gw_vp h68) (j := v3.toNatClampNeg) rfl dd_am_run_68 ?_
      obtain ⟨r69, M69, hc69, hF⟩ := gw_be hF
      refine gw_ci G (va_runV (As := [.ref (gc_a X ((a0 + 12) + 27 + 3 * v3.toNatClampNeg))]) (rest := []) ⟨hx, hb, hml, hown, hts⟩ (ct_am_carryOut l X Y M a0 ((a0 + 12) + 27 + 3 * v3.toNatClampNeg) ha0 (gq_arr8 (gq_am_orders ha0) (gw_vj (gw_vp h68) rfl)) _ hc69) (cwV 1 hts (gw_gV kw_246 kw_247 kw_248 kw_107 kw_245) rfl rfl rfl (by decide +kernel) ⟨Nat.le_of_ble_eq_true rfl, Nat.le_of_ble_eq_true rfl⟩) ⟨gw_blind, gw_recv_am hK G ha0, gw_pre hK G⟩ rfl rfl hl.1 rfl (Nat.le_of_ble_eq_true rfl) dd_am_run_69 ⟨Nat.le_of_ble_eq_true rfl, Nat.le_of_ble_eq_true rfl⟩) (fun H locs G => ?_)
      refine lv_istore_n (i := 2) (lv' := [(2, .int r69), (0, .ref (gc_a X a0)), (3, .int v3)]) hx hb dd_am_run_72 rfl hl (by decide) rfl (fun ls hl => ?_)
      refine lv_iload_n hx hb dd_am_run_73 rfl (lv_at hl 0 rfl) ?_
      refine lv_if_eq (tgt := 84) hx hb dd_am_run_74 (by decide) (fun h74 => ?_) (fun h74 => ?_)
      · replace hF := gw_et h74 hF
        exact wb_am_run_84 C0 hK50 M69 a0 r69 v3 _ _ _ ha0 G (lv_sub hl [1, 0, 2] rfl) hF
      · replace hF := gw_ef h74 hF
        refine lv_iload_n hx hb dd_am_run_77 rfl (lv_at hl 0 rfl) ?_
        refine lv_bipush (v := (100 : Int32)) hx hb dd_am_run_78 (by decide) ?_
        refine lv_iload_n hx hb dd_am_run_80 rfl (lv_at hl 2 rfl) ?_
        refine lv_imul hx hb dd_am_run_81 ?_
        refine lv_iadd hx hb dd_am_run_82 ?_
        refine lv_topi (fun x83 e83 => ?_)
        replace hF := gw_ly e83 hF
        refine lv_istore_n (i := 2) (lv' := [(2, .int x83), (0, .ref (gc_a X a0)), (3, .int v3)]) hx hb dd_am_run_83 rfl hl (by decide) rfl (fun ls hl => ?_)
        exact wb_am_run_84 C0 hK50 M69 a0 x83 v3 _ _ _ ha0 G (lv_sub hl [1, 0, 2] rfl) hF
theorem wl_am_run_50 {p : Program} {l : Launch} {e : Env} {s : State} {m : MethodId} {args : Array Value} {below : List Frame} {meth : Method} {c : Code} {X : gw_X} {Y : gw_M} {z : (Int32 × gw_M)} (C0 : gw_C ((Cond.code yy_am_run by_am_run 4 (some .int)) :: gw_w) by_am_run 4 (some .int) "AccountMachine" X p s m args meth c) : ∀ n : Nat, ∀ (M : gw_M) (a0 : Nat) (v2 : Int32) (v3 : Int32) (H : Heap) (locs : List Loc) (ls : Array Slot), gc_k a0 = (2, 0) → gw_G X (gw_E X M Y) s H locs → lv_has ls 4 [(0, .ref (gc_a X a0)), (2, .int v2), (3, .int v3)] → am_run_l50  n M a0 v2 v3 = some z → W p l e rm_am_run s m args below meth c H locs 0 0 (MQ below (gw_Qi X (fun M => (gw_E X M Y)) z) args s 0 0 (gw_A X)) (F0 m 50 ls []) := by
  intro n
  induction n with
  | zero =>
    intro M a0 v2 v3 H locs ls ha0 G hl hF
    have hF : (none : Option (Int32 × gw_M)) = some z := hF
    cases hF
  | succ n ih =>
    intro M a0 v2 v3 H locs ls ha0 G hl hF
    exact wb_am_run_50 C0  ih M a0 v2 v3 H locs ls ha0 G hl hF
set_option maxRecDepth 100000 in
set_option maxHeartbeats 4000000 in
theorem wb_am_run_0 {p : Program} {l : Launch} {e : Env} {s : State} {m : MethodId} {args : Array Value} {below : List Frame} {meth : Method} {c : Code} {X : gw_X} {Y : gw_M} {z : (Int32 × gw_M)} (C0 : gw_C ((Cond.code yy_am_run by_am_run 4 (some .int)) :: gw_w) by_am_run 4 (some .int) "AccountMachine" X p s m args meth c) (M : gw_M) (a0 : Nat) (v1 : Int32) (H : Heap) (locs : List Loc) (ls : Array Slot) (ha0 : gc_k a0 = (2, 0)) (G : gw_G X (gw_E X M Y) s H locs) (hl : lv_has ls 4 [(0, .ref (gc_a X a0)), (1, .int v1)]) (hF : am_run_b0  M a0 v1 = some z) : W p l e rm_am_run s m args below meth c H locs 0 0 (MQ below (gw_Qi X (fun M => (gw_E X M Y)) z) args s 0 0 (gw_A X)) (F0 m 0 ls []) := by
  obtain ⟨hx, hb, hml, hown, hts, hr, hlocks, hK⟩ := id C0
  have hg : ∀ w ∈ gw_w, w.before args s = true := fun w h => hts w (List.mem_cons_of_mem _ h)
  unfold am_run_b0 at hF
  refine lv_aload_n hx hb dd_am_run_0 rfl (lv_at hl 0 rfl) ?_
  refine gf_am_orderCount hx hb hg hown (hg _ kw_118) hK G ha0 dd_am_run_1 ?_
  refine lv_if_eq (tgt := 18) hx hb dd_am_run_4 (by decide) (fun h4 => ?_) (fun h4 => ?_)
  · replace hF := gw_et h4 hF
    refine lv_iconst (v := (-1 : Int32)) hx hb dd_am_run_18 (by decide) ?_
    exact W.iret hx hb hr (fun t ht hW => gw_endi (EF := (fun M => (gw_E X M Y))) (M := M) G ht hF) G.2.2.2.2 dd_am_run_19 hlocks
  · replace hF := gw_ef h4 hF
    refine lv_iload_n hx hb dd_am_run_7 rfl (lv_at hl 1 rfl) ?_
    refine lv_if_lt (tgt := 18) hx hb dd_am_run_8 (by decide) (fun h8 => ?_) (fun h8 => ?_)
    · replace hF := gw_et h8 hF
      refine lv_iconst (v := (-1 : Int32)) hx hb dd_am_run_18 (by decide) ?_
      exact W.iret hx hb hr (fun t ht hW => gw_endi (EF := (fun M => (gw_E X M Y))) (M := M) G ht hF) G.2.2.2.2 dd_am_run_19 hlocks
    · replace hF := gw_ef h8 hF
      refine lv_iload_n hx hb dd_am_run_11 rfl (lv_at hl 1 rfl) ?_
      refine lv_sipush (v := (2000 : Int32)) hx hb dd_am_run_12 (by decide) ?_
      refine lv_icmp_le (tgt := 20) hx hb dd_am_run_15 (by decide) (fun h15 => ?_) (fun h15 => ?_)
      · replace hF := gw_et h15 hF
        refine lv_aload_n hx hb dd_am_run_20 rfl (lv_at hl 0 rfl) ?_
        refine lv_iload_n hx hb dd_am_run_21 rfl (lv_at hl 1 rfl) ?_
        refine gp_am_meter hx hb hg hown (hg _ kw_123) hK G ha0 dd_am_run_22 (fun M22 H locs e22 G => ?_)
        replace hF := gw_ly e22 hF
        refine lv_aload_n hx hb dd_am_run_25 rfl (lv_at hl 0 rfl) ?_
        refine lv_iconst (v := (0 : Int32)) hx hb dd_am_run_26 (by decide) ?_
        refine gp_am_logCount hx hb hg hown (hg _ kw_146) hK G ha0 dd_am_run_27 (fun M27 H locs e27 G => ?_)
        replace hF := gw_ly e27 hF
        refine lv_aload_n hx hb dd_am_run_30 rfl (lv_at hl 0 rfl) ?_
        refine lv_lconst (v := (0 : Int64)) hx hb dd_am_run_31 (by decide) ?_
        refine gp_am_given hx hb hg hown (hg _ kw_206) hK G ha0 dd_am_run_32 (fun M32 H locs e32 G => ?_)
        replace hF := gw_ly e32 hF
        refine W.eq (g2 := F0 m 35 _ _) rfl ?_
        refine lv_aload_n hx hb dd_am_run_35 rfl (lv_at hl 0 rfl) ?_
        refine gf_am_before hx hb hg hown (hg _ kw_237) hK G ha0 dd_am_run_36 ?_
        refine lv_aload_n hx hb dd_am_run_39 rfl (lv_at hl 0 rfl) ?_
        refine gf_am_ledger hx hb hg hown (hg _ kw_124) hK G ha0 dd_am_run_40 ?_
        obtain ⟨u43, M43, hc43, hF⟩ := gw_be hF
        refine gw_cv G (va_runVN (As := [.ref (gc_a X (a0 + 2))]) (rest := []) ⟨hx, hb, hml, hown, hts⟩ (ct_le_copyFrom l X Y M32 (a0 + 7) (a0 + 2) (gq_am_before ha0) (gq_am_ledger ha0) _ hc43) ⟨va_cnB 1 hts (gw_gN kw_238) rfl rfl rfl (hK.2.1 _ kn_47) (hg _ kw_126) (by decide +kernel) ⟨Nat.le_of_ble_eq_true rfl, Nat.le_of_ble_eq_true rfl⟩, hg _ kw_239, hg _ kw_240⟩ ⟨gw_blind, gw_recv_le hK G (gq_am_before ha0), gw_pre hK G⟩ rfl rfl hl.1 rfl (Nat.le_of_ble_eq_true rfl) dd_am_run_43 ⟨Nat.le_of_ble_eq_true rfl, Nat.le_of_ble_eq_true rfl⟩) (fun H locs G => ?_)
        refine lv_iconst (v := (0 : Int32)) hx hb dd_am_run_46 (by decide) ?_
        refine lv_istore_n (i := 2) (lv' := [(2, .int (0 : Int32)), (0, .ref (gc_a X a0)), (1, .int v1)]) hx hb dd_am_run_47 rfl hl (by decide) rfl (fun ls hl => ?_)
        refine lv_iconst (v := (0 : Int32)) hx hb dd_am_run_48 (by decide) ?_
        refine lv_istore_n (i := 3) (lv' := [(3, .int (0 : Int32)), (2, .int (0 : Int32)), (0, .ref (gc_a X a0)), (1, .int v1)]) hx hb dd_am_run_49 rfl hl (by decide) rfl (fun ls hl => ?_)
        exact wl_am_run_50 C0  2100 M43 a0 (0 : Int32) (0 : Int32) _ _ _ ha0 G (lv_sub hl [2, 1, 0] rfl) hF
      · replace hF := gw_ef h15 hF
        refine lv_iconst (v := (-1 : Int32)) hx hb dd_am_run_18 (by decide) ?_
        exact W.iret hx hb hr (fun t ht hW => gw_endi (EF := (fun M => (gw_E X M Y))) (M := M) G ht hF) G.2.2.2.2 dd_am_run_19 hlocks
set_option maxRecDepth 100000 in
set_option maxHeartbeats 4000000 in
theorem ct_am_run (l : Launch) (X : gw_X) (Y : gw_M) (M : gw_M) (a0 : Nat) (v1 : Int32) (ha0 : gc_k a0 = (2, 0)) (z : (Int32 × gw_M)) (hF : am_run_b0 M a0 v1 = some z) : Met l yy_am_run ((Cond.code yy_am_run by_am_run 4 (some .int)) :: gw_w) rm_am_run (va_Pc [.ref (gc_a X a0), .int v1] (gw_B X (gw_E X M Y))) (gw_Qi X (fun M => (gw_E X M Y)) z) 0 0 (gw_A X) := by
  refine Met.ofW (cc := by_am_run) (maxL := 4) (ret := (some .int)) (by decide) rfl ?_
  intro p e s m args below meth c s₁ B hml hv
  obtain ⟨rfl, hB⟩ := hv
  rw [lg_entry_eq]
  have hl := lv_entry ([.ref (gc_a X a0), .int v1]) (n := 4) (Nat.le_of_ble_eq_true rfl)
  generalize (lg_sl ([.ref (gc_a X a0), .int v1]) ++ List.replicate (4 - (lg_sl ([.ref (gc_a X a0), .int v1])).length) Slot.unset).toArray = ls at hl ⊢
  have hl : lv_has ls 4 [(0, .ref (gc_a X a0)), (1, .int v1)] := hl
  exact wb_am_run_0 (gw_ctx B hml rfl hB) M a0 v1 _ _ _ ha0 (gw_start hB) hl hF
/-! AccountMachine.units()I -/
abbrev rm_am_units : Room := { frames := 0, cells := 0, slots := 0, locals := 0 }
theorem dd_am_units_0 : decode by_am_units 0 = .ok (.aload_n 0, 1) := by decide +kernel
theorem dd_am_units_1 : decode by_am_units 1 = .ok (.getfield 44, 3) := by decide +kernel
theorem dd_am_units_4 : decode by_am_units 4 = .ok (.ireturn, 1) := by decide +kernel
def am_units_b0 (M : gw_M) (a0 : Nat) : Option (Int32 × gw_M) :=
  some (M.1 a0 7, M)
set_option maxRecDepth 100000 in
set_option maxHeartbeats 4000000 in
theorem wb_am_units_0 {p : Program} {l : Launch} {e : Env} {s : State} {m : MethodId} {args : Array Value} {below : List Frame} {meth : Method} {c : Code} {X : gw_X} {Y : gw_M} {z : (Int32 × gw_M)} (C0 : gw_C ((Cond.code yy_am_units by_am_units 1 (some .int)) :: gw_w) by_am_units 1 (some .int) "AccountMachine" X p s m args meth c) (M : gw_M) (a0 : Nat) (H : Heap) (locs : List Loc) (ls : Array Slot) (ha0 : gc_k a0 = (2, 0)) (G : gw_G X (gw_E X M Y) s H locs) (hl : lv_has ls 1 [(0, .ref (gc_a X a0))]) (hF : am_units_b0  M a0 = some z) : W p l e rm_am_units s m args below meth c H locs 0 0 (MQ below (gw_Qi X (fun M => (gw_E X M Y)) z) args s 0 0 (gw_A X)) (F0 m 0 ls []) := by
  obtain ⟨hx, hb, hml, hown, hts, hr, hlocks, hK⟩ := id C0
  have hg : ∀ w ∈ gw_w, w.before args s = true := fun w h => hts w (List.mem_cons_of_mem _ h)
  unfold am_units_b0 at hF
  refine lv_aload_n hx hb dd_am_units_0 rfl (lv_at hl 0 rfl) ?_
  refine gf_am_meter hx hb hg hown (hg _ kw_123) hK G ha0 dd_am_units_1 ?_
  exact W.iret hx hb hr (fun t ht hW => gw_endi (EF := (fun M => (gw_E X M Y))) (M := M) G ht hF) G.2.2.2.2 dd_am_units_4 hlocks
set_option maxRecDepth 100000 in
set_option maxHeartbeats 4000000 in
theorem ct_am_units (l : Launch) (X : gw_X) (Y : gw_M) (M : gw_M) (a0 : Nat) (ha0 : gc_k a0 = (2, 0)) (z : (Int32 × gw_M)) (hF : am_units_b0 M a0 = some z) : Met l yy_am_units ((Cond.code yy_am_units by_am_units 1 (some .int)) :: gw_w) rm_am_units (va_Pc [.ref (gc_a X a0)] (gw_B X (gw_E X M Y))) (gw_Qi X (fun M => (gw_E X M Y)) z) 0 0 (gw_A X) := by
  refine Met.ofW (cc := by_am_units) (maxL := 1) (ret := (some .int)) (by decide) rfl ?_
  intro p e s m args below meth c s₁ B hml hv
  obtain ⟨rfl, hB⟩ := hv
  rw [lg_entry_eq]
  have hl := lv_entry ([.ref (gc_a X a0)]) (n := 1) (Nat.le_of_ble_eq_true rfl)
  generalize (lg_sl ([.ref (gc_a X a0)]) ++ List.replicate (1 - (lg_sl ([.ref (gc_a X a0)])).length) Slot.unset).toArray = ls at hl ⊢
  have hl : lv_has ls 1 [(0, .ref (gc_a X a0))] := hl
  exact wb_am_units_0 (gw_ctx B hml rfl hB) M a0 _ _ _ ha0 (gw_start hB) hl hF
/-! AccountMachine.result()J -/
abbrev rm_am_result : Room := { frames := 0, cells := 0, slots := 0, locals := 0 }
theorem dd_am_result_0 : decode by_am_result 0 = .ok (.aload_n 0, 1) := by decide +kernel
theorem dd_am_result_1 : decode by_am_result 1 = .ok (.getfield 54, 3) := by decide +kernel
theorem dd_am_result_4 : decode by_am_result 4 = .ok (.lreturn, 1) := by decide +kernel
def am_result_b0 (M : gw_M) (a0 : Nat) : Option (Int64 × gw_M) :=
  some (M.2 a0 10, M)
set_option maxRecDepth 100000 in
set_option maxHeartbeats 4000000 in
theorem wb_am_result_0 {p : Program} {l : Launch} {e : Env} {s : State} {m : MethodId} {args : Array Value} {below : List Frame} {meth : Method} {c : Code} {X : gw_X} {Y : gw_M} {z : (Int64 × gw_M)} (C0 : gw_C ((Cond.code yy_am_result by_am_result 1 (some .long)) :: gw_w) by_am_result 1 (some .long) "AccountMachine" X p s m args meth c) (M : gw_M) (a0 : Nat) (H : Heap) (locs : List Loc) (ls : Array Slot) (ha0 : gc_k a0 = (2, 0)) (G : gw_G X (gw_E X M Y) s H locs) (hl : lv_has ls 1 [(0, .ref (gc_a X a0))]) (hF : am_result_b0  M a0 = some z) : W p l e rm_am_result s m args below meth c H locs 0 0 (MQ below (gw_Ql X (fun M => (gw_E X M Y)) z) args s 0 0 (gw_A X)) (F0 m 0 ls []) := by
  obtain ⟨hx, hb, hml, hown, hts, hr, hlocks, hK⟩ := id C0
  have hg : ∀ w ∈ gw_w, w.before args s = true := fun w h => hts w (List.mem_cons_of_mem _ h)
  unfold am_result_b0 at hF
  refine lv_aload_n hx hb dd_am_result_0 rfl (lv_at hl 0 rfl) ?_
  refine gf_am_given hx hb hg hown (hg _ kw_206) hK G ha0 dd_am_result_1 ?_
  exact W.lret hx hb hr (fun t ht hW => gw_endl (EF := (fun M => (gw_E X M Y))) (M := M) G ht hF) G.2.2.2.2 dd_am_result_4 hlocks
set_option maxRecDepth 100000 in
set_option maxHeartbeats 4000000 in
theorem ct_am_result (l : Launch) (X : gw_X) (Y : gw_M) (M : gw_M) (a0 : Nat) (ha0 : gc_k a0 = (2, 0)) (z : (Int64 × gw_M)) (hF : am_result_b0 M a0 = some z) : Met l yy_am_result ((Cond.code yy_am_result by_am_result 1 (some .long)) :: gw_w) rm_am_result (va_Pc [.ref (gc_a X a0)] (gw_B X (gw_E X M Y))) (gw_Ql X (fun M => (gw_E X M Y)) z) 0 0 (gw_A X) := by
  refine Met.ofW (cc := by_am_result) (maxL := 1) (ret := (some .long)) (by decide) rfl ?_
  intro p e s m args below meth c s₁ B hml hv
  obtain ⟨rfl, hB⟩ := hv
  rw [lg_entry_eq]
  have hl := lv_entry ([.ref (gc_a X a0)]) (n := 1) (Nat.le_of_ble_eq_true rfl)
  generalize (lg_sl ([.ref (gc_a X a0)]) ++ List.replicate (1 - (lg_sl ([.ref (gc_a X a0)])).length) Slot.unset).toArray = ls at hl ⊢
  have hl : lv_has ls 1 [(0, .ref (gc_a X a0))] := hl
  exact wb_am_result_0 (gw_ctx B hml rfl hB) M a0 _ _ _ ha0 (gw_start hB) hl hF
/-! AccountMachine.log(I)J -/
abbrev rm_am_log : Room := { frames := 0, cells := 0, slots := 0, locals := 0 }
theorem dd_am_log_0 : decode by_am_log 0 = .ok (.iload_n 1, 1) := by decide +kernel
theorem dd_am_log_1 : decode by_am_log 1 = .ok (.ifCond .lt 20, 3) := by decide +kernel
theorem dd_am_log_4 : decode by_am_log 4 = .ok (.iload_n 1, 1) := by decide +kernel
theorem dd_am_log_5 : decode by_am_log 5 = .ok (.aload_n 0, 1) := by decide +kernel
theorem dd_am_log_6 : decode by_am_log 6 = .ok (.getfield 51, 3) := by decide +kernel
theorem dd_am_log_9 : decode by_am_log 9 = .ok (.if_icmp .ge 12, 3) := by decide +kernel
theorem dd_am_log_12 : decode by_am_log 12 = .ok (.aload_n 0, 1) := by decide +kernel
theorem dd_am_log_13 : decode by_am_log 13 = .ok (.getfield 47, 3) := by decide +kernel
theorem dd_am_log_16 : decode by_am_log 16 = .ok (.iload_n 1, 1) := by decide +kernel
theorem dd_am_log_17 : decode by_am_log 17 = .ok (.laload, 1) := by decide +kernel
theorem dd_am_log_18 : decode by_am_log 18 = .ok (.goto 4, 3) := by decide +kernel
theorem dd_am_log_21 : decode by_am_log 21 = .ok (.lconst 0, 1) := by decide +kernel
theorem dd_am_log_22 : decode by_am_log 22 = .ok (.lreturn, 1) := by decide +kernel
def am_log_b0 (M : gw_M) (a0 : Nat) (v1 : Int32) : Option (Int64 × gw_M) :=
  if v1 < (0 : Int32) then (some ((0 : Int64), M)) else (if (M.1 a0 9) ≤ v1 then (some ((0 : Int64), M)) else (gw_gu (gw_in v1 30) (some (M.2 (a0 + 14) v1.toNatClampNeg, M))))
set_option maxRecDepth 100000 in
set_option maxHeartbeats 4000000 in
theorem wb_am_log_0 {p : Program} {l : Launch} {e : Env} {s : State} {m : MethodId} {args : Array Value} {below : List Frame} {meth : Method} {c : Code} {X : gw_X} {Y : gw_M} {z : (Int64 × gw_M)} (C0 : gw_C ((Cond.code yy_am_log by_am_log 2 (some .long)) :: gw_w) by_am_log 2 (some .long) "AccountMachine" X p s m args meth c) (M : gw_M) (a0 : Nat) (v1 : Int32) (H : Heap) (locs : List Loc) (ls : Array Slot) (ha0 : gc_k a0 = (2, 0)) (G : gw_G X (gw_E X M Y) s H locs) (hl : lv_has ls 2 [(0, .ref (gc_a X a0)), (1, .int v1)]) (hF : am_log_b0  M a0 v1 = some z) : W p l e rm_am_log s m args below meth c H locs 0 0 (MQ below (gw_Ql X (fun M => (gw_E X M Y)) z) args s 0 0 (gw_A X)) (F0 m 0 ls []) := by
  obtain ⟨hx, hb, hml, hown, hts, hr, hlocks, hK⟩ := id C0
  have hg : ∀ w ∈ gw_w, w.before args s = true := fun w h => hts w (List.mem_cons_of_mem _ h)
  unfold am_log_b0 at hF
  refine lv_iload_n hx hb dd_am_log_0 rfl (lv_at hl 1 rfl) ?_
  refine lv_if_lt (tgt := 21) hx hb dd_am_log_1 (by decide) (fun h1 => ?_) (fun h1 => ?_)
  · replace hF := gw_et h1 hF
    refine lv_lconst (v := (0 : Int64)) hx hb dd_am_log_21 (by decide) ?_
    exact W.lret hx hb hr (fun t ht hW => gw_endl (EF := (fun M => (gw_E X M Y))) (M := M) G ht hF) G.2.2.2.2 dd_am_log_22 hlocks
  · replace hF := gw_ef h1 hF
    refine lv_iload_n hx hb dd_am_log_4 rfl (lv_at hl 1 rfl) ?_
    refine lv_aload_n hx hb dd_am_log_5 rfl (lv_at hl 0 rfl) ?_
    refine gf_am_logCount hx hb hg hown (hg _ kw_146) hK G ha0 dd_am_log_6 ?_
    refine lv_icmp_ge (tgt := 21) hx hb dd_am_log_9 (by decide) (fun h9 => ?_) (fun h9 => ?_)
    · replace hF := gw_et h9 hF
      refine lv_lconst (v := (0 : Int64)) hx hb dd_am_log_21 (by decide) ?_
      exact W.lret hx hb hr (fun t ht hW => gw_endl (EF := (fun M => (gw_E X M Y))) (M := M) G ht hF) G.2.2.2.2 dd_am_log_22 hlocks
    · replace hF := gw_ef h9 hF
      refine lv_aload_n hx hb dd_am_log_12 rfl (lv_at hl 0 rfl) ?_
      refine gf_am_logWords hx hb hg hown (hg _ kw_147) hK G ha0 dd_am_log_13 ?_
      refine lv_iload_n hx hb dd_am_log_16 rfl (lv_at hl 1 rfl) ?_
      obtain ⟨h17, hF⟩ := gw_gd hF
      refine gc_lald hx hb hK G (gq_am_logWords ha0) (gw_vp h17) (j := v1.toNatClampNeg) rfl dd_am_log_17 ?_
      refine lv_goto (tgt := 22) hx hb dd_am_log_18 (by decide) ?_
      exact W.lret hx hb hr (fun t ht hW => gw_endl (EF := (fun M => (gw_E X M Y))) (M := M) G ht hF) G.2.2.2.2 dd_am_log_22 hlocks
set_option maxRecDepth 100000 in
set_option maxHeartbeats 4000000 in
theorem ct_am_log (l : Launch) (X : gw_X) (Y : gw_M) (M : gw_M) (a0 : Nat) (v1 : Int32) (ha0 : gc_k a0 = (2, 0)) (z : (Int64 × gw_M)) (hF : am_log_b0 M a0 v1 = some z) : Met l yy_am_log ((Cond.code yy_am_log by_am_log 2 (some .long)) :: gw_w) rm_am_log (va_Pc [.ref (gc_a X a0), .int v1] (gw_B X (gw_E X M Y))) (gw_Ql X (fun M => (gw_E X M Y)) z) 0 0 (gw_A X) := by
  refine Met.ofW (cc := by_am_log) (maxL := 2) (ret := (some .long)) (by decide) rfl ?_
  intro p e s m args below meth c s₁ B hml hv
  obtain ⟨rfl, hB⟩ := hv
  rw [lg_entry_eq]
  have hl := lv_entry ([.ref (gc_a X a0), .int v1]) (n := 2) (Nat.le_of_ble_eq_true rfl)
  generalize (lg_sl ([.ref (gc_a X a0), .int v1]) ++ List.replicate (2 - (lg_sl ([.ref (gc_a X a0), .int v1])).length) Slot.unset).toArray = ls at hl ⊢
  have hl : lv_has ls 2 [(0, .ref (gc_a X a0)), (1, .int v1)] := hl
  exact wb_am_log_0 (gw_ctx B hml rfl hB) M a0 v1 _ _ _ ha0 (gw_start hB) hl hF
/-! AccountMachine.logged()I -/
abbrev rm_am_logged : Room := { frames := 0, cells := 0, slots := 0, locals := 0 }
theorem dd_am_logged_0 : decode by_am_logged 0 = .ok (.aload_n 0, 1) := by decide +kernel
theorem dd_am_logged_1 : decode by_am_logged 1 = .ok (.getfield 51, 3) := by decide +kernel
theorem dd_am_logged_4 : decode by_am_logged 4 = .ok (.ireturn, 1) := by decide +kernel
def am_logged_b0 (M : gw_M) (a0 : Nat) : Option (Int32 × gw_M) :=
  some (M.1 a0 9, M)
set_option maxRecDepth 100000 in
set_option maxHeartbeats 4000000 in
theorem wb_am_logged_0 {p : Program} {l : Launch} {e : Env} {s : State} {m : MethodId} {args : Array Value} {below : List Frame} {meth : Method} {c : Code} {X : gw_X} {Y : gw_M} {z : (Int32 × gw_M)} (C0 : gw_C ((Cond.code yy_am_logged by_am_logged 1 (some .int)) :: gw_w) by_am_logged 1 (some .int) "AccountMachine" X p s m args meth c) (M : gw_M) (a0 : Nat) (H : Heap) (locs : List Loc) (ls : Array Slot) (ha0 : gc_k a0 = (2, 0)) (G : gw_G X (gw_E X M Y) s H locs) (hl : lv_has ls 1 [(0, .ref (gc_a X a0))]) (hF : am_logged_b0  M a0 = some z) : W p l e rm_am_logged s m args below meth c H locs 0 0 (MQ below (gw_Qi X (fun M => (gw_E X M Y)) z) args s 0 0 (gw_A X)) (F0 m 0 ls []) := by
  obtain ⟨hx, hb, hml, hown, hts, hr, hlocks, hK⟩ := id C0
  have hg : ∀ w ∈ gw_w, w.before args s = true := fun w h => hts w (List.mem_cons_of_mem _ h)
  unfold am_logged_b0 at hF
  refine lv_aload_n hx hb dd_am_logged_0 rfl (lv_at hl 0 rfl) ?_
  refine gf_am_logCount hx hb hg hown (hg _ kw_146) hK G ha0 dd_am_logged_1 ?_
  exact W.iret hx hb hr (fun t ht hW => gw_endi (EF := (fun M => (gw_E X M Y))) (M := M) G ht hF) G.2.2.2.2 dd_am_logged_4 hlocks
set_option maxRecDepth 100000 in
set_option maxHeartbeats 4000000 in
theorem ct_am_logged (l : Launch) (X : gw_X) (Y : gw_M) (M : gw_M) (a0 : Nat) (ha0 : gc_k a0 = (2, 0)) (z : (Int32 × gw_M)) (hF : am_logged_b0 M a0 = some z) : Met l yy_am_logged ((Cond.code yy_am_logged by_am_logged 1 (some .int)) :: gw_w) rm_am_logged (va_Pc [.ref (gc_a X a0)] (gw_B X (gw_E X M Y))) (gw_Qi X (fun M => (gw_E X M Y)) z) 0 0 (gw_A X) := by
  refine Met.ofW (cc := by_am_logged) (maxL := 1) (ret := (some .int)) (by decide) rfl ?_
  intro p e s m args below meth c s₁ B hml hv
  obtain ⟨rfl, hB⟩ := hv
  rw [lg_entry_eq]
  have hl := lv_entry ([.ref (gc_a X a0)]) (n := 1) (Nat.le_of_ble_eq_true rfl)
  generalize (lg_sl ([.ref (gc_a X a0)]) ++ List.replicate (1 - (lg_sl ([.ref (gc_a X a0)])).length) Slot.unset).toArray = ls at hl ⊢
  have hl : lv_has ls 1 [(0, .ref (gc_a X a0))] := hl
  exact wb_am_logged_0 (gw_ctx B hml rfl hB) M a0 _ _ _ ha0 (gw_start hB) hl hF
/-! AccountMachine.account(II)I -/
abbrev rm_am_account : Room := { frames := 1, cells := 0, slots := 0, locals := 20 }
theorem dd_am_account_0 : decode by_am_account 0 = .ok (.iload_n 1, 1) := by decide +kernel
theorem dd_am_account_1 : decode by_am_account 1 = .ok (.invokestatic 83, 3) := by decide +kernel
theorem dd_am_account_4 : decode by_am_account 4 = .ok (.ifCond .ne 5, 3) := by decide +kernel
theorem dd_am_account_7 : decode by_am_account 7 = .ok (.iconst (-1), 1) := by decide +kernel
theorem dd_am_account_8 : decode by_am_account 8 = .ok (.ireturn, 1) := by decide +kernel
theorem dd_am_account_9 : decode by_am_account 9 = .ok (.iload_n 2, 1) := by decide +kernel
theorem dd_am_account_10 : decode by_am_account 10 = .ok (.tableswitch 56 0 2 #[26, 36, 46], 26) := by decide +kernel
theorem dd_am_account_36 : decode by_am_account 36 = .ok (.aload_n 0, 1) := by decide +kernel
theorem dd_am_account_37 : decode by_am_account 37 = .ok (.getfield 18, 3) := by decide +kernel
theorem dd_am_account_40 : decode by_am_account 40 = .ok (.getfield 102, 3) := by decide +kernel
theorem dd_am_account_43 : decode by_am_account 43 = .ok (.iload_n 1, 1) := by decide +kernel
theorem dd_am_account_44 : decode by_am_account 44 = .ok (.iaload, 1) := by decide +kernel
theorem dd_am_account_45 : decode by_am_account 45 = .ok (.ireturn, 1) := by decide +kernel
theorem dd_am_account_46 : decode by_am_account 46 = .ok (.aload_n 0, 1) := by decide +kernel
theorem dd_am_account_47 : decode by_am_account 47 = .ok (.getfield 18, 3) := by decide +kernel
theorem dd_am_account_50 : decode by_am_account 50 = .ok (.getfield 106, 3) := by decide +kernel
theorem dd_am_account_53 : decode by_am_account 53 = .ok (.iload_n 1, 1) := by decide +kernel
theorem dd_am_account_54 : decode by_am_account 54 = .ok (.iaload, 1) := by decide +kernel
theorem dd_am_account_55 : decode by_am_account 55 = .ok (.ireturn, 1) := by decide +kernel
theorem dd_am_account_56 : decode by_am_account 56 = .ok (.aload_n 0, 1) := by decide +kernel
theorem dd_am_account_57 : decode by_am_account 57 = .ok (.getfield 18, 3) := by decide +kernel
theorem dd_am_account_60 : decode by_am_account 60 = .ok (.getfield 109, 3) := by decide +kernel
theorem dd_am_account_63 : decode by_am_account 63 = .ok (.iload_n 1, 1) := by decide +kernel
theorem dd_am_account_64 : decode by_am_account 64 = .ok (.iaload, 1) := by decide +kernel
theorem dd_am_account_65 : decode by_am_account 65 = .ok (.ireturn, 1) := by decide +kernel
theorem dd_am_account_66 : decode by_am_account 66 = .ok (.iconst (-1), 1) := by decide +kernel
theorem dd_am_account_67 : decode by_am_account 67 = .ok (.ireturn, 1) := by decide +kernel
def am_account_b0 (M : gw_M) (a0 : Nat) (v1 : Int32) (v2 : Int32) : Option (Int32 × gw_M) :=
  gw_bd (am_isAccount_b0 M v1) (fun r1 M1 => if r1 = (0 : Int32) then (some ((-1 : Int32), M1)) else (if v2 = (0 : Int32) then (gw_gu (gw_in v1 8) (some (M1.1 ((a0 + 2) + 1) v1.toNatClampNeg, M1))) else (if v2 = (1 : Int32) then (gw_gu (gw_in v1 8) (some (M1.1 ((a0 + 2) + 2) v1.toNatClampNeg, M1))) else (if v2 = (2 : Int32) then (gw_gu (gw_in v1 8) (some (M1.1 ((a0 + 2) + 3) v1.toNatClampNeg, M1))) else (some ((-1 : Int32), M1))))))
set_option maxRecDepth 100000 in
set_option maxHeartbeats 4000000 in
theorem wb_am_account_0 {p : Program} {l : Launch} {e : Env} {s : State} {m : MethodId} {args : Array Value} {below : List Frame} {meth : Method} {c : Code} {X : gw_X} {Y : gw_M} {z : (Int32 × gw_M)} (C0 : gw_C ((Cond.code yy_am_account by_am_account 3 (some .int)) :: gw_w) by_am_account 3 (some .int) "AccountMachine" X p s m args meth c) (M : gw_M) (a0 : Nat) (v1 : Int32) (v2 : Int32) (H : Heap) (locs : List Loc) (ls : Array Slot) (ha0 : gc_k a0 = (2, 0)) (G : gw_G X (gw_E X M Y) s H locs) (hl : lv_has ls 3 [(0, .ref (gc_a X a0)), (1, .int v1), (2, .int v2)]) (hF : am_account_b0  M a0 v1 v2 = some z) : W p l e rm_am_account s m args below meth c H locs 0 0 (MQ below (gw_Qi X (fun M => (gw_E X M Y)) z) args s 0 0 (gw_A X)) (F0 m 0 ls []) := by
  obtain ⟨hx, hb, hml, hown, hts, hr, hlocks, hK⟩ := id C0
  have hg : ∀ w ∈ gw_w, w.before args s = true := fun w h => hts w (List.mem_cons_of_mem _ h)
  unfold am_account_b0 at hF
  refine lv_iload_n hx hb dd_am_account_0 rfl (lv_at hl 1 rfl) ?_
  obtain ⟨r1, M1, hc1, hF⟩ := gw_be hF
  refine gw_ci G (va_runS (As := [.int v1]) (rest := []) ⟨hx, hb, hml, hown, hts⟩ (ct_am_isAccount l X Y M v1  _ hc1) (cwS 1 hts (gw_gS kw_121 kw_122 kw_107 kw_120) rfl rfl rfl (by decide +kernel) ⟨Nat.le_of_ble_eq_true rfl, Nat.le_of_ble_eq_true rfl⟩) ⟨gw_blind, gw_pre hK G⟩ rfl rfl hl.1 rfl (Nat.le_of_ble_eq_true rfl) dd_am_account_1 ⟨Nat.le_of_ble_eq_true rfl, Nat.le_of_ble_eq_true rfl⟩) (fun H locs G => ?_)
  refine lv_if_ne (tgt := 9) hx hb dd_am_account_4 (by decide) (fun h4 => ?_) (fun h4 => ?_)
  · replace hF := gw_ef h4 hF
    refine lv_iload_n hx hb dd_am_account_9 rfl (lv_at hl 2 rfl) ?_
    by_cases q10_0 : v2 = (0 : Int32)
    · replace hF := gw_et q10_0 hF
      refine lv_tableIn (off := 26) (tgt := 36) hx hb dd_am_account_10 (by rw [q10_0]; decide) (by rw [q10_0]; decide) (by rw [q10_0]; decide) (by decide) ?_
      refine lv_aload_n hx hb dd_am_account_36 rfl (lv_at hl 0 rfl) ?_
      refine gf_am_ledger hx hb hg hown (hg _ kw_124) hK G ha0 dd_am_account_37 ?_
      refine gn_le_balances hx hb hg hown (gw_nw hK kn_27) hK G (gq_am_ledger ha0) dd_am_account_40 ?_
      refine lv_iload_n hx hb dd_am_account_43 rfl (lv_at hl 1 rfl) ?_
      obtain ⟨h44, hF⟩ := gw_gd hF
      refine gc_iald hx hb hK G (gq_le_balances (gq_am_ledger ha0)) (gw_vp h44) (j := v1.toNatClampNeg) rfl dd_am_account_44 ?_
      exact W.iret hx hb hr (fun t ht hW => gw_endi (EF := (fun M => (gw_E X M Y))) (M := M1) G ht hF) G.2.2.2.2 dd_am_account_45 hlocks
    replace hF := gw_ef q10_0 hF
    by_cases q10_1 : v2 = (1 : Int32)
    · replace hF := gw_et q10_1 hF
      refine lv_tableIn (off := 36) (tgt := 46) hx hb dd_am_account_10 (by rw [q10_1]; decide) (by rw [q10_1]; decide) (by rw [q10_1]; decide) (by decide) ?_
      refine lv_aload_n hx hb dd_am_account_46 rfl (lv_at hl 0 rfl) ?_
      refine gf_am_ledger hx hb hg hown (hg _ kw_124) hK G ha0 dd_am_account_47 ?_
      refine gn_le_owners hx hb hg hown (gw_nw hK kn_28) hK G (gq_am_ledger ha0) dd_am_account_50 ?_
      refine lv_iload_n hx hb dd_am_account_53 rfl (lv_at hl 1 rfl) ?_
      obtain ⟨h54, hF⟩ := gw_gd hF
      refine gc_iald hx hb hK G (gq_le_owners (gq_am_ledger ha0)) (gw_vp h54) (j := v1.toNatClampNeg) rfl dd_am_account_54 ?_
      exact W.iret hx hb hr (fun t ht hW => gw_endi (EF := (fun M => (gw_E X M Y))) (M := M1) G ht hF) G.2.2.2.2 dd_am_account_55 hlocks
    replace hF := gw_ef q10_1 hF
    by_cases q10_2 : v2 = (2 : Int32)
    · replace hF := gw_et q10_2 hF
      refine lv_tableIn (off := 46) (tgt := 56) hx hb dd_am_account_10 (by rw [q10_2]; decide) (by rw [q10_2]; decide) (by rw [q10_2]; decide) (by decide) ?_
      refine lv_aload_n hx hb dd_am_account_56 rfl (lv_at hl 0 rfl) ?_
      refine gf_am_ledger hx hb hg hown (hg _ kw_124) hK G ha0 dd_am_account_57 ?_
      refine gn_le_sizes hx hb hg hown (gw_nw hK kn_29) hK G (gq_am_ledger ha0) dd_am_account_60 ?_
      refine lv_iload_n hx hb dd_am_account_63 rfl (lv_at hl 1 rfl) ?_
      obtain ⟨h64, hF⟩ := gw_gd hF
      refine gc_iald hx hb hK G (gq_le_sizes (gq_am_ledger ha0)) (gw_vp h64) (j := v1.toNatClampNeg) rfl dd_am_account_64 ?_
      exact W.iret hx hb hr (fun t ht hW => gw_endi (EF := (fun M => (gw_E X M Y))) (M := M1) G ht hF) G.2.2.2.2 dd_am_account_65 hlocks
    replace hF := gw_ef q10_2 hF
    have n10_0 := gw_ne (c := (0 : Int32)) (n := 0) (by decide) q10_0
    have n10_1 := gw_ne (c := (1 : Int32)) (n := 1) (by decide) q10_1
    have n10_2 := gw_ne (c := (2 : Int32)) (n := 2) (by decide) q10_2
    refine lv_tableOut (tgt := 66) hx hb dd_am_account_10 (by omega) (by decide) ?_
    refine lv_iconst (v := (-1 : Int32)) hx hb dd_am_account_66 (by decide) ?_
    exact W.iret hx hb hr (fun t ht hW => gw_endi (EF := (fun M => (gw_E X M Y))) (M := M1) G ht hF) G.2.2.2.2 dd_am_account_67 hlocks
  · replace hF := gw_et h4 hF
    refine lv_iconst (v := (-1 : Int32)) hx hb dd_am_account_7 (by decide) ?_
    exact W.iret hx hb hr (fun t ht hW => gw_endi (EF := (fun M => (gw_E X M Y))) (M := M1) G ht hF) G.2.2.2.2 dd_am_account_8 hlocks
set_option maxRecDepth 100000 in
set_option maxHeartbeats 4000000 in
theorem ct_am_account (l : Launch) (X : gw_X) (Y : gw_M) (M : gw_M) (a0 : Nat) (v1 : Int32) (v2 : Int32) (ha0 : gc_k a0 = (2, 0)) (z : (Int32 × gw_M)) (hF : am_account_b0 M a0 v1 v2 = some z) : Met l yy_am_account ((Cond.code yy_am_account by_am_account 3 (some .int)) :: gw_w) rm_am_account (va_Pc [.ref (gc_a X a0), .int v1, .int v2] (gw_B X (gw_E X M Y))) (gw_Qi X (fun M => (gw_E X M Y)) z) 0 0 (gw_A X) := by
  refine Met.ofW (cc := by_am_account) (maxL := 3) (ret := (some .int)) (by decide) rfl ?_
  intro p e s m args below meth c s₁ B hml hv
  obtain ⟨rfl, hB⟩ := hv
  rw [lg_entry_eq]
  have hl := lv_entry ([.ref (gc_a X a0), .int v1, .int v2]) (n := 3) (Nat.le_of_ble_eq_true rfl)
  generalize (lg_sl ([.ref (gc_a X a0), .int v1, .int v2]) ++ List.replicate (3 - (lg_sl ([.ref (gc_a X a0), .int v1, .int v2])).length) Slot.unset).toArray = ls at hl ⊢
  have hl : lv_has ls 3 [(0, .ref (gc_a X a0)), (1, .int v1), (2, .int v2)] := hl
  exact wb_am_account_0 (gw_ctx B hml rfl hB) M a0 v1 v2 _ _ _ ha0 (gw_start hB) hl hF
/-! AccountMachine.data(II)I -/
abbrev rm_am_data : Room := { frames := 1, cells := 0, slots := 0, locals := 20 }
theorem dd_am_data_0 : decode by_am_data 0 = .ok (.iload_n 1, 1) := by decide +kernel
theorem dd_am_data_1 : decode by_am_data 1 = .ok (.invokestatic 83, 3) := by decide +kernel
theorem dd_am_data_4 : decode by_am_data 4 = .ok (.ifCond .eq 36, 3) := by decide +kernel
theorem dd_am_data_7 : decode by_am_data 7 = .ok (.iload_n 2, 1) := by decide +kernel
theorem dd_am_data_8 : decode by_am_data 8 = .ok (.ifCond .lt 32, 3) := by decide +kernel
theorem dd_am_data_11 : decode by_am_data 11 = .ok (.iload_n 2, 1) := by decide +kernel
theorem dd_am_data_12 : decode by_am_data 12 = .ok (.aload_n 0, 1) := by decide +kernel
theorem dd_am_data_13 : decode by_am_data 13 = .ok (.getfield 18, 3) := by decide +kernel
theorem dd_am_data_16 : decode by_am_data 16 = .ok (.getfield 109, 3) := by decide +kernel
theorem dd_am_data_19 : decode by_am_data 19 = .ok (.iload_n 1, 1) := by decide +kernel
theorem dd_am_data_20 : decode by_am_data 20 = .ok (.iaload, 1) := by decide +kernel
theorem dd_am_data_21 : decode by_am_data 21 = .ok (.if_icmp .ge 19, 3) := by decide +kernel
theorem dd_am_data_24 : decode by_am_data 24 = .ok (.aload_n 0, 1) := by decide +kernel
theorem dd_am_data_25 : decode by_am_data 25 = .ok (.getfield 18, 3) := by decide +kernel
theorem dd_am_data_28 : decode by_am_data 28 = .ok (.getfield 112, 3) := by decide +kernel
theorem dd_am_data_31 : decode by_am_data 31 = .ok (.iload_n 1, 1) := by decide +kernel
theorem dd_am_data_32 : decode by_am_data 32 = .ok (.iconst 4, 1) := by decide +kernel
theorem dd_am_data_33 : decode by_am_data 33 = .ok (.imul, 1) := by decide +kernel
theorem dd_am_data_34 : decode by_am_data 34 = .ok (.iload_n 2, 1) := by decide +kernel
theorem dd_am_data_35 : decode by_am_data 35 = .ok (.iadd, 1) := by decide +kernel
theorem dd_am_data_36 : decode by_am_data 36 = .ok (.iaload, 1) := by decide +kernel
theorem dd_am_data_37 : decode by_am_data 37 = .ok (.goto 4, 3) := by decide +kernel
theorem dd_am_data_40 : decode by_am_data 40 = .ok (.iconst 0, 1) := by decide +kernel
theorem dd_am_data_41 : decode by_am_data 41 = .ok (.ireturn, 1) := by decide +kernel
def am_data_b0 (M : gw_M) (a0 : Nat) (v1 : Int32) (v2 : Int32) : Option (Int32 × gw_M) :=
  gw_bd (am_isAccount_b0 M v1) (fun r1 M1 => if r1 = (0 : Int32) then (some ((0 : Int32), M1)) else (if v2 < (0 : Int32) then (some ((0 : Int32), M1)) else (gw_gu (gw_in v1 8) (if (M1.1 ((a0 + 2) + 3) v1.toNatClampNeg) ≤ v2 then (some ((0 : Int32), M1)) else (gw_gu (gw_in ((v1 * (4 : Int32)) + v2) 32) (some (M1.1 ((a0 + 2) + 4) (((v1 * (4 : Int32)) + v2).toNatClampNeg), M1)))))))
set_option maxRecDepth 100000 in
set_option maxHeartbeats 4000000 in
theorem wb_am_data_0 {p : Program} {l : Launch} {e : Env} {s : State} {m : MethodId} {args : Array Value} {below : List Frame} {meth : Method} {c : Code} {X : gw_X} {Y : gw_M} {z : (Int32 × gw_M)} (C0 : gw_C ((Cond.code yy_am_data by_am_data 3 (some .int)) :: gw_w) by_am_data 3 (some .int) "AccountMachine" X p s m args meth c) (M : gw_M) (a0 : Nat) (v1 : Int32) (v2 : Int32) (H : Heap) (locs : List Loc) (ls : Array Slot) (ha0 : gc_k a0 = (2, 0)) (G : gw_G X (gw_E X M Y) s H locs) (hl : lv_has ls 3 [(0, .ref (gc_a X a0)), (1, .int v1), (2, .int v2)]) (hF : am_data_b0  M a0 v1 v2 = some z) : W p l e rm_am_data s m args below meth c H locs 0 0 (MQ below (gw_Qi X (fun M => (gw_E X M Y)) z) args s 0 0 (gw_A X)) (F0 m 0 ls []) := by
  obtain ⟨hx, hb, hml, hown, hts, hr, hlocks, hK⟩ := id C0
  have hg : ∀ w ∈ gw_w, w.before args s = true := fun w h => hts w (List.mem_cons_of_mem _ h)
  unfold am_data_b0 at hF
  refine lv_iload_n hx hb dd_am_data_0 rfl (lv_at hl 1 rfl) ?_
  obtain ⟨r1, M1, hc1, hF⟩ := gw_be hF
  refine gw_ci G (va_runS (As := [.int v1]) (rest := []) ⟨hx, hb, hml, hown, hts⟩ (ct_am_isAccount l X Y M v1  _ hc1) (cwS 1 hts (gw_gS kw_121 kw_122 kw_107 kw_120) rfl rfl rfl (by decide +kernel) ⟨Nat.le_of_ble_eq_true rfl, Nat.le_of_ble_eq_true rfl⟩) ⟨gw_blind, gw_pre hK G⟩ rfl rfl hl.1 rfl (Nat.le_of_ble_eq_true rfl) dd_am_data_1 ⟨Nat.le_of_ble_eq_true rfl, Nat.le_of_ble_eq_true rfl⟩) (fun H locs G => ?_)
  refine lv_if_eq (tgt := 40) hx hb dd_am_data_4 (by decide) (fun h4 => ?_) (fun h4 => ?_)
  · replace hF := gw_et h4 hF
    refine lv_iconst (v := (0 : Int32)) hx hb dd_am_data_40 (by decide) ?_
    exact W.iret hx hb hr (fun t ht hW => gw_endi (EF := (fun M => (gw_E X M Y))) (M := M1) G ht hF) G.2.2.2.2 dd_am_data_41 hlocks
  · replace hF := gw_ef h4 hF
    refine lv_iload_n hx hb dd_am_data_7 rfl (lv_at hl 2 rfl) ?_
    refine lv_if_lt (tgt := 40) hx hb dd_am_data_8 (by decide) (fun h8 => ?_) (fun h8 => ?_)
    · replace hF := gw_et h8 hF
      refine lv_iconst (v := (0 : Int32)) hx hb dd_am_data_40 (by decide) ?_
      exact W.iret hx hb hr (fun t ht hW => gw_endi (EF := (fun M => (gw_E X M Y))) (M := M1) G ht hF) G.2.2.2.2 dd_am_data_41 hlocks
    · replace hF := gw_ef h8 hF
      refine lv_iload_n hx hb dd_am_data_11 rfl (lv_at hl 2 rfl) ?_
      refine lv_aload_n hx hb dd_am_data_12 rfl (lv_at hl 0 rfl) ?_
      refine gf_am_ledger hx hb hg hown (hg _ kw_124) hK G ha0 dd_am_data_13 ?_
      refine gn_le_sizes hx hb hg hown (gw_nw hK kn_29) hK G (gq_am_ledger ha0) dd_am_data_16 ?_
      refine lv_iload_n hx hb dd_am_data_19 rfl (lv_at hl 1 rfl) ?_
      obtain ⟨h20, hF⟩ := gw_gd hF
      refine gc_iald hx hb hK G (gq_le_sizes (gq_am_ledger ha0)) (gw_vp h20) (j := v1.toNatClampNeg) rfl dd_am_data_20 ?_
      refine lv_icmp_ge (tgt := 40) hx hb dd_am_data_21 (by decide) (fun h21 => ?_) (fun h21 => ?_)
      · replace hF := gw_et h21 hF
        refine lv_iconst (v := (0 : Int32)) hx hb dd_am_data_40 (by decide) ?_
        exact W.iret hx hb hr (fun t ht hW => gw_endi (EF := (fun M => (gw_E X M Y))) (M := M1) G ht hF) G.2.2.2.2 dd_am_data_41 hlocks
      · replace hF := gw_ef h21 hF
        refine lv_aload_n hx hb dd_am_data_24 rfl (lv_at hl 0 rfl) ?_
        refine gf_am_ledger hx hb hg hown (hg _ kw_124) hK G ha0 dd_am_data_25 ?_
        refine gn_le_words hx hb hg hown (gw_nw hK kn_48) hK G (gq_am_ledger ha0) dd_am_data_28 ?_
        refine lv_iload_n hx hb dd_am_data_31 rfl (lv_at hl 1 rfl) ?_
        refine lv_iconst (v := (4 : Int32)) hx hb dd_am_data_32 (by decide) ?_
        refine lv_imul hx hb dd_am_data_33 ?_
        refine lv_iload_n hx hb dd_am_data_34 rfl (lv_at hl 2 rfl) ?_
        refine lv_iadd hx hb dd_am_data_35 ?_
        obtain ⟨h36, hF⟩ := gw_gd hF
        refine gc_iald hx hb hK G (gq_le_words (gq_am_ledger ha0)) (gw_vp h36) (j := ((v1 * (4 : Int32)) + v2).toNatClampNeg) rfl dd_am_data_36 ?_
        refine W.eq (g2 := F0 m 37 _ _) rfl ?_
        refine lv_goto (tgt := 41) hx hb dd_am_data_37 (by decide) ?_
        exact W.iret hx hb hr (fun t ht hW => gw_endi (EF := (fun M => (gw_E X M Y))) (M := M1) G ht hF) G.2.2.2.2 dd_am_data_41 hlocks
set_option maxRecDepth 100000 in
set_option maxHeartbeats 4000000 in
theorem ct_am_data (l : Launch) (X : gw_X) (Y : gw_M) (M : gw_M) (a0 : Nat) (v1 : Int32) (v2 : Int32) (ha0 : gc_k a0 = (2, 0)) (z : (Int32 × gw_M)) (hF : am_data_b0 M a0 v1 v2 = some z) : Met l yy_am_data ((Cond.code yy_am_data by_am_data 3 (some .int)) :: gw_w) rm_am_data (va_Pc [.ref (gc_a X a0), .int v1, .int v2] (gw_B X (gw_E X M Y))) (gw_Qi X (fun M => (gw_E X M Y)) z) 0 0 (gw_A X) := by
  refine Met.ofW (cc := by_am_data) (maxL := 3) (ret := (some .int)) (by decide) rfl ?_
  intro p e s m args below meth c s₁ B hml hv
  obtain ⟨rfl, hB⟩ := hv
  rw [lg_entry_eq]
  have hl := lv_entry ([.ref (gc_a X a0), .int v1, .int v2]) (n := 3) (Nat.le_of_ble_eq_true rfl)
  generalize (lg_sl ([.ref (gc_a X a0), .int v1, .int v2]) ++ List.replicate (3 - (lg_sl ([.ref (gc_a X a0), .int v1, .int v2])).length) Slot.unset).toArray = ls at hl ⊢
  have hl : lv_has ls 3 [(0, .ref (gc_a X a0)), (1, .int v1), (2, .int v2)] := hl
  exact wb_am_data_0 (gw_ctx B hml rfl hB) M a0 v1 v2 _ _ _ ha0 (gw_start hB) hl hF
