abbrev rm_pr_init : Room := { frames := 1, cells := 5, slots := 160, locals := 20 }
theorem dd_pr_init_0 : decode by_pr_init 0 = .ok (.aload_n 0, 1) := by decide +kernel
theorem dd_pr_init_1 : decode by_pr_init 1 = .ok (.invokespecial 3, 3) := by decide +kernel
theorem dd_pr_init_4 : decode by_pr_init 4 = .ok (.aload_n 0, 1) := by decide +kernel
theorem dd_pr_init_5 : decode by_pr_init 5 = .ok (.bipush 32, 2) := by decide +kernel
theorem dd_pr_init_7 : decode by_pr_init 7 = .ok (.newarray .int, 2) := by decide +kernel
theorem dd_pr_init_9 : decode by_pr_init 9 = .ok (.putfield 9, 3) := by decide +kernel
theorem dd_pr_init_12 : decode by_pr_init 12 = .ok (.aload_n 0, 1) := by decide +kernel
theorem dd_pr_init_13 : decode by_pr_init 13 = .ok (.bipush 32, 2) := by decide +kernel
theorem dd_pr_init_15 : decode by_pr_init 15 = .ok (.newarray .int, 2) := by decide +kernel
theorem dd_pr_init_17 : decode by_pr_init 17 = .ok (.putfield 15, 3) := by decide +kernel
theorem dd_pr_init_20 : decode by_pr_init 20 = .ok (.aload_n 0, 1) := by decide +kernel
theorem dd_pr_init_21 : decode by_pr_init 21 = .ok (.bipush 32, 2) := by decide +kernel
theorem dd_pr_init_23 : decode by_pr_init 23 = .ok (.newarray .int, 2) := by decide +kernel
theorem dd_pr_init_25 : decode by_pr_init 25 = .ok (.putfield 18, 3) := by decide +kernel
theorem dd_pr_init_28 : decode by_pr_init 28 = .ok (.aload_n 0, 1) := by decide +kernel
theorem dd_pr_init_29 : decode by_pr_init 29 = .ok (.bipush 32, 2) := by decide +kernel
theorem dd_pr_init_31 : decode by_pr_init 31 = .ok (.newarray .int, 2) := by decide +kernel
theorem dd_pr_init_33 : decode by_pr_init 33 = .ok (.putfield 21, 3) := by decide +kernel
theorem dd_pr_init_36 : decode by_pr_init 36 = .ok (.aload_n 0, 1) := by decide +kernel
theorem dd_pr_init_37 : decode by_pr_init 37 = .ok (.bipush 32, 2) := by decide +kernel
theorem dd_pr_init_39 : decode by_pr_init 39 = .ok (.newarray .int, 2) := by decide +kernel
theorem dd_pr_init_41 : decode by_pr_init 41 = .ok (.putfield 24, 3) := by decide +kernel
theorem dd_pr_init_44 : decode by_pr_init 44 = .ok (.aload_n 0, 1) := by decide +kernel
theorem dd_pr_init_45 : decode by_pr_init 45 = .ok (.iconst 0, 1) := by decide +kernel
theorem dd_pr_init_46 : decode by_pr_init 46 = .ok (.putfield 27, 3) := by decide +kernel
theorem dd_pr_init_49 : decode by_pr_init 49 = .ok (.aload_n 0, 1) := by decide +kernel
theorem dd_pr_init_50 : decode by_pr_init 50 = .ok (.iconst 0, 1) := by decide +kernel
theorem dd_pr_init_51 : decode by_pr_init 51 = .ok (.putfield 31, 3) := by decide +kernel
theorem dd_pr_init_54 : decode by_pr_init 54 = .ok (.return_, 1) := by decide +kernel
set_option maxRecDepth 100000 in
set_option maxHeartbeats 8000000 in
theorem ct_pr_init (l : Launch) (X : gw_X) (C Y : gw_M) (N : Nat → Nat → Bool) (o : Nat) (ho : gc_k o = (5, 0)) (hz : bw_Z C N 0 o) : Met l yy_pr_init (Cond.code yy_pr_init by_pr_init 1 none :: gw_w) rm_pr_init (va_Pc [.ref (gc_a X o)] (bw_B X (bw_E X C Y N) (o + 1))) (bw_Q X (bw_E X C Y (bw_s (bw_s (bw_s (bw_s (bw_s N o 0) o 1) o 2) o 3) o 4)) (o + 6)) 5 160 (bw_A X) := by
  refine Met.ofW (cc := by_pr_init) (maxL := 1) (ret := none) (by decide) rfl ?_
  intro p e s m args below meth c s₁ B hml hv
  obtain ⟨rfl, hK, hP, hD, hs0⟩ := hv
  have hx := B.exec
  have hb := B.bytes
  have hr := B.returns
  have hlocks := B.notSynchronized
  have hts := atoms_spec (ws := Cond.code yy_pr_init by_pr_init 1 none :: gw_w) B.pre
  have hg : ∀ w ∈ gw_w, w.before ([.ref (gc_a X o)] : List Value).toArray s = true := fun w h => hts w (List.mem_cons_of_mem _ h)
  have hown : s.vm.findClass "AccountMachine$Program" = some m.cls := findClass_of_methodNamed B.named
  have hi : meth.name = "<init>" := (name_of_methodNamed B.named B.method).1
  have hX := hK.2.2.2
  have hA : X.2.1 0 ≤ s.heap.size := by
    have := hX (o + 1)
    omega
  have hC1 : C.1 o = fun _ => 0 := (hz.2 _ (Nat.le_refl _)).1
  have hC2 : C.2 o = fun _ => 0 := (hz.2 _ (Nat.le_refl _)).2
  have hz := bw_Zw (a1 := o + 1) hz (by omega)
  have G : bw_G X (bw_E X C Y N) (o + 1) s s.heap [] := ⟨hP, hD, va_S.rf⟩
  rw [lg_entry_eq]
  have hl := lv_entry ([.ref (gc_a X o)]) (n := 1) (Nat.le_of_ble_eq_true rfl)
  generalize (lg_sl ([.ref (gc_a X o)]) ++ List.replicate (1 - (lg_sl ([.ref (gc_a X o)])).length) Slot.unset).toArray = ls at hl ⊢
  have hl : lv_has ls 1 [(0, .ref (gc_a X o))] := hl
  refine lv_aload_n hx hb dd_pr_init_0 rfl (lv_at hl 0 rfl) ?_
  refine W.objInit hx hb hown (hg _ kw_466) (hg _ kw_467) (hg _ kw_468) rfl (by rw [hml]; exact hl.1) rfl dd_pr_init_1 (Nat.le_of_ble_eq_true rfl) (Nat.le_of_ble_eq_true rfl) ?_
  refine W.eq (g2 := F0 m 4 ls []) rfl ?_
  refine lv_aload_n hx hb dd_pr_init_4 rfl (lv_at hl 0 rfl) ?_
  refine lv_bipush (v := (32 : Int32)) hx hb dd_pr_init_5 (by decide) ?_
  refine bw_newa_int (n := o + 1) (len := 32) hx hb (hg _ kw_469) hX (bw_hs hX hs0 (by omega)) hA hK.1 G (bc_N0 (gq_pr_kinds ho) (fun j => hz.1 _ (by omega) j) (hz.2 _ (by omega)).1 (hz.2 _ (by omega)).2) (by decide) (by decide) (by decide) (Nat.le_of_ble_eq_true rfl) (Nat.le_of_ble_eq_true rfl) dd_pr_init_7 (fun H G => ?_)
  have G : bw_G X _ (o + 2) s H _ := G
  refine W.widen (k := 1) (n := 32) (Nat.le_of_ble_eq_true rfl) (Nat.le_of_ble_eq_true rfl) ?_
  have hz := bw_Zw (a1 := o + 2) hz (by omega)
  refine bp_pr_kinds (o := o) hx hb hg hown (hg _ kw_81) hi rfl hK.1 G ho (by omega) dd_pr_init_9 (fun H locs G => ?_)
  have hz := bw_Zs (k := o) (j := 0) hz (by omega)
  refine lv_aload_n hx hb dd_pr_init_12 rfl (lv_at hl 0 rfl) ?_
  refine W.eq (g2 := F0 m 13 _ _) rfl ?_
  refine lv_bipush (v := (32 : Int32)) hx hb dd_pr_init_13 (by decide) ?_
  refine bw_newa_int (n := o + 2) (len := 32) hx hb (hg _ kw_469) hX (bw_hs hX hs0 (by omega)) hA hK.1 G (bc_N0 (gq_pr_targets ho) (fun j => hz.1 _ (by omega) j) (hz.2 _ (by omega)).1 (hz.2 _ (by omega)).2) (by decide) (by decide) (by decide) (Nat.le_of_ble_eq_true rfl) (Nat.le_of_ble_eq_true rfl) dd_pr_init_15 (fun H G => ?_)
  have G : bw_G X _ (o + 3) s H _ := G
  refine W.widen (k := 2) (n := 64) (Nat.le_of_ble_eq_true rfl) (Nat.le_of_ble_eq_true rfl) ?_
  have hz := bw_Zw (a1 := o + 3) hz (by omega)
  refine bp_pr_targets (o := o) hx hb hg hown (hg _ kw_83) hi rfl hK.1 G ho (by omega) dd_pr_init_17 (fun H locs G => ?_)
  have hz := bw_Zs (k := o) (j := 1) hz (by omega)
  refine lv_aload_n hx hb dd_pr_init_20 rfl (lv_at hl 0 rfl) ?_
  refine lv_bipush (v := (32 : Int32)) hx hb dd_pr_init_21 (by decide) ?_
  refine bw_newa_int (n := o + 3) (len := 32) hx hb (hg _ kw_469) hX (bw_hs hX hs0 (by omega)) hA hK.1 G (bc_N0 (gq_pr_sources ho) (fun j => hz.1 _ (by omega) j) (hz.2 _ (by omega)).1 (hz.2 _ (by omega)).2) (by decide) (by decide) (by decide) (Nat.le_of_ble_eq_true rfl) (Nat.le_of_ble_eq_true rfl) dd_pr_init_23 (fun H G => ?_)
  have G : bw_G X _ (o + 4) s H _ := G
  refine W.widen (k := 3) (n := 96) (Nat.le_of_ble_eq_true rfl) (Nat.le_of_ble_eq_true rfl) ?_
  have hz := bw_Zw (a1 := o + 4) hz (by omega)
  refine bp_pr_sources (o := o) hx hb hg hown (hg _ kw_84) hi rfl hK.1 G ho (by omega) dd_pr_init_25 (fun H locs G => ?_)
  have hz := bw_Zs (k := o) (j := 2) hz (by omega)
  refine lv_aload_n hx hb dd_pr_init_28 rfl (lv_at hl 0 rfl) ?_
  refine W.eq (g2 := F0 m 29 _ _) rfl ?_
  refine lv_bipush (v := (32 : Int32)) hx hb dd_pr_init_29 (by decide) ?_
  refine bw_newa_int (n := o + 4) (len := 32) hx hb (hg _ kw_469) hX (bw_hs hX hs0 (by omega)) hA hK.1 G (bc_N0 (gq_pr_offsets ho) (fun j => hz.1 _ (by omega) j) (hz.2 _ (by omega)).1 (hz.2 _ (by omega)).2) (by decide) (by decide) (by decide) (Nat.le_of_ble_eq_true rfl) (Nat.le_of_ble_eq_true rfl) dd_pr_init_31 (fun H G => ?_)
  have G : bw_G X _ (o + 5) s H _ := G
  refine W.widen (k := 4) (n := 128) (Nat.le_of_ble_eq_true rfl) (Nat.le_of_ble_eq_true rfl) ?_
  have hz := bw_Zw (a1 := o + 5) hz (by omega)
  refine bp_pr_offsets (o := o) hx hb hg hown (hg _ kw_85) hi rfl hK.1 G ho (by omega) dd_pr_init_33 (fun H locs G => ?_)
  have hz := bw_Zs (k := o) (j := 3) hz (by omega)
  refine lv_aload_n hx hb dd_pr_init_36 rfl (lv_at hl 0 rfl) ?_
  refine lv_bipush (v := (32 : Int32)) hx hb dd_pr_init_37 (by decide) ?_
  refine bw_newa_int (n := o + 5) (len := 32) hx hb (hg _ kw_469) hX (bw_hs hX hs0 (by omega)) hA hK.1 G (bc_N0 (gq_pr_numbers ho) (fun j => hz.1 _ (by omega) j) (hz.2 _ (by omega)).1 (hz.2 _ (by omega)).2) (by decide) (by decide) (by decide) (Nat.le_of_ble_eq_true rfl) (Nat.le_of_ble_eq_true rfl) dd_pr_init_39 (fun H G => ?_)
  have G : bw_G X _ (o + 6) s H _ := G
  refine W.widen (k := 5) (n := 160) (Nat.le_of_ble_eq_true rfl) (Nat.le_of_ble_eq_true rfl) ?_
  have hz := bw_Zw (a1 := o + 6) hz (by omega)
  refine bp_pr_numbers (o := o) hx hb hg hown (hg _ kw_86) hi rfl hK.1 G ho (by omega) dd_pr_init_41 (fun H locs G => ?_)
  have hz := bw_Zs (k := o) (j := 4) hz (by omega)
  refine lv_aload_n hx hb dd_pr_init_44 rfl (lv_at hl 0 rfl) ?_
  refine W.eq (g2 := F0 m 45 _ _) rfl ?_
  refine lv_iconst (v := (0 : Int32)) hx hb dd_pr_init_45 (by decide) ?_
  refine bz_pr_count (o := o) hx hb hg hown (hg _ kw_82) hK.1 G ho (by omega) (congrFun hC1 5) dd_pr_init_46 (fun H locs G => ?_)
  refine lv_aload_n hx hb dd_pr_init_49 rfl (lv_at hl 0 rfl) ?_
  refine lv_iconst (v := (0 : Int32)) hx hb dd_pr_init_50 (by decide) ?_
  refine bz_pr_sound (o := o) hx hb hg hown (hg _ kw_87) hK.1 G ho (by omega) (congrFun hC1 6) dd_pr_init_51 (fun H locs G => ?_)
  exact W.vret hx hb hr (fun t ht hW => bw_end G ht) G.2.2.2.2 dd_pr_init_54 hlocks
abbrev rm_le_init : Room := { frames := 1, cells := 4, slots := 56, locals := 23 }
theorem dd_le_init_0 : decode by_le_init 0 = .ok (.aload_n 0, 1) := by decide +kernel
theorem dd_le_init_1 : decode by_le_init 1 = .ok (.invokespecial 3, 3) := by decide +kernel
theorem dd_le_init_4 : decode by_le_init 4 = .ok (.aload_n 0, 1) := by decide +kernel
theorem dd_le_init_5 : decode by_le_init 5 = .ok (.bipush 8, 2) := by decide +kernel
theorem dd_le_init_7 : decode by_le_init 7 = .ok (.newarray .int, 2) := by decide +kernel
theorem dd_le_init_9 : decode by_le_init 9 = .ok (.putfield 9, 3) := by decide +kernel
theorem dd_le_init_12 : decode by_le_init 12 = .ok (.aload_n 0, 1) := by decide +kernel
theorem dd_le_init_13 : decode by_le_init 13 = .ok (.bipush 8, 2) := by decide +kernel
theorem dd_le_init_15 : decode by_le_init 15 = .ok (.newarray .int, 2) := by decide +kernel
theorem dd_le_init_17 : decode by_le_init 17 = .ok (.putfield 15, 3) := by decide +kernel
theorem dd_le_init_20 : decode by_le_init 20 = .ok (.aload_n 0, 1) := by decide +kernel
theorem dd_le_init_21 : decode by_le_init 21 = .ok (.bipush 8, 2) := by decide +kernel
theorem dd_le_init_23 : decode by_le_init 23 = .ok (.newarray .int, 2) := by decide +kernel
theorem dd_le_init_25 : decode by_le_init 25 = .ok (.putfield 18, 3) := by decide +kernel
theorem dd_le_init_28 : decode by_le_init 28 = .ok (.aload_n 0, 1) := by decide +kernel
theorem dd_le_init_29 : decode by_le_init 29 = .ok (.bipush 32, 2) := by decide +kernel
theorem dd_le_init_31 : decode by_le_init 31 = .ok (.newarray .int, 2) := by decide +kernel
theorem dd_le_init_33 : decode by_le_init 33 = .ok (.putfield 21, 3) := by decide +kernel
theorem dd_le_init_36 : decode by_le_init 36 = .ok (.aload_n 0, 1) := by decide +kernel
theorem dd_le_init_37 : decode by_le_init 37 = .ok (.getfield 9, 3) := by decide +kernel
theorem dd_le_init_40 : decode by_le_init 40 = .ok (.bipush 100, 2) := by decide +kernel
theorem dd_le_init_42 : decode by_le_init 42 = .ok (.invokestatic 24, 3) := by decide +kernel
theorem dd_le_init_45 : decode by_le_init 45 = .ok (.return_, 1) := by decide +kernel
set_option maxRecDepth 100000 in
set_option maxHeartbeats 8000000 in
theorem ct_le_init (l : Launch) (X : gw_X) (C Y : gw_M) (N : Nat → Nat → Bool) (o : Nat) (ho : gc_k o = (3, 0)) (hz : bw_Z C N 0 o) : Met l yy_le_init (Cond.code yy_le_init by_le_init 1 none :: gw_w) rm_le_init (va_Pc [.ref (gc_a X o)] (bw_B X (bw_E X C Y N) (o + 1))) (bw_Q X (bw_E X (bw_fl C (o + 1) 8 (100 : Int32)) Y (bw_s (bw_s (bw_s (bw_s N o 0) o 1) o 2) o 3)) (o + 5)) 4 56 (bw_A X) := by
  refine Met.ofW (cc := by_le_init) (maxL := 1) (ret := none) (by decide) rfl ?_
  intro p e s m args below meth c s₁ B hml hv
  obtain ⟨rfl, hK, hP, hD, hs0⟩ := hv
  have hx := B.exec
  have hb := B.bytes
  have hr := B.returns
  have hlocks := B.notSynchronized
  have hts := atoms_spec (ws := Cond.code yy_le_init by_le_init 1 none :: gw_w) B.pre
  have hg : ∀ w ∈ gw_w, w.before ([.ref (gc_a X o)] : List Value).toArray s = true := fun w h => hts w (List.mem_cons_of_mem _ h)
  have hown : s.vm.findClass "AccountMachine$Ledger" = some m.cls := findClass_of_methodNamed B.named
  have hi : meth.name = "<init>" := (name_of_methodNamed B.named B.method).1
  have hX := hK.2.2.2
  have hA : X.2.1 0 ≤ s.heap.size := by
    have := hX (o + 1)
    omega
  have hC1 : C.1 o = fun _ => 0 := (hz.2 _ (Nat.le_refl _)).1
  have hC2 : C.2 o = fun _ => 0 := (hz.2 _ (Nat.le_refl _)).2
  have hz := bw_Zw (a1 := o + 1) hz (by omega)
  have G : bw_G X (bw_E X C Y N) (o + 1) s s.heap [] := ⟨hP, hD, va_S.rf⟩
  rw [lg_entry_eq]
  have hl := lv_entry ([.ref (gc_a X o)]) (n := 1) (Nat.le_of_ble_eq_true rfl)
  generalize (lg_sl ([.ref (gc_a X o)]) ++ List.replicate (1 - (lg_sl ([.ref (gc_a X o)])).length) Slot.unset).toArray = ls at hl ⊢
  have hl : lv_has ls 1 [(0, .ref (gc_a X o))] := hl
  refine lv_aload_n hx hb dd_le_init_0 rfl (lv_at hl 0 rfl) ?_
  refine W.objInit hx hb hown (hg _ kw_470) (hg _ kw_467) (hg _ kw_468) rfl (by rw [hml]; exact hl.1) rfl dd_le_init_1 (Nat.le_of_ble_eq_true rfl) (Nat.le_of_ble_eq_true rfl) ?_
  refine W.eq (g2 := F0 m 4 ls []) rfl ?_
  refine lv_aload_n hx hb dd_le_init_4 rfl (lv_at hl 0 rfl) ?_
  refine lv_bipush (v := (8 : Int32)) hx hb dd_le_init_5 (by decide) ?_
  refine bw_newa_int (n := o + 1) (len := 8) hx hb (hg _ kw_469) hX (bw_hs hX hs0 (by omega)) hA hK.1 G (bc_N0 (gq_le_balances ho) (fun j => hz.1 _ (by omega) j) (hz.2 _ (by omega)).1 (hz.2 _ (by omega)).2) (by decide) (by decide) (by decide) (Nat.le_of_ble_eq_true rfl) (Nat.le_of_ble_eq_true rfl) dd_le_init_7 (fun H G => ?_)
  have G : bw_G X _ (o + 2) s H _ := G
  refine W.widen (k := 1) (n := 8) (Nat.le_of_ble_eq_true rfl) (Nat.le_of_ble_eq_true rfl) ?_
  have hz := bw_Zw (a1 := o + 2) hz (by omega)
  refine bp_le_balances (o := o) hx hb hg hown (hg _ kw_63) hi rfl hK.1 G ho (by omega) dd_le_init_9 (fun H locs G => ?_)
  have hz := bw_Zs (k := o) (j := 0) hz (by omega)
  refine lv_aload_n hx hb dd_le_init_12 rfl (lv_at hl 0 rfl) ?_
  refine W.eq (g2 := F0 m 13 _ _) rfl ?_
  refine lv_bipush (v := (8 : Int32)) hx hb dd_le_init_13 (by decide) ?_
  refine bw_newa_int (n := o + 2) (len := 8) hx hb (hg _ kw_469) hX (bw_hs hX hs0 (by omega)) hA hK.1 G (bc_N0 (gq_le_owners ho) (fun j => hz.1 _ (by omega) j) (hz.2 _ (by omega)).1 (hz.2 _ (by omega)).2) (by decide) (by decide) (by decide) (Nat.le_of_ble_eq_true rfl) (Nat.le_of_ble_eq_true rfl) dd_le_init_15 (fun H G => ?_)
  have G : bw_G X _ (o + 3) s H _ := G
  refine W.widen (k := 2) (n := 16) (Nat.le_of_ble_eq_true rfl) (Nat.le_of_ble_eq_true rfl) ?_
  have hz := bw_Zw (a1 := o + 3) hz (by omega)
  refine bp_le_owners (o := o) hx hb hg hown (hg _ kw_68) hi rfl hK.1 G ho (by omega) dd_le_init_17 (fun H locs G => ?_)
  have hz := bw_Zs (k := o) (j := 1) hz (by omega)
  refine lv_aload_n hx hb dd_le_init_20 rfl (lv_at hl 0 rfl) ?_
  refine lv_bipush (v := (8 : Int32)) hx hb dd_le_init_21 (by decide) ?_
  refine bw_newa_int (n := o + 3) (len := 8) hx hb (hg _ kw_469) hX (bw_hs hX hs0 (by omega)) hA hK.1 G (bc_N0 (gq_le_sizes ho) (fun j => hz.1 _ (by omega) j) (hz.2 _ (by omega)).1 (hz.2 _ (by omega)).2) (by decide) (by decide) (by decide) (Nat.le_of_ble_eq_true rfl) (Nat.le_of_ble_eq_true rfl) dd_le_init_23 (fun H G => ?_)
  have G : bw_G X _ (o + 4) s H _ := G
  refine W.widen (k := 3) (n := 24) (Nat.le_of_ble_eq_true rfl) (Nat.le_of_ble_eq_true rfl) ?_
  have hz := bw_Zw (a1 := o + 4) hz (by omega)
  refine bp_le_sizes (o := o) hx hb hg hown (hg _ kw_69) hi rfl hK.1 G ho (by omega) dd_le_init_25 (fun H locs G => ?_)
  have hz := bw_Zs (k := o) (j := 2) hz (by omega)
  refine lv_aload_n hx hb dd_le_init_28 rfl (lv_at hl 0 rfl) ?_
  refine W.eq (g2 := F0 m 29 _ _) rfl ?_
  refine lv_bipush (v := (32 : Int32)) hx hb dd_le_init_29 (by decide) ?_
  refine bw_newa_int (n := o + 4) (len := 32) hx hb (hg _ kw_469) hX (bw_hs hX hs0 (by omega)) hA hK.1 G (bc_N0 (gq_le_words ho) (fun j => hz.1 _ (by omega) j) (hz.2 _ (by omega)).1 (hz.2 _ (by omega)).2) (by decide) (by decide) (by decide) (Nat.le_of_ble_eq_true rfl) (Nat.le_of_ble_eq_true rfl) dd_le_init_31 (fun H G => ?_)
  have G : bw_G X _ (o + 5) s H _ := G
  refine W.widen (k := 4) (n := 56) (Nat.le_of_ble_eq_true rfl) (Nat.le_of_ble_eq_true rfl) ?_
  have hz := bw_Zw (a1 := o + 5) hz (by omega)
  refine bp_le_words (o := o) hx hb hg hown (hg _ kw_70) hi rfl hK.1 G ho (by omega) dd_le_init_33 (fun H locs G => ?_)
  have hz := bw_Zs (k := o) (j := 3) hz (by omega)
  refine lv_aload_n hx hb dd_le_init_36 rfl (lv_at hl 0 rfl) ?_
  refine bg_le_balances (o := o) hx hb hg hown (hg _ kw_63) hK.1 G ho (by omega) (by repeat (first | exact bw_s_t | refine bw_s_m ?_)) dd_le_init_37 ?_
  refine lv_bipush (v := (100 : Int32)) hx hb dd_le_init_40 (by decide) ?_
  refine bw_size (fun hz0 => ?_)
  have hz1 := bw_hz (n := o + 4) hX G (bw_hs hX hs0 (by omega)) hz0
  refine bw_cv G (va_runS (As := [.ref (gc_a X (o + 1)), .int (100 : Int32)]) (rest := []) ⟨hx, hb, hml, hown, hts⟩ (ct_ar_fillI l X _ Y _ (o + 5) (o + 1) 8 (100 : Int32) (gq_le_balances ho) (by omega) (by decide)) (va_cwS 2 hts (gw_gT kw_471 kw_472 kw_27 kw_473) rfl rfl rfl (by decide +kernel) ⟨Nat.le_of_ble_eq_true rfl, Nat.le_of_ble_eq_true rfl⟩) ⟨bw_blind, bw_pre hK G hz1⟩ rfl rfl hl.1 rfl (Nat.le_of_ble_eq_true rfl) dd_le_init_42 ⟨Nat.le_of_ble_eq_true rfl, Nat.le_of_ble_eq_true rfl⟩) (fun H locs G => ?_)
  have hz := bw_Zf (k := o + 1) (n := 8) (v := (100 : Int32)) hz (by omega)
  exact W.vret hx hb hr (fun t ht hW => bw_end G ht) G.2.2.2.2 dd_le_init_45 hlocks
abbrev rm_od_init : Room := { frames := 1, cells := 2, slots := 8, locals := 20 }
theorem dd_od_init_0 : decode by_od_init 0 = .ok (.aload_n 0, 1) := by decide +kernel
theorem dd_od_init_1 : decode by_od_init 1 = .ok (.invokespecial 3, 3) := by decide +kernel
theorem dd_od_init_4 : decode by_od_init 4 = .ok (.aload_n 0, 1) := by decide +kernel
theorem dd_od_init_5 : decode by_od_init 5 = .ok (.iconst 0, 1) := by decide +kernel
theorem dd_od_init_6 : decode by_od_init 6 = .ok (.putfield 9, 3) := by decide +kernel
theorem dd_od_init_9 : decode by_od_init 9 = .ok (.aload_n 0, 1) := by decide +kernel
theorem dd_od_init_10 : decode by_od_init 10 = .ok (.iconst 0, 1) := by decide +kernel
theorem dd_od_init_11 : decode by_od_init 11 = .ok (.putfield 15, 3) := by decide +kernel
theorem dd_od_init_14 : decode by_od_init 14 = .ok (.aload_n 0, 1) := by decide +kernel
theorem dd_od_init_15 : decode by_od_init 15 = .ok (.iconst 0, 1) := by decide +kernel
theorem dd_od_init_16 : decode by_od_init 16 = .ok (.putfield 18, 3) := by decide +kernel
theorem dd_od_init_19 : decode by_od_init 19 = .ok (.aload_n 0, 1) := by decide +kernel
theorem dd_od_init_20 : decode by_od_init 20 = .ok (.iconst 4, 1) := by decide +kernel
theorem dd_od_init_21 : decode by_od_init 21 = .ok (.newarray .int, 2) := by decide +kernel
theorem dd_od_init_23 : decode by_od_init 23 = .ok (.putfield 21, 3) := by decide +kernel
theorem dd_od_init_26 : decode by_od_init 26 = .ok (.aload_n 0, 1) := by decide +kernel
theorem dd_od_init_27 : decode by_od_init 27 = .ok (.iconst 4, 1) := by decide +kernel
theorem dd_od_init_28 : decode by_od_init 28 = .ok (.newarray .int, 2) := by decide +kernel
theorem dd_od_init_30 : decode by_od_init 30 = .ok (.putfield 25, 3) := by decide +kernel
theorem dd_od_init_33 : decode by_od_init 33 = .ok (.return_, 1) := by decide +kernel
set_option maxRecDepth 100000 in
set_option maxHeartbeats 8000000 in
theorem ct_od_init (l : Launch) (X : gw_X) (C Y : gw_M) (N : Nat → Nat → Bool) (o : Nat) (ho : gc_k o = (4, 0)) (hz : bw_Z C N 0 o) : Met l yy_od_init (Cond.code yy_od_init by_od_init 1 none :: gw_w) rm_od_init (va_Pc [.ref (gc_a X o)] (bw_B X (bw_E X C Y N) (o + 1))) (bw_Q X (bw_E X C Y (bw_s (bw_s N o 3) o 4)) (o + 3)) 2 8 (bw_A X) := by
  refine Met.ofW (cc := by_od_init) (maxL := 1) (ret := none) (by decide) rfl ?_
  intro p e s m args below meth c s₁ B hml hv
  obtain ⟨rfl, hK, hP, hD, hs0⟩ := hv
  have hx := B.exec
  have hb := B.bytes
  have hr := B.returns
  have hlocks := B.notSynchronized
  have hts := atoms_spec (ws := Cond.code yy_od_init by_od_init 1 none :: gw_w) B.pre
  have hg : ∀ w ∈ gw_w, w.before ([.ref (gc_a X o)] : List Value).toArray s = true := fun w h => hts w (List.mem_cons_of_mem _ h)
  have hown : s.vm.findClass "AccountMachine$Order" = some m.cls := findClass_of_methodNamed B.named
  have hi : meth.name = "<init>" := (name_of_methodNamed B.named B.method).1
  have hX := hK.2.2.2
  have hA : X.2.1 0 ≤ s.heap.size := by
    have := hX (o + 1)
    omega
  have hC1 : C.1 o = fun _ => 0 := (hz.2 _ (Nat.le_refl _)).1
  have hC2 : C.2 o = fun _ => 0 := (hz.2 _ (Nat.le_refl _)).2
  have hz := bw_Zw (a1 := o + 1) hz (by omega)
  have G : bw_G X (bw_E X C Y N) (o + 1) s s.heap [] := ⟨hP, hD, va_S.rf⟩
  rw [lg_entry_eq]
  have hl := lv_entry ([.ref (gc_a X o)]) (n := 1) (Nat.le_of_ble_eq_true rfl)
  generalize (lg_sl ([.ref (gc_a X o)]) ++ List.replicate (1 - (lg_sl ([.ref (gc_a X o)])).length) Slot.unset).toArray = ls at hl ⊢
  have hl : lv_has ls 1 [(0, .ref (gc_a X o))] := hl
  refine lv_aload_n hx hb dd_od_init_0 rfl (lv_at hl 0 rfl) ?_
  refine W.objInit hx hb hown (hg _ kw_474) (hg _ kw_467) (hg _ kw_468) rfl (by rw [hml]; exact hl.1) rfl dd_od_init_1 (Nat.le_of_ble_eq_true rfl) (Nat.le_of_ble_eq_true rfl) ?_
  refine W.eq (g2 := F0 m 4 ls []) rfl ?_
  refine lv_aload_n hx hb dd_od_init_4 rfl (lv_at hl 0 rfl) ?_
  refine lv_iconst (v := (0 : Int32)) hx hb dd_od_init_5 (by decide) ?_
  refine bz_od_program (o := o) hx hb hg hown (hg _ kw_71) hK.1 G ho (by omega) (congrFun hC1 0) dd_od_init_6 (fun H locs G => ?_)
  refine lv_aload_n hx hb dd_od_init_9 rfl (lv_at hl 0 rfl) ?_
  refine lv_iconst (v := (0 : Int32)) hx hb dd_od_init_10 (by decide) ?_
  refine W.eq (g2 := F0 m 11 _ _) rfl ?_
  refine bz_od_argument (o := o) hx hb hg hown (hg _ kw_72) hK.1 G ho (by omega) (congrFun hC1 1) dd_od_init_11 (fun H locs G => ?_)
  refine lv_aload_n hx hb dd_od_init_14 rfl (lv_at hl 0 rfl) ?_
  refine lv_iconst (v := (0 : Int32)) hx hb dd_od_init_15 (by decide) ?_
  refine bz_od_count (o := o) hx hb hg hown (hg _ kw_0) hK.1 G ho (by omega) (congrFun hC1 2) dd_od_init_16 (fun H locs G => ?_)
  refine lv_aload_n hx hb dd_od_init_19 rfl (lv_at hl 0 rfl) ?_
  refine lv_iconst (v := (4 : Int32)) hx hb dd_od_init_20 (by decide) ?_
  refine bw_newa_int (n := o + 1) (len := 4) hx hb (hg _ kw_469) hX (bw_hs hX hs0 (by omega)) hA hK.1 G (bc_N0 (gq_od_accounts ho) (fun j => hz.1 _ (by omega) j) (hz.2 _ (by omega)).1 (hz.2 _ (by omega)).2) (by decide) (by decide) (by decide) (Nat.le_of_ble_eq_true rfl) (Nat.le_of_ble_eq_true rfl) dd_od_init_21 (fun H G => ?_)
  have G : bw_G X _ (o + 2) s H _ := G
  refine W.widen (k := 1) (n := 4) (Nat.le_of_ble_eq_true rfl) (Nat.le_of_ble_eq_true rfl) ?_
  have hz := bw_Zw (a1 := o + 2) hz (by omega)
  refine bp_od_accounts (o := o) hx hb hg hown (hg _ kw_1) hi rfl hK.1 G ho (by omega) dd_od_init_23 (fun H locs G => ?_)
  have hz := bw_Zs (k := o) (j := 3) hz (by omega)
  refine W.eq (g2 := F0 m 26 _ _) rfl ?_
  refine lv_aload_n hx hb dd_od_init_26 rfl (lv_at hl 0 rfl) ?_
  refine lv_iconst (v := (4 : Int32)) hx hb dd_od_init_27 (by decide) ?_
  refine bw_newa_int (n := o + 2) (len := 4) hx hb (hg _ kw_469) hX (bw_hs hX hs0 (by omega)) hA hK.1 G (bc_N0 (gq_od_marks ho) (fun j => hz.1 _ (by omega) j) (hz.2 _ (by omega)).1 (hz.2 _ (by omega)).2) (by decide) (by decide) (by decide) (Nat.le_of_ble_eq_true rfl) (Nat.le_of_ble_eq_true rfl) dd_od_init_28 (fun H G => ?_)
  have G : bw_G X _ (o + 3) s H _ := G
  refine W.widen (k := 2) (n := 8) (Nat.le_of_ble_eq_true rfl) (Nat.le_of_ble_eq_true rfl) ?_
  have hz := bw_Zw (a1 := o + 3) hz (by omega)
  refine bp_od_marks (o := o) hx hb hg hown (hg _ kw_2) hi rfl hK.1 G ho (by omega) dd_od_init_30 (fun H locs G => ?_)
  have hz := bw_Zs (k := o) (j := 4) hz (by omega)
  exact W.vret hx hb hr (fun t ht hW => bw_end G ht) G.2.2.2.2 dd_od_init_33 hlocks
abbrev rm_fr_init : Room := { frames := 2, cells := 6, slots := 83, locals := 40 }
theorem dd_fr_init_0 : decode by_fr_init 0 = .ok (.aload_n 0, 1) := by decide +kernel
theorem dd_fr_init_1 : decode by_fr_init 1 = .ok (.invokespecial 3, 3) := by decide +kernel
theorem dd_fr_init_4 : decode by_fr_init 4 = .ok (.aload_n 0, 1) := by decide +kernel
theorem dd_fr_init_5 : decode by_fr_init 5 = .ok (.new 9, 3) := by decide +kernel
theorem dd_fr_init_8 : decode by_fr_init 8 = .ok (.dup, 1) := by decide +kernel
theorem dd_fr_init_9 : decode by_fr_init 9 = .ok (.invokespecial 11, 3) := by decide +kernel
theorem dd_fr_init_12 : decode by_fr_init 12 = .ok (.putfield 12, 3) := by decide +kernel
theorem dd_fr_init_15 : decode by_fr_init 15 = .ok (.aload_n 0, 1) := by decide +kernel
theorem dd_fr_init_16 : decode by_fr_init 16 = .ok (.bipush 10, 2) := by decide +kernel
theorem dd_fr_init_18 : decode by_fr_init 18 = .ok (.newarray .long, 2) := by decide +kernel
theorem dd_fr_init_20 : decode by_fr_init 20 = .ok (.putfield 18, 3) := by decide +kernel
theorem dd_fr_init_23 : decode by_fr_init 23 = .ok (.aload_n 0, 1) := by decide +kernel
theorem dd_fr_init_24 : decode by_fr_init 24 = .ok (.bipush 56, 2) := by decide +kernel
theorem dd_fr_init_26 : decode by_fr_init 26 = .ok (.newarray .long, 2) := by decide +kernel
theorem dd_fr_init_28 : decode by_fr_init 28 = .ok (.putfield 22, 3) := by decide +kernel
theorem dd_fr_init_31 : decode by_fr_init 31 = .ok (.aload_n 0, 1) := by decide +kernel
theorem dd_fr_init_32 : decode by_fr_init 32 = .ok (.iconst 4, 1) := by decide +kernel
theorem dd_fr_init_33 : decode by_fr_init 33 = .ok (.newarray .int, 2) := by decide +kernel
theorem dd_fr_init_35 : decode by_fr_init 35 = .ok (.putfield 25, 3) := by decide +kernel
theorem dd_fr_init_38 : decode by_fr_init 38 = .ok (.aload_n 0, 1) := by decide +kernel
theorem dd_fr_init_39 : decode by_fr_init 39 = .ok (.iconst 0, 1) := by decide +kernel
theorem dd_fr_init_40 : decode by_fr_init 40 = .ok (.putfield 29, 3) := by decide +kernel
theorem dd_fr_init_43 : decode by_fr_init 43 = .ok (.aload_n 0, 1) := by decide +kernel
theorem dd_fr_init_44 : decode by_fr_init 44 = .ok (.iconst 0, 1) := by decide +kernel
theorem dd_fr_init_45 : decode by_fr_init 45 = .ok (.putfield 33, 3) := by decide +kernel
theorem dd_fr_init_48 : decode by_fr_init 48 = .ok (.return_, 1) := by decide +kernel
set_option maxRecDepth 100000 in
set_option maxHeartbeats 8000000 in
theorem ct_fr_init (l : Launch) (X : gw_X) (C Y : gw_M) (N : Nat → Nat → Bool) (o : Nat) (ho : gc_k o = (6, 0)) (hz : bw_Z C N 0 o) : Met l yy_fr_init (Cond.code yy_fr_init by_fr_init 1 none :: gw_w) rm_fr_init (va_Pc [.ref (gc_a X o)] (bw_B X (bw_E X C Y N) (o + 1))) (bw_Q X (bw_E X C Y (bw_s (bw_s (bw_s (bw_s (bw_s (bw_s N (o + 1) 3) (o + 1) 4) o 0) o 1) o 2) o 3)) (o + 7)) 6 83 (bw_A X) := by
  refine Met.ofW (cc := by_fr_init) (maxL := 1) (ret := none) (by decide) rfl ?_
  intro p e s m args below meth c s₁ B hml hv
  obtain ⟨rfl, hK, hP, hD, hs0⟩ := hv
  have hx := B.exec
  have hb := B.bytes
  have hr := B.returns
  have hlocks := B.notSynchronized
  have hts := atoms_spec (ws := Cond.code yy_fr_init by_fr_init 1 none :: gw_w) B.pre
  have hg : ∀ w ∈ gw_w, w.before ([.ref (gc_a X o)] : List Value).toArray s = true := fun w h => hts w (List.mem_cons_of_mem _ h)
  have hown : s.vm.findClass "AccountMachine$Frame" = some m.cls := findClass_of_methodNamed B.named
  have hi : meth.name = "<init>" := (name_of_methodNamed B.named B.method).1
  have hX := hK.2.2.2
  have hA : X.2.1 0 ≤ s.heap.size := by
    have := hX (o + 1)
    omega
  have hC1 : C.1 o = fun _ => 0 := (hz.2 _ (Nat.le_refl _)).1
  have hC2 : C.2 o = fun _ => 0 := (hz.2 _ (Nat.le_refl _)).2
  have hz := bw_Zw (a1 := o + 1) hz (by omega)
  have G : bw_G X (bw_E X C Y N) (o + 1) s s.heap [] := ⟨hP, hD, va_S.rf⟩
  rw [lg_entry_eq]
  have hl := lv_entry ([.ref (gc_a X o)]) (n := 1) (Nat.le_of_ble_eq_true rfl)
  generalize (lg_sl ([.ref (gc_a X o)]) ++ List.replicate (1 - (lg_sl ([.ref (gc_a X o)])).length) Slot.unset).toArray = ls at hl ⊢
  have hl : lv_has ls 1 [(0, .ref (gc_a X o))] := hl
  refine lv_aload_n hx hb dd_fr_init_0 rfl (lv_at hl 0 rfl) ?_
  refine W.objInit hx hb hown (hg _ kw_475) (hg _ kw_467) (hg _ kw_468) rfl (by rw [hml]; exact hl.1) rfl dd_fr_init_1 (Nat.le_of_ble_eq_true rfl) (Nat.le_of_ble_eq_true rfl) ?_
  refine W.eq (g2 := F0 m 4 ls []) rfl ?_
  refine lv_aload_n hx hb dd_fr_init_4 rfl (lv_at hl 0 rfl) ?_
  refine bw_new (n := o + 1) (ci := 2) (fs := [.int 0, .int 0, .int 0, .null, .null]) (Cn := na_od) (T := fi_od) (Nf := 5) hx hb hg la_od ty_od tk_od hown (hg _ kw_476) (hg _ kw_477) (hg _ kw_14) hX (bw_hs hX hs0 (by omega)) hA hK.1 G rfl (bc_N4 (gq_fr_order ho) (fun j => hz.1 _ (by omega) j) (hz.2 _ (by omega)).1 (hz.2 _ (by omega)).2) (by decide) (Nat.le_of_ble_eq_true rfl) (Nat.le_of_ble_eq_true rfl) dd_fr_init_5 (fun H G => ?_)
  have G : bw_G X _ (o + 2) s H _ := G
  refine W.widen (k := 1) (n := 5) (Nat.le_of_ble_eq_true rfl) (Nat.le_of_ble_eq_true rfl) ?_
  refine lv_dup hx hb dd_fr_init_8 rfl ?_
  refine bw_size (fun hz0 => ?_)
  have hz1 := bw_hz (n := o + 1) hX G (bw_hs hX hs0 (by omega)) hz0
  refine bw_cv G (va_runIN (As := []) (rest := [.ref (gc_a X (o + 1)), .ref (gc_a X o)]) ⟨hx, hb, hml, hown, hts⟩ (ct_od_init l X _ Y _ (o + 1) (gq_fr_order ho) (bw_Zw hz (by omega))) ⟨va_cnB 0 hts (gw_gN kw_478) rfl rfl rfl (hK.2.1 _ kn_49) (hg _ kw_14) (by decide +kernel) ⟨Nat.le_of_ble_eq_true rfl, Nat.le_of_ble_eq_true rfl⟩, rfl, (hg _ kw_479)⟩ ⟨bw_blind, bw_pre hK G hz1⟩ rfl rfl hl.1 rfl (Nat.le_of_ble_eq_true rfl) dd_fr_init_9 ⟨Nat.le_of_ble_eq_true rfl, Nat.le_of_ble_eq_true rfl⟩) (fun H locs G => ?_)
  have G : bw_G X _ (o + 4) s H _ := G
  refine W.widen (k := 3) (n := 13) (Nat.le_of_ble_eq_true rfl) (Nat.le_of_ble_eq_true rfl) ?_
  have hz := bw_Zw (a1 := o + 4) hz (by omega)
  have hz := bw_Zs (k := o + 1) (j := 3) hz (by omega)
  have hz := bw_Zs (k := o + 1) (j := 4) hz (by omega)
  refine bp_fr_order (o := o) hx hb hg hown (hg _ kw_4) hi rfl hK.1 G ho (by omega) dd_fr_init_12 (fun H locs G => ?_)
  have hz := bw_Zs (k := o) (j := 0) hz (by omega)
  refine W.eq (g2 := F0 m 15 _ _) rfl ?_
  refine lv_aload_n hx hb dd_fr_init_15 rfl (lv_at hl 0 rfl) ?_
  refine lv_bipush (v := (10 : Int32)) hx hb dd_fr_init_16 (by decide) ?_
  refine bw_newa_long (n := o + 4) (len := 10) hx hb (hg _ kw_480) hX (bw_hs hX hs0 (by omega)) hA hK.1 G (bc_N1 (gq_fr_registers ho) (fun j => hz.1 _ (by omega) j) (hz.2 _ (by omega)).1 (hz.2 _ (by omega)).2) (by decide) (by decide) (by decide) (Nat.le_of_ble_eq_true rfl) (Nat.le_of_ble_eq_true rfl) dd_fr_init_18 (fun H G => ?_)
  have G : bw_G X _ (o + 5) s H _ := G
  refine W.widen (k := 4) (n := 23) (Nat.le_of_ble_eq_true rfl) (Nat.le_of_ble_eq_true rfl) ?_
  have hz := bw_Zw (a1 := o + 5) hz (by omega)
  refine bp_fr_registers (o := o) hx hb hg hown (hg _ kw_28) hi rfl hK.1 G ho (by omega) dd_fr_init_20 (fun H locs G => ?_)
  have hz := bw_Zs (k := o) (j := 1) hz (by omega)
  refine lv_aload_n hx hb dd_fr_init_23 rfl (lv_at hl 0 rfl) ?_
  refine lv_bipush (v := (56 : Int32)) hx hb dd_fr_init_24 (by decide) ?_
  refine bw_newa_long (n := o + 5) (len := 56) hx hb (hg _ kw_480) hX (bw_hs hX hs0 (by omega)) hA hK.1 G (bc_N1 (gq_fr_memory ho) (fun j => hz.1 _ (by omega) j) (hz.2 _ (by omega)).1 (hz.2 _ (by omega)).2) (by decide) (by decide) (by decide) (Nat.le_of_ble_eq_true rfl) (Nat.le_of_ble_eq_true rfl) dd_fr_init_26 (fun H G => ?_)
  have G : bw_G X _ (o + 6) s H _ := G
  refine W.widen (k := 5) (n := 79) (Nat.le_of_ble_eq_true rfl) (Nat.le_of_ble_eq_true rfl) ?_
  have hz := bw_Zw (a1 := o + 6) hz (by omega)
  refine bp_fr_memory (o := o) hx hb hg hown (hg _ kw_3) hi rfl hK.1 G ho (by omega) dd_fr_init_28 (fun H locs G => ?_)
  have hz := bw_Zs (k := o) (j := 2) hz (by omega)
  refine W.eq (g2 := F0 m 31 _ _) rfl ?_
  refine lv_aload_n hx hb dd_fr_init_31 rfl (lv_at hl 0 rfl) ?_
  refine lv_iconst (v := (4 : Int32)) hx hb dd_fr_init_32 (by decide) ?_
  refine bw_newa_int (n := o + 6) (len := 4) hx hb (hg _ kw_469) hX (bw_hs hX hs0 (by omega)) hA hK.1 G (bc_N0 (gq_fr_remembered ho) (fun j => hz.1 _ (by omega) j) (hz.2 _ (by omega)).1 (hz.2 _ (by omega)).2) (by decide) (by decide) (by decide) (Nat.le_of_ble_eq_true rfl) (Nat.le_of_ble_eq_true rfl) dd_fr_init_33 (fun H G => ?_)
  have G : bw_G X _ (o + 7) s H _ := G
  refine W.widen (k := 6) (n := 83) (Nat.le_of_ble_eq_true rfl) (Nat.le_of_ble_eq_true rfl) ?_
  have hz := bw_Zw (a1 := o + 7) hz (by omega)
  refine bp_fr_remembered (o := o) hx hb hg hown (hg _ kw_43) hi rfl hK.1 G ho (by omega) dd_fr_init_35 (fun H locs G => ?_)
  have hz := bw_Zs (k := o) (j := 3) hz (by omega)
  refine lv_aload_n hx hb dd_fr_init_38 rfl (lv_at hl 0 rfl) ?_
  refine lv_iconst (v := (0 : Int32)) hx hb dd_fr_init_39 (by decide) ?_
  refine bz_fr_rememberedCount (o := o) hx hb hg hown (hg _ kw_30) hK.1 G ho (by omega) (congrFun hC1 4) dd_fr_init_40 (fun H locs G => ?_)
  refine lv_aload_n hx hb dd_fr_init_43 rfl (lv_at hl 0 rfl) ?_
  refine W.eq (g2 := F0 m 44 _ _) rfl ?_
  refine lv_iconst (v := (0 : Int32)) hx hb dd_fr_init_44 (by decide) ?_
  refine bz_fr_place (o := o) hx hb hg hown (hg _ kw_31) hK.1 G ho (by omega) (congrFun hC1 5) dd_fr_init_45 (fun H locs G => ?_)
  exact W.vret hx hb hr (fun t ht hW => bw_end G ht) G.2.2.2.2 dd_fr_init_48 hlocks
