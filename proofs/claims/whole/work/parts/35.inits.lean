abbrev rm_mo_init : Room := { frames := 1, cells := 23, slots := 1087, locals := 20 }
theorem dd_mo_init_0 : decode by_mo_init 0 = .ok (.aload_n 0, 1) := by decide +kernel
theorem dd_mo_init_1 : decode by_mo_init 1 = .ok (.invokespecial 1, 3) := by decide +kernel
theorem dd_mo_init_4 : decode by_mo_init 4 = .ok (.aload_n 0, 1) := by decide +kernel
theorem dd_mo_init_5 : decode by_mo_init 5 = .ok (.bipush 16, 2) := by decide +kernel
theorem dd_mo_init_7 : decode by_mo_init 7 = .ok (.newarray .int, 2) := by decide +kernel
theorem dd_mo_init_9 : decode by_mo_init 9 = .ok (.putfield 7, 3) := by decide +kernel
theorem dd_mo_init_12 : decode by_mo_init 12 = .ok (.aload_n 0, 1) := by decide +kernel
theorem dd_mo_init_13 : decode by_mo_init 13 = .ok (.bipush 16, 2) := by decide +kernel
theorem dd_mo_init_15 : decode by_mo_init 15 = .ok (.newarray .int, 2) := by decide +kernel
theorem dd_mo_init_17 : decode by_mo_init 17 = .ok (.putfield 13, 3) := by decide +kernel
theorem dd_mo_init_20 : decode by_mo_init 20 = .ok (.aload_n 0, 1) := by decide +kernel
theorem dd_mo_init_21 : decode by_mo_init 21 = .ok (.bipush 16, 2) := by decide +kernel
theorem dd_mo_init_23 : decode by_mo_init 23 = .ok (.newarray .int, 2) := by decide +kernel
theorem dd_mo_init_25 : decode by_mo_init 25 = .ok (.putfield 16, 3) := by decide +kernel
theorem dd_mo_init_28 : decode by_mo_init 28 = .ok (.aload_n 0, 1) := by decide +kernel
theorem dd_mo_init_29 : decode by_mo_init 29 = .ok (.bipush 64, 2) := by decide +kernel
theorem dd_mo_init_31 : decode by_mo_init 31 = .ok (.newarray .int, 2) := by decide +kernel
theorem dd_mo_init_33 : decode by_mo_init 33 = .ok (.putfield 19, 3) := by decide +kernel
theorem dd_mo_init_36 : decode by_mo_init 36 = .ok (.aload_n 0, 1) := by decide +kernel
theorem dd_mo_init_37 : decode by_mo_init 37 = .ok (.iconst 3, 1) := by decide +kernel
theorem dd_mo_init_38 : decode by_mo_init 38 = .ok (.newarray .int, 2) := by decide +kernel
theorem dd_mo_init_40 : decode by_mo_init 40 = .ok (.putfield 22, 3) := by decide +kernel
theorem dd_mo_init_43 : decode by_mo_init 43 = .ok (.aload_n 0, 1) := by decide +kernel
theorem dd_mo_init_44 : decode by_mo_init 44 = .ok (.iconst 3, 1) := by decide +kernel
theorem dd_mo_init_45 : decode by_mo_init 45 = .ok (.newarray .boolean, 2) := by decide +kernel
theorem dd_mo_init_47 : decode by_mo_init 47 = .ok (.putfield 25, 3) := by decide +kernel
theorem dd_mo_init_50 : decode by_mo_init 50 = .ok (.aload_n 0, 1) := by decide +kernel
theorem dd_mo_init_51 : decode by_mo_init 51 = .ok (.bipush 96, 2) := by decide +kernel
theorem dd_mo_init_53 : decode by_mo_init 53 = .ok (.newarray .int, 2) := by decide +kernel
theorem dd_mo_init_55 : decode by_mo_init 55 = .ok (.putfield 29, 3) := by decide +kernel
theorem dd_mo_init_58 : decode by_mo_init 58 = .ok (.aload_n 0, 1) := by decide +kernel
theorem dd_mo_init_59 : decode by_mo_init 59 = .ok (.bipush 96, 2) := by decide +kernel
theorem dd_mo_init_61 : decode by_mo_init 61 = .ok (.newarray .int, 2) := by decide +kernel
theorem dd_mo_init_63 : decode by_mo_init 63 = .ok (.putfield 32, 3) := by decide +kernel
theorem dd_mo_init_66 : decode by_mo_init 66 = .ok (.aload_n 0, 1) := by decide +kernel
theorem dd_mo_init_67 : decode by_mo_init 67 = .ok (.bipush 96, 2) := by decide +kernel
theorem dd_mo_init_69 : decode by_mo_init 69 = .ok (.newarray .int, 2) := by decide +kernel
theorem dd_mo_init_71 : decode by_mo_init 71 = .ok (.putfield 35, 3) := by decide +kernel
theorem dd_mo_init_74 : decode by_mo_init 74 = .ok (.aload_n 0, 1) := by decide +kernel
theorem dd_mo_init_75 : decode by_mo_init 75 = .ok (.bipush 96, 2) := by decide +kernel
theorem dd_mo_init_77 : decode by_mo_init 77 = .ok (.newarray .int, 2) := by decide +kernel
theorem dd_mo_init_79 : decode by_mo_init 79 = .ok (.putfield 38, 3) := by decide +kernel
theorem dd_mo_init_82 : decode by_mo_init 82 = .ok (.aload_n 0, 1) := by decide +kernel
theorem dd_mo_init_83 : decode by_mo_init 83 = .ok (.bipush 96, 2) := by decide +kernel
theorem dd_mo_init_85 : decode by_mo_init 85 = .ok (.newarray .int, 2) := by decide +kernel
theorem dd_mo_init_87 : decode by_mo_init 87 = .ok (.putfield 41, 3) := by decide +kernel
theorem dd_mo_init_90 : decode by_mo_init 90 = .ok (.aload_n 0, 1) := by decide +kernel
theorem dd_mo_init_91 : decode by_mo_init 91 = .ok (.bipush 9, 2) := by decide +kernel
theorem dd_mo_init_93 : decode by_mo_init 93 = .ok (.newarray .int, 2) := by decide +kernel
theorem dd_mo_init_95 : decode by_mo_init 95 = .ok (.putfield 44, 3) := by decide +kernel
theorem dd_mo_init_98 : decode by_mo_init 98 = .ok (.aload_n 0, 1) := by decide +kernel
theorem dd_mo_init_99 : decode by_mo_init 99 = .ok (.bipush 9, 2) := by decide +kernel
theorem dd_mo_init_101 : decode by_mo_init 101 = .ok (.newarray .int, 2) := by decide +kernel
theorem dd_mo_init_103 : decode by_mo_init 103 = .ok (.putfield 47, 3) := by decide +kernel
theorem dd_mo_init_106 : decode by_mo_init 106 = .ok (.aload_n 0, 1) := by decide +kernel
theorem dd_mo_init_107 : decode by_mo_init 107 = .ok (.bipush 9, 2) := by decide +kernel
theorem dd_mo_init_109 : decode by_mo_init 109 = .ok (.newarray .int, 2) := by decide +kernel
theorem dd_mo_init_111 : decode by_mo_init 111 = .ok (.putfield 50, 3) := by decide +kernel
theorem dd_mo_init_114 : decode by_mo_init 114 = .ok (.aload_n 0, 1) := by decide +kernel
theorem dd_mo_init_115 : decode by_mo_init 115 = .ok (.bipush 36, 2) := by decide +kernel
theorem dd_mo_init_117 : decode by_mo_init 117 = .ok (.newarray .int, 2) := by decide +kernel
theorem dd_mo_init_119 : decode by_mo_init 119 = .ok (.putfield 53, 3) := by decide +kernel
theorem dd_mo_init_122 : decode by_mo_init 122 = .ok (.aload_n 0, 1) := by decide +kernel
theorem dd_mo_init_123 : decode by_mo_init 123 = .ok (.bipush 36, 2) := by decide +kernel
theorem dd_mo_init_125 : decode by_mo_init 125 = .ok (.newarray .int, 2) := by decide +kernel
theorem dd_mo_init_127 : decode by_mo_init 127 = .ok (.putfield 56, 3) := by decide +kernel
theorem dd_mo_init_130 : decode by_mo_init 130 = .ok (.aload_n 0, 1) := by decide +kernel
theorem dd_mo_init_131 : decode by_mo_init 131 = .ok (.iconst 5, 1) := by decide +kernel
theorem dd_mo_init_132 : decode by_mo_init 132 = .ok (.newarray .int, 2) := by decide +kernel
theorem dd_mo_init_134 : decode by_mo_init 134 = .ok (.putfield 59, 3) := by decide +kernel
theorem dd_mo_init_137 : decode by_mo_init 137 = .ok (.aload_n 0, 1) := by decide +kernel
theorem dd_mo_init_138 : decode by_mo_init 138 = .ok (.bipush 50, 2) := by decide +kernel
theorem dd_mo_init_140 : decode by_mo_init 140 = .ok (.newarray .long, 2) := by decide +kernel
theorem dd_mo_init_142 : decode by_mo_init 142 = .ok (.putfield 62, 3) := by decide +kernel
theorem dd_mo_init_145 : decode by_mo_init 145 = .ok (.aload_n 0, 1) := by decide +kernel
theorem dd_mo_init_146 : decode by_mo_init 146 = .ok (.bipush 20, 2) := by decide +kernel
theorem dd_mo_init_148 : decode by_mo_init 148 = .ok (.newarray .int, 2) := by decide +kernel
theorem dd_mo_init_150 : decode by_mo_init 150 = .ok (.putfield 66, 3) := by decide +kernel
theorem dd_mo_init_153 : decode by_mo_init 153 = .ok (.aload_n 0, 1) := by decide +kernel
theorem dd_mo_init_154 : decode by_mo_init 154 = .ok (.iconst 5, 1) := by decide +kernel
theorem dd_mo_init_155 : decode by_mo_init 155 = .ok (.newarray .int, 2) := by decide +kernel
theorem dd_mo_init_157 : decode by_mo_init 157 = .ok (.putfield 69, 3) := by decide +kernel
theorem dd_mo_init_160 : decode by_mo_init 160 = .ok (.aload_n 0, 1) := by decide +kernel
theorem dd_mo_init_161 : decode by_mo_init 161 = .ok (.bipush 80, 2) := by decide +kernel
theorem dd_mo_init_163 : decode by_mo_init 163 = .ok (.newarray .long, 2) := by decide +kernel
theorem dd_mo_init_165 : decode by_mo_init 165 = .ok (.putfield 72, 3) := by decide +kernel
theorem dd_mo_init_168 : decode by_mo_init 168 = .ok (.aload_n 0, 1) := by decide +kernel
theorem dd_mo_init_169 : decode by_mo_init 169 = .ok (.sipush 200, 3) := by decide +kernel
theorem dd_mo_init_172 : decode by_mo_init 172 = .ok (.newarray .long, 2) := by decide +kernel
theorem dd_mo_init_174 : decode by_mo_init 174 = .ok (.putfield 75, 3) := by decide +kernel
theorem dd_mo_init_177 : decode by_mo_init 177 = .ok (.aload_n 0, 1) := by decide +kernel
theorem dd_mo_init_178 : decode by_mo_init 178 = .ok (.bipush 30, 2) := by decide +kernel
theorem dd_mo_init_180 : decode by_mo_init 180 = .ok (.newarray .long, 2) := by decide +kernel
theorem dd_mo_init_182 : decode by_mo_init 182 = .ok (.putfield 78, 3) := by decide +kernel
theorem dd_mo_init_185 : decode by_mo_init 185 = .ok (.iconst 0, 1) := by decide +kernel
theorem dd_mo_init_186 : decode by_mo_init 186 = .ok (.istore_n 1, 1) := by decide +kernel
theorem dd_mo_init_187 : decode by_mo_init 187 = .ok (.iload_n 1, 1) := by decide +kernel
theorem dd_mo_init_188 : decode by_mo_init 188 = .ok (.bipush 16, 2) := by decide +kernel
theorem dd_mo_init_190 : decode by_mo_init 190 = .ok (.if_icmp .ge 17, 3) := by decide +kernel
theorem dd_mo_init_193 : decode by_mo_init 193 = .ok (.aload_n 0, 1) := by decide +kernel
theorem dd_mo_init_194 : decode by_mo_init 194 = .ok (.getfield 7, 3) := by decide +kernel
theorem dd_mo_init_197 : decode by_mo_init 197 = .ok (.iload_n 1, 1) := by decide +kernel
theorem dd_mo_init_198 : decode by_mo_init 198 = .ok (.bipush 100, 2) := by decide +kernel
theorem dd_mo_init_200 : decode by_mo_init 200 = .ok (.iastore, 1) := by decide +kernel
theorem dd_mo_init_201 : decode by_mo_init 201 = .ok (.iinc 1 1, 3) := by decide +kernel
theorem dd_mo_init_204 : decode by_mo_init 204 = .ok (.goto (-17), 3) := by decide +kernel
theorem dd_mo_init_207 : decode by_mo_init 207 = .ok (.return_, 1) := by decide +kernel
set_option maxRecDepth 100000 in
set_option maxHeartbeats 8000000 in
theorem ct_mo_init (l : Launch) (X : gw_X) (C Y : gw_M) (N : Nat → Nat → Bool) (hz : bw_Z C N 76 0) : Met l yy_mo_init (Cond.code yy_mo_init by_mo_init 2 none :: gw_w) rm_mo_init (va_Pc [.ref (gr_a X 0)] (bw_B X (bw_E X Y C N) (77))) (bw_Q X (bw_E X Y (gw_sI (gw_sI (gw_sI (gw_sI (gw_sI (gw_sI (gw_sI (gw_sI (gw_sI (gw_sI (gw_sI (gw_sI (gw_sI (gw_sI (gw_sI (gw_sI C 1 0 (100 : Int32)) 1 1 (100 : Int32)) 1 2 (100 : Int32)) 1 3 (100 : Int32)) 1 4 (100 : Int32)) 1 5 (100 : Int32)) 1 6 (100 : Int32)) 1 7 (100 : Int32)) 1 8 (100 : Int32)) 1 9 (100 : Int32)) 1 10 (100 : Int32)) 1 11 (100 : Int32)) 1 12 (100 : Int32)) 1 13 (100 : Int32)) 1 14 (100 : Int32)) 1 15 (100 : Int32)) (bw_s (bw_s (bw_s (bw_s (bw_s (bw_s (bw_s (bw_s (bw_s (bw_s (bw_s (bw_s (bw_s (bw_s (bw_s (bw_s (bw_s (bw_s (bw_s (bw_s (bw_s (bw_s (bw_s N 76 0) 76 1) 76 2) 76 3) 76 4) 76 5) 76 6) 76 7) 76 8) 76 9) 76 10) 76 12) 76 13) 76 14) 76 15) 76 16) 76 18) 76 19) 76 20) 76 21) 76 22) 76 23) 76 26)) (100)) 23 1087 (bw_A X) := by
  refine Met.ofW (cc := by_mo_init) (maxL := 2) (ret := none) (by decide) rfl ?_
  intro p e s m args below meth c s₁ B hml hv
  obtain ⟨rfl, hK, hP, hD, hs0⟩ := hv
  have hx := B.exec
  have hb := B.bytes
  have hr := B.returns
  have hlocks := B.notSynchronized
  have hts := atoms_spec (ws := Cond.code yy_mo_init by_mo_init 2 none :: gw_w) B.pre
  have hg : ∀ w ∈ gw_w, w.before ([.ref (gr_a X 0)] : List Value).toArray s = true := fun w h => hts w (List.mem_cons_of_mem _ h)
  have hown : s.vm.findClass "AccountMachineModel" = some m.cls := findClass_of_methodNamed B.named
  have hi : meth.name = "<init>" := (name_of_methodNamed B.named B.method).1
  have hX := hK.2.2.2
  have hA : X.2.1 0 ≤ s.heap.size := by
    have := hX (77)
    omega
  have hC1 : C.1 0 = fun _ => 0 := (hz.2 _ (Nat.le_refl _)).1
  have hC2 : C.2 0 = fun _ => 0 := (hz.2 _ (Nat.le_refl _)).2
  have hz := bw_Zw (a1 := 1) hz (by omega)
  have G : bw_G X (bw_E X Y C N) (77) s s.heap [] := ⟨hP, hD, va_S.rf⟩
  rw [lg_entry_eq]
  have hl := lv_entry ([.ref (gr_a X 0)]) (n := 2) (Nat.le_of_ble_eq_true rfl)
  generalize (lg_sl ([.ref (gr_a X 0)]) ++ List.replicate (2 - (lg_sl ([.ref (gr_a X 0)])).length) Slot.unset).toArray = ls at hl ⊢
  have hl : lv_has ls 2 [(0, .ref (gr_a X 0))] := hl
  refine lv_aload_n hx hb dd_mo_init_0 rfl (lv_at hl 0 rfl) ?_
  refine W.objInit hx hb hown (hg _ kw_495) (hg _ kw_467) (hg _ kw_468) rfl (by rw [hml]; exact hl.1) rfl dd_mo_init_1 (Nat.le_of_ble_eq_true rfl) (Nat.le_of_ble_eq_true rfl) ?_
  refine W.eq (g2 := F0 m 4 ls []) rfl ?_
  refine lv_aload_n hx hb dd_mo_init_4 rfl (lv_at hl 0 rfl) ?_
  refine lv_bipush (v := (16 : Int32)) hx hb dd_mo_init_5 (by decide) ?_
  refine bw_newa_int (n := 77) (len := 16) hx hb (hg _ kw_469) hX (bw_hs hX hs0 (by omega)) hA hK.1 G (br_N0 (by decide : gr_k 1 = (0, 16)) (fun j => hz.1 _ (by omega) j) (hz.2 _ (by omega)).1 (hz.2 _ (by omega)).2) (by decide) (by decide) (by decide) (Nat.le_of_ble_eq_true rfl) (Nat.le_of_ble_eq_true rfl) dd_mo_init_7 (fun H G => ?_)
  have G : bw_G X _ (78) s H _ := G
  refine W.widen (k := 1) (n := 16) (Nat.le_of_ble_eq_true rfl) (Nat.le_of_ble_eq_true rfl) ?_
  have hz := bw_Zw (a1 := 2) hz (by omega)
  refine bp_mo_balances (o := 0) hx hb hg hown (hg _ kw_293) hi rfl hK.1 G (by decide : gr_k 0 = (11, 0)) (by omega) dd_mo_init_9 (fun H locs G => ?_)
  have hz := bw_Zs (k := 76) (j := 0) hz (by omega)
  refine lv_aload_n hx hb dd_mo_init_12 rfl (lv_at hl 0 rfl) ?_
  refine W.eq (g2 := F0 m 13 _ _) rfl ?_
  refine lv_bipush (v := (16 : Int32)) hx hb dd_mo_init_13 (by decide) ?_
  refine bw_newa_int (n := 78) (len := 16) hx hb (hg _ kw_469) hX (bw_hs hX hs0 (by omega)) hA hK.1 G (br_N0 (by decide : gr_k 2 = (0, 16)) (fun j => hz.1 _ (by omega) j) (hz.2 _ (by omega)).1 (hz.2 _ (by omega)).2) (by decide) (by decide) (by decide) (Nat.le_of_ble_eq_true rfl) (Nat.le_of_ble_eq_true rfl) dd_mo_init_15 (fun H G => ?_)
  have G : bw_G X _ (79) s H _ := G
  refine W.widen (k := 2) (n := 32) (Nat.le_of_ble_eq_true rfl) (Nat.le_of_ble_eq_true rfl) ?_
  have hz := bw_Zw (a1 := 3) hz (by omega)
  refine bp_mo_owners (o := 0) hx hb hg hown (hg _ kw_292) hi rfl hK.1 G (by decide : gr_k 0 = (11, 0)) (by omega) dd_mo_init_17 (fun H locs G => ?_)
  have hz := bw_Zs (k := 76) (j := 1) hz (by omega)
  refine lv_aload_n hx hb dd_mo_init_20 rfl (lv_at hl 0 rfl) ?_
  refine lv_bipush (v := (16 : Int32)) hx hb dd_mo_init_21 (by decide) ?_
  refine bw_newa_int (n := 79) (len := 16) hx hb (hg _ kw_469) hX (bw_hs hX hs0 (by omega)) hA hK.1 G (br_N0 (by decide : gr_k 3 = (0, 16)) (fun j => hz.1 _ (by omega) j) (hz.2 _ (by omega)).1 (hz.2 _ (by omega)).2) (by decide) (by decide) (by decide) (Nat.le_of_ble_eq_true rfl) (Nat.le_of_ble_eq_true rfl) dd_mo_init_23 (fun H G => ?_)
  have G : bw_G X _ (80) s H _ := G
  refine W.widen (k := 3) (n := 48) (Nat.le_of_ble_eq_true rfl) (Nat.le_of_ble_eq_true rfl) ?_
  have hz := bw_Zw (a1 := 4) hz (by omega)
  refine bp_mo_sizes (o := 0) hx hb hg hown (hg _ kw_286) hi rfl hK.1 G (by decide : gr_k 0 = (11, 0)) (by omega) dd_mo_init_25 (fun H locs G => ?_)
  have hz := bw_Zs (k := 76) (j := 2) hz (by omega)
  refine lv_aload_n hx hb dd_mo_init_28 rfl (lv_at hl 0 rfl) ?_
  refine W.eq (g2 := F0 m 29 _ _) rfl ?_
  refine lv_bipush (v := (64 : Int32)) hx hb dd_mo_init_29 (by decide) ?_
  refine bw_newa_int (n := 80) (len := 64) hx hb (hg _ kw_469) hX (bw_hs hX hs0 (by omega)) hA hK.1 G (br_N0 (by decide : gr_k 4 = (0, 64)) (fun j => hz.1 _ (by omega) j) (hz.2 _ (by omega)).1 (hz.2 _ (by omega)).2) (by decide) (by decide) (by decide) (Nat.le_of_ble_eq_true rfl) (Nat.le_of_ble_eq_true rfl) dd_mo_init_31 (fun H G => ?_)
  have G : bw_G X _ (81) s H _ := G
  refine W.widen (k := 4) (n := 112) (Nat.le_of_ble_eq_true rfl) (Nat.le_of_ble_eq_true rfl) ?_
  have hz := bw_Zw (a1 := 5) hz (by omega)
  refine bp_mo_words (o := 0) hx hb hg hown (hg _ kw_287) hi rfl hK.1 G (by decide : gr_k 0 = (11, 0)) (by omega) dd_mo_init_33 (fun H locs G => ?_)
  have hz := bw_Zs (k := 76) (j := 3) hz (by omega)
  refine lv_aload_n hx hb dd_mo_init_36 rfl (lv_at hl 0 rfl) ?_
  refine lv_iconst (v := (3 : Int32)) hx hb dd_mo_init_37 (by decide) ?_
  refine bw_newa_int (n := 81) (len := 3) hx hb (hg _ kw_469) hX (bw_hs hX hs0 (by omega)) hA hK.1 G (br_N0 (by decide : gr_k 5 = (0, 3)) (fun j => hz.1 _ (by omega) j) (hz.2 _ (by omega)).1 (hz.2 _ (by omega)).2) (by decide) (by decide) (by decide) (Nat.le_of_ble_eq_true rfl) (Nat.le_of_ble_eq_true rfl) dd_mo_init_38 (fun H G => ?_)
  have G : bw_G X _ (82) s H _ := G
  refine W.widen (k := 5) (n := 115) (Nat.le_of_ble_eq_true rfl) (Nat.le_of_ble_eq_true rfl) ?_
  have hz := bw_Zw (a1 := 6) hz (by omega)
  refine bp_mo_length (o := 0) hx hb hg hown (hg _ kw_254) hi rfl hK.1 G (by decide : gr_k 0 = (11, 0)) (by omega) dd_mo_init_40 (fun H locs G => ?_)
  have hz := bw_Zs (k := 76) (j := 4) hz (by omega)
  refine lv_aload_n hx hb dd_mo_init_43 rfl (lv_at hl 0 rfl) ?_
  refine W.eq (g2 := F0 m 44 _ _) rfl ?_
  refine lv_iconst (v := (3 : Int32)) hx hb dd_mo_init_44 (by decide) ?_
  refine bw_newa_boolean (n := 82) (len := 3) hx hb (hg _ kw_496) hX (bw_hs hX hs0 (by omega)) hA hK.1 G (br_N10 (by decide : gr_k 6 = (10, 3)) (fun j => hz.1 _ (by omega) j) (hz.2 _ (by omega)).1 (hz.2 _ (by omega)).2) (by decide) (by decide) (by decide) (Nat.le_of_ble_eq_true rfl) (Nat.le_of_ble_eq_true rfl) dd_mo_init_45 (fun H G => ?_)
  have G : bw_G X _ (83) s H _ := G
  refine W.widen (k := 6) (n := 118) (Nat.le_of_ble_eq_true rfl) (Nat.le_of_ble_eq_true rfl) ?_
  have hz := bw_Zw (a1 := 7) hz (by omega)
  refine bp_mo_loaded (o := 0) hx hb hg hown (hg _ kw_260) hi rfl hK.1 G (by decide : gr_k 0 = (11, 0)) (by omega) dd_mo_init_47 (fun H locs G => ?_)
  have hz := bw_Zs (k := 76) (j := 5) hz (by omega)
  refine lv_aload_n hx hb dd_mo_init_50 rfl (lv_at hl 0 rfl) ?_
  refine lv_bipush (v := (96 : Int32)) hx hb dd_mo_init_51 (by decide) ?_
  refine bw_newa_int (n := 83) (len := 96) hx hb (hg _ kw_469) hX (bw_hs hX hs0 (by omega)) hA hK.1 G (br_N0 (by decide : gr_k 7 = (0, 96)) (fun j => hz.1 _ (by omega) j) (hz.2 _ (by omega)).1 (hz.2 _ (by omega)).2) (by decide) (by decide) (by decide) (Nat.le_of_ble_eq_true rfl) (Nat.le_of_ble_eq_true rfl) dd_mo_init_53 (fun H G => ?_)
  have G : bw_G X _ (84) s H _ := G
  refine W.widen (k := 7) (n := 214) (Nat.le_of_ble_eq_true rfl) (Nat.le_of_ble_eq_true rfl) ?_
  have hz := bw_Zw (a1 := 8) hz (by omega)
  refine bp_mo_kinds (o := 0) hx hb hg hown (hg _ kw_255) hi rfl hK.1 G (by decide : gr_k 0 = (11, 0)) (by omega) dd_mo_init_55 (fun H locs G => ?_)
  have hz := bw_Zs (k := 76) (j := 6) hz (by omega)
  refine lv_aload_n hx hb dd_mo_init_58 rfl (lv_at hl 0 rfl) ?_
  refine W.eq (g2 := F0 m 59 _ _) rfl ?_
  refine lv_bipush (v := (96 : Int32)) hx hb dd_mo_init_59 (by decide) ?_
  refine bw_newa_int (n := 84) (len := 96) hx hb (hg _ kw_469) hX (bw_hs hX hs0 (by omega)) hA hK.1 G (br_N0 (by decide : gr_k 8 = (0, 96)) (fun j => hz.1 _ (by omega) j) (hz.2 _ (by omega)).1 (hz.2 _ (by omega)).2) (by decide) (by decide) (by decide) (Nat.le_of_ble_eq_true rfl) (Nat.le_of_ble_eq_true rfl) dd_mo_init_61 (fun H G => ?_)
  have G : bw_G X _ (85) s H _ := G
  refine W.widen (k := 8) (n := 310) (Nat.le_of_ble_eq_true rfl) (Nat.le_of_ble_eq_true rfl) ?_
  have hz := bw_Zw (a1 := 9) hz (by omega)
  refine bp_mo_lefts (o := 0) hx hb hg hown (hg _ kw_256) hi rfl hK.1 G (by decide : gr_k 0 = (11, 0)) (by omega) dd_mo_init_63 (fun H locs G => ?_)
  have hz := bw_Zs (k := 76) (j := 7) hz (by omega)
  refine lv_aload_n hx hb dd_mo_init_66 rfl (lv_at hl 0 rfl) ?_
  refine lv_bipush (v := (96 : Int32)) hx hb dd_mo_init_67 (by decide) ?_
  refine bw_newa_int (n := 85) (len := 96) hx hb (hg _ kw_469) hX (bw_hs hX hs0 (by omega)) hA hK.1 G (br_N0 (by decide : gr_k 9 = (0, 96)) (fun j => hz.1 _ (by omega) j) (hz.2 _ (by omega)).1 (hz.2 _ (by omega)).2) (by decide) (by decide) (by decide) (Nat.le_of_ble_eq_true rfl) (Nat.le_of_ble_eq_true rfl) dd_mo_init_69 (fun H G => ?_)
  have G : bw_G X _ (86) s H _ := G
  refine W.widen (k := 9) (n := 406) (Nat.le_of_ble_eq_true rfl) (Nat.le_of_ble_eq_true rfl) ?_
  have hz := bw_Zw (a1 := 10) hz (by omega)
  refine bp_mo_rights (o := 0) hx hb hg hown (hg _ kw_257) hi rfl hK.1 G (by decide : gr_k 0 = (11, 0)) (by omega) dd_mo_init_71 (fun H locs G => ?_)
  have hz := bw_Zs (k := 76) (j := 8) hz (by omega)
  refine lv_aload_n hx hb dd_mo_init_74 rfl (lv_at hl 0 rfl) ?_
  refine W.eq (g2 := F0 m 75 _ _) rfl ?_
  refine lv_bipush (v := (96 : Int32)) hx hb dd_mo_init_75 (by decide) ?_
  refine bw_newa_int (n := 86) (len := 96) hx hb (hg _ kw_469) hX (bw_hs hX hs0 (by omega)) hA hK.1 G (br_N0 (by decide : gr_k 10 = (0, 96)) (fun j => hz.1 _ (by omega) j) (hz.2 _ (by omega)).1 (hz.2 _ (by omega)).2) (by decide) (by decide) (by decide) (Nat.le_of_ble_eq_true rfl) (Nat.le_of_ble_eq_true rfl) dd_mo_init_77 (fun H G => ?_)
  have G : bw_G X _ (87) s H _ := G
  refine W.widen (k := 10) (n := 502) (Nat.le_of_ble_eq_true rfl) (Nat.le_of_ble_eq_true rfl) ?_
  have hz := bw_Zw (a1 := 11) hz (by omega)
  refine bp_mo_offsets (o := 0) hx hb hg hown (hg _ kw_258) hi rfl hK.1 G (by decide : gr_k 0 = (11, 0)) (by omega) dd_mo_init_79 (fun H locs G => ?_)
  have hz := bw_Zs (k := 76) (j := 9) hz (by omega)
  refine lv_aload_n hx hb dd_mo_init_82 rfl (lv_at hl 0 rfl) ?_
  refine lv_bipush (v := (96 : Int32)) hx hb dd_mo_init_83 (by decide) ?_
  refine bw_newa_int (n := 87) (len := 96) hx hb (hg _ kw_469) hX (bw_hs hX hs0 (by omega)) hA hK.1 G (br_N0 (by decide : gr_k 11 = (0, 96)) (fun j => hz.1 _ (by omega) j) (hz.2 _ (by omega)).1 (hz.2 _ (by omega)).2) (by decide) (by decide) (by decide) (Nat.le_of_ble_eq_true rfl) (Nat.le_of_ble_eq_true rfl) dd_mo_init_85 (fun H G => ?_)
  have G : bw_G X _ (88) s H _ := G
  refine W.widen (k := 11) (n := 598) (Nat.le_of_ble_eq_true rfl) (Nat.le_of_ble_eq_true rfl) ?_
  have hz := bw_Zw (a1 := 12) hz (by omega)
  refine bp_mo_numbers (o := 0) hx hb hg hown (hg _ kw_259) hi rfl hK.1 G (by decide : gr_k 0 = (11, 0)) (by omega) dd_mo_init_87 (fun H locs G => ?_)
  have hz := bw_Zs (k := 76) (j := 10) hz (by omega)
  refine lv_aload_n hx hb dd_mo_init_90 rfl (lv_at hl 0 rfl) ?_
  refine W.eq (g2 := F0 m 91 _ _) rfl ?_
  refine lv_bipush (v := (9 : Int32)) hx hb dd_mo_init_91 (by decide) ?_
  refine bw_newa_int (n := 88) (len := 9) hx hb (hg _ kw_469) hX (bw_hs hX hs0 (by omega)) hA hK.1 G (br_N0 (by decide : gr_k 12 = (0, 9)) (fun j => hz.1 _ (by omega) j) (hz.2 _ (by omega)).1 (hz.2 _ (by omega)).2) (by decide) (by decide) (by decide) (Nat.le_of_ble_eq_true rfl) (Nat.le_of_ble_eq_true rfl) dd_mo_init_93 (fun H G => ?_)
  have G : bw_G X _ (89) s H _ := G
  refine W.widen (k := 12) (n := 607) (Nat.le_of_ble_eq_true rfl) (Nat.le_of_ble_eq_true rfl) ?_
  have hz := bw_Zw (a1 := 13) hz (by omega)
  refine bp_mo_program (o := 0) hx hb hg hown (hg _ kw_271) hi rfl hK.1 G (by decide : gr_k 0 = (11, 0)) (by omega) dd_mo_init_95 (fun H locs G => ?_)
  have hz := bw_Zs (k := 76) (j := 12) hz (by omega)
  refine lv_aload_n hx hb dd_mo_init_98 rfl (lv_at hl 0 rfl) ?_
  refine lv_bipush (v := (9 : Int32)) hx hb dd_mo_init_99 (by decide) ?_
  refine bw_newa_int (n := 89) (len := 9) hx hb (hg _ kw_469) hX (bw_hs hX hs0 (by omega)) hA hK.1 G (br_N0 (by decide : gr_k 13 = (0, 9)) (fun j => hz.1 _ (by omega) j) (hz.2 _ (by omega)).1 (hz.2 _ (by omega)).2) (by decide) (by decide) (by decide) (Nat.le_of_ble_eq_true rfl) (Nat.le_of_ble_eq_true rfl) dd_mo_init_101 (fun H G => ?_)
  have G : bw_G X _ (90) s H _ := G
  refine W.widen (k := 13) (n := 616) (Nat.le_of_ble_eq_true rfl) (Nat.le_of_ble_eq_true rfl) ?_
  have hz := bw_Zw (a1 := 14) hz (by omega)
  refine bp_mo_argument (o := 0) hx hb hg hown (hg _ kw_272) hi rfl hK.1 G (by decide : gr_k 0 = (11, 0)) (by omega) dd_mo_init_103 (fun H locs G => ?_)
  have hz := bw_Zs (k := 76) (j := 13) hz (by omega)
  refine lv_aload_n hx hb dd_mo_init_106 rfl (lv_at hl 0 rfl) ?_
  refine W.eq (g2 := F0 m 107 _ _) rfl ?_
  refine lv_bipush (v := (9 : Int32)) hx hb dd_mo_init_107 (by decide) ?_
  refine bw_newa_int (n := 90) (len := 9) hx hb (hg _ kw_469) hX (bw_hs hX hs0 (by omega)) hA hK.1 G (br_N0 (by decide : gr_k 14 = (0, 9)) (fun j => hz.1 _ (by omega) j) (hz.2 _ (by omega)).1 (hz.2 _ (by omega)).2) (by decide) (by decide) (by decide) (Nat.le_of_ble_eq_true rfl) (Nat.le_of_ble_eq_true rfl) dd_mo_init_109 (fun H G => ?_)
  have G : bw_G X _ (91) s H _ := G
  refine W.widen (k := 14) (n := 625) (Nat.le_of_ble_eq_true rfl) (Nat.le_of_ble_eq_true rfl) ?_
  have hz := bw_Zw (a1 := 15) hz (by omega)
  refine bp_mo_slots (o := 0) hx hb hg hown (hg _ kw_273) hi rfl hK.1 G (by decide : gr_k 0 = (11, 0)) (by omega) dd_mo_init_111 (fun H locs G => ?_)
  have hz := bw_Zs (k := 76) (j := 14) hz (by omega)
  refine lv_aload_n hx hb dd_mo_init_114 rfl (lv_at hl 0 rfl) ?_
  refine lv_bipush (v := (36 : Int32)) hx hb dd_mo_init_115 (by decide) ?_
  refine bw_newa_int (n := 91) (len := 36) hx hb (hg _ kw_469) hX (bw_hs hX hs0 (by omega)) hA hK.1 G (br_N0 (by decide : gr_k 15 = (0, 36)) (fun j => hz.1 _ (by omega) j) (hz.2 _ (by omega)).1 (hz.2 _ (by omega)).2) (by decide) (by decide) (by decide) (Nat.le_of_ble_eq_true rfl) (Nat.le_of_ble_eq_true rfl) dd_mo_init_117 (fun H G => ?_)
  have G : bw_G X _ (92) s H _ := G
  refine W.widen (k := 15) (n := 661) (Nat.le_of_ble_eq_true rfl) (Nat.le_of_ble_eq_true rfl) ?_
  have hz := bw_Zw (a1 := 16) hz (by omega)
  refine bp_mo_slotAccount (o := 0) hx hb hg hown (hg _ kw_274) hi rfl hK.1 G (by decide : gr_k 0 = (11, 0)) (by omega) dd_mo_init_119 (fun H locs G => ?_)
  have hz := bw_Zs (k := 76) (j := 15) hz (by omega)
  refine lv_aload_n hx hb dd_mo_init_122 rfl (lv_at hl 0 rfl) ?_
  refine W.eq (g2 := F0 m 123 _ _) rfl ?_
  refine lv_bipush (v := (36 : Int32)) hx hb dd_mo_init_123 (by decide) ?_
  refine bw_newa_int (n := 92) (len := 36) hx hb (hg _ kw_469) hX (bw_hs hX hs0 (by omega)) hA hK.1 G (br_N0 (by decide : gr_k 16 = (0, 36)) (fun j => hz.1 _ (by omega) j) (hz.2 _ (by omega)).1 (hz.2 _ (by omega)).2) (by decide) (by decide) (by decide) (Nat.le_of_ble_eq_true rfl) (Nat.le_of_ble_eq_true rfl) dd_mo_init_125 (fun H G => ?_)
  have G : bw_G X _ (93) s H _ := G
  refine W.widen (k := 16) (n := 697) (Nat.le_of_ble_eq_true rfl) (Nat.le_of_ble_eq_true rfl) ?_
  have hz := bw_Zw (a1 := 17) hz (by omega)
  refine bp_mo_slotMarks (o := 0) hx hb hg hown (hg _ kw_275) hi rfl hK.1 G (by decide : gr_k 0 = (11, 0)) (by omega) dd_mo_init_127 (fun H locs G => ?_)
  have hz := bw_Zs (k := 76) (j := 16) hz (by omega)
  refine lv_aload_n hx hb dd_mo_init_130 rfl (lv_at hl 0 rfl) ?_
  refine lv_iconst (v := (5 : Int32)) hx hb dd_mo_init_131 (by decide) ?_
  refine bw_newa_int (n := 93) (len := 5) hx hb (hg _ kw_469) hX (bw_hs hX hs0 (by omega)) hA hK.1 G (br_N0 (by decide : gr_k 17 = (0, 5)) (fun j => hz.1 _ (by omega) j) (hz.2 _ (by omega)).1 (hz.2 _ (by omega)).2) (by decide) (by decide) (by decide) (Nat.le_of_ble_eq_true rfl) (Nat.le_of_ble_eq_true rfl) dd_mo_init_132 (fun H G => ?_)
  have G : bw_G X _ (94) s H _ := G
  refine W.widen (k := 17) (n := 702) (Nat.le_of_ble_eq_true rfl) (Nat.le_of_ble_eq_true rfl) ?_
  have hz := bw_Zw (a1 := 18) hz (by omega)
  refine bp_mo_place (o := 0) hx hb hg hown (hg _ kw_301) hi rfl hK.1 G (by decide : gr_k 0 = (11, 0)) (by omega) dd_mo_init_134 (fun H locs G => ?_)
  have hz := bw_Zs (k := 76) (j := 18) hz (by omega)
  refine lv_aload_n hx hb dd_mo_init_137 rfl (lv_at hl 0 rfl) ?_
  refine W.eq (g2 := F0 m 138 _ _) rfl ?_
  refine lv_bipush (v := (50 : Int32)) hx hb dd_mo_init_138 (by decide) ?_
  refine bw_newa_long (n := 94) (len := 50) hx hb (hg _ kw_480) hX (bw_hs hX hs0 (by omega)) hA hK.1 G (br_N1 (by decide : gr_k 18 = (1, 50)) (fun j => hz.1 _ (by omega) j) (hz.2 _ (by omega)).1 (hz.2 _ (by omega)).2) (by decide) (by decide) (by decide) (Nat.le_of_ble_eq_true rfl) (Nat.le_of_ble_eq_true rfl) dd_mo_init_140 (fun H G => ?_)
  have G : bw_G X _ (95) s H _ := G
  refine W.widen (k := 18) (n := 752) (Nat.le_of_ble_eq_true rfl) (Nat.le_of_ble_eq_true rfl) ?_
  have hz := bw_Zw (a1 := 19) hz (by omega)
  refine bp_mo_registers (o := 0) hx hb hg hown (hg _ kw_299) hi rfl hK.1 G (by decide : gr_k 0 = (11, 0)) (by omega) dd_mo_init_142 (fun H locs G => ?_)
  have hz := bw_Zs (k := 76) (j := 19) hz (by omega)
  refine lv_aload_n hx hb dd_mo_init_145 rfl (lv_at hl 0 rfl) ?_
  refine lv_bipush (v := (20 : Int32)) hx hb dd_mo_init_146 (by decide) ?_
  refine bw_newa_int (n := 95) (len := 20) hx hb (hg _ kw_469) hX (bw_hs hX hs0 (by omega)) hA hK.1 G (br_N0 (by decide : gr_k 19 = (0, 20)) (fun j => hz.1 _ (by omega) j) (hz.2 _ (by omega)).1 (hz.2 _ (by omega)).2) (by decide) (by decide) (by decide) (Nat.le_of_ble_eq_true rfl) (Nat.le_of_ble_eq_true rfl) dd_mo_init_148 (fun H G => ?_)
  have G : bw_G X _ (96) s H _ := G
  refine W.widen (k := 19) (n := 772) (Nat.le_of_ble_eq_true rfl) (Nat.le_of_ble_eq_true rfl) ?_
  have hz := bw_Zw (a1 := 20) hz (by omega)
  refine bp_mo_remembered (o := 0) hx hb hg hown (hg _ kw_363) hi rfl hK.1 G (by decide : gr_k 0 = (11, 0)) (by omega) dd_mo_init_150 (fun H locs G => ?_)
  have hz := bw_Zs (k := 76) (j := 20) hz (by omega)
  refine lv_aload_n hx hb dd_mo_init_153 rfl (lv_at hl 0 rfl) ?_
  refine W.eq (g2 := F0 m 154 _ _) rfl ?_
  refine lv_iconst (v := (5 : Int32)) hx hb dd_mo_init_154 (by decide) ?_
  refine bw_newa_int (n := 96) (len := 5) hx hb (hg _ kw_469) hX (bw_hs hX hs0 (by omega)) hA hK.1 G (br_N0 (by decide : gr_k 20 = (0, 5)) (fun j => hz.1 _ (by omega) j) (hz.2 _ (by omega)).1 (hz.2 _ (by omega)).2) (by decide) (by decide) (by decide) (Nat.le_of_ble_eq_true rfl) (Nat.le_of_ble_eq_true rfl) dd_mo_init_155 (fun H G => ?_)
  have G : bw_G X _ (97) s H _ := G
  refine W.widen (k := 20) (n := 777) (Nat.le_of_ble_eq_true rfl) (Nat.le_of_ble_eq_true rfl) ?_
  have hz := bw_Zw (a1 := 21) hz (by omega)
  refine bp_mo_calls (o := 0) hx hb hg hown (hg _ kw_302) hi rfl hK.1 G (by decide : gr_k 0 = (11, 0)) (by omega) dd_mo_init_157 (fun H locs G => ?_)
  have hz := bw_Zs (k := 76) (j := 21) hz (by omega)
  refine lv_aload_n hx hb dd_mo_init_160 rfl (lv_at hl 0 rfl) ?_
  refine lv_bipush (v := (80 : Int32)) hx hb dd_mo_init_161 (by decide) ?_
  refine bw_newa_long (n := 97) (len := 80) hx hb (hg _ kw_480) hX (bw_hs hX hs0 (by omega)) hA hK.1 G (br_N1 (by decide : gr_k 21 = (1, 80)) (fun j => hz.1 _ (by omega) j) (hz.2 _ (by omega)).1 (hz.2 _ (by omega)).2) (by decide) (by decide) (by decide) (Nat.le_of_ble_eq_true rfl) (Nat.le_of_ble_eq_true rfl) dd_mo_init_163 (fun H G => ?_)
  have G : bw_G X _ (98) s H _ := G
  refine W.widen (k := 21) (n := 857) (Nat.le_of_ble_eq_true rfl) (Nat.le_of_ble_eq_true rfl) ?_
  have hz := bw_Zw (a1 := 22) hz (by omega)
  refine bp_mo_stack (o := 0) hx hb hg hown (hg _ kw_298) hi rfl hK.1 G (by decide : gr_k 0 = (11, 0)) (by omega) dd_mo_init_165 (fun H locs G => ?_)
  have hz := bw_Zs (k := 76) (j := 22) hz (by omega)
  refine lv_aload_n hx hb dd_mo_init_168 rfl (lv_at hl 0 rfl) ?_
  refine W.eq (g2 := F0 m 169 _ _) rfl ?_
  refine lv_sipush (v := (200 : Int32)) hx hb dd_mo_init_169 (by decide) ?_
  refine bw_newa_long (n := 98) (len := 200) hx hb (hg _ kw_480) hX (bw_hs hX hs0 (by omega)) hA hK.1 G (br_N1 (by decide : gr_k 22 = (1, 200)) (fun j => hz.1 _ (by omega) j) (hz.2 _ (by omega)).1 (hz.2 _ (by omega)).2) (by decide) (by decide) (by decide) (Nat.le_of_ble_eq_true rfl) (Nat.le_of_ble_eq_true rfl) dd_mo_init_172 (fun H G => ?_)
  have G : bw_G X _ (99) s H _ := G
  refine W.widen (k := 22) (n := 1057) (Nat.le_of_ble_eq_true rfl) (Nat.le_of_ble_eq_true rfl) ?_
  have hz := bw_Zw (a1 := 23) hz (by omega)
  refine bp_mo_seen (o := 0) hx hb hg hown (hg _ kw_285) hi rfl hK.1 G (by decide : gr_k 0 = (11, 0)) (by omega) dd_mo_init_174 (fun H locs G => ?_)
  have hz := bw_Zs (k := 76) (j := 23) hz (by omega)
  refine lv_aload_n hx hb dd_mo_init_177 rfl (lv_at hl 0 rfl) ?_
  refine lv_bipush (v := (30 : Int32)) hx hb dd_mo_init_178 (by decide) ?_
  refine bw_newa_long (n := 99) (len := 30) hx hb (hg _ kw_480) hX (bw_hs hX hs0 (by omega)) hA hK.1 G (br_N1 (by decide : gr_k 23 = (1, 30)) (fun j => hz.1 _ (by omega) j) (hz.2 _ (by omega)).1 (hz.2 _ (by omega)).2) (by decide) (by decide) (by decide) (Nat.le_of_ble_eq_true rfl) (Nat.le_of_ble_eq_true rfl) dd_mo_init_180 (fun H G => ?_)
  have G : bw_G X _ (100) s H _ := G
  refine W.widen (k := 23) (n := 1087) (Nat.le_of_ble_eq_true rfl) (Nat.le_of_ble_eq_true rfl) ?_
  have hz := bw_Zw (a1 := 24) hz (by omega)
  refine bp_mo_log (o := 0) hx hb hg hown (hg _ kw_358) hi rfl hK.1 G (by decide : gr_k 0 = (11, 0)) (by omega) dd_mo_init_182 (fun H locs G => ?_)
  have hz := bw_Zs (k := 76) (j := 26) hz (by omega)
  refine lv_iconst (v := (0 : Int32)) hx hb dd_mo_init_185 (by decide) ?_
  refine W.eq (g2 := F0 m 186 _ _) rfl ?_
  refine lv_istore_n (i := 1) (lv' := [(1, .int (0 : Int32)), (0, .ref (gr_a X 0))]) hx hb dd_mo_init_186 rfl hl (by decide) rfl (fun ls hl => ?_)
  refine lv_iload_n hx hb dd_mo_init_187 rfl (lv_at hl 0 rfl) ?_
  refine lv_bipush (v := (16 : Int32)) hx hb dd_mo_init_188 (by decide) ?_
  refine lv_icmp_ge (tgt := 207) hx hb dd_mo_init_190 (by decide) (fun h => absurd h (by decide)) (fun _ => ?_)
  refine lv_aload_n hx hb dd_mo_init_193 rfl (lv_at hl 1 rfl) ?_
  refine bg_mo_balances (o := 0) hx hb hg hown (hg _ kw_293) hK.1 G (by decide : gr_k 0 = (11, 0)) (by omega) (by repeat (first | exact bw_s_t | refine bw_s_m ?_)) dd_mo_init_194 ?_
  refine lv_iload_n hx hb dd_mo_init_197 rfl (lv_at hl 0 rfl) ?_
  refine lv_bipush (v := (100 : Int32)) hx hb dd_mo_init_198 (by decide) ?_
  refine W.eq (g2 := F0 m 200 _ _) rfl ?_
  refine br_iast (k := 1) hx hb hK.1 G (by decide : gr_k 1 = (0, 16)) (by omega) (gw_vp (by decide)) (j := 0) (by decide) dd_mo_init_200 (fun H locs G => ?_)
  refine lv_iinc (k := 0) (v := (1 : Int32)) (lv' := [(1, .int (1 : Int32)), (0, .ref (gr_a X 0))]) hx hb dd_mo_init_201 hl rfl (by decide) (by decide) rfl (fun ls hl => ?_)
  refine lv_goto (tgt := 187) hx hb dd_mo_init_204 (by decide) ?_
  refine lv_iload_n hx hb dd_mo_init_187 rfl (lv_at hl 0 rfl) ?_
  refine lv_bipush (v := (16 : Int32)) hx hb dd_mo_init_188 (by decide) ?_
  refine lv_icmp_ge (tgt := 207) hx hb dd_mo_init_190 (by decide) (fun h => absurd h (by decide)) (fun _ => ?_)
  refine lv_aload_n hx hb dd_mo_init_193 rfl (lv_at hl 1 rfl) ?_
  refine bg_mo_balances (o := 0) hx hb hg hown (hg _ kw_293) hK.1 G (by decide : gr_k 0 = (11, 0)) (by omega) (by repeat (first | exact bw_s_t | refine bw_s_m ?_)) dd_mo_init_194 ?_
  refine W.eq (g2 := F0 m 197 _ _) rfl ?_
  refine lv_iload_n hx hb dd_mo_init_197 rfl (lv_at hl 0 rfl) ?_
  refine lv_bipush (v := (100 : Int32)) hx hb dd_mo_init_198 (by decide) ?_
  refine br_iast (k := 1) hx hb hK.1 G (by decide : gr_k 1 = (0, 16)) (by omega) (gw_vp (by decide)) (j := 1) (by decide) dd_mo_init_200 (fun H locs G => ?_)
  refine lv_iinc (k := 0) (v := (2 : Int32)) (lv' := [(1, .int (2 : Int32)), (0, .ref (gr_a X 0))]) hx hb dd_mo_init_201 hl rfl (by decide) (by decide) rfl (fun ls hl => ?_)
  refine lv_goto (tgt := 187) hx hb dd_mo_init_204 (by decide) ?_
  refine lv_iload_n hx hb dd_mo_init_187 rfl (lv_at hl 0 rfl) ?_
  refine lv_bipush (v := (16 : Int32)) hx hb dd_mo_init_188 (by decide) ?_
  refine lv_icmp_ge (tgt := 207) hx hb dd_mo_init_190 (by decide) (fun h => absurd h (by decide)) (fun _ => ?_)
  refine W.eq (g2 := F0 m 193 _ _) rfl ?_
  refine lv_aload_n hx hb dd_mo_init_193 rfl (lv_at hl 1 rfl) ?_
  refine bg_mo_balances (o := 0) hx hb hg hown (hg _ kw_293) hK.1 G (by decide : gr_k 0 = (11, 0)) (by omega) (by repeat (first | exact bw_s_t | refine bw_s_m ?_)) dd_mo_init_194 ?_
  refine lv_iload_n hx hb dd_mo_init_197 rfl (lv_at hl 0 rfl) ?_
  refine lv_bipush (v := (100 : Int32)) hx hb dd_mo_init_198 (by decide) ?_
  refine br_iast (k := 1) hx hb hK.1 G (by decide : gr_k 1 = (0, 16)) (by omega) (gw_vp (by decide)) (j := 2) (by decide) dd_mo_init_200 (fun H locs G => ?_)
  refine lv_iinc (k := 0) (v := (3 : Int32)) (lv' := [(1, .int (3 : Int32)), (0, .ref (gr_a X 0))]) hx hb dd_mo_init_201 hl rfl (by decide) (by decide) rfl (fun ls hl => ?_)
  refine lv_goto (tgt := 187) hx hb dd_mo_init_204 (by decide) ?_
  refine lv_iload_n hx hb dd_mo_init_187 rfl (lv_at hl 0 rfl) ?_
  refine W.eq (g2 := F0 m 188 _ _) rfl ?_
  refine lv_bipush (v := (16 : Int32)) hx hb dd_mo_init_188 (by decide) ?_
  refine lv_icmp_ge (tgt := 207) hx hb dd_mo_init_190 (by decide) (fun h => absurd h (by decide)) (fun _ => ?_)
  refine lv_aload_n hx hb dd_mo_init_193 rfl (lv_at hl 1 rfl) ?_
  refine bg_mo_balances (o := 0) hx hb hg hown (hg _ kw_293) hK.1 G (by decide : gr_k 0 = (11, 0)) (by omega) (by repeat (first | exact bw_s_t | refine bw_s_m ?_)) dd_mo_init_194 ?_
  refine lv_iload_n hx hb dd_mo_init_197 rfl (lv_at hl 0 rfl) ?_
  refine lv_bipush (v := (100 : Int32)) hx hb dd_mo_init_198 (by decide) ?_
  refine br_iast (k := 1) hx hb hK.1 G (by decide : gr_k 1 = (0, 16)) (by omega) (gw_vp (by decide)) (j := 3) (by decide) dd_mo_init_200 (fun H locs G => ?_)
  refine lv_iinc (k := 0) (v := (4 : Int32)) (lv' := [(1, .int (4 : Int32)), (0, .ref (gr_a X 0))]) hx hb dd_mo_init_201 hl rfl (by decide) (by decide) rfl (fun ls hl => ?_)
  refine W.eq (g2 := F0 m 204 _ _) rfl ?_
  refine lv_goto (tgt := 187) hx hb dd_mo_init_204 (by decide) ?_
  refine lv_iload_n hx hb dd_mo_init_187 rfl (lv_at hl 0 rfl) ?_
  refine lv_bipush (v := (16 : Int32)) hx hb dd_mo_init_188 (by decide) ?_
  refine lv_icmp_ge (tgt := 207) hx hb dd_mo_init_190 (by decide) (fun h => absurd h (by decide)) (fun _ => ?_)
  refine lv_aload_n hx hb dd_mo_init_193 rfl (lv_at hl 1 rfl) ?_
  refine bg_mo_balances (o := 0) hx hb hg hown (hg _ kw_293) hK.1 G (by decide : gr_k 0 = (11, 0)) (by omega) (by repeat (first | exact bw_s_t | refine bw_s_m ?_)) dd_mo_init_194 ?_
  refine lv_iload_n hx hb dd_mo_init_197 rfl (lv_at hl 0 rfl) ?_
  refine lv_bipush (v := (100 : Int32)) hx hb dd_mo_init_198 (by decide) ?_
  refine W.eq (g2 := F0 m 200 _ _) rfl ?_
  refine br_iast (k := 1) hx hb hK.1 G (by decide : gr_k 1 = (0, 16)) (by omega) (gw_vp (by decide)) (j := 4) (by decide) dd_mo_init_200 (fun H locs G => ?_)
  refine lv_iinc (k := 0) (v := (5 : Int32)) (lv' := [(1, .int (5 : Int32)), (0, .ref (gr_a X 0))]) hx hb dd_mo_init_201 hl rfl (by decide) (by decide) rfl (fun ls hl => ?_)
  refine lv_goto (tgt := 187) hx hb dd_mo_init_204 (by decide) ?_
  refine lv_iload_n hx hb dd_mo_init_187 rfl (lv_at hl 0 rfl) ?_
  refine lv_bipush (v := (16 : Int32)) hx hb dd_mo_init_188 (by decide) ?_
  refine lv_icmp_ge (tgt := 207) hx hb dd_mo_init_190 (by decide) (fun h => absurd h (by decide)) (fun _ => ?_)
  refine lv_aload_n hx hb dd_mo_init_193 rfl (lv_at hl 1 rfl) ?_
  refine bg_mo_balances (o := 0) hx hb hg hown (hg _ kw_293) hK.1 G (by decide : gr_k 0 = (11, 0)) (by omega) (by repeat (first | exact bw_s_t | refine bw_s_m ?_)) dd_mo_init_194 ?_
  refine W.eq (g2 := F0 m 197 _ _) rfl ?_
  refine lv_iload_n hx hb dd_mo_init_197 rfl (lv_at hl 0 rfl) ?_
  refine lv_bipush (v := (100 : Int32)) hx hb dd_mo_init_198 (by decide) ?_
  refine br_iast (k := 1) hx hb hK.1 G (by decide : gr_k 1 = (0, 16)) (by omega) (gw_vp (by decide)) (j := 5) (by decide) dd_mo_init_200 (fun H locs G => ?_)
  refine lv_iinc (k := 0) (v := (6 : Int32)) (lv' := [(1, .int (6 : Int32)), (0, .ref (gr_a X 0))]) hx hb dd_mo_init_201 hl rfl (by decide) (by decide) rfl (fun ls hl => ?_)
  refine lv_goto (tgt := 187) hx hb dd_mo_init_204 (by decide) ?_
  refine lv_iload_n hx hb dd_mo_init_187 rfl (lv_at hl 0 rfl) ?_
  refine lv_bipush (v := (16 : Int32)) hx hb dd_mo_init_188 (by decide) ?_
  refine lv_icmp_ge (tgt := 207) hx hb dd_mo_init_190 (by decide) (fun h => absurd h (by decide)) (fun _ => ?_)
  refine W.eq (g2 := F0 m 193 _ _) rfl ?_
  refine lv_aload_n hx hb dd_mo_init_193 rfl (lv_at hl 1 rfl) ?_
  refine bg_mo_balances (o := 0) hx hb hg hown (hg _ kw_293) hK.1 G (by decide : gr_k 0 = (11, 0)) (by omega) (by repeat (first | exact bw_s_t | refine bw_s_m ?_)) dd_mo_init_194 ?_
  refine lv_iload_n hx hb dd_mo_init_197 rfl (lv_at hl 0 rfl) ?_
  refine lv_bipush (v := (100 : Int32)) hx hb dd_mo_init_198 (by decide) ?_
  refine br_iast (k := 1) hx hb hK.1 G (by decide : gr_k 1 = (0, 16)) (by omega) (gw_vp (by decide)) (j := 6) (by decide) dd_mo_init_200 (fun H locs G => ?_)
  refine lv_iinc (k := 0) (v := (7 : Int32)) (lv' := [(1, .int (7 : Int32)), (0, .ref (gr_a X 0))]) hx hb dd_mo_init_201 hl rfl (by decide) (by decide) rfl (fun ls hl => ?_)
  refine lv_goto (tgt := 187) hx hb dd_mo_init_204 (by decide) ?_
  refine lv_iload_n hx hb dd_mo_init_187 rfl (lv_at hl 0 rfl) ?_
  refine W.eq (g2 := F0 m 188 _ _) rfl ?_
  refine lv_bipush (v := (16 : Int32)) hx hb dd_mo_init_188 (by decide) ?_
  refine lv_icmp_ge (tgt := 207) hx hb dd_mo_init_190 (by decide) (fun h => absurd h (by decide)) (fun _ => ?_)
  refine lv_aload_n hx hb dd_mo_init_193 rfl (lv_at hl 1 rfl) ?_
  refine bg_mo_balances (o := 0) hx hb hg hown (hg _ kw_293) hK.1 G (by decide : gr_k 0 = (11, 0)) (by omega) (by repeat (first | exact bw_s_t | refine bw_s_m ?_)) dd_mo_init_194 ?_
  refine lv_iload_n hx hb dd_mo_init_197 rfl (lv_at hl 0 rfl) ?_
  refine lv_bipush (v := (100 : Int32)) hx hb dd_mo_init_198 (by decide) ?_
  refine br_iast (k := 1) hx hb hK.1 G (by decide : gr_k 1 = (0, 16)) (by omega) (gw_vp (by decide)) (j := 7) (by decide) dd_mo_init_200 (fun H locs G => ?_)
  refine lv_iinc (k := 0) (v := (8 : Int32)) (lv' := [(1, .int (8 : Int32)), (0, .ref (gr_a X 0))]) hx hb dd_mo_init_201 hl rfl (by decide) (by decide) rfl (fun ls hl => ?_)
  refine W.eq (g2 := F0 m 204 _ _) rfl ?_
  refine lv_goto (tgt := 187) hx hb dd_mo_init_204 (by decide) ?_
  refine lv_iload_n hx hb dd_mo_init_187 rfl (lv_at hl 0 rfl) ?_
  refine lv_bipush (v := (16 : Int32)) hx hb dd_mo_init_188 (by decide) ?_
  refine lv_icmp_ge (tgt := 207) hx hb dd_mo_init_190 (by decide) (fun h => absurd h (by decide)) (fun _ => ?_)
  refine lv_aload_n hx hb dd_mo_init_193 rfl (lv_at hl 1 rfl) ?_
  refine bg_mo_balances (o := 0) hx hb hg hown (hg _ kw_293) hK.1 G (by decide : gr_k 0 = (11, 0)) (by omega) (by repeat (first | exact bw_s_t | refine bw_s_m ?_)) dd_mo_init_194 ?_
  refine lv_iload_n hx hb dd_mo_init_197 rfl (lv_at hl 0 rfl) ?_
  refine lv_bipush (v := (100 : Int32)) hx hb dd_mo_init_198 (by decide) ?_
  refine W.eq (g2 := F0 m 200 _ _) rfl ?_
  refine br_iast (k := 1) hx hb hK.1 G (by decide : gr_k 1 = (0, 16)) (by omega) (gw_vp (by decide)) (j := 8) (by decide) dd_mo_init_200 (fun H locs G => ?_)
  refine lv_iinc (k := 0) (v := (9 : Int32)) (lv' := [(1, .int (9 : Int32)), (0, .ref (gr_a X 0))]) hx hb dd_mo_init_201 hl rfl (by decide) (by decide) rfl (fun ls hl => ?_)
  refine lv_goto (tgt := 187) hx hb dd_mo_init_204 (by decide) ?_
  refine lv_iload_n hx hb dd_mo_init_187 rfl (lv_at hl 0 rfl) ?_
  refine lv_bipush (v := (16 : Int32)) hx hb dd_mo_init_188 (by decide) ?_
  refine lv_icmp_ge (tgt := 207) hx hb dd_mo_init_190 (by decide) (fun h => absurd h (by decide)) (fun _ => ?_)
  refine lv_aload_n hx hb dd_mo_init_193 rfl (lv_at hl 1 rfl) ?_
  refine bg_mo_balances (o := 0) hx hb hg hown (hg _ kw_293) hK.1 G (by decide : gr_k 0 = (11, 0)) (by omega) (by repeat (first | exact bw_s_t | refine bw_s_m ?_)) dd_mo_init_194 ?_
  refine W.eq (g2 := F0 m 197 _ _) rfl ?_
  refine lv_iload_n hx hb dd_mo_init_197 rfl (lv_at hl 0 rfl) ?_
  refine lv_bipush (v := (100 : Int32)) hx hb dd_mo_init_198 (by decide) ?_
  refine br_iast (k := 1) hx hb hK.1 G (by decide : gr_k 1 = (0, 16)) (by omega) (gw_vp (by decide)) (j := 9) (by decide) dd_mo_init_200 (fun H locs G => ?_)
  refine lv_iinc (k := 0) (v := (10 : Int32)) (lv' := [(1, .int (10 : Int32)), (0, .ref (gr_a X 0))]) hx hb dd_mo_init_201 hl rfl (by decide) (by decide) rfl (fun ls hl => ?_)
  refine lv_goto (tgt := 187) hx hb dd_mo_init_204 (by decide) ?_
  refine lv_iload_n hx hb dd_mo_init_187 rfl (lv_at hl 0 rfl) ?_
  refine lv_bipush (v := (16 : Int32)) hx hb dd_mo_init_188 (by decide) ?_
  refine lv_icmp_ge (tgt := 207) hx hb dd_mo_init_190 (by decide) (fun h => absurd h (by decide)) (fun _ => ?_)
  refine W.eq (g2 := F0 m 193 _ _) rfl ?_
  refine lv_aload_n hx hb dd_mo_init_193 rfl (lv_at hl 1 rfl) ?_
  refine bg_mo_balances (o := 0) hx hb hg hown (hg _ kw_293) hK.1 G (by decide : gr_k 0 = (11, 0)) (by omega) (by repeat (first | exact bw_s_t | refine bw_s_m ?_)) dd_mo_init_194 ?_
  refine lv_iload_n hx hb dd_mo_init_197 rfl (lv_at hl 0 rfl) ?_
  refine lv_bipush (v := (100 : Int32)) hx hb dd_mo_init_198 (by decide) ?_
  refine br_iast (k := 1) hx hb hK.1 G (by decide : gr_k 1 = (0, 16)) (by omega) (gw_vp (by decide)) (j := 10) (by decide) dd_mo_init_200 (fun H locs G => ?_)
  refine lv_iinc (k := 0) (v := (11 : Int32)) (lv' := [(1, .int (11 : Int32)), (0, .ref (gr_a X 0))]) hx hb dd_mo_init_201 hl rfl (by decide) (by decide) rfl (fun ls hl => ?_)
  refine lv_goto (tgt := 187) hx hb dd_mo_init_204 (by decide) ?_
  refine lv_iload_n hx hb dd_mo_init_187 rfl (lv_at hl 0 rfl) ?_
  refine W.eq (g2 := F0 m 188 _ _) rfl ?_
  refine lv_bipush (v := (16 : Int32)) hx hb dd_mo_init_188 (by decide) ?_
  refine lv_icmp_ge (tgt := 207) hx hb dd_mo_init_190 (by decide) (fun h => absurd h (by decide)) (fun _ => ?_)
  refine lv_aload_n hx hb dd_mo_init_193 rfl (lv_at hl 1 rfl) ?_
  refine bg_mo_balances (o := 0) hx hb hg hown (hg _ kw_293) hK.1 G (by decide : gr_k 0 = (11, 0)) (by omega) (by repeat (first | exact bw_s_t | refine bw_s_m ?_)) dd_mo_init_194 ?_
  refine lv_iload_n hx hb dd_mo_init_197 rfl (lv_at hl 0 rfl) ?_
  refine lv_bipush (v := (100 : Int32)) hx hb dd_mo_init_198 (by decide) ?_
  refine br_iast (k := 1) hx hb hK.1 G (by decide : gr_k 1 = (0, 16)) (by omega) (gw_vp (by decide)) (j := 11) (by decide) dd_mo_init_200 (fun H locs G => ?_)
  refine lv_iinc (k := 0) (v := (12 : Int32)) (lv' := [(1, .int (12 : Int32)), (0, .ref (gr_a X 0))]) hx hb dd_mo_init_201 hl rfl (by decide) (by decide) rfl (fun ls hl => ?_)
  refine W.eq (g2 := F0 m 204 _ _) rfl ?_
  refine lv_goto (tgt := 187) hx hb dd_mo_init_204 (by decide) ?_
  refine lv_iload_n hx hb dd_mo_init_187 rfl (lv_at hl 0 rfl) ?_
  refine lv_bipush (v := (16 : Int32)) hx hb dd_mo_init_188 (by decide) ?_
  refine lv_icmp_ge (tgt := 207) hx hb dd_mo_init_190 (by decide) (fun h => absurd h (by decide)) (fun _ => ?_)
  refine lv_aload_n hx hb dd_mo_init_193 rfl (lv_at hl 1 rfl) ?_
  refine bg_mo_balances (o := 0) hx hb hg hown (hg _ kw_293) hK.1 G (by decide : gr_k 0 = (11, 0)) (by omega) (by repeat (first | exact bw_s_t | refine bw_s_m ?_)) dd_mo_init_194 ?_
  refine lv_iload_n hx hb dd_mo_init_197 rfl (lv_at hl 0 rfl) ?_
  refine lv_bipush (v := (100 : Int32)) hx hb dd_mo_init_198 (by decide) ?_
  refine W.eq (g2 := F0 m 200 _ _) rfl ?_
  refine br_iast (k := 1) hx hb hK.1 G (by decide : gr_k 1 = (0, 16)) (by omega) (gw_vp (by decide)) (j := 12) (by decide) dd_mo_init_200 (fun H locs G => ?_)
  refine lv_iinc (k := 0) (v := (13 : Int32)) (lv' := [(1, .int (13 : Int32)), (0, .ref (gr_a X 0))]) hx hb dd_mo_init_201 hl rfl (by decide) (by decide) rfl (fun ls hl => ?_)
  refine lv_goto (tgt := 187) hx hb dd_mo_init_204 (by decide) ?_
  refine lv_iload_n hx hb dd_mo_init_187 rfl (lv_at hl 0 rfl) ?_
  refine lv_bipush (v := (16 : Int32)) hx hb dd_mo_init_188 (by decide) ?_
  refine lv_icmp_ge (tgt := 207) hx hb dd_mo_init_190 (by decide) (fun h => absurd h (by decide)) (fun _ => ?_)
  refine lv_aload_n hx hb dd_mo_init_193 rfl (lv_at hl 1 rfl) ?_
  refine bg_mo_balances (o := 0) hx hb hg hown (hg _ kw_293) hK.1 G (by decide : gr_k 0 = (11, 0)) (by omega) (by repeat (first | exact bw_s_t | refine bw_s_m ?_)) dd_mo_init_194 ?_
  refine W.eq (g2 := F0 m 197 _ _) rfl ?_
  refine lv_iload_n hx hb dd_mo_init_197 rfl (lv_at hl 0 rfl) ?_
  refine lv_bipush (v := (100 : Int32)) hx hb dd_mo_init_198 (by decide) ?_
  refine br_iast (k := 1) hx hb hK.1 G (by decide : gr_k 1 = (0, 16)) (by omega) (gw_vp (by decide)) (j := 13) (by decide) dd_mo_init_200 (fun H locs G => ?_)
  refine lv_iinc (k := 0) (v := (14 : Int32)) (lv' := [(1, .int (14 : Int32)), (0, .ref (gr_a X 0))]) hx hb dd_mo_init_201 hl rfl (by decide) (by decide) rfl (fun ls hl => ?_)
  refine lv_goto (tgt := 187) hx hb dd_mo_init_204 (by decide) ?_
  refine lv_iload_n hx hb dd_mo_init_187 rfl (lv_at hl 0 rfl) ?_
  refine lv_bipush (v := (16 : Int32)) hx hb dd_mo_init_188 (by decide) ?_
  refine lv_icmp_ge (tgt := 207) hx hb dd_mo_init_190 (by decide) (fun h => absurd h (by decide)) (fun _ => ?_)
  refine W.eq (g2 := F0 m 193 _ _) rfl ?_
  refine lv_aload_n hx hb dd_mo_init_193 rfl (lv_at hl 1 rfl) ?_
  refine bg_mo_balances (o := 0) hx hb hg hown (hg _ kw_293) hK.1 G (by decide : gr_k 0 = (11, 0)) (by omega) (by repeat (first | exact bw_s_t | refine bw_s_m ?_)) dd_mo_init_194 ?_
  refine lv_iload_n hx hb dd_mo_init_197 rfl (lv_at hl 0 rfl) ?_
  refine lv_bipush (v := (100 : Int32)) hx hb dd_mo_init_198 (by decide) ?_
  refine br_iast (k := 1) hx hb hK.1 G (by decide : gr_k 1 = (0, 16)) (by omega) (gw_vp (by decide)) (j := 14) (by decide) dd_mo_init_200 (fun H locs G => ?_)
  refine lv_iinc (k := 0) (v := (15 : Int32)) (lv' := [(1, .int (15 : Int32)), (0, .ref (gr_a X 0))]) hx hb dd_mo_init_201 hl rfl (by decide) (by decide) rfl (fun ls hl => ?_)
  refine lv_goto (tgt := 187) hx hb dd_mo_init_204 (by decide) ?_
  refine lv_iload_n hx hb dd_mo_init_187 rfl (lv_at hl 0 rfl) ?_
  refine W.eq (g2 := F0 m 188 _ _) rfl ?_
  refine lv_bipush (v := (16 : Int32)) hx hb dd_mo_init_188 (by decide) ?_
  refine lv_icmp_ge (tgt := 207) hx hb dd_mo_init_190 (by decide) (fun h => absurd h (by decide)) (fun _ => ?_)
  refine lv_aload_n hx hb dd_mo_init_193 rfl (lv_at hl 1 rfl) ?_
  refine bg_mo_balances (o := 0) hx hb hg hown (hg _ kw_293) hK.1 G (by decide : gr_k 0 = (11, 0)) (by omega) (by repeat (first | exact bw_s_t | refine bw_s_m ?_)) dd_mo_init_194 ?_
  refine lv_iload_n hx hb dd_mo_init_197 rfl (lv_at hl 0 rfl) ?_
  refine lv_bipush (v := (100 : Int32)) hx hb dd_mo_init_198 (by decide) ?_
  refine br_iast (k := 1) hx hb hK.1 G (by decide : gr_k 1 = (0, 16)) (by omega) (gw_vp (by decide)) (j := 15) (by decide) dd_mo_init_200 (fun H locs G => ?_)
  refine lv_iinc (k := 0) (v := (16 : Int32)) (lv' := [(1, .int (16 : Int32)), (0, .ref (gr_a X 0))]) hx hb dd_mo_init_201 hl rfl (by decide) (by decide) rfl (fun ls hl => ?_)
  refine W.eq (g2 := F0 m 204 _ _) rfl ?_
  refine lv_goto (tgt := 187) hx hb dd_mo_init_204 (by decide) ?_
  refine lv_iload_n hx hb dd_mo_init_187 rfl (lv_at hl 0 rfl) ?_
  refine lv_bipush (v := (16 : Int32)) hx hb dd_mo_init_188 (by decide) ?_
  refine lv_icmp_ge (tgt := 207) hx hb dd_mo_init_190 (by decide) (fun _ => ?_) (fun h => absurd (by decide) h)
  exact W.vret hx hb hr (fun t ht hW => bw_end G ht) G.2.2.2.2 dd_mo_init_207 hlocks
