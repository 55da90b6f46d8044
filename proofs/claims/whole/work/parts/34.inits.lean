abbrev rm_am_init : Room := { frames := 3, cells := 75, slots := 1224, locals := 60 }
theorem dd_am_init_0 : decode by_am_init 0 = .ok (.aload_n 0, 1) := by decide +kernel
theorem dd_am_init_1 : decode by_am_init 1 = .ok (.invokespecial 1, 3) := by decide +kernel
theorem dd_am_init_4 : decode by_am_init 4 = .ok (.aload_n 0, 1) := by decide +kernel
theorem dd_am_init_5 : decode by_am_init 5 = .ok (.iconst 4, 1) := by decide +kernel
theorem dd_am_init_6 : decode by_am_init 6 = .ok (.anewarray 9, 3) := by decide +kernel
theorem dd_am_init_9 : decode by_am_init 9 = .ok (.putfield 11, 3) := by decide +kernel
theorem dd_am_init_12 : decode by_am_init 12 = .ok (.aload_n 0, 1) := by decide +kernel
theorem dd_am_init_13 : decode by_am_init 13 = .ok (.new 15, 3) := by decide +kernel
theorem dd_am_init_16 : decode by_am_init 16 = .ok (.dup, 1) := by decide +kernel
theorem dd_am_init_17 : decode by_am_init 17 = .ok (.invokespecial 17, 3) := by decide +kernel
theorem dd_am_init_20 : decode by_am_init 20 = .ok (.putfield 18, 3) := by decide +kernel
theorem dd_am_init_23 : decode by_am_init 23 = .ok (.aload_n 0, 1) := by decide +kernel
theorem dd_am_init_24 : decode by_am_init 24 = .ok (.new 15, 3) := by decide +kernel
theorem dd_am_init_27 : decode by_am_init 27 = .ok (.dup, 1) := by decide +kernel
theorem dd_am_init_28 : decode by_am_init 28 = .ok (.invokespecial 17, 3) := by decide +kernel
theorem dd_am_init_31 : decode by_am_init 31 = .ok (.putfield 22, 3) := by decide +kernel
theorem dd_am_init_34 : decode by_am_init 34 = .ok (.aload_n 0, 1) := by decide +kernel
theorem dd_am_init_35 : decode by_am_init 35 = .ok (.iconst 3, 1) := by decide +kernel
theorem dd_am_init_36 : decode by_am_init 36 = .ok (.anewarray 25, 3) := by decide +kernel
theorem dd_am_init_39 : decode by_am_init 39 = .ok (.putfield 27, 3) := by decide +kernel
theorem dd_am_init_42 : decode by_am_init 42 = .ok (.aload_n 0, 1) := by decide +kernel
theorem dd_am_init_43 : decode by_am_init 43 = .ok (.iconst 0, 1) := by decide +kernel
theorem dd_am_init_44 : decode by_am_init 44 = .ok (.putfield 31, 3) := by decide +kernel
theorem dd_am_init_47 : decode by_am_init 47 = .ok (.aload_n 0, 1) := by decide +kernel
theorem dd_am_init_48 : decode by_am_init 48 = .ok (.iconst 4, 1) := by decide +kernel
theorem dd_am_init_49 : decode by_am_init 49 = .ok (.anewarray 35, 3) := by decide +kernel
theorem dd_am_init_52 : decode by_am_init 52 = .ok (.putfield 37, 3) := by decide +kernel
theorem dd_am_init_55 : decode by_am_init 55 = .ok (.aload_n 0, 1) := by decide +kernel
theorem dd_am_init_56 : decode by_am_init 56 = .ok (.iconst 0, 1) := by decide +kernel
theorem dd_am_init_57 : decode by_am_init 57 = .ok (.putfield 41, 3) := by decide +kernel
theorem dd_am_init_60 : decode by_am_init 60 = .ok (.aload_n 0, 1) := by decide +kernel
theorem dd_am_init_61 : decode by_am_init 61 = .ok (.iconst 0, 1) := by decide +kernel
theorem dd_am_init_62 : decode by_am_init 62 = .ok (.putfield 44, 3) := by decide +kernel
theorem dd_am_init_65 : decode by_am_init 65 = .ok (.aload_n 0, 1) := by decide +kernel
theorem dd_am_init_66 : decode by_am_init 66 = .ok (.bipush 30, 2) := by decide +kernel
theorem dd_am_init_68 : decode by_am_init 68 = .ok (.newarray .long, 2) := by decide +kernel
theorem dd_am_init_70 : decode by_am_init 70 = .ok (.putfield 47, 3) := by decide +kernel
theorem dd_am_init_73 : decode by_am_init 73 = .ok (.aload_n 0, 1) := by decide +kernel
theorem dd_am_init_74 : decode by_am_init 74 = .ok (.iconst 0, 1) := by decide +kernel
theorem dd_am_init_75 : decode by_am_init 75 = .ok (.putfield 51, 3) := by decide +kernel
theorem dd_am_init_78 : decode by_am_init 78 = .ok (.aload_n 0, 1) := by decide +kernel
theorem dd_am_init_79 : decode by_am_init 79 = .ok (.lconst 0, 1) := by decide +kernel
theorem dd_am_init_80 : decode by_am_init 80 = .ok (.putfield 54, 3) := by decide +kernel
theorem dd_am_init_83 : decode by_am_init 83 = .ok (.iconst 0, 1) := by decide +kernel
theorem dd_am_init_84 : decode by_am_init 84 = .ok (.istore_n 1, 1) := by decide +kernel
theorem dd_am_init_85 : decode by_am_init 85 = .ok (.iload_n 1, 1) := by decide +kernel
theorem dd_am_init_86 : decode by_am_init 86 = .ok (.iconst 4, 1) := by decide +kernel
theorem dd_am_init_87 : decode by_am_init 87 = .ok (.if_icmp .ge 22, 3) := by decide +kernel
theorem dd_am_init_90 : decode by_am_init 90 = .ok (.aload_n 0, 1) := by decide +kernel
theorem dd_am_init_91 : decode by_am_init 91 = .ok (.getfield 11, 3) := by decide +kernel
theorem dd_am_init_94 : decode by_am_init 94 = .ok (.iload_n 1, 1) := by decide +kernel
theorem dd_am_init_95 : decode by_am_init 95 = .ok (.new 9, 3) := by decide +kernel
theorem dd_am_init_98 : decode by_am_init 98 = .ok (.dup, 1) := by decide +kernel
theorem dd_am_init_99 : decode by_am_init 99 = .ok (.invokespecial 58, 3) := by decide +kernel
theorem dd_am_init_102 : decode by_am_init 102 = .ok (.aastore, 1) := by decide +kernel
theorem dd_am_init_103 : decode by_am_init 103 = .ok (.iinc 1 1, 3) := by decide +kernel
theorem dd_am_init_106 : decode by_am_init 106 = .ok (.goto (-21), 3) := by decide +kernel
theorem dd_am_init_109 : decode by_am_init 109 = .ok (.iconst 0, 1) := by decide +kernel
theorem dd_am_init_110 : decode by_am_init 110 = .ok (.istore_n 1, 1) := by decide +kernel
theorem dd_am_init_111 : decode by_am_init 111 = .ok (.iload_n 1, 1) := by decide +kernel
theorem dd_am_init_112 : decode by_am_init 112 = .ok (.iconst 3, 1) := by decide +kernel
theorem dd_am_init_113 : decode by_am_init 113 = .ok (.if_icmp .ge 22, 3) := by decide +kernel
theorem dd_am_init_116 : decode by_am_init 116 = .ok (.aload_n 0, 1) := by decide +kernel
theorem dd_am_init_117 : decode by_am_init 117 = .ok (.getfield 27, 3) := by decide +kernel
theorem dd_am_init_120 : decode by_am_init 120 = .ok (.iload_n 1, 1) := by decide +kernel
theorem dd_am_init_121 : decode by_am_init 121 = .ok (.new 25, 3) := by decide +kernel
theorem dd_am_init_124 : decode by_am_init 124 = .ok (.dup, 1) := by decide +kernel
theorem dd_am_init_125 : decode by_am_init 125 = .ok (.invokespecial 59, 3) := by decide +kernel
theorem dd_am_init_128 : decode by_am_init 128 = .ok (.aastore, 1) := by decide +kernel
theorem dd_am_init_129 : decode by_am_init 129 = .ok (.iinc 1 1, 3) := by decide +kernel
theorem dd_am_init_132 : decode by_am_init 132 = .ok (.goto (-21), 3) := by decide +kernel
theorem dd_am_init_135 : decode by_am_init 135 = .ok (.iconst 0, 1) := by decide +kernel
theorem dd_am_init_136 : decode by_am_init 136 = .ok (.istore_n 1, 1) := by decide +kernel
theorem dd_am_init_137 : decode by_am_init 137 = .ok (.iload_n 1, 1) := by decide +kernel
theorem dd_am_init_138 : decode by_am_init 138 = .ok (.iconst 4, 1) := by decide +kernel
theorem dd_am_init_139 : decode by_am_init 139 = .ok (.if_icmp .ge 22, 3) := by decide +kernel
theorem dd_am_init_142 : decode by_am_init 142 = .ok (.aload_n 0, 1) := by decide +kernel
theorem dd_am_init_143 : decode by_am_init 143 = .ok (.getfield 37, 3) := by decide +kernel
theorem dd_am_init_146 : decode by_am_init 146 = .ok (.iload_n 1, 1) := by decide +kernel
theorem dd_am_init_147 : decode by_am_init 147 = .ok (.new 35, 3) := by decide +kernel
theorem dd_am_init_150 : decode by_am_init 150 = .ok (.dup, 1) := by decide +kernel
theorem dd_am_init_151 : decode by_am_init 151 = .ok (.invokespecial 60, 3) := by decide +kernel
theorem dd_am_init_154 : decode by_am_init 154 = .ok (.aastore, 1) := by decide +kernel
theorem dd_am_init_155 : decode by_am_init 155 = .ok (.iinc 1 1, 3) := by decide +kernel
theorem dd_am_init_158 : decode by_am_init 158 = .ok (.goto (-21), 3) := by decide +kernel
theorem dd_am_init_161 : decode by_am_init 161 = .ok (.return_, 1) := by decide +kernel
set_option maxRecDepth 100000 in
set_option maxHeartbeats 8000000 in
theorem ct_am_init (l : Launch) (X : gw_X) (C Y : gw_M) (N : Nat → Nat → Bool) (hz : bw_Z C N 0 0) : Met l yy_am_init (Cond.code yy_am_init by_am_init 2 none :: gw_w) rm_am_init (va_Pc [.ref (gc_a X 0)] (bw_B X (bw_E X C Y N) (1))) (bw_Q X (bw_E X (bw_fl (bw_fl C (2 + 1) 8 (100 : Int32)) (7 + 1) 8 (100 : Int32)) Y (bw_s (bw_s (bw_s (bw_s (bw_s (bw_s (bw_s (bw_s (bw_s (bw_s (bw_s (bw_s (bw_s (bw_s (bw_s (bw_s (bw_s (bw_s (bw_s (bw_s (bw_s (bw_s (bw_s (bw_s (bw_s (bw_s (bw_s (bw_s (bw_s (bw_s (bw_s (bw_s (bw_s (bw_s (bw_s (bw_s (bw_s (bw_s (bw_s (bw_s (bw_s (bw_s (bw_s (bw_s (bw_s (bw_s (bw_s (bw_s (bw_s (bw_s (bw_s (bw_s (bw_s (bw_s (bw_s (bw_s (bw_s (bw_s (bw_s (bw_s (bw_s (bw_s (bw_s (bw_s (bw_s (bw_s (bw_s (bw_s (bw_s (bw_s (bw_s (bw_s (bw_s (bw_s (bw_s N 0 0) (2) 0) (2) 1) (2) 2) (2) 3) 0 1) (7) 0) (7) 1) (7) 2) (7) 3) 0 2) 0 3) 0 5) 0 8) (15) 0) (15) 1) (15) 2) (15) 3) (15) 4) 1 0) (21) 0) (21) 1) (21) 2) (21) 3) (21) 4) 1 1) (27) 0) (27) 1) (27) 2) (27) 3) (27) 4) 1 2) (33) 0) (33) 1) (33) 2) (33) 3) (33) 4) 1 3) (39) 3) (39) 4) 12 0) (42) 3) (42) 4) 12 1) (45) 3) (45) 4) 12 2) (48 + 1) 3) (48 + 1) 4) (48) 0) (48) 1) (48) 2) (48) 3) 13 0) (55 + 1) 3) (55 + 1) 4) (55) 0) (55) 1) (55) 2) (55) 3) 13 1) (62 + 1) 3) (62 + 1) 4) (62) 0) (62) 1) (62) 2) (62) 3) 13 2) (69 + 1) 3) (69 + 1) 4) (69) 0) (69) 1) (69) 2) (69) 3) 13 3)) (76)) 75 1224 (bw_A X) := by
  refine Met.ofW (cc := by_am_init) (maxL := 2) (ret := none) (by decide) rfl ?_
  intro p e s m args below meth c s₁ B hml hv
  obtain ⟨rfl, hK, hP, hD, hs0⟩ := hv
  have hx := B.exec
  have hb := B.bytes
  have hr := B.returns
  have hlocks := B.notSynchronized
  have hts := atoms_spec (ws := Cond.code yy_am_init by_am_init 2 none :: gw_w) B.pre
  have hg : ∀ w ∈ gw_w, w.before ([.ref (gc_a X 0)] : List Value).toArray s = true := fun w h => hts w (List.mem_cons_of_mem _ h)
  have hown : s.vm.findClass "AccountMachine" = some m.cls := findClass_of_methodNamed B.named
  have hi : meth.name = "<init>" := (name_of_methodNamed B.named B.method).1
  have hX := hK.2.2.2
  have hA : X.2.1 0 ≤ s.heap.size := by
    have := hX (1)
    omega
  have hC1 : C.1 0 = fun _ => 0 := (hz.2 _ (Nat.le_refl _)).1
  have hC2 : C.2 0 = fun _ => 0 := (hz.2 _ (Nat.le_refl _)).2
  have hz := bw_Zw (a1 := 1) hz (by omega)
  have G : bw_G X (bw_E X C Y N) (1) s s.heap [] := ⟨hP, hD, va_S.rf⟩
  rw [lg_entry_eq]
  have hl := lv_entry ([.ref (gc_a X 0)]) (n := 2) (Nat.le_of_ble_eq_true rfl)
  generalize (lg_sl ([.ref (gc_a X 0)]) ++ List.replicate (2 - (lg_sl ([.ref (gc_a X 0)])).length) Slot.unset).toArray = ls at hl ⊢
  have hl : lv_has ls 2 [(0, .ref (gc_a X 0))] := hl
  refine lv_aload_n hx hb dd_am_init_0 rfl (lv_at hl 0 rfl) ?_
  refine W.objInit hx hb hown (hg _ kw_481) (hg _ kw_467) (hg _ kw_468) rfl (by rw [hml]; exact hl.1) rfl dd_am_init_1 (Nat.le_of_ble_eq_true rfl) (Nat.le_of_ble_eq_true rfl) ?_
  refine W.eq (g2 := F0 m 4 ls []) rfl ?_
  refine lv_aload_n hx hb dd_am_init_4 rfl (lv_at hl 0 rfl) ?_
  refine lv_iconst (v := (4 : Int32)) hx hb dd_am_init_5 (by decide) ?_
  refine bw_newq_7 (n := 1) (len := 4) hx hb hown (hg _ kw_482) hK.2.2.1.1 hX (bw_hs hX hs0 (by omega)) hA hK.1 G (bc_N7 (by decide : gc_k 1 = (7, 4)) (fun j => hz.1 _ (by omega) j) (hz.2 _ (by omega)).1 (hz.2 _ (by omega)).2) (by decide) (by decide) (by decide) (Nat.le_of_ble_eq_true rfl) (Nat.le_of_ble_eq_true rfl) dd_am_init_6 (fun H G => ?_)
  have G : bw_G X _ (2) s H _ := G
  refine W.widen (k := 1) (n := 4) (Nat.le_of_ble_eq_true rfl) (Nat.le_of_ble_eq_true rfl) ?_
  have hz := bw_Zw (a1 := 2) hz (by omega)
  refine bp_am_programs (o := 0) hx hb hg hown (hg _ kw_108) hi rfl hK.1 G (by decide : gc_k 0 = (2, 0)) (by omega) dd_am_init_9 (fun H locs G => ?_)
  have hz := bw_Zs (k := 0) (j := 0) hz (by omega)
  refine lv_aload_n hx hb dd_am_init_12 rfl (lv_at hl 0 rfl) ?_
  refine W.eq (g2 := F0 m 13 _ _) rfl ?_
  refine bw_new (n := 2) (ci := 1) (fs := [.null, .null, .null, .null]) (Cn := na_le) (T := fi_le) (Nf := 4) hx hb hg la_le ty_le tk_le hown (hg _ kw_483) (hg _ kw_484) (hg _ kw_126) hX (bw_hs hX hs0 (by omega)) hA hK.1 G rfl (bc_N3 (by decide : gc_k 2 = (3, 0)) (fun j => hz.1 _ (by omega) j) (hz.2 _ (by omega)).1 (hz.2 _ (by omega)).2) (by decide) (Nat.le_of_ble_eq_true rfl) (Nat.le_of_ble_eq_true rfl) dd_am_init_13 (fun H G => ?_)
  have G : bw_G X _ (3) s H _ := G
  refine W.widen (k := 2) (n := 8) (Nat.le_of_ble_eq_true rfl) (Nat.le_of_ble_eq_true rfl) ?_
  refine lv_dup hx hb dd_am_init_16 rfl ?_
  refine bw_size (fun hz0 => ?_)
  have hz1 := bw_hz (n := 2) hX G (bw_hs hX hs0 (by omega)) hz0
  refine bw_cv G (va_runIN (As := []) (rest := [.ref (gc_a X 2), .ref (gc_a X 0)]) ⟨hx, hb, hml, hown, hts⟩ (ct_le_init l X _ Y _ (2) (by decide : gc_k 2 = (3, 0)) (bw_Zw hz (by omega))) ⟨va_cnB 0 hts (gw_gN kw_485) rfl rfl rfl (hK.2.1 _ kn_50) (hg _ kw_126) (by decide +kernel) ⟨Nat.le_of_ble_eq_true rfl, Nat.le_of_ble_eq_true rfl⟩, rfl, (hg _ kw_486)⟩ ⟨bw_blind, bw_pre hK G hz1⟩ rfl rfl hl.1 rfl (Nat.le_of_ble_eq_true rfl) dd_am_init_17 ⟨Nat.le_of_ble_eq_true rfl, Nat.le_of_ble_eq_true rfl⟩) (fun H locs G => ?_)
  have G : bw_G X _ (7) s H _ := G
  refine W.widen (k := 6) (n := 64) (Nat.le_of_ble_eq_true rfl) (Nat.le_of_ble_eq_true rfl) ?_
  have hz := bw_Zw (a1 := 7) hz (by omega)
  have hz := bw_Zf (k := 2 + 1) (n := 8) (v := (100 : Int32)) hz (by omega)
  have hz := bw_Zs (k := 2) (j := 0) hz (by omega)
  have hz := bw_Zs (k := 2) (j := 1) hz (by omega)
  have hz := bw_Zs (k := 2) (j := 2) hz (by omega)
  have hz := bw_Zs (k := 2) (j := 3) hz (by omega)
  refine bp_am_ledger (o := 0) hx hb hg hown (hg _ kw_124) hi rfl hK.1 G (by decide : gc_k 0 = (2, 0)) (by omega) dd_am_init_20 (fun H locs G => ?_)
  have hz := bw_Zs (k := 0) (j := 1) hz (by omega)
  refine lv_aload_n hx hb dd_am_init_23 rfl (lv_at hl 0 rfl) ?_
  refine bw_new (n := 7) (ci := 1) (fs := [.null, .null, .null, .null]) (Cn := na_le) (T := fi_le) (Nf := 4) hx hb hg la_le ty_le tk_le hown (hg _ kw_483) (hg _ kw_484) (hg _ kw_126) hX (bw_hs hX hs0 (by omega)) hA hK.1 G rfl (bc_N3 (by decide : gc_k 7 = (3, 0)) (fun j => hz.1 _ (by omega) j) (hz.2 _ (by omega)).1 (hz.2 _ (by omega)).2) (by decide) (Nat.le_of_ble_eq_true rfl) (Nat.le_of_ble_eq_true rfl) dd_am_init_24 (fun H G => ?_)
  have G : bw_G X _ (8) s H _ := G
  refine W.widen (k := 7) (n := 68) (Nat.le_of_ble_eq_true rfl) (Nat.le_of_ble_eq_true rfl) ?_
  refine lv_dup hx hb dd_am_init_27 rfl ?_
  refine bw_size (fun hz0 => ?_)
  have hz1 := bw_hz (n := 7) hX G (bw_hs hX hs0 (by omega)) hz0
  refine bw_cv G (va_runIN (As := []) (rest := [.ref (gc_a X 7), .ref (gc_a X 0)]) ⟨hx, hb, hml, hown, hts⟩ (ct_le_init l X _ Y _ (7) (by decide : gc_k 7 = (3, 0)) (bw_Zw hz (by omega))) ⟨va_cnB 0 hts (gw_gN kw_485) rfl rfl rfl (hK.2.1 _ kn_50) (hg _ kw_126) (by decide +kernel) ⟨Nat.le_of_ble_eq_true rfl, Nat.le_of_ble_eq_true rfl⟩, rfl, (hg _ kw_486)⟩ ⟨bw_blind, bw_pre hK G hz1⟩ rfl rfl hl.1 rfl (Nat.le_of_ble_eq_true rfl) dd_am_init_28 ⟨Nat.le_of_ble_eq_true rfl, Nat.le_of_ble_eq_true rfl⟩) (fun H locs G => ?_)
  have G : bw_G X _ (12) s H _ := G
  refine W.widen (k := 11) (n := 124) (Nat.le_of_ble_eq_true rfl) (Nat.le_of_ble_eq_true rfl) ?_
  have hz := bw_Zw (a1 := 12) hz (by omega)
  have hz := bw_Zf (k := 7 + 1) (n := 8) (v := (100 : Int32)) hz (by omega)
  have hz := bw_Zs (k := 7) (j := 0) hz (by omega)
  have hz := bw_Zs (k := 7) (j := 1) hz (by omega)
  have hz := bw_Zs (k := 7) (j := 2) hz (by omega)
  have hz := bw_Zs (k := 7) (j := 3) hz (by omega)
  refine W.eq (g2 := F0 m 31 _ _) rfl ?_
  refine bp_am_before (o := 0) hx hb hg hown (hg _ kw_237) hi rfl hK.1 G (by decide : gc_k 0 = (2, 0)) (by omega) dd_am_init_31 (fun H locs G => ?_)
  have hz := bw_Zs (k := 0) (j := 2) hz (by omega)
  refine lv_aload_n hx hb dd_am_init_34 rfl (lv_at hl 0 rfl) ?_
  refine lv_iconst (v := (3 : Int32)) hx hb dd_am_init_35 (by decide) ?_
  refine bw_newq_8 (n := 12) (len := 3) hx hb hown (hg _ kw_487) hK.2.2.1.2.1 hX (bw_hs hX hs0 (by omega)) hA hK.1 G (bc_N8 (by decide : gc_k 12 = (8, 3)) (fun j => hz.1 _ (by omega) j) (hz.2 _ (by omega)).1 (hz.2 _ (by omega)).2) (by decide) (by decide) (by decide) (Nat.le_of_ble_eq_true rfl) (Nat.le_of_ble_eq_true rfl) dd_am_init_36 (fun H G => ?_)
  have G : bw_G X _ (13) s H _ := G
  refine W.widen (k := 12) (n := 127) (Nat.le_of_ble_eq_true rfl) (Nat.le_of_ble_eq_true rfl) ?_
  have hz := bw_Zw (a1 := 13) hz (by omega)
  refine bp_am_orders (o := 0) hx hb hg hown (hg _ kw_119) hi rfl hK.1 G (by decide : gc_k 0 = (2, 0)) (by omega) dd_am_init_39 (fun H locs G => ?_)
  have hz := bw_Zs (k := 0) (j := 3) hz (by omega)
  refine lv_aload_n hx hb dd_am_init_42 rfl (lv_at hl 0 rfl) ?_
  refine lv_iconst (v := (0 : Int32)) hx hb dd_am_init_43 (by decide) ?_
  refine bz_am_orderCount (o := 0) hx hb hg hown (hg _ kw_118) hK.1 G (by decide : gc_k 0 = (2, 0)) (by omega) (congrFun hC1 4) dd_am_init_44 (fun H locs G => ?_)
  refine W.eq (g2 := F0 m 47 _ _) rfl ?_
  refine lv_aload_n hx hb dd_am_init_47 rfl (lv_at hl 0 rfl) ?_
  refine lv_iconst (v := (4 : Int32)) hx hb dd_am_init_48 (by decide) ?_
  refine bw_newq_9 (n := 13) (len := 4) hx hb hown (hg _ kw_488) hK.2.2.1.2.2 hX (bw_hs hX hs0 (by omega)) hA hK.1 G (bc_N9 (by decide : gc_k 13 = (9, 4)) (fun j => hz.1 _ (by omega) j) (hz.2 _ (by omega)).1 (hz.2 _ (by omega)).2) (by decide) (by decide) (by decide) (Nat.le_of_ble_eq_true rfl) (Nat.le_of_ble_eq_true rfl) dd_am_init_49 (fun H G => ?_)
  have G : bw_G X _ (14) s H _ := G
  refine W.widen (k := 13) (n := 131) (Nat.le_of_ble_eq_true rfl) (Nat.le_of_ble_eq_true rfl) ?_
  have hz := bw_Zw (a1 := 14) hz (by omega)
  refine bp_am_frames (o := 0) hx hb hg hown (hg _ kw_155) hi rfl hK.1 G (by decide : gc_k 0 = (2, 0)) (by omega) dd_am_init_52 (fun H locs G => ?_)
  have hz := bw_Zs (k := 0) (j := 5) hz (by omega)
  refine lv_aload_n hx hb dd_am_init_55 rfl (lv_at hl 0 rfl) ?_
  refine lv_iconst (v := (0 : Int32)) hx hb dd_am_init_56 (by decide) ?_
  refine bz_am_depth (o := 0) hx hb hg hown (hg _ kw_154) hK.1 G (by decide : gc_k 0 = (2, 0)) (by omega) (congrFun hC1 6) dd_am_init_57 (fun H locs G => ?_)
  refine lv_aload_n hx hb dd_am_init_60 rfl (lv_at hl 0 rfl) ?_
  refine W.eq (g2 := F0 m 61 _ _) rfl ?_
  refine lv_iconst (v := (0 : Int32)) hx hb dd_am_init_61 (by decide) ?_
  refine bz_am_meter (o := 0) hx hb hg hown (hg _ kw_123) hK.1 G (by decide : gc_k 0 = (2, 0)) (by omega) (congrFun hC1 7) dd_am_init_62 (fun H locs G => ?_)
  refine lv_aload_n hx hb dd_am_init_65 rfl (lv_at hl 0 rfl) ?_
  refine lv_bipush (v := (30 : Int32)) hx hb dd_am_init_66 (by decide) ?_
  refine bw_newa_long (n := 14) (len := 30) hx hb (hg _ kw_480) hX (bw_hs hX hs0 (by omega)) hA hK.1 G (bc_N1 (by decide : gc_k 14 = (1, 30)) (fun j => hz.1 _ (by omega) j) (hz.2 _ (by omega)).1 (hz.2 _ (by omega)).2) (by decide) (by decide) (by decide) (Nat.le_of_ble_eq_true rfl) (Nat.le_of_ble_eq_true rfl) dd_am_init_68 (fun H G => ?_)
  have G : bw_G X _ (15) s H _ := G
  refine W.widen (k := 14) (n := 161) (Nat.le_of_ble_eq_true rfl) (Nat.le_of_ble_eq_true rfl) ?_
  have hz := bw_Zw (a1 := 15) hz (by omega)
  refine bp_am_logWords (o := 0) hx hb hg hown (hg _ kw_147) hi rfl hK.1 G (by decide : gc_k 0 = (2, 0)) (by omega) dd_am_init_70 (fun H locs G => ?_)
  have hz := bw_Zs (k := 0) (j := 8) hz (by omega)
  refine lv_aload_n hx hb dd_am_init_73 rfl (lv_at hl 0 rfl) ?_
  refine lv_iconst (v := (0 : Int32)) hx hb dd_am_init_74 (by decide) ?_
  refine W.eq (g2 := F0 m 75 _ _) rfl ?_
  refine bz_am_logCount (o := 0) hx hb hg hown (hg _ kw_146) hK.1 G (by decide : gc_k 0 = (2, 0)) (by omega) (congrFun hC1 9) dd_am_init_75 (fun H locs G => ?_)
  refine lv_aload_n hx hb dd_am_init_78 rfl (lv_at hl 0 rfl) ?_
  refine lv_lconst (v := (0 : Int64)) hx hb dd_am_init_79 (by decide) ?_
  refine bz_am_given (o := 0) hx hb hg hown (hg _ kw_206) hK.1 G (by decide : gc_k 0 = (2, 0)) (by omega) (congrFun hC2 10) dd_am_init_80 (fun H locs G => ?_)
  refine lv_iconst (v := (0 : Int32)) hx hb dd_am_init_83 (by decide) ?_
  refine lv_istore_n (i := 1) (lv' := [(1, .int (0 : Int32)), (0, .ref (gc_a X 0))]) hx hb dd_am_init_84 rfl hl (by decide) rfl (fun ls hl => ?_)
  refine lv_iload_n hx hb dd_am_init_85 rfl (lv_at hl 0 rfl) ?_
  refine lv_iconst (v := (4 : Int32)) hx hb dd_am_init_86 (by decide) ?_
  refine W.eq (g2 := F0 m 87 _ _) rfl ?_
  refine lv_icmp_ge (tgt := 109) hx hb dd_am_init_87 (by decide) (fun h => absurd h (by decide)) (fun _ => ?_)
  refine lv_aload_n hx hb dd_am_init_90 rfl (lv_at hl 1 rfl) ?_
  refine bg_am_programs (o := 0) hx hb hg hown (hg _ kw_108) hK.1 G (by decide : gc_k 0 = (2, 0)) (by omega) (by repeat (first | exact bw_s_t | refine bw_s_m ?_)) dd_am_init_91 ?_
  refine lv_iload_n hx hb dd_am_init_94 rfl (lv_at hl 0 rfl) ?_
  refine bw_new (n := 15) (ci := 3) (fs := [.null, .null, .null, .null, .null, .int 0, .int 0]) (Cn := na_pr) (T := fi_pr) (Nf := 7) hx hb hg la_pr ty_pr tk_pr hown (hg _ kw_482) (hg _ kw_489) (hg _ kw_92) hX (bw_hs hX hs0 (by omega)) hA hK.1 G rfl (bc_N5 (by decide : gc_k 15 = (5, 0)) (fun j => hz.1 _ (by omega) j) (hz.2 _ (by omega)).1 (hz.2 _ (by omega)).2) (by decide) (Nat.le_of_ble_eq_true rfl) (Nat.le_of_ble_eq_true rfl) dd_am_init_95 (fun H G => ?_)
  have G : bw_G X _ (16) s H _ := G
  refine W.widen (k := 15) (n := 168) (Nat.le_of_ble_eq_true rfl) (Nat.le_of_ble_eq_true rfl) ?_
  refine lv_dup hx hb dd_am_init_98 rfl ?_
  refine bw_size (fun hz0 => ?_)
  have hz1 := bw_hz (n := 15) hX G (bw_hs hX hs0 (by omega)) hz0
  refine bw_cv G (va_runIN (As := []) (rest := [.ref (gc_a X 15), .int (0 : Int32), .ref (gc_a X 1)]) ⟨hx, hb, hml, hown, hts⟩ (ct_pr_init l X _ Y _ (15) (by decide : gc_k 15 = (5, 0)) (bw_Zw hz (by omega))) ⟨va_cnB 0 hts (gw_gN kw_490) rfl rfl rfl (hK.2.1 _ kn_51) (hg _ kw_92) (by decide +kernel) ⟨Nat.le_of_ble_eq_true rfl, Nat.le_of_ble_eq_true rfl⟩, rfl, (hg _ kw_491)⟩ ⟨bw_blind, bw_pre hK G hz1⟩ rfl rfl hl.1 rfl (Nat.le_of_ble_eq_true rfl) dd_am_init_99 ⟨Nat.le_of_ble_eq_true rfl, Nat.le_of_ble_eq_true rfl⟩) (fun H locs G => ?_)
  have G : bw_G X _ (21) s H _ := G
  refine W.widen (k := 20) (n := 328) (Nat.le_of_ble_eq_true rfl) (Nat.le_of_ble_eq_true rfl) ?_
  have hz := bw_Zw (a1 := 21) hz (by omega)
  have hz := bw_Zs (k := 15) (j := 0) hz (by omega)
  have hz := bw_Zs (k := 15) (j := 1) hz (by omega)
  have hz := bw_Zs (k := 15) (j := 2) hz (by omega)
  have hz := bw_Zs (k := 15) (j := 3) hz (by omega)
  have hz := bw_Zs (k := 15) (j := 4) hz (by omega)
  refine bw_ast7 (o := 1) (j := 0) hx hb hK.1 G (by decide) (by decide) (gw_vp (by decide)) (by decide) dd_am_init_102 (fun H locs G => ?_)
  have hz := bw_Zs (k := 1) (j := 0) hz (by omega)
  refine W.eq (g2 := F0 m 103 _ _) rfl ?_
  refine lv_iinc (k := 0) (v := (1 : Int32)) (lv' := [(1, .int (1 : Int32)), (0, .ref (gc_a X 0))]) hx hb dd_am_init_103 hl rfl (by decide) (by decide) rfl (fun ls hl => ?_)
  refine lv_goto (tgt := 85) hx hb dd_am_init_106 (by decide) ?_
  refine lv_iload_n hx hb dd_am_init_85 rfl (lv_at hl 0 rfl) ?_
  refine lv_iconst (v := (4 : Int32)) hx hb dd_am_init_86 (by decide) ?_
  refine lv_icmp_ge (tgt := 109) hx hb dd_am_init_87 (by decide) (fun h => absurd h (by decide)) (fun _ => ?_)
  refine lv_aload_n hx hb dd_am_init_90 rfl (lv_at hl 1 rfl) ?_
  refine bg_am_programs (o := 0) hx hb hg hown (hg _ kw_108) hK.1 G (by decide : gc_k 0 = (2, 0)) (by omega) (by repeat (first | exact bw_s_t | refine bw_s_m ?_)) dd_am_init_91 ?_
  refine lv_iload_n hx hb dd_am_init_94 rfl (lv_at hl 0 rfl) ?_
  refine W.eq (g2 := F0 m 95 _ _) rfl ?_
  refine bw_new (n := 21) (ci := 3) (fs := [.null, .null, .null, .null, .null, .int 0, .int 0]) (Cn := na_pr) (T := fi_pr) (Nf := 7) hx hb hg la_pr ty_pr tk_pr hown (hg _ kw_482) (hg _ kw_489) (hg _ kw_92) hX (bw_hs hX hs0 (by omega)) hA hK.1 G rfl (bc_N5 (by decide : gc_k 21 = (5, 0)) (fun j => hz.1 _ (by omega) j) (hz.2 _ (by omega)).1 (hz.2 _ (by omega)).2) (by decide) (Nat.le_of_ble_eq_true rfl) (Nat.le_of_ble_eq_true rfl) dd_am_init_95 (fun H G => ?_)
  have G : bw_G X _ (22) s H _ := G
  refine W.widen (k := 21) (n := 335) (Nat.le_of_ble_eq_true rfl) (Nat.le_of_ble_eq_true rfl) ?_
  refine lv_dup hx hb dd_am_init_98 rfl ?_
  refine bw_size (fun hz0 => ?_)
  have hz1 := bw_hz (n := 21) hX G (bw_hs hX hs0 (by omega)) hz0
  refine bw_cv G (va_runIN (As := []) (rest := [.ref (gc_a X 21), .int (1 : Int32), .ref (gc_a X 1)]) ⟨hx, hb, hml, hown, hts⟩ (ct_pr_init l X _ Y _ (21) (by decide : gc_k 21 = (5, 0)) (bw_Zw hz (by omega))) ⟨va_cnB 0 hts (gw_gN kw_490) rfl rfl rfl (hK.2.1 _ kn_51) (hg _ kw_92) (by decide +kernel) ⟨Nat.le_of_ble_eq_true rfl, Nat.le_of_ble_eq_true rfl⟩, rfl, (hg _ kw_491)⟩ ⟨bw_blind, bw_pre hK G hz1⟩ rfl rfl hl.1 rfl (Nat.le_of_ble_eq_true rfl) dd_am_init_99 ⟨Nat.le_of_ble_eq_true rfl, Nat.le_of_ble_eq_true rfl⟩) (fun H locs G => ?_)
  have G : bw_G X _ (27) s H _ := G
  refine W.widen (k := 26) (n := 495) (Nat.le_of_ble_eq_true rfl) (Nat.le_of_ble_eq_true rfl) ?_
  have hz := bw_Zw (a1 := 27) hz (by omega)
  have hz := bw_Zs (k := 21) (j := 0) hz (by omega)
  have hz := bw_Zs (k := 21) (j := 1) hz (by omega)
  have hz := bw_Zs (k := 21) (j := 2) hz (by omega)
  have hz := bw_Zs (k := 21) (j := 3) hz (by omega)
  have hz := bw_Zs (k := 21) (j := 4) hz (by omega)
  refine bw_ast7 (o := 1) (j := 1) hx hb hK.1 G (by decide) (by decide) (gw_vp (by decide)) (by decide) dd_am_init_102 (fun H locs G => ?_)
  have hz := bw_Zs (k := 1) (j := 1) hz (by omega)
  refine lv_iinc (k := 0) (v := (2 : Int32)) (lv' := [(1, .int (2 : Int32)), (0, .ref (gc_a X 0))]) hx hb dd_am_init_103 hl rfl (by decide) (by decide) rfl (fun ls hl => ?_)
  refine lv_goto (tgt := 85) hx hb dd_am_init_106 (by decide) ?_
  refine lv_iload_n hx hb dd_am_init_85 rfl (lv_at hl 0 rfl) ?_
  refine lv_iconst (v := (4 : Int32)) hx hb dd_am_init_86 (by decide) ?_
  refine W.eq (g2 := F0 m 87 _ _) rfl ?_
  refine lv_icmp_ge (tgt := 109) hx hb dd_am_init_87 (by decide) (fun h => absurd h (by decide)) (fun _ => ?_)
  refine lv_aload_n hx hb dd_am_init_90 rfl (lv_at hl 1 rfl) ?_
  refine bg_am_programs (o := 0) hx hb hg hown (hg _ kw_108) hK.1 G (by decide : gc_k 0 = (2, 0)) (by omega) (by repeat (first | exact bw_s_t | refine bw_s_m ?_)) dd_am_init_91 ?_
  refine lv_iload_n hx hb dd_am_init_94 rfl (lv_at hl 0 rfl) ?_
  refine bw_new (n := 27) (ci := 3) (fs := [.null, .null, .null, .null, .null, .int 0, .int 0]) (Cn := na_pr) (T := fi_pr) (Nf := 7) hx hb hg la_pr ty_pr tk_pr hown (hg _ kw_482) (hg _ kw_489) (hg _ kw_92) hX (bw_hs hX hs0 (by omega)) hA hK.1 G rfl (bc_N5 (by decide : gc_k 27 = (5, 0)) (fun j => hz.1 _ (by omega) j) (hz.2 _ (by omega)).1 (hz.2 _ (by omega)).2) (by decide) (Nat.le_of_ble_eq_true rfl) (Nat.le_of_ble_eq_true rfl) dd_am_init_95 (fun H G => ?_)
  have G : bw_G X _ (28) s H _ := G
  refine W.widen (k := 27) (n := 502) (Nat.le_of_ble_eq_true rfl) (Nat.le_of_ble_eq_true rfl) ?_
  refine lv_dup hx hb dd_am_init_98 rfl ?_
  refine bw_size (fun hz0 => ?_)
  have hz1 := bw_hz (n := 27) hX G (bw_hs hX hs0 (by omega)) hz0
  refine bw_cv G (va_runIN (As := []) (rest := [.ref (gc_a X 27), .int (2 : Int32), .ref (gc_a X 1)]) ⟨hx, hb, hml, hown, hts⟩ (ct_pr_init l X _ Y _ (27) (by decide : gc_k 27 = (5, 0)) (bw_Zw hz (by omega))) ⟨va_cnB 0 hts (gw_gN kw_490) rfl rfl rfl (hK.2.1 _ kn_51) (hg _ kw_92) (by decide +kernel) ⟨Nat.le_of_ble_eq_true rfl, Nat.le_of_ble_eq_true rfl⟩, rfl, (hg _ kw_491)⟩ ⟨bw_blind, bw_pre hK G hz1⟩ rfl rfl hl.1 rfl (Nat.le_of_ble_eq_true rfl) dd_am_init_99 ⟨Nat.le_of_ble_eq_true rfl, Nat.le_of_ble_eq_true rfl⟩) (fun H locs G => ?_)
  have G : bw_G X _ (33) s H _ := G
  refine W.widen (k := 32) (n := 662) (Nat.le_of_ble_eq_true rfl) (Nat.le_of_ble_eq_true rfl) ?_
  have hz := bw_Zw (a1 := 33) hz (by omega)
  have hz := bw_Zs (k := 27) (j := 0) hz (by omega)
  have hz := bw_Zs (k := 27) (j := 1) hz (by omega)
  have hz := bw_Zs (k := 27) (j := 2) hz (by omega)
  have hz := bw_Zs (k := 27) (j := 3) hz (by omega)
  have hz := bw_Zs (k := 27) (j := 4) hz (by omega)
  refine bw_ast7 (o := 1) (j := 2) hx hb hK.1 G (by decide) (by decide) (gw_vp (by decide)) (by decide) dd_am_init_102 (fun H locs G => ?_)
  have hz := bw_Zs (k := 1) (j := 2) hz (by omega)
  refine W.eq (g2 := F0 m 103 _ _) rfl ?_
  refine lv_iinc (k := 0) (v := (3 : Int32)) (lv' := [(1, .int (3 : Int32)), (0, .ref (gc_a X 0))]) hx hb dd_am_init_103 hl rfl (by decide) (by decide) rfl (fun ls hl => ?_)
  refine lv_goto (tgt := 85) hx hb dd_am_init_106 (by decide) ?_
  refine lv_iload_n hx hb dd_am_init_85 rfl (lv_at hl 0 rfl) ?_
  refine lv_iconst (v := (4 : Int32)) hx hb dd_am_init_86 (by decide) ?_
  refine lv_icmp_ge (tgt := 109) hx hb dd_am_init_87 (by decide) (fun h => absurd h (by decide)) (fun _ => ?_)
  refine lv_aload_n hx hb dd_am_init_90 rfl (lv_at hl 1 rfl) ?_
  refine bg_am_programs (o := 0) hx hb hg hown (hg _ kw_108) hK.1 G (by decide : gc_k 0 = (2, 0)) (by omega) (by repeat (first | exact bw_s_t | refine bw_s_m ?_)) dd_am_init_91 ?_
  refine lv_iload_n hx hb dd_am_init_94 rfl (lv_at hl 0 rfl) ?_
  refine W.eq (g2 := F0 m 95 _ _) rfl ?_
  refine bw_new (n := 33) (ci := 3) (fs := [.null, .null, .null, .null, .null, .int 0, .int 0]) (Cn := na_pr) (T := fi_pr) (Nf := 7) hx hb hg la_pr ty_pr tk_pr hown (hg _ kw_482) (hg _ kw_489) (hg _ kw_92) hX (bw_hs hX hs0 (by omega)) hA hK.1 G rfl (bc_N5 (by decide : gc_k 33 = (5, 0)) (fun j => hz.1 _ (by omega) j) (hz.2 _ (by omega)).1 (hz.2 _ (by omega)).2) (by decide) (Nat.le_of_ble_eq_true rfl) (Nat.le_of_ble_eq_true rfl) dd_am_init_95 (fun H G => ?_)
  have G : bw_G X _ (34) s H _ := G
  refine W.widen (k := 33) (n := 669) (Nat.le_of_ble_eq_true rfl) (Nat.le_of_ble_eq_true rfl) ?_
  refine lv_dup hx hb dd_am_init_98 rfl ?_
  refine bw_size (fun hz0 => ?_)
  have hz1 := bw_hz (n := 33) hX G (bw_hs hX hs0 (by omega)) hz0
  refine bw_cv G (va_runIN (As := []) (rest := [.ref (gc_a X 33), .int (3 : Int32), .ref (gc_a X 1)]) ⟨hx, hb, hml, hown, hts⟩ (ct_pr_init l X _ Y _ (33) (by decide : gc_k 33 = (5, 0)) (bw_Zw hz (by omega))) ⟨va_cnB 0 hts (gw_gN kw_490) rfl rfl rfl (hK.2.1 _ kn_51) (hg _ kw_92) (by decide +kernel) ⟨Nat.le_of_ble_eq_true rfl, Nat.le_of_ble_eq_true rfl⟩, rfl, (hg _ kw_491)⟩ ⟨bw_blind, bw_pre hK G hz1⟩ rfl rfl hl.1 rfl (Nat.le_of_ble_eq_true rfl) dd_am_init_99 ⟨Nat.le_of_ble_eq_true rfl, Nat.le_of_ble_eq_true rfl⟩) (fun H locs G => ?_)
  have G : bw_G X _ (39) s H _ := G
  refine W.widen (k := 38) (n := 829) (Nat.le_of_ble_eq_true rfl) (Nat.le_of_ble_eq_true rfl) ?_
  have hz := bw_Zw (a1 := 39) hz (by omega)
  have hz := bw_Zs (k := 33) (j := 0) hz (by omega)
  have hz := bw_Zs (k := 33) (j := 1) hz (by omega)
  have hz := bw_Zs (k := 33) (j := 2) hz (by omega)
  have hz := bw_Zs (k := 33) (j := 3) hz (by omega)
  have hz := bw_Zs (k := 33) (j := 4) hz (by omega)
  refine bw_ast7 (o := 1) (j := 3) hx hb hK.1 G (by decide) (by decide) (gw_vp (by decide)) (by decide) dd_am_init_102 (fun H locs G => ?_)
  have hz := bw_Zs (k := 1) (j := 3) hz (by omega)
  refine lv_iinc (k := 0) (v := (4 : Int32)) (lv' := [(1, .int (4 : Int32)), (0, .ref (gc_a X 0))]) hx hb dd_am_init_103 hl rfl (by decide) (by decide) rfl (fun ls hl => ?_)
  refine lv_goto (tgt := 85) hx hb dd_am_init_106 (by decide) ?_
  refine lv_iload_n hx hb dd_am_init_85 rfl (lv_at hl 0 rfl) ?_
  refine lv_iconst (v := (4 : Int32)) hx hb dd_am_init_86 (by decide) ?_
  refine W.eq (g2 := F0 m 87 _ _) rfl ?_
  refine lv_icmp_ge (tgt := 109) hx hb dd_am_init_87 (by decide) (fun _ => ?_) (fun h => absurd (by decide) h)
  refine lv_iconst (v := (0 : Int32)) hx hb dd_am_init_109 (by decide) ?_
  refine lv_istore_n (i := 1) (lv' := [(1, .int (0 : Int32)), (0, .ref (gc_a X 0))]) hx hb dd_am_init_110 rfl hl (by decide) rfl (fun ls hl => ?_)
  refine lv_iload_n hx hb dd_am_init_111 rfl (lv_at hl 0 rfl) ?_
  refine lv_iconst (v := (3 : Int32)) hx hb dd_am_init_112 (by decide) ?_
  refine lv_icmp_ge (tgt := 135) hx hb dd_am_init_113 (by decide) (fun h => absurd h (by decide)) (fun _ => ?_)
  refine lv_aload_n hx hb dd_am_init_116 rfl (lv_at hl 1 rfl) ?_
  refine bg_am_orders (o := 0) hx hb hg hown (hg _ kw_119) hK.1 G (by decide : gc_k 0 = (2, 0)) (by omega) (by repeat (first | exact bw_s_t | refine bw_s_m ?_)) dd_am_init_117 ?_
  refine W.eq (g2 := F0 m 120 _ _) rfl ?_
  refine lv_iload_n hx hb dd_am_init_120 rfl (lv_at hl 0 rfl) ?_
  refine bw_new (n := 39) (ci := 2) (fs := [.int 0, .int 0, .int 0, .null, .null]) (Cn := na_od) (T := fi_od) (Nf := 5) hx hb hg la_od ty_od tk_od hown (hg _ kw_487) (hg _ kw_477) (hg _ kw_14) hX (bw_hs hX hs0 (by omega)) hA hK.1 G rfl (bc_N4 (by decide : gc_k 39 = (4, 0)) (fun j => hz.1 _ (by omega) j) (hz.2 _ (by omega)).1 (hz.2 _ (by omega)).2) (by decide) (Nat.le_of_ble_eq_true rfl) (Nat.le_of_ble_eq_true rfl) dd_am_init_121 (fun H G => ?_)
  have G : bw_G X _ (40) s H _ := G
  refine W.widen (k := 39) (n := 834) (Nat.le_of_ble_eq_true rfl) (Nat.le_of_ble_eq_true rfl) ?_
  refine lv_dup hx hb dd_am_init_124 rfl ?_
  refine bw_size (fun hz0 => ?_)
  have hz1 := bw_hz (n := 39) hX G (bw_hs hX hs0 (by omega)) hz0
  refine bw_cv G (va_runIN (As := []) (rest := [.ref (gc_a X 39), .int (0 : Int32), .ref (gc_a X 12)]) ⟨hx, hb, hml, hown, hts⟩ (ct_od_init l X _ Y _ (39) (by decide : gc_k 39 = (4, 0)) (bw_Zw hz (by omega))) ⟨va_cnB 0 hts (gw_gN kw_478) rfl rfl rfl (hK.2.1 _ kn_52) (hg _ kw_14) (by decide +kernel) ⟨Nat.le_of_ble_eq_true rfl, Nat.le_of_ble_eq_true rfl⟩, rfl, (hg _ kw_479)⟩ ⟨bw_blind, bw_pre hK G hz1⟩ rfl rfl hl.1 rfl (Nat.le_of_ble_eq_true rfl) dd_am_init_125 ⟨Nat.le_of_ble_eq_true rfl, Nat.le_of_ble_eq_true rfl⟩) (fun H locs G => ?_)
  have G : bw_G X _ (42) s H _ := G
  refine W.widen (k := 41) (n := 842) (Nat.le_of_ble_eq_true rfl) (Nat.le_of_ble_eq_true rfl) ?_
  have hz := bw_Zw (a1 := 42) hz (by omega)
  have hz := bw_Zs (k := 39) (j := 3) hz (by omega)
  have hz := bw_Zs (k := 39) (j := 4) hz (by omega)
  refine bw_ast8 (o := 12) (j := 0) hx hb hK.1 G (by decide) (by decide) (gw_vp (by decide)) (by decide) dd_am_init_128 (fun H locs G => ?_)
  have hz := bw_Zs (k := 12) (j := 0) hz (by omega)
  refine lv_iinc (k := 0) (v := (1 : Int32)) (lv' := [(1, .int (1 : Int32)), (0, .ref (gc_a X 0))]) hx hb dd_am_init_129 hl rfl (by decide) (by decide) rfl (fun ls hl => ?_)
  refine lv_goto (tgt := 111) hx hb dd_am_init_132 (by decide) ?_
  refine lv_iload_n hx hb dd_am_init_111 rfl (lv_at hl 0 rfl) ?_
  refine W.eq (g2 := F0 m 112 _ _) rfl ?_
  refine lv_iconst (v := (3 : Int32)) hx hb dd_am_init_112 (by decide) ?_
  refine lv_icmp_ge (tgt := 135) hx hb dd_am_init_113 (by decide) (fun h => absurd h (by decide)) (fun _ => ?_)
  refine lv_aload_n hx hb dd_am_init_116 rfl (lv_at hl 1 rfl) ?_
  refine bg_am_orders (o := 0) hx hb hg hown (hg _ kw_119) hK.1 G (by decide : gc_k 0 = (2, 0)) (by omega) (by repeat (first | exact bw_s_t | refine bw_s_m ?_)) dd_am_init_117 ?_
  refine lv_iload_n hx hb dd_am_init_120 rfl (lv_at hl 0 rfl) ?_
  refine bw_new (n := 42) (ci := 2) (fs := [.int 0, .int 0, .int 0, .null, .null]) (Cn := na_od) (T := fi_od) (Nf := 5) hx hb hg la_od ty_od tk_od hown (hg _ kw_487) (hg _ kw_477) (hg _ kw_14) hX (bw_hs hX hs0 (by omega)) hA hK.1 G rfl (bc_N4 (by decide : gc_k 42 = (4, 0)) (fun j => hz.1 _ (by omega) j) (hz.2 _ (by omega)).1 (hz.2 _ (by omega)).2) (by decide) (Nat.le_of_ble_eq_true rfl) (Nat.le_of_ble_eq_true rfl) dd_am_init_121 (fun H G => ?_)
  have G : bw_G X _ (43) s H _ := G
  refine W.widen (k := 42) (n := 847) (Nat.le_of_ble_eq_true rfl) (Nat.le_of_ble_eq_true rfl) ?_
  refine lv_dup hx hb dd_am_init_124 rfl ?_
  refine bw_size (fun hz0 => ?_)
  have hz1 := bw_hz (n := 42) hX G (bw_hs hX hs0 (by omega)) hz0
  refine bw_cv G (va_runIN (As := []) (rest := [.ref (gc_a X 42), .int (1 : Int32), .ref (gc_a X 12)]) ⟨hx, hb, hml, hown, hts⟩ (ct_od_init l X _ Y _ (42) (by decide : gc_k 42 = (4, 0)) (bw_Zw hz (by omega))) ⟨va_cnB 0 hts (gw_gN kw_478) rfl rfl rfl (hK.2.1 _ kn_52) (hg _ kw_14) (by decide +kernel) ⟨Nat.le_of_ble_eq_true rfl, Nat.le_of_ble_eq_true rfl⟩, rfl, (hg _ kw_479)⟩ ⟨bw_blind, bw_pre hK G hz1⟩ rfl rfl hl.1 rfl (Nat.le_of_ble_eq_true rfl) dd_am_init_125 ⟨Nat.le_of_ble_eq_true rfl, Nat.le_of_ble_eq_true rfl⟩) (fun H locs G => ?_)
  have G : bw_G X _ (45) s H _ := G
  refine W.widen (k := 44) (n := 855) (Nat.le_of_ble_eq_true rfl) (Nat.le_of_ble_eq_true rfl) ?_
  have hz := bw_Zw (a1 := 45) hz (by omega)
  have hz := bw_Zs (k := 42) (j := 3) hz (by omega)
  have hz := bw_Zs (k := 42) (j := 4) hz (by omega)
  refine W.eq (g2 := F0 m 128 _ _) rfl ?_
  refine bw_ast8 (o := 12) (j := 1) hx hb hK.1 G (by decide) (by decide) (gw_vp (by decide)) (by decide) dd_am_init_128 (fun H locs G => ?_)
  have hz := bw_Zs (k := 12) (j := 1) hz (by omega)
  refine lv_iinc (k := 0) (v := (2 : Int32)) (lv' := [(1, .int (2 : Int32)), (0, .ref (gc_a X 0))]) hx hb dd_am_init_129 hl rfl (by decide) (by decide) rfl (fun ls hl => ?_)
  refine lv_goto (tgt := 111) hx hb dd_am_init_132 (by decide) ?_
  refine lv_iload_n hx hb dd_am_init_111 rfl (lv_at hl 0 rfl) ?_
  refine lv_iconst (v := (3 : Int32)) hx hb dd_am_init_112 (by decide) ?_
  refine lv_icmp_ge (tgt := 135) hx hb dd_am_init_113 (by decide) (fun h => absurd h (by decide)) (fun _ => ?_)
  refine lv_aload_n hx hb dd_am_init_116 rfl (lv_at hl 1 rfl) ?_
  refine bg_am_orders (o := 0) hx hb hg hown (hg _ kw_119) hK.1 G (by decide : gc_k 0 = (2, 0)) (by omega) (by repeat (first | exact bw_s_t | refine bw_s_m ?_)) dd_am_init_117 ?_
  refine W.eq (g2 := F0 m 120 _ _) rfl ?_
  refine lv_iload_n hx hb dd_am_init_120 rfl (lv_at hl 0 rfl) ?_
  refine bw_new (n := 45) (ci := 2) (fs := [.int 0, .int 0, .int 0, .null, .null]) (Cn := na_od) (T := fi_od) (Nf := 5) hx hb hg la_od ty_od tk_od hown (hg _ kw_487) (hg _ kw_477) (hg _ kw_14) hX (bw_hs hX hs0 (by omega)) hA hK.1 G rfl (bc_N4 (by decide : gc_k 45 = (4, 0)) (fun j => hz.1 _ (by omega) j) (hz.2 _ (by omega)).1 (hz.2 _ (by omega)).2) (by decide) (Nat.le_of_ble_eq_true rfl) (Nat.le_of_ble_eq_true rfl) dd_am_init_121 (fun H G => ?_)
  have G : bw_G X _ (46) s H _ := G
  refine W.widen (k := 45) (n := 860) (Nat.le_of_ble_eq_true rfl) (Nat.le_of_ble_eq_true rfl) ?_
  refine lv_dup hx hb dd_am_init_124 rfl ?_
  refine bw_size (fun hz0 => ?_)
  have hz1 := bw_hz (n := 45) hX G (bw_hs hX hs0 (by omega)) hz0
  refine bw_cv G (va_runIN (As := []) (rest := [.ref (gc_a X 45), .int (2 : Int32), .ref (gc_a X 12)]) ⟨hx, hb, hml, hown, hts⟩ (ct_od_init l X _ Y _ (45) (by decide : gc_k 45 = (4, 0)) (bw_Zw hz (by omega))) ⟨va_cnB 0 hts (gw_gN kw_478) rfl rfl rfl (hK.2.1 _ kn_52) (hg _ kw_14) (by decide +kernel) ⟨Nat.le_of_ble_eq_true rfl, Nat.le_of_ble_eq_true rfl⟩, rfl, (hg _ kw_479)⟩ ⟨bw_blind, bw_pre hK G hz1⟩ rfl rfl hl.1 rfl (Nat.le_of_ble_eq_true rfl) dd_am_init_125 ⟨Nat.le_of_ble_eq_true rfl, Nat.le_of_ble_eq_true rfl⟩) (fun H locs G => ?_)
  have G : bw_G X _ (48) s H _ := G
  refine W.widen (k := 47) (n := 868) (Nat.le_of_ble_eq_true rfl) (Nat.le_of_ble_eq_true rfl) ?_
  have hz := bw_Zw (a1 := 48) hz (by omega)
  have hz := bw_Zs (k := 45) (j := 3) hz (by omega)
  have hz := bw_Zs (k := 45) (j := 4) hz (by omega)
  refine bw_ast8 (o := 12) (j := 2) hx hb hK.1 G (by decide) (by decide) (gw_vp (by decide)) (by decide) dd_am_init_128 (fun H locs G => ?_)
  have hz := bw_Zs (k := 12) (j := 2) hz (by omega)
  refine lv_iinc (k := 0) (v := (3 : Int32)) (lv' := [(1, .int (3 : Int32)), (0, .ref (gc_a X 0))]) hx hb dd_am_init_129 hl rfl (by decide) (by decide) rfl (fun ls hl => ?_)
  refine lv_goto (tgt := 111) hx hb dd_am_init_132 (by decide) ?_
  refine lv_iload_n hx hb dd_am_init_111 rfl (lv_at hl 0 rfl) ?_
  refine W.eq (g2 := F0 m 112 _ _) rfl ?_
  refine lv_iconst (v := (3 : Int32)) hx hb dd_am_init_112 (by decide) ?_
  refine lv_icmp_ge (tgt := 135) hx hb dd_am_init_113 (by decide) (fun _ => ?_) (fun h => absurd (by decide) h)
  refine lv_iconst (v := (0 : Int32)) hx hb dd_am_init_135 (by decide) ?_
  refine lv_istore_n (i := 1) (lv' := [(1, .int (0 : Int32)), (0, .ref (gc_a X 0))]) hx hb dd_am_init_136 rfl hl (by decide) rfl (fun ls hl => ?_)
  refine lv_iload_n hx hb dd_am_init_137 rfl (lv_at hl 0 rfl) ?_
  refine lv_iconst (v := (4 : Int32)) hx hb dd_am_init_138 (by decide) ?_
  refine lv_icmp_ge (tgt := 161) hx hb dd_am_init_139 (by decide) (fun h => absurd h (by decide)) (fun _ => ?_)
  refine lv_aload_n hx hb dd_am_init_142 rfl (lv_at hl 1 rfl) ?_
  refine W.eq (g2 := F0 m 143 _ _) rfl ?_
  refine bg_am_frames (o := 0) hx hb hg hown (hg _ kw_155) hK.1 G (by decide : gc_k 0 = (2, 0)) (by omega) (by repeat (first | exact bw_s_t | refine bw_s_m ?_)) dd_am_init_143 ?_
  refine lv_iload_n hx hb dd_am_init_146 rfl (lv_at hl 0 rfl) ?_
  refine bw_new (n := 48) (ci := 4) (fs := [.null, .null, .null, .null, .int 0, .int 0]) (Cn := na_fr) (T := fi_fr) (Nf := 6) hx hb hg la_fr ty_fr tk_fr hown (hg _ kw_488) (hg _ kw_492) (hg _ kw_8) hX (bw_hs hX hs0 (by omega)) hA hK.1 G rfl (bc_N6 (by decide : gc_k 48 = (6, 0)) (fun j => hz.1 _ (by omega) j) (hz.2 _ (by omega)).1 (hz.2 _ (by omega)).2) (by decide) (Nat.le_of_ble_eq_true rfl) (Nat.le_of_ble_eq_true rfl) dd_am_init_147 (fun H G => ?_)
  have G : bw_G X _ (49) s H _ := G
  refine W.widen (k := 48) (n := 874) (Nat.le_of_ble_eq_true rfl) (Nat.le_of_ble_eq_true rfl) ?_
  refine lv_dup hx hb dd_am_init_150 rfl ?_
  refine bw_size (fun hz0 => ?_)
  have hz1 := bw_hz (n := 48) hX G (bw_hs hX hs0 (by omega)) hz0
  refine bw_cv G (va_runIN (As := []) (rest := [.ref (gc_a X 48), .int (0 : Int32), .ref (gc_a X 13)]) ⟨hx, hb, hml, hown, hts⟩ (ct_fr_init l X _ Y _ (48) (by decide : gc_k 48 = (6, 0)) (bw_Zw hz (by omega))) ⟨va_cnB 0 hts (gw_gN kw_493) rfl rfl rfl (hK.2.1 _ kn_53) (hg _ kw_8) (by decide +kernel) ⟨Nat.le_of_ble_eq_true rfl, Nat.le_of_ble_eq_true rfl⟩, rfl, (hg _ kw_494)⟩ ⟨bw_blind, bw_pre hK G hz1⟩ rfl rfl hl.1 rfl (Nat.le_of_ble_eq_true rfl) dd_am_init_151 ⟨Nat.le_of_ble_eq_true rfl, Nat.le_of_ble_eq_true rfl⟩) (fun H locs G => ?_)
  have G : bw_G X _ (55) s H _ := G
  refine W.widen (k := 54) (n := 957) (Nat.le_of_ble_eq_true rfl) (Nat.le_of_ble_eq_true rfl) ?_
  have hz := bw_Zw (a1 := 55) hz (by omega)
  have hz := bw_Zs (k := 48 + 1) (j := 3) hz (by omega)
  have hz := bw_Zs (k := 48 + 1) (j := 4) hz (by omega)
  have hz := bw_Zs (k := 48) (j := 0) hz (by omega)
  have hz := bw_Zs (k := 48) (j := 1) hz (by omega)
  have hz := bw_Zs (k := 48) (j := 2) hz (by omega)
  have hz := bw_Zs (k := 48) (j := 3) hz (by omega)
  refine bw_ast9 (o := 13) (j := 0) hx hb hK.1 G (by decide) (by decide) (gw_vp (by decide)) (by decide) dd_am_init_154 (fun H locs G => ?_)
  have hz := bw_Zs (k := 13) (j := 0) hz (by omega)
  refine lv_iinc (k := 0) (v := (1 : Int32)) (lv' := [(1, .int (1 : Int32)), (0, .ref (gc_a X 0))]) hx hb dd_am_init_155 hl rfl (by decide) (by decide) rfl (fun ls hl => ?_)
  refine lv_goto (tgt := 137) hx hb dd_am_init_158 (by decide) ?_
  refine W.eq (g2 := F0 m 137 _ _) rfl ?_
  refine lv_iload_n hx hb dd_am_init_137 rfl (lv_at hl 0 rfl) ?_
  refine lv_iconst (v := (4 : Int32)) hx hb dd_am_init_138 (by decide) ?_
  refine lv_icmp_ge (tgt := 161) hx hb dd_am_init_139 (by decide) (fun h => absurd h (by decide)) (fun _ => ?_)
  refine lv_aload_n hx hb dd_am_init_142 rfl (lv_at hl 1 rfl) ?_
  refine bg_am_frames (o := 0) hx hb hg hown (hg _ kw_155) hK.1 G (by decide : gc_k 0 = (2, 0)) (by omega) (by repeat (first | exact bw_s_t | refine bw_s_m ?_)) dd_am_init_143 ?_
  refine lv_iload_n hx hb dd_am_init_146 rfl (lv_at hl 0 rfl) ?_
  refine bw_new (n := 55) (ci := 4) (fs := [.null, .null, .null, .null, .int 0, .int 0]) (Cn := na_fr) (T := fi_fr) (Nf := 6) hx hb hg la_fr ty_fr tk_fr hown (hg _ kw_488) (hg _ kw_492) (hg _ kw_8) hX (bw_hs hX hs0 (by omega)) hA hK.1 G rfl (bc_N6 (by decide : gc_k 55 = (6, 0)) (fun j => hz.1 _ (by omega) j) (hz.2 _ (by omega)).1 (hz.2 _ (by omega)).2) (by decide) (Nat.le_of_ble_eq_true rfl) (Nat.le_of_ble_eq_true rfl) dd_am_init_147 (fun H G => ?_)
  have G : bw_G X _ (56) s H _ := G
  refine W.widen (k := 55) (n := 963) (Nat.le_of_ble_eq_true rfl) (Nat.le_of_ble_eq_true rfl) ?_
  refine lv_dup hx hb dd_am_init_150 rfl ?_
  refine W.eq (g2 := F0 m 151 _ _) rfl ?_
  refine bw_size (fun hz0 => ?_)
  have hz1 := bw_hz (n := 55) hX G (bw_hs hX hs0 (by omega)) hz0
  refine bw_cv G (va_runIN (As := []) (rest := [.ref (gc_a X 55), .int (1 : Int32), .ref (gc_a X 13)]) ⟨hx, hb, hml, hown, hts⟩ (ct_fr_init l X _ Y _ (55) (by decide : gc_k 55 = (6, 0)) (bw_Zw hz (by omega))) ⟨va_cnB 0 hts (gw_gN kw_493) rfl rfl rfl (hK.2.1 _ kn_53) (hg _ kw_8) (by decide +kernel) ⟨Nat.le_of_ble_eq_true rfl, Nat.le_of_ble_eq_true rfl⟩, rfl, (hg _ kw_494)⟩ ⟨bw_blind, bw_pre hK G hz1⟩ rfl rfl hl.1 rfl (Nat.le_of_ble_eq_true rfl) dd_am_init_151 ⟨Nat.le_of_ble_eq_true rfl, Nat.le_of_ble_eq_true rfl⟩) (fun H locs G => ?_)
  have G : bw_G X _ (62) s H _ := G
  refine W.widen (k := 61) (n := 1046) (Nat.le_of_ble_eq_true rfl) (Nat.le_of_ble_eq_true rfl) ?_
  have hz := bw_Zw (a1 := 62) hz (by omega)
  have hz := bw_Zs (k := 55 + 1) (j := 3) hz (by omega)
  have hz := bw_Zs (k := 55 + 1) (j := 4) hz (by omega)
  have hz := bw_Zs (k := 55) (j := 0) hz (by omega)
  have hz := bw_Zs (k := 55) (j := 1) hz (by omega)
  have hz := bw_Zs (k := 55) (j := 2) hz (by omega)
  have hz := bw_Zs (k := 55) (j := 3) hz (by omega)
  refine bw_ast9 (o := 13) (j := 1) hx hb hK.1 G (by decide) (by decide) (gw_vp (by decide)) (by decide) dd_am_init_154 (fun H locs G => ?_)
  have hz := bw_Zs (k := 13) (j := 1) hz (by omega)
  refine lv_iinc (k := 0) (v := (2 : Int32)) (lv' := [(1, .int (2 : Int32)), (0, .ref (gc_a X 0))]) hx hb dd_am_init_155 hl rfl (by decide) (by decide) rfl (fun ls hl => ?_)
  refine lv_goto (tgt := 137) hx hb dd_am_init_158 (by decide) ?_
  refine lv_iload_n hx hb dd_am_init_137 rfl (lv_at hl 0 rfl) ?_
  refine lv_iconst (v := (4 : Int32)) hx hb dd_am_init_138 (by decide) ?_
  refine lv_icmp_ge (tgt := 161) hx hb dd_am_init_139 (by decide) (fun h => absurd h (by decide)) (fun _ => ?_)
  refine lv_aload_n hx hb dd_am_init_142 rfl (lv_at hl 1 rfl) ?_
  refine W.eq (g2 := F0 m 143 _ _) rfl ?_
  refine bg_am_frames (o := 0) hx hb hg hown (hg _ kw_155) hK.1 G (by decide : gc_k 0 = (2, 0)) (by omega) (by repeat (first | exact bw_s_t | refine bw_s_m ?_)) dd_am_init_143 ?_
  refine lv_iload_n hx hb dd_am_init_146 rfl (lv_at hl 0 rfl) ?_
  refine bw_new (n := 62) (ci := 4) (fs := [.null, .null, .null, .null, .int 0, .int 0]) (Cn := na_fr) (T := fi_fr) (Nf := 6) hx hb hg la_fr ty_fr tk_fr hown (hg _ kw_488) (hg _ kw_492) (hg _ kw_8) hX (bw_hs hX hs0 (by omega)) hA hK.1 G rfl (bc_N6 (by decide : gc_k 62 = (6, 0)) (fun j => hz.1 _ (by omega) j) (hz.2 _ (by omega)).1 (hz.2 _ (by omega)).2) (by decide) (Nat.le_of_ble_eq_true rfl) (Nat.le_of_ble_eq_true rfl) dd_am_init_147 (fun H G => ?_)
  have G : bw_G X _ (63) s H _ := G
  refine W.widen (k := 62) (n := 1052) (Nat.le_of_ble_eq_true rfl) (Nat.le_of_ble_eq_true rfl) ?_
  refine lv_dup hx hb dd_am_init_150 rfl ?_
  refine bw_size (fun hz0 => ?_)
  have hz1 := bw_hz (n := 62) hX G (bw_hs hX hs0 (by omega)) hz0
  refine bw_cv G (va_runIN (As := []) (rest := [.ref (gc_a X 62), .int (2 : Int32), .ref (gc_a X 13)]) ⟨hx, hb, hml, hown, hts⟩ (ct_fr_init l X _ Y _ (62) (by decide : gc_k 62 = (6, 0)) (bw_Zw hz (by omega))) ⟨va_cnB 0 hts (gw_gN kw_493) rfl rfl rfl (hK.2.1 _ kn_53) (hg _ kw_8) (by decide +kernel) ⟨Nat.le_of_ble_eq_true rfl, Nat.le_of_ble_eq_true rfl⟩, rfl, (hg _ kw_494)⟩ ⟨bw_blind, bw_pre hK G hz1⟩ rfl rfl hl.1 rfl (Nat.le_of_ble_eq_true rfl) dd_am_init_151 ⟨Nat.le_of_ble_eq_true rfl, Nat.le_of_ble_eq_true rfl⟩) (fun H locs G => ?_)
  have G : bw_G X _ (69) s H _ := G
  refine W.widen (k := 68) (n := 1135) (Nat.le_of_ble_eq_true rfl) (Nat.le_of_ble_eq_true rfl) ?_
  have hz := bw_Zw (a1 := 69) hz (by omega)
  have hz := bw_Zs (k := 62 + 1) (j := 3) hz (by omega)
  have hz := bw_Zs (k := 62 + 1) (j := 4) hz (by omega)
  have hz := bw_Zs (k := 62) (j := 0) hz (by omega)
  have hz := bw_Zs (k := 62) (j := 1) hz (by omega)
  have hz := bw_Zs (k := 62) (j := 2) hz (by omega)
  have hz := bw_Zs (k := 62) (j := 3) hz (by omega)
  refine bw_ast9 (o := 13) (j := 2) hx hb hK.1 G (by decide) (by decide) (gw_vp (by decide)) (by decide) dd_am_init_154 (fun H locs G => ?_)
  have hz := bw_Zs (k := 13) (j := 2) hz (by omega)
  refine lv_iinc (k := 0) (v := (3 : Int32)) (lv' := [(1, .int (3 : Int32)), (0, .ref (gc_a X 0))]) hx hb dd_am_init_155 hl rfl (by decide) (by decide) rfl (fun ls hl => ?_)
  refine lv_goto (tgt := 137) hx hb dd_am_init_158 (by decide) ?_
  refine W.eq (g2 := F0 m 137 _ _) rfl ?_
  refine lv_iload_n hx hb dd_am_init_137 rfl (lv_at hl 0 rfl) ?_
  refine lv_iconst (v := (4 : Int32)) hx hb dd_am_init_138 (by decide) ?_
  refine lv_icmp_ge (tgt := 161) hx hb dd_am_init_139 (by decide) (fun h => absurd h (by decide)) (fun _ => ?_)
  refine lv_aload_n hx hb dd_am_init_142 rfl (lv_at hl 1 rfl) ?_
  refine bg_am_frames (o := 0) hx hb hg hown (hg _ kw_155) hK.1 G (by decide : gc_k 0 = (2, 0)) (by omega) (by repeat (first | exact bw_s_t | refine bw_s_m ?_)) dd_am_init_143 ?_
  refine lv_iload_n hx hb dd_am_init_146 rfl (lv_at hl 0 rfl) ?_
  refine bw_new (n := 69) (ci := 4) (fs := [.null, .null, .null, .null, .int 0, .int 0]) (Cn := na_fr) (T := fi_fr) (Nf := 6) hx hb hg la_fr ty_fr tk_fr hown (hg _ kw_488) (hg _ kw_492) (hg _ kw_8) hX (bw_hs hX hs0 (by omega)) hA hK.1 G rfl (bc_N6 (by decide : gc_k 69 = (6, 0)) (fun j => hz.1 _ (by omega) j) (hz.2 _ (by omega)).1 (hz.2 _ (by omega)).2) (by decide) (Nat.le_of_ble_eq_true rfl) (Nat.le_of_ble_eq_true rfl) dd_am_init_147 (fun H G => ?_)
  have G : bw_G X _ (70) s H _ := G
  refine W.widen (k := 69) (n := 1141) (Nat.le_of_ble_eq_true rfl) (Nat.le_of_ble_eq_true rfl) ?_
  refine lv_dup hx hb dd_am_init_150 rfl ?_
  refine W.eq (g2 := F0 m 151 _ _) rfl ?_
  refine bw_size (fun hz0 => ?_)
  have hz1 := bw_hz (n := 69) hX G (bw_hs hX hs0 (by omega)) hz0
  refine bw_cv G (va_runIN (As := []) (rest := [.ref (gc_a X 69), .int (3 : Int32), .ref (gc_a X 13)]) ⟨hx, hb, hml, hown, hts⟩ (ct_fr_init l X _ Y _ (69) (by decide : gc_k 69 = (6, 0)) (bw_Zw hz (by omega))) ⟨va_cnB 0 hts (gw_gN kw_493) rfl rfl rfl (hK.2.1 _ kn_53) (hg _ kw_8) (by decide +kernel) ⟨Nat.le_of_ble_eq_true rfl, Nat.le_of_ble_eq_true rfl⟩, rfl, (hg _ kw_494)⟩ ⟨bw_blind, bw_pre hK G hz1⟩ rfl rfl hl.1 rfl (Nat.le_of_ble_eq_true rfl) dd_am_init_151 ⟨Nat.le_of_ble_eq_true rfl, Nat.le_of_ble_eq_true rfl⟩) (fun H locs G => ?_)
  have G : bw_G X _ (76) s H _ := G
  refine W.widen (k := 75) (n := 1224) (Nat.le_of_ble_eq_true rfl) (Nat.le_of_ble_eq_true rfl) ?_
  have hz := bw_Zw (a1 := 76) hz (by omega)
  have hz := bw_Zs (k := 69 + 1) (j := 3) hz (by omega)
  have hz := bw_Zs (k := 69 + 1) (j := 4) hz (by omega)
  have hz := bw_Zs (k := 69) (j := 0) hz (by omega)
  have hz := bw_Zs (k := 69) (j := 1) hz (by omega)
  have hz := bw_Zs (k := 69) (j := 2) hz (by omega)
  have hz := bw_Zs (k := 69) (j := 3) hz (by omega)
  refine bw_ast9 (o := 13) (j := 3) hx hb hK.1 G (by decide) (by decide) (gw_vp (by decide)) (by decide) dd_am_init_154 (fun H locs G => ?_)
  have hz := bw_Zs (k := 13) (j := 3) hz (by omega)
  refine lv_iinc (k := 0) (v := (4 : Int32)) (lv' := [(1, .int (4 : Int32)), (0, .ref (gc_a X 0))]) hx hb dd_am_init_155 hl rfl (by decide) (by decide) rfl (fun ls hl => ?_)
  refine lv_goto (tgt := 137) hx hb dd_am_init_158 (by decide) ?_
  refine lv_iload_n hx hb dd_am_init_137 rfl (lv_at hl 0 rfl) ?_
  refine lv_iconst (v := (4 : Int32)) hx hb dd_am_init_138 (by decide) ?_
  refine lv_icmp_ge (tgt := 161) hx hb dd_am_init_139 (by decide) (fun _ => ?_) (fun h => absurd (by decide) h)
  exact W.vret hx hb hr (fun t ht hW => bw_end G ht) G.2.2.2.2 dd_am_init_161 hlocks
