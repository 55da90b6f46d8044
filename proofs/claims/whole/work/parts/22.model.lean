/-! AccountMachineModel.layOut(I)V -/
abbrev rm_mo_layOut : Room := { frames := 1, cells := 0, slots := 0, locals := 24 }
theorem dd_mo_layOut_0 : decode by_mo_layOut 0 = .ok (.iconst 3, 1) := by decide +kernel
theorem dd_mo_layOut_1 : decode by_mo_layOut 1 = .ok (.iload_n 1, 1) := by decide +kernel
theorem dd_mo_layOut_2 : decode by_mo_layOut 2 = .ok (.iadd, 1) := by decide +kernel
theorem dd_mo_layOut_3 : decode by_mo_layOut 3 = .ok (.istore_n 2, 1) := by decide +kernel
theorem dd_mo_layOut_4 : decode by_mo_layOut 4 = .ok (.iconst 0, 1) := by decide +kernel
theorem dd_mo_layOut_5 : decode by_mo_layOut 5 = .ok (.istore_n 3, 1) := by decide +kernel
theorem dd_mo_layOut_6 : decode by_mo_layOut 6 = .ok (.iload_n 3, 1) := by decide +kernel
theorem dd_mo_layOut_7 : decode by_mo_layOut 7 = .ok (.aload_n 0, 1) := by decide +kernel
theorem dd_mo_layOut_8 : decode by_mo_layOut 8 = .ok (.getfield 50, 3) := by decide +kernel
theorem dd_mo_layOut_11 : decode by_mo_layOut 11 = .ok (.iload_n 2, 1) := by decide +kernel
theorem dd_mo_layOut_12 : decode by_mo_layOut 12 = .ok (.iaload, 1) := by decide +kernel
theorem dd_mo_layOut_13 : decode by_mo_layOut 13 = .ok (.if_icmp .ge 149, 3) := by decide +kernel
theorem dd_mo_layOut_16 : decode by_mo_layOut 16 = .ok (.bipush 40, 2) := by decide +kernel
theorem dd_mo_layOut_18 : decode by_mo_layOut 18 = .ok (.iload_n 1, 1) := by decide +kernel
theorem dd_mo_layOut_19 : decode by_mo_layOut 19 = .ok (.imul, 1) := by decide +kernel
theorem dd_mo_layOut_20 : decode by_mo_layOut 20 = .ok (.bipush 10, 2) := by decide +kernel
theorem dd_mo_layOut_22 : decode by_mo_layOut 22 = .ok (.iload_n 3, 1) := by decide +kernel
theorem dd_mo_layOut_23 : decode by_mo_layOut 23 = .ok (.imul, 1) := by decide +kernel
theorem dd_mo_layOut_24 : decode by_mo_layOut 24 = .ok (.iadd, 1) := by decide +kernel
theorem dd_mo_layOut_25 : decode by_mo_layOut 25 = .ok (.istore 4, 2) := by decide +kernel
theorem dd_mo_layOut_27 : decode by_mo_layOut 27 = .ok (.aload_n 0, 1) := by decide +kernel
theorem dd_mo_layOut_28 : decode by_mo_layOut 28 = .ok (.getfield 53, 3) := by decide +kernel
theorem dd_mo_layOut_31 : decode by_mo_layOut 31 = .ok (.iconst 4, 1) := by decide +kernel
theorem dd_mo_layOut_32 : decode by_mo_layOut 32 = .ok (.iload_n 2, 1) := by decide +kernel
theorem dd_mo_layOut_33 : decode by_mo_layOut 33 = .ok (.imul, 1) := by decide +kernel
theorem dd_mo_layOut_34 : decode by_mo_layOut 34 = .ok (.iload_n 3, 1) := by decide +kernel
theorem dd_mo_layOut_35 : decode by_mo_layOut 35 = .ok (.iadd, 1) := by decide +kernel
theorem dd_mo_layOut_36 : decode by_mo_layOut 36 = .ok (.iaload, 1) := by decide +kernel
theorem dd_mo_layOut_37 : decode by_mo_layOut 37 = .ok (.istore 5, 2) := by decide +kernel
theorem dd_mo_layOut_39 : decode by_mo_layOut 39 = .ok (.aload_n 0, 1) := by decide +kernel
theorem dd_mo_layOut_40 : decode by_mo_layOut 40 = .ok (.iload_n 2, 1) := by decide +kernel
theorem dd_mo_layOut_41 : decode by_mo_layOut 41 = .ok (.iload_n 3, 1) := by decide +kernel
theorem dd_mo_layOut_42 : decode by_mo_layOut 42 = .ok (.invokevirtual 114, 3) := by decide +kernel
theorem dd_mo_layOut_45 : decode by_mo_layOut 45 = .ok (.iload_n 3, 1) := by decide +kernel
theorem dd_mo_layOut_46 : decode by_mo_layOut 46 = .ok (.if_icmp .ne 110, 3) := by decide +kernel
theorem dd_mo_layOut_49 : decode by_mo_layOut 49 = .ok (.aload_n 0, 1) := by decide +kernel
theorem dd_mo_layOut_50 : decode by_mo_layOut 50 = .ok (.getfield 75, 3) := by decide +kernel
theorem dd_mo_layOut_53 : decode by_mo_layOut 53 = .ok (.iload 4, 2) := by decide +kernel
theorem dd_mo_layOut_55 : decode by_mo_layOut 55 = .ok (.iconst 2, 1) := by decide +kernel
theorem dd_mo_layOut_56 : decode by_mo_layOut 56 = .ok (.iadd, 1) := by decide +kernel
theorem dd_mo_layOut_57 : decode by_mo_layOut 57 = .ok (.aload_n 0, 1) := by decide +kernel
theorem dd_mo_layOut_58 : decode by_mo_layOut 58 = .ok (.getfield 13, 3) := by decide +kernel
theorem dd_mo_layOut_61 : decode by_mo_layOut 61 = .ok (.iload 5, 2) := by decide +kernel
theorem dd_mo_layOut_63 : decode by_mo_layOut 63 = .ok (.iaload, 1) := by decide +kernel
theorem dd_mo_layOut_64 : decode by_mo_layOut 64 = .ok (.i2l, 1) := by decide +kernel
theorem dd_mo_layOut_65 : decode by_mo_layOut 65 = .ok (.lastore, 1) := by decide +kernel
theorem dd_mo_layOut_66 : decode by_mo_layOut 66 = .ok (.aload_n 0, 1) := by decide +kernel
theorem dd_mo_layOut_67 : decode by_mo_layOut 67 = .ok (.getfield 75, 3) := by decide +kernel
theorem dd_mo_layOut_70 : decode by_mo_layOut 70 = .ok (.iload 4, 2) := by decide +kernel
theorem dd_mo_layOut_72 : decode by_mo_layOut 72 = .ok (.iconst 3, 1) := by decide +kernel
theorem dd_mo_layOut_73 : decode by_mo_layOut 73 = .ok (.iadd, 1) := by decide +kernel
theorem dd_mo_layOut_74 : decode by_mo_layOut 74 = .ok (.aload_n 0, 1) := by decide +kernel
theorem dd_mo_layOut_75 : decode by_mo_layOut 75 = .ok (.getfield 7, 3) := by decide +kernel
theorem dd_mo_layOut_78 : decode by_mo_layOut 78 = .ok (.iload 5, 2) := by decide +kernel
theorem dd_mo_layOut_80 : decode by_mo_layOut 80 = .ok (.iaload, 1) := by decide +kernel
theorem dd_mo_layOut_81 : decode by_mo_layOut 81 = .ok (.i2l, 1) := by decide +kernel
theorem dd_mo_layOut_82 : decode by_mo_layOut 82 = .ok (.lastore, 1) := by decide +kernel
theorem dd_mo_layOut_83 : decode by_mo_layOut 83 = .ok (.aload_n 0, 1) := by decide +kernel
theorem dd_mo_layOut_84 : decode by_mo_layOut 84 = .ok (.getfield 75, 3) := by decide +kernel
theorem dd_mo_layOut_87 : decode by_mo_layOut 87 = .ok (.iload 4, 2) := by decide +kernel
theorem dd_mo_layOut_89 : decode by_mo_layOut 89 = .ok (.iconst 4, 1) := by decide +kernel
theorem dd_mo_layOut_90 : decode by_mo_layOut 90 = .ok (.iadd, 1) := by decide +kernel
theorem dd_mo_layOut_91 : decode by_mo_layOut 91 = .ok (.aload_n 0, 1) := by decide +kernel
theorem dd_mo_layOut_92 : decode by_mo_layOut 92 = .ok (.getfield 16, 3) := by decide +kernel
theorem dd_mo_layOut_95 : decode by_mo_layOut 95 = .ok (.iload 5, 2) := by decide +kernel
theorem dd_mo_layOut_97 : decode by_mo_layOut 97 = .ok (.iaload, 1) := by decide +kernel
theorem dd_mo_layOut_98 : decode by_mo_layOut 98 = .ok (.i2l, 1) := by decide +kernel
theorem dd_mo_layOut_99 : decode by_mo_layOut 99 = .ok (.lastore, 1) := by decide +kernel
theorem dd_mo_layOut_100 : decode by_mo_layOut 100 = .ok (.iconst 0, 1) := by decide +kernel
theorem dd_mo_layOut_101 : decode by_mo_layOut 101 = .ok (.istore 6, 2) := by decide +kernel
theorem dd_mo_layOut_103 : decode by_mo_layOut 103 = .ok (.iload 6, 2) := by decide +kernel
theorem dd_mo_layOut_105 : decode by_mo_layOut 105 = .ok (.iconst 4, 1) := by decide +kernel
theorem dd_mo_layOut_106 : decode by_mo_layOut 106 = .ok (.if_icmp .ge 50, 3) := by decide +kernel
theorem dd_mo_layOut_109 : decode by_mo_layOut 109 = .ok (.aload_n 0, 1) := by decide +kernel
theorem dd_mo_layOut_110 : decode by_mo_layOut 110 = .ok (.getfield 75, 3) := by decide +kernel
theorem dd_mo_layOut_113 : decode by_mo_layOut 113 = .ok (.iload 4, 2) := by decide +kernel
theorem dd_mo_layOut_115 : decode by_mo_layOut 115 = .ok (.iconst 5, 1) := by decide +kernel
theorem dd_mo_layOut_116 : decode by_mo_layOut 116 = .ok (.iadd, 1) := by decide +kernel
theorem dd_mo_layOut_117 : decode by_mo_layOut 117 = .ok (.iload 6, 2) := by decide +kernel
theorem dd_mo_layOut_119 : decode by_mo_layOut 119 = .ok (.iadd, 1) := by decide +kernel
theorem dd_mo_layOut_120 : decode by_mo_layOut 120 = .ok (.iload 6, 2) := by decide +kernel
theorem dd_mo_layOut_122 : decode by_mo_layOut 122 = .ok (.aload_n 0, 1) := by decide +kernel
theorem dd_mo_layOut_123 : decode by_mo_layOut 123 = .ok (.getfield 16, 3) := by decide +kernel
theorem dd_mo_layOut_126 : decode by_mo_layOut 126 = .ok (.iload 5, 2) := by decide +kernel
theorem dd_mo_layOut_128 : decode by_mo_layOut 128 = .ok (.iaload, 1) := by decide +kernel
theorem dd_mo_layOut_129 : decode by_mo_layOut 129 = .ok (.if_icmp .ge 19, 3) := by decide +kernel
theorem dd_mo_layOut_132 : decode by_mo_layOut 132 = .ok (.aload_n 0, 1) := by decide +kernel
theorem dd_mo_layOut_133 : decode by_mo_layOut 133 = .ok (.getfield 19, 3) := by decide +kernel
theorem dd_mo_layOut_136 : decode by_mo_layOut 136 = .ok (.iconst 4, 1) := by decide +kernel
theorem dd_mo_layOut_137 : decode by_mo_layOut 137 = .ok (.iload 5, 2) := by decide +kernel
theorem dd_mo_layOut_139 : decode by_mo_layOut 139 = .ok (.imul, 1) := by decide +kernel
theorem dd_mo_layOut_140 : decode by_mo_layOut 140 = .ok (.iload 6, 2) := by decide +kernel
theorem dd_mo_layOut_142 : decode by_mo_layOut 142 = .ok (.iadd, 1) := by decide +kernel
theorem dd_mo_layOut_143 : decode by_mo_layOut 143 = .ok (.iaload, 1) := by decide +kernel
theorem dd_mo_layOut_144 : decode by_mo_layOut 144 = .ok (.i2l, 1) := by decide +kernel
theorem dd_mo_layOut_145 : decode by_mo_layOut 145 = .ok (.goto 4, 3) := by decide +kernel
theorem dd_mo_layOut_148 : decode by_mo_layOut 148 = .ok (.lconst 0, 1) := by decide +kernel
theorem dd_mo_layOut_149 : decode by_mo_layOut 149 = .ok (.lastore, 1) := by decide +kernel
theorem dd_mo_layOut_150 : decode by_mo_layOut 150 = .ok (.iinc 6 1, 3) := by decide +kernel
theorem dd_mo_layOut_153 : decode by_mo_layOut 153 = .ok (.goto (-50), 3) := by decide +kernel
theorem dd_mo_layOut_156 : decode by_mo_layOut 156 = .ok (.iinc 3 1, 3) := by decide +kernel
theorem dd_mo_layOut_159 : decode by_mo_layOut 159 = .ok (.goto (-153), 3) := by decide +kernel
theorem dd_mo_layOut_162 : decode by_mo_layOut 162 = .ok (.return_, 1) := by decide +kernel
def mo_layOut_b156 (K6 : gw_M → Nat → Int32 → Int32 → Int32 → Option (Unit × gw_M)) (M : gw_M) (a0 : Nat) (v1 : Int32) (v2 : Int32) (v3 : Int32) : Option (Unit × gw_M) :=
  K6 M a0 v1 v2 (v3 + (1 : Int32))
def mo_layOut_b149 (K6 : gw_M → Nat → Int32 → Int32 → Int32 → Option (Unit × gw_M)) (K103 : gw_M → Nat → Int32 → Int32 → Int32 → Int32 → Int32 → Int32 → Option (Unit × gw_M)) (M : gw_M) (a0 : Nat) (v1 : Int32) (v2 : Int32) (v3 : Int32) (v4 : Int32) (v5 : Int32) (v6 : Int32) (t0 : Int64) (t1 : Int32) (b2 : Nat) : Option (Unit × gw_M) :=
  gw_gu (gw_in t1 200) (gw_lt (gw_sL M b2 t1.toNatClampNeg t0) (fun M149 => K103 M149 a0 v1 v2 v3 v4 v5 (v6 + (1 : Int32))))
def mo_layOut_b103 (K6 : gw_M → Nat → Int32 → Int32 → Int32 → Option (Unit × gw_M)) (K103 : gw_M → Nat → Int32 → Int32 → Int32 → Int32 → Int32 → Int32 → Option (Unit × gw_M)) (M : gw_M) (a0 : Nat) (v1 : Int32) (v2 : Int32) (v3 : Int32) (v4 : Int32) (v5 : Int32) (v6 : Int32) : Option (Unit × gw_M) :=
  if (4 : Int32) ≤ v6 then (mo_layOut_b156 K6 M a0 v1 v2 v3) else (gw_gu (gw_in v5 16) (if (M.1 (a0 + 3) v5.toNatClampNeg) ≤ v6 then (mo_layOut_b149 K6 K103 M a0 v1 v2 v3 v4 v5 v6 (0 : Int64) ((v4 + (5 : Int32)) + v6) (a0 + 22)) else (gw_gu (gw_in (((4 : Int32) * v5) + v6) 64) (mo_layOut_b149 K6 K103 M a0 v1 v2 v3 v4 v5 v6 ((M.1 (a0 + 4) ((((4 : Int32) * v5) + v6).toNatClampNeg)).toInt64) ((v4 + (5 : Int32)) + v6) (a0 + 22)))))
def mo_layOut_l103 (K6 : gw_M → Nat → Int32 → Int32 → Int32 → Option (Unit × gw_M)) : Nat → gw_M → Nat → Int32 → Int32 → Int32 → Int32 → Int32 → Int32 → Option (Unit × gw_M)
  | 0 => fun _ _ _ _ _ _ _ _ => none
  | n + 1 => mo_layOut_b103 K6 (mo_layOut_l103 K6 n)
def mo_layOut_b6 (K6 : gw_M → Nat → Int32 → Int32 → Int32 → Option (Unit × gw_M)) (M : gw_M) (a0 : Nat) (v1 : Int32) (v2 : Int32) (v3 : Int32) : Option (Unit × gw_M) :=
  gw_gu (gw_in v2 9) (if (M.1 (a0 + 14) v2.toNatClampNeg) ≤ v3 then (some ((), M)) else (gw_lt (((40 : Int32) * v1) + ((10 : Int32) * v3)) (fun x25 => gw_gu (gw_in (((4 : Int32) * v2) + v3) 36) (gw_lt (M.1 (a0 + 15) ((((4 : Int32) * v2) + v3).toNatClampNeg)) (fun x37 => gw_bd (mo_mainOf_b0 M a0 v2 v3) (fun r42 M42 => if r42 = v3 then (gw_gu (gw_in x37 16) (gw_gu (gw_in (x25 + (2 : Int32)) 200) (gw_lt (gw_sL M42 (a0 + 22) ((x25 + (2 : Int32)).toNatClampNeg) ((M42.1 (a0 + 2) x37.toNatClampNeg).toInt64)) (fun M65 => gw_gu (gw_in x37 16) (gw_gu (gw_in (x25 + (3 : Int32)) 200) (gw_lt (gw_sL M65 (a0 + 22) ((x25 + (3 : Int32)).toNatClampNeg) ((M65.1 (a0 + 1) x37.toNatClampNeg).toInt64)) (fun M82 => gw_gu (gw_in x37 16) (gw_gu (gw_in (x25 + (4 : Int32)) 200) (gw_lt (gw_sL M82 (a0 + 22) ((x25 + (4 : Int32)).toNatClampNeg) ((M82.1 (a0 + 3) x37.toNatClampNeg).toInt64)) (fun M99 => mo_layOut_l103 K6 2100 M99 a0 v1 v2 v3 x25 x37 (0 : Int32))))))))))) else (mo_layOut_b156 K6 M42 a0 v1 v2 v3)))))))
def mo_layOut_l6 : Nat → gw_M → Nat → Int32 → Int32 → Int32 → Option (Unit × gw_M)
  | 0 => fun _ _ _ _ _ => none
  | n + 1 => mo_layOut_b6  (mo_layOut_l6  n)
def mo_layOut_b0 (M : gw_M) (a0 : Nat) (v1 : Int32) : Option (Unit × gw_M) :=
  gw_lt ((3 : Int32) + v1) (fun x3 => mo_layOut_l6  2100 M a0 v1 x3 (0 : Int32))
set_option maxRecDepth 100000 in
set_option maxHeartbeats 4000000 in
theorem wb_mo_layOut_156 {p : Program} {l : Launch} {e : Env} {s : State} {m : MethodId} {args : Array Value} {below : List Frame} {meth : Method} {c : Code} {X : gw_X} {Y : gw_M} {z : (Unit × gw_M)} (C0 : gw_C ((Cond.code yy_mo_layOut by_mo_layOut 7 none) :: gw_w) by_mo_layOut 7 none "AccountMachineModel" X p s m args meth c) {K6 : gw_M → Nat → Int32 → Int32 → Int32 → Option (Unit × gw_M)} (hK6 : ∀ (M : gw_M) (a0 : Nat) (v1 : Int32) (v2 : Int32) (v3 : Int32) (H : Heap) (locs : List Loc) (ls : Array Slot), gr_k a0 = (11, 0) → gw_G X (gw_E X Y M) s H locs → lv_has ls 7 [(0, .ref (gr_a X a0)), (1, .int v1), (2, .int v2), (3, .int v3)] → K6 M a0 v1 v2 v3 = some z → W p l e rm_mo_layOut s m args below meth c H locs 0 0 (MQ below (gw_Qv X (fun M => (gw_E X Y M)) z) args s 0 0 (gw_A X)) (F0 m 6 ls [])) (M : gw_M) (a0 : Nat) (v1 : Int32) (v2 : Int32) (v3 : Int32) (H : Heap) (locs : List Loc) (ls : Array Slot) (ha0 : gr_k a0 = (11, 0)) (G : gw_G X (gw_E X Y M) s H locs) (hl : lv_has ls 7 [(0, .ref (gr_a X a0)), (1, .int v1), (2, .int v2), (3, .int v3)]) (hF : mo_layOut_b156 K6 M a0 v1 v2 v3 = some z) : W p l e rm_mo_layOut s m args below meth c H locs 0 0 (MQ below (gw_Qv X (fun M => (gw_E X Y M)) z) args s 0 0 (gw_A X)) (F0 m 156 ls []) := by
  obtain ⟨hx, hb, hml, hown, hts, hr, hlocks, hK⟩ := id C0
  have hg : ∀ w ∈ gw_w, w.before args s = true := fun w h => hts w (List.mem_cons_of_mem _ h)
  unfold mo_layOut_b156 at hF
  refine lv_iinc (k := 3) (v := v3 + (1 : Int32)) (lv' := [(3, .int (v3 + (1 : Int32))), (0, .ref (gr_a X a0)), (1, .int v1), (2, .int v2)]) hx hb dd_mo_layOut_156 hl rfl rfl (by decide) rfl (fun ls hl => ?_)
  refine lv_goto (tgt := 6) hx hb dd_mo_layOut_159 (by decide) ?_
  exact hK6 M a0 v1 v2 (v3 + (1 : Int32)) _ _ _ ha0 G (lv_sub hl [1, 2, 3, 0] rfl) hF
set_option maxRecDepth 100000 in
set_option maxHeartbeats 4000000 in
theorem wb_mo_layOut_149 {p : Program} {l : Launch} {e : Env} {s : State} {m : MethodId} {args : Array Value} {below : List Frame} {meth : Method} {c : Code} {X : gw_X} {Y : gw_M} {z : (Unit × gw_M)} (C0 : gw_C ((Cond.code yy_mo_layOut by_mo_layOut 7 none) :: gw_w) by_mo_layOut 7 none "AccountMachineModel" X p s m args meth c) {K6 : gw_M → Nat → Int32 → Int32 → Int32 → Option (Unit × gw_M)} {K103 : gw_M → Nat → Int32 → Int32 → Int32 → Int32 → Int32 → Int32 → Option (Unit × gw_M)} (hK6 : ∀ (M : gw_M) (a0 : Nat) (v1 : Int32) (v2 : Int32) (v3 : Int32) (H : Heap) (locs : List Loc) (ls : Array Slot), gr_k a0 = (11, 0) → gw_G X (gw_E X Y M) s H locs → lv_has ls 7 [(0, .ref (gr_a X a0)), (1, .int v1), (2, .int v2), (3, .int v3)] → K6 M a0 v1 v2 v3 = some z → W p l e rm_mo_layOut s m args below meth c H locs 0 0 (MQ below (gw_Qv X (fun M => (gw_E X Y M)) z) args s 0 0 (gw_A X)) (F0 m 6 ls [])) (hK103 : ∀ (M : gw_M) (a0 : Nat) (v1 : Int32) (v2 : Int32) (v3 : Int32) (v4 : Int32) (v5 : Int32) (v6 : Int32) (H : Heap) (locs : List Loc) (ls : Array Slot), gr_k a0 = (11, 0) → gw_G X (gw_E X Y M) s H locs → lv_has ls 7 [(0, .ref (gr_a X a0)), (1, .int v1), (2, .int v2), (3, .int v3), (4, .int v4), (5, .int v5), (6, .int v6)] → K103 M a0 v1 v2 v3 v4 v5 v6 = some z → W p l e rm_mo_layOut s m args below meth c H locs 0 0 (MQ below (gw_Qv X (fun M => (gw_E X Y M)) z) args s 0 0 (gw_A X)) (F0 m 103 ls [])) (M : gw_M) (a0 : Nat) (v1 : Int32) (v2 : Int32) (v3 : Int32) (v4 : Int32) (v5 : Int32) (v6 : Int32) (t0 : Int64) (t1 : Int32) (b2 : Nat) (H : Heap) (locs : List Loc) (ls : Array Slot) (ha0 : gr_k a0 = (11, 0)) (hb2 : gr_k b2 = (1, 200)) (G : gw_G X (gw_E X Y M) s H locs) (hl : lv_has ls 7 [(0, .ref (gr_a X a0)), (1, .int v1), (2, .int v2), (3, .int v3), (4, .int v4), (5, .int v5), (6, .int v6)]) (hF : mo_layOut_b149 K6 K103 M a0 v1 v2 v3 v4 v5 v6 t0 t1 b2 = some z) : W p l e rm_mo_layOut s m args below meth c H locs 0 0 (MQ below (gw_Qv X (fun M => (gw_E X Y M)) z) args s 0 0 (gw_A X)) (F0 m 149 ls [.long t0, .int t1, .ref (gr_a X b2)]) := by
  obtain ⟨hx, hb, hml, hown, hts, hr, hlocks, hK⟩ := id C0
  have hg : ∀ w ∈ gw_w, w.before args s = true := fun w h => hts w (List.mem_cons_of_mem _ h)
  unfold mo_layOut_b149 at hF
  obtain ⟨h149, hF⟩ := gw_gd hF
  refine gr_last hx hb hK G hb2 (gw_vp h149) (j := t1.toNatClampNeg) rfl dd_mo_layOut_149 (fun M149 H locs e149 G => ?_)
  replace hF := gw_ly e149 hF
  refine lv_iinc (k := 6) (v := v6 + (1 : Int32)) (lv' := [(6, .int (v6 + (1 : Int32))), (0, .ref (gr_a X a0)), (1, .int v1), (2, .int v2), (3, .int v3), (4, .int v4), (5, .int v5)]) hx hb dd_mo_layOut_150 hl rfl rfl (by decide) rfl (fun ls hl => ?_)
  refine lv_goto (tgt := 103) hx hb dd_mo_layOut_153 (by decide) ?_
  exact hK103 M149 a0 v1 v2 v3 v4 v5 (v6 + (1 : Int32)) _ _ _ ha0 G (lv_sub hl [1, 2, 3, 4, 5, 6, 0] rfl) hF
set_option maxRecDepth 100000 in
set_option maxHeartbeats 4000000 in
theorem wb_mo_layOut_103 {p : Program} {l : Launch} {e : Env} {s : State} {m : MethodId} {args : Array Value} {below : List Frame} {meth : Method} {c : Code} {X : gw_X} {Y : gw_M} {z : (Unit × gw_M)} (C0 : gw_C ((Cond.code yy_mo_layOut by_mo_layOut 7 none) :: gw_w) by_mo_layOut 7 none "AccountMachineModel" X p s m args meth c) {K6 : gw_M → Nat → Int32 → Int32 → Int32 → Option (Unit × gw_M)} {K103 : gw_M → Nat → Int32 → Int32 → Int32 → Int32 → Int32 → Int32 → Option (Unit × gw_M)} (hK6 : ∀ (M : gw_M) (a0 : Nat) (v1 : Int32) (v2 : Int32) (v3 : Int32) (H : Heap) (locs : List Loc) (ls : Array Slot), gr_k a0 = (11, 0) → gw_G X (gw_E X Y M) s H locs → lv_has ls 7 [(0, .ref (gr_a X a0)), (1, .int v1), (2, .int v2), (3, .int v3)] → K6 M a0 v1 v2 v3 = some z → W p l e rm_mo_layOut s m args below meth c H locs 0 0 (MQ below (gw_Qv X (fun M => (gw_E X Y M)) z) args s 0 0 (gw_A X)) (F0 m 6 ls [])) (hK103 : ∀ (M : gw_M) (a0 : Nat) (v1 : Int32) (v2 : Int32) (v3 : Int32) (v4 : Int32) (v5 : Int32) (v6 : Int32) (H : Heap) (locs : List Loc) (ls : Array Slot), gr_k a0 = (11, 0) → gw_G X (gw_E X Y M) s H locs → lv_has ls 7 [(0, .ref (gr_a X a0)), (1, .int v1), (2, .int v2), (3, .int v3), (4, .int v4), (5, .int v5), (6, .int v6)] → K103 M a0 v1 v2 v3 v4 v5 v6 = some z → W p l e rm_mo_layOut s m args below meth c H locs 0 0 (MQ below (gw_Qv X (fun M => (gw_E X Y M)) z) args s 0 0 (gw_A X)) (F0 m 103 ls [])) (M : gw_M) (a0 : Nat) (v1 : Int32) (v2 : Int32) (v3 : Int32) (v4 : Int32) (v5 : Int32) (v6 : Int32) (H : Heap) (locs : List Loc) (ls : Array Slot) (ha0 : gr_k a0 = (11, 0)) (G : gw_G X (gw_E X Y M) s H locs) (hl : lv_has ls 7 [(0, .ref (gr_a X a0)), (1, .int v1), (2, .int v2), (3, .int v3), (4, .int v4), (5, .int v5), (6, .int v6)]) (hF : mo_layOut_b103 K6 K103 M a0 v1 v2 v3 v4 v5 v6 = some z) : W p l e rm_mo_layOut s m args below meth c H locs 0 0 (MQ below (gw_Qv X (fun M => (gw_E X Y M)) z) args s 0 0 (gw_A X)) (F0 m 103 ls []) := by
  obtain ⟨hx, hb, hml, hown, hts, hr, hlocks, hK⟩ := id C0
  have hg : ∀ w ∈ gw_w, w.before args s = true := fun w h => hts w (List.mem_cons_of_mem _ h)
  unfold mo_layOut_b103 at hF
  refine lv_iload hx hb dd_mo_layOut_103 (lv_at hl 6 rfl) ?_
  refine lv_iconst (v := (4 : Int32)) hx hb dd_mo_layOut_105 (by decide) ?_
  refine lv_icmp_ge (tgt := 156) hx hb dd_mo_layOut_106 (by decide) (fun h106 => ?_) (fun h106 => ?_)
  · replace hF := gw_et h106 hF
    exact wb_mo_layOut_156 C0 hK6 M a0 v1 v2 v3 _ _ _ ha0 G (lv_sub hl [0, 1, 2, 3] rfl) hF
  · replace hF := gw_ef h106 hF
    refine lv_aload_n hx hb dd_mo_layOut_109 rfl (lv_at hl 0 rfl) ?_
    refine gf_mo_seen hx hb hg hown (hg _ kw_285) hK G ha0 dd_mo_layOut_110 ?_
    refine lv_iload hx hb dd_mo_layOut_113 (lv_at hl 4 rfl) ?_
    refine lv_iconst (v := (5 : Int32)) hx hb dd_mo_layOut_115 (by decide) ?_
    refine lv_iadd hx hb dd_mo_layOut_116 ?_
    refine lv_iload hx hb dd_mo_layOut_117 (lv_at hl 6 rfl) ?_
    refine lv_iadd hx hb dd_mo_layOut_119 ?_
    refine lv_iload hx hb dd_mo_layOut_120 (lv_at hl 6 rfl) ?_
    refine lv_aload_n hx hb dd_mo_layOut_122 rfl (lv_at hl 0 rfl) ?_
    refine W.eq (g2 := F0 m 123 _ _) rfl ?_
    refine gf_mo_sizes hx hb hg hown (hg _ kw_286) hK G ha0 dd_mo_layOut_123 ?_
    refine lv_iload hx hb dd_mo_layOut_126 (lv_at hl 5 rfl) ?_
    obtain ⟨h128, hF⟩ := gw_gd hF
    refine gr_iald hx hb hK G (gq_mo_sizes ha0) (gw_vp h128) (j := v5.toNatClampNeg) rfl dd_mo_layOut_128 ?_
    refine lv_icmp_ge (tgt := 148) hx hb dd_mo_layOut_129 (by decide) (fun h129 => ?_) (fun h129 => ?_)
    · replace hF := gw_et h129 hF
      refine lv_lconst (v := (0 : Int64)) hx hb dd_mo_layOut_148 (by decide) ?_
      exact wb_mo_layOut_149 C0 hK6 hK103 M a0 v1 v2 v3 v4 v5 v6 (0 : Int64) ((v4 + (5 : Int32)) + v6) (a0 + 22) _ _ _ ha0 (gq_mo_seen ha0) G (lv_sub hl [0, 1, 2, 3, 4, 5, 6] rfl) hF
    · replace hF := gw_ef h129 hF
      refine lv_aload_n hx hb dd_mo_layOut_132 rfl (lv_at hl 0 rfl) ?_
      refine gf_mo_words hx hb hg hown (hg _ kw_287) hK G ha0 dd_mo_layOut_133 ?_
      refine lv_iconst (v := (4 : Int32)) hx hb dd_mo_layOut_136 (by decide) ?_
      refine lv_iload hx hb dd_mo_layOut_137 (lv_at hl 5 rfl) ?_
      refine lv_imul hx hb dd_mo_layOut_139 ?_
      refine lv_iload hx hb dd_mo_layOut_140 (lv_at hl 6 rfl) ?_
      refine lv_iadd hx hb dd_mo_layOut_142 ?_
      obtain ⟨h143, hF⟩ := gw_gd hF
      refine gr_iald hx hb hK G (gq_mo_words ha0) (gw_vp h143) (j := (((4 : Int32) * v5) + v6).toNatClampNeg) rfl dd_mo_layOut_143 ?_
      refine lv_i2l (v := (M.1 (a0 + 4) ((((4 : Int32) * v5) + v6).toNatClampNeg)).toInt64) hx hb dd_mo_layOut_144 rfl ?_
      refine W.eq (g2 := F0 m 145 _ _) rfl ?_
      refine lv_goto (tgt := 149) hx hb dd_mo_layOut_145 (by decide) ?_
      exact wb_mo_layOut_149 C0 hK6 hK103 M a0 v1 v2 v3 v4 v5 v6 ((M.1 (a0 + 4) ((((4 : Int32) * v5) + v6).toNatClampNeg)).toInt64) ((v4 + (5 : Int32)) + v6) (a0 + 22) _ _ _ ha0 (gq_mo_seen ha0) G (lv_sub hl [0, 1, 2, 3, 4, 5, 6] rfl) hF
theorem wl_mo_layOut_103 {p : Program} {l : Launch} {e : Env} {s : State} {m : MethodId} {args : Array Value} {below : List Frame} {meth : Method} {c : Code} {X : gw_X} {Y : gw_M} {z : (Unit × gw_M)} (C0 : gw_C ((Cond.code yy_mo_layOut by_mo_layOut 7 none) :: gw_w) by_mo_layOut 7 none "AccountMachineModel" X p s m args meth c) {K6 : gw_M → Nat → Int32 → Int32 → Int32 → Option (Unit × gw_M)} (hK6 : ∀ (M : gw_M) (a0 : Nat) (v1 : Int32) (v2 : Int32) (v3 : Int32) (H : Heap) (locs : List Loc) (ls : Array Slot), gr_k a0 = (11, 0) → gw_G X (gw_E X Y M) s H locs → lv_has ls 7 [(0, .ref (gr_a X a0)), (1, .int v1), (2, .int v2), (3, .int v3)] → K6 M a0 v1 v2 v3 = some z → W p l e rm_mo_layOut s m args below meth c H locs 0 0 (MQ below (gw_Qv X (fun M => (gw_E X Y M)) z) args s 0 0 (gw_A X)) (F0 m 6 ls [])) : ∀ n : Nat, ∀ (M : gw_M) (a0 : Nat) (v1 : Int32) (v2 : Int32) (v3 : Int32) (v4 : Int32) (v5 : Int32) (v6 : Int32) (H : Heap) (locs : List Loc) (ls : Array Slot), gr_k a0 = (11, 0) → gw_G X (gw_E X Y M) s H locs → lv_has ls 7 [(0, .ref (gr_a X a0)), (1, .int v1), (2, .int v2), (3, .int v3), (4, .int v4), (5, .int v5), (6, .int v6)] → mo_layOut_l103 K6 n M a0 v1 v2 v3 v4 v5 v6 = some z → W p l e rm_mo_layOut s m args below meth c H locs 0 0 (MQ below (gw_Qv X (fun M => (gw_E X Y M)) z) args s 0 0 (gw_A X)) (F0 m 103 ls []) := by
  intro n
  induction n with
  | zero =>
    intro M a0 v1 v2 v3 v4 v5 v6 H locs ls ha0 G hl hF
    have hF : (none : Option (Unit × gw_M)) = some z := hF
    cases hF
  | succ n ih =>
    intro M a0 v1 v2 v3 v4 v5 v6 H locs ls ha0 G hl hF
    exact wb_mo_layOut_103 C0 hK6 ih M a0 v1 v2 v3 v4 v5 v6 H locs ls ha0 G hl hF
set_option maxRecDepth 100000 in
set_option maxHeartbeats 4000000 in
theorem wb_mo_layOut_6 {p : Program} {l : Launch} {e : Env} {s : State} {m : MethodId} {args : Array Value} {below : List Frame} {meth : Method} {c : Code} {X : gw_X} {Y : gw_M} {z : (Unit × gw_M)} (C0 : gw_C ((Cond.code yy_mo_layOut by_mo_layOut 7 none) :: gw_w) by_mo_layOut 7 none "AccountMachineModel" X p s m args meth c) {K6 : gw_M → Nat → Int32 → Int32 → Int32 → Option (Unit × gw_M)} (hK6 : ∀ (M : gw_M) (a0 : Nat) (v1 : Int32) (v2 : Int32) (v3 : Int32) (H : Heap) (locs : List Loc) (ls : Array Slot), gr_k a0 = (11, 0) → gw_G X (gw_E X Y M) s H locs → lv_has ls 7 [(0, .ref (gr_a X a0)), (1, .int v1), (2, .int v2), (3, .int v3)] → K6 M a0 v1 v2 v3 = some z → W p l e rm_mo_layOut s m args below meth c H locs 0 0 (MQ below (gw_Qv X (fun M => (gw_E X Y M)) z) args s 0 0 (gw_A X)) (F0 m 6 ls [])) (M : gw_M) (a0 : Nat) (v1 : Int32) (v2 : Int32) (v3 : Int32) (H : Heap) (locs : List Loc) (ls : Array Slot) (ha0 : gr_k a0 = (11, 0)) (G : gw_G X (gw_E X Y M) s H locs) (hl : lv_has ls 7 [(0, .ref (gr_a X a0)), (1, .int v1), (2, .int v2), (3, .int v3)]) (hF : mo_layOut_b6 K6 M a0 v1 v2 v3 = some z) : W p l e rm_mo_layOut s m args below meth c H locs 0 0 (MQ below (gw_Qv X (fun M => (gw_E X Y M)) z) args s 0 0 (gw_A X)) (F0 m 6 ls []) := by
  obtain ⟨hx, hb, hml, hown, hts, hr, hlocks, hK⟩ := id C0
  have hg : ∀ w ∈ gw_w, w.before args s = true := fun w h => hts w (List.mem_cons_of_mem _ h)
  unfold mo_layOut_b6 at hF
  refine lv_iload_n hx hb dd_mo_layOut_6 rfl (lv_at hl 3 rfl) ?_
  refine lv_aload_n hx hb dd_mo_layOut_7 rfl (lv_at hl 0 rfl) ?_
  refine gf_mo_slots hx hb hg hown (hg _ kw_273) hK G ha0 dd_mo_layOut_8 ?_
  refine lv_iload_n hx hb dd_mo_layOut_11 rfl (lv_at hl 2 rfl) ?_
  obtain ⟨h12, hF⟩ := gw_gd hF
  refine gr_iald hx hb hK G (gq_mo_slots ha0) (gw_vp h12) (j := v2.toNatClampNeg) rfl dd_mo_layOut_12 ?_
  refine lv_icmp_ge (tgt := 162) hx hb dd_mo_layOut_13 (by decide) (fun h13 => ?_) (fun h13 => ?_)
  · replace hF := gw_et h13 hF
    exact W.vret hx hb hr (fun t ht hW => gw_endv (EF := (fun M => (gw_E X Y M))) (M := M) G ht hF) G.2.2.2.2 dd_mo_layOut_162 hlocks
  · replace hF := gw_ef h13 hF
    refine lv_bipush (v := (40 : Int32)) hx hb dd_mo_layOut_16 (by decide) ?_
    refine lv_iload_n hx hb dd_mo_layOut_18 rfl (lv_at hl 1 rfl) ?_
    refine lv_imul hx hb dd_mo_layOut_19 ?_
    refine lv_bipush (v := (10 : Int32)) hx hb dd_mo_layOut_20 (by decide) ?_
    refine lv_iload_n hx hb dd_mo_layOut_22 rfl (lv_at hl 3 rfl) ?_
    refine lv_imul hx hb dd_mo_layOut_23 ?_
    refine lv_iadd hx hb dd_mo_layOut_24 ?_
    refine lv_topi (fun x25 e25 => ?_)
    replace hF := gw_ly e25 hF
    refine lv_istore (i := 4) (lv' := [(4, .int x25), (0, .ref (gr_a X a0)), (1, .int v1), (2, .int v2), (3, .int v3)]) hx hb dd_mo_layOut_25 hl (by decide) rfl (fun ls hl => ?_)
    refine lv_aload_n hx hb dd_mo_layOut_27 rfl (lv_at hl 1 rfl) ?_
    refine W.eq (g2 := F0 m 28 _ _) rfl ?_
    refine gf_mo_slotAccount hx hb hg hown (hg _ kw_274) hK G ha0 dd_mo_layOut_28 ?_
    refine lv_iconst (v := (4 : Int32)) hx hb dd_mo_layOut_31 (by decide) ?_
    refine lv_iload_n hx hb dd_mo_layOut_32 rfl (lv_at hl 3 rfl) ?_
    refine lv_imul hx hb dd_mo_layOut_33 ?_
    refine lv_iload_n hx hb dd_mo_layOut_34 rfl (lv_at hl 4 rfl) ?_
    refine lv_iadd hx hb dd_mo_layOut_35 ?_
    obtain ⟨h36, hF⟩ := gw_gd hF
    refine gr_iald hx hb hK G (gq_mo_slotAccount ha0) (gw_vp h36) (j := (((4 : Int32) * v2) + v3).toNatClampNeg) rfl dd_mo_layOut_36 ?_
    refine lv_topi (fun x37 e37 => ?_)
    replace hF := gw_ly e37 hF
    refine lv_istore (i := 5) (lv' := [(5, .int x37), (4, .int x25), (0, .ref (gr_a X a0)), (1, .int v1), (2, .int v2), (3, .int v3)]) hx hb dd_mo_layOut_37 hl (by decide) rfl (fun ls hl => ?_)
    refine lv_aload_n hx hb dd_mo_layOut_39 rfl (lv_at hl 2 rfl) ?_
    refine lv_iload_n hx hb dd_mo_layOut_40 rfl (lv_at hl 4 rfl) ?_
    refine W.eq (g2 := F0 m 41 _ _) rfl ?_
    refine lv_iload_n hx hb dd_mo_layOut_41 rfl (lv_at hl 5 rfl) ?_
    obtain ⟨r42, M42, hc42, hF⟩ := gw_be hF
    refine gw_ci G (va_runV (As := [.int v2, .int v3]) (rest := []) ⟨hx, hb, hml, hown, hts⟩ (ct_mo_mainOf l X Y M a0 v2 v3 ha0 _ hc42) (cwV 2 hts (gw_gV kw_289 kw_290 kw_291 kw_253 kw_288) rfl rfl rfl (by decide +kernel) ⟨Nat.le_of_ble_eq_true rfl, Nat.le_of_ble_eq_true rfl⟩) ⟨gw_blind, gw_recv_mo hK G ha0, gw_pre hK G⟩ rfl rfl hl.1 rfl (Nat.le_of_ble_eq_true rfl) dd_mo_layOut_42 ⟨Nat.le_of_ble_eq_true rfl, Nat.le_of_ble_eq_true rfl⟩) (fun H locs G => ?_)
    refine lv_iload_n hx hb dd_mo_layOut_45 rfl (lv_at hl 5 rfl) ?_
    refine lv_icmp_ne (tgt := 156) hx hb dd_mo_layOut_46 (by decide) (fun h46 => ?_) (fun h46 => ?_)
    · replace hF := gw_ef h46 hF
      exact wb_mo_layOut_156 C0 hK6 M42 a0 v1 v2 v3 _ _ _ ha0 G (lv_sub hl [2, 3, 4, 5] rfl) hF
    · replace hF := gw_et h46 hF
      refine lv_aload_n hx hb dd_mo_layOut_49 rfl (lv_at hl 2 rfl) ?_
      refine gf_mo_seen hx hb hg hown (hg _ kw_285) hK G ha0 dd_mo_layOut_50 ?_
      refine lv_iload hx hb dd_mo_layOut_53 (lv_at hl 1 rfl) ?_
      refine lv_iconst (v := (2 : Int32)) hx hb dd_mo_layOut_55 (by decide) ?_
      refine lv_iadd hx hb dd_mo_layOut_56 ?_
      refine lv_aload_n hx hb dd_mo_layOut_57 rfl (lv_at hl 2 rfl) ?_
      refine gf_mo_owners hx hb hg hown (hg _ kw_292) hK G ha0 dd_mo_layOut_58 ?_
      refine lv_iload hx hb dd_mo_layOut_61 (lv_at hl 0 rfl) ?_
      obtain ⟨h63, hF⟩ := gw_gd hF
      refine gr_iald hx hb hK G (gq_mo_owners ha0) (gw_vp h63) (j := x37.toNatClampNeg) rfl dd_mo_layOut_63 ?_
      refine W.eq (g2 := F0 m 64 _ _) rfl ?_
      refine lv_i2l (v := (M42.1 (a0 + 2) x37.toNatClampNeg).toInt64) hx hb dd_mo_layOut_64 rfl ?_
      obtain ⟨h65, hF⟩ := gw_gd hF
      refine gr_last hx hb hK G (gq_mo_seen ha0) (gw_vp h65) (j := (x25 + (2 : Int32)).toNatClampNeg) rfl dd_mo_layOut_65 (fun M65 H locs e65 G => ?_)
      replace hF := gw_ly e65 hF
      refine lv_aload_n hx hb dd_mo_layOut_66 rfl (lv_at hl 2 rfl) ?_
      refine gf_mo_seen hx hb hg hown (hg _ kw_285) hK G ha0 dd_mo_layOut_67 ?_
      refine lv_iload hx hb dd_mo_layOut_70 (lv_at hl 1 rfl) ?_
      refine lv_iconst (v := (3 : Int32)) hx hb dd_mo_layOut_72 (by decide) ?_
      refine lv_iadd hx hb dd_mo_layOut_73 ?_
      refine lv_aload_n hx hb dd_mo_layOut_74 rfl (lv_at hl 2 rfl) ?_
      refine gf_mo_balances hx hb hg hown (hg _ kw_293) hK G ha0 dd_mo_layOut_75 ?_
      refine lv_iload hx hb dd_mo_layOut_78 (lv_at hl 0 rfl) ?_
      refine W.eq (g2 := F0 m 80 _ _) rfl ?_
      obtain ⟨h80, hF⟩ := gw_gd hF
      refine gr_iald hx hb hK G (gq_mo_balances ha0) (gw_vp h80) (j := x37.toNatClampNeg) rfl dd_mo_layOut_80 ?_
      refine lv_i2l (v := (M65.1 (a0 + 1) x37.toNatClampNeg).toInt64) hx hb dd_mo_layOut_81 rfl ?_
      obtain ⟨h82, hF⟩ := gw_gd hF
      refine gr_last hx hb hK G (gq_mo_seen ha0) (gw_vp h82) (j := (x25 + (3 : Int32)).toNatClampNeg) rfl dd_mo_layOut_82 (fun M82 H locs e82 G => ?_)
      replace hF := gw_ly e82 hF
      refine lv_aload_n hx hb dd_mo_layOut_83 rfl (lv_at hl 2 rfl) ?_
      refine gf_mo_seen hx hb hg hown (hg _ kw_285) hK G ha0 dd_mo_layOut_84 ?_
      refine lv_iload hx hb dd_mo_layOut_87 (lv_at hl 1 rfl) ?_
      refine lv_iconst (v := (4 : Int32)) hx hb dd_mo_layOut_89 (by decide) ?_
      refine lv_iadd hx hb dd_mo_layOut_90 ?_
      refine lv_aload_n hx hb dd_mo_layOut_91 rfl (lv_at hl 2 rfl) ?_
      refine gf_mo_sizes hx hb hg hown (hg _ kw_286) hK G ha0 dd_mo_layOut_92 ?_
      refine W.eq (g2 := F0 m 95 _ _) rfl ?_
      refine lv_iload hx hb dd_mo_layOut_95 (lv_at hl 0 rfl) ?_
      obtain ⟨h97, hF⟩ := gw_gd hF
      refine gr_iald hx hb hK G (gq_mo_sizes ha0) (gw_vp h97) (j := x37.toNatClampNeg) rfl dd_mo_layOut_97 ?_
      refine lv_i2l (v := (M82.1 (a0 + 3) x37.toNatClampNeg).toInt64) hx hb dd_mo_layOut_98 rfl ?_
      obtain ⟨h99, hF⟩ := gw_gd hF
      refine gr_last hx hb hK G (gq_mo_seen ha0) (gw_vp h99) (j := (x25 + (4 : Int32)).toNatClampNeg) rfl dd_mo_layOut_99 (fun M99 H locs e99 G => ?_)
      replace hF := gw_ly e99 hF
      refine lv_iconst (v := (0 : Int32)) hx hb dd_mo_layOut_100 (by decide) ?_
      refine lv_istore (i := 6) (lv' := [(6, .int (0 : Int32)), (5, .int x37), (4, .int x25), (0, .ref (gr_a X a0)), (1, .int v1), (2, .int v2), (3, .int v3)]) hx hb dd_mo_layOut_101 hl (by decide) rfl (fun ls hl => ?_)
      exact wl_mo_layOut_103 C0 hK6 2100 M99 a0 v1 v2 v3 x25 x37 (0 : Int32) _ _ _ ha0 G (lv_sub hl [3, 4, 5, 6, 2, 1, 0] rfl) hF
theorem wl_mo_layOut_6 {p : Program} {l : Launch} {e : Env} {s : State} {m : MethodId} {args : Array Value} {below : List Frame} {meth : Method} {c : Code} {X : gw_X} {Y : gw_M} {z : (Unit × gw_M)} (C0 : gw_C ((Cond.code yy_mo_layOut by_mo_layOut 7 none) :: gw_w) by_mo_layOut 7 none "AccountMachineModel" X p s m args meth c) : ∀ n : Nat, ∀ (M : gw_M) (a0 : Nat) (v1 : Int32) (v2 : Int32) (v3 : Int32) (H : Heap) (locs : List Loc) (ls : Array Slot), gr_k a0 = (11, 0) → gw_G X (gw_E X Y M) s H locs → lv_has ls 7 [(0, .ref (gr_a X a0)), (1, .int v1), (2, .int v2), (3, .int v3)] → mo_layOut_l6  n M a0 v1 v2 v3 = some z → W p l e rm_mo_layOut s m args below meth c H locs 0 0 (MQ below (gw_Qv X (fun M => (gw_E X Y M)) z) args s 0 0 (gw_A X)) (F0 m 6 ls []) := by
  intro n
  induction n with
  | zero =>
    intro M a0 v1 v2 v3 H locs ls ha0 G hl hF
    have hF : (none : Option (Unit × gw_M)) = some z := hF
    cases hF
  | succ n ih =>
    intro M a0 v1 v2 v3 H locs ls ha0 G hl hF
    exact wb_mo_layOut_6 C0  ih M a0 v1 v2 v3 H locs ls ha0 G hl hF
set_option maxRecDepth 100000 in
set_option maxHeartbeats 4000000 in
theorem wb_mo_layOut_0 {p : Program} {l : Launch} {e : Env} {s : State} {m : MethodId} {args : Array Value} {below : List Frame} {meth : Method} {c : Code} {X : gw_X} {Y : gw_M} {z : (Unit × gw_M)} (C0 : gw_C ((Cond.code yy_mo_layOut by_mo_layOut 7 none) :: gw_w) by_mo_layOut 7 none "AccountMachineModel" X p s m args meth c) (M : gw_M) (a0 : Nat) (v1 : Int32) (H : Heap) (locs : List Loc) (ls : Array Slot) (ha0 : gr_k a0 = (11, 0)) (G : gw_G X (gw_E X Y M) s H locs) (hl : lv_has ls 7 [(0, .ref (gr_a X a0)), (1, .int v1)]) (hF : mo_layOut_b0  M a0 v1 = some z) : W p l e rm_mo_layOut s m args below meth c H locs 0 0 (MQ below (gw_Qv X (fun M => (gw_E X Y M)) z) args s 0 0 (gw_A X)) (F0 m 0 ls []) := by
  obtain ⟨hx, hb, hml, hown, hts, hr, hlocks, hK⟩ := id C0
  have hg : ∀ w ∈ gw_w, w.before args s = true := fun w h => hts w (List.mem_cons_of_mem _ h)
  unfold mo_layOut_b0 at hF
  refine lv_iconst (v := (3 : Int32)) hx hb dd_mo_layOut_0 (by decide) ?_
  refine lv_iload_n hx hb dd_mo_layOut_1 rfl (lv_at hl 1 rfl) ?_
  refine lv_iadd hx hb dd_mo_layOut_2 ?_
  refine lv_topi (fun x3 e3 => ?_)
  replace hF := gw_ly e3 hF
  refine lv_istore_n (i := 2) (lv' := [(2, .int x3), (0, .ref (gr_a X a0)), (1, .int v1)]) hx hb dd_mo_layOut_3 rfl hl (by decide) rfl (fun ls hl => ?_)
  refine lv_iconst (v := (0 : Int32)) hx hb dd_mo_layOut_4 (by decide) ?_
  refine lv_istore_n (i := 3) (lv' := [(3, .int (0 : Int32)), (2, .int x3), (0, .ref (gr_a X a0)), (1, .int v1)]) hx hb dd_mo_layOut_5 rfl hl (by decide) rfl (fun ls hl => ?_)
  exact wl_mo_layOut_6 C0  2100 M a0 v1 x3 (0 : Int32) _ _ _ ha0 G (lv_sub hl [2, 3, 1, 0] rfl) hF
set_option maxRecDepth 100000 in
set_option maxHeartbeats 4000000 in
theorem ct_mo_layOut (l : Launch) (X : gw_X) (Y : gw_M) (M : gw_M) (a0 : Nat) (v1 : Int32) (ha0 : gr_k a0 = (11, 0)) (z : (Unit × gw_M)) (hF : mo_layOut_b0 M a0 v1 = some z) : Met l yy_mo_layOut ((Cond.code yy_mo_layOut by_mo_layOut 7 none) :: gw_w) rm_mo_layOut (va_Pc [.ref (gr_a X a0), .int v1] (gw_B X (gw_E X Y M))) (gw_Qv X (fun M => (gw_E X Y M)) z) 0 0 (gw_A X) := by
  refine Met.ofW (cc := by_mo_layOut) (maxL := 7) (ret := none) (by decide) rfl ?_
  intro p e s m args below meth c s₁ B hml hv
  obtain ⟨rfl, hB⟩ := hv
  rw [lg_entry_eq]
  have hl := lv_entry ([.ref (gr_a X a0), .int v1]) (n := 7) (Nat.le_of_ble_eq_true rfl)
  generalize (lg_sl ([.ref (gr_a X a0), .int v1]) ++ List.replicate (7 - (lg_sl ([.ref (gr_a X a0), .int v1])).length) Slot.unset).toArray = ls at hl ⊢
  have hl : lv_has ls 7 [(0, .ref (gr_a X a0)), (1, .int v1)] := hl
  exact wb_mo_layOut_0 (gw_ctx B hml rfl hB) M a0 v1 _ _ _ ha0 (gw_start hB) hl hF
/-! AccountMachineModel.begin(I)V -/
abbrev rm_mo_begin : Room := { frames := 2, cells := 0, slots := 0, locals := 50 }
theorem dd_mo_begin_0 : decode by_mo_begin 0 = .ok (.iconst 3, 1) := by decide +kernel
theorem dd_mo_begin_1 : decode by_mo_begin 1 = .ok (.iload_n 1, 1) := by decide +kernel
theorem dd_mo_begin_2 : decode by_mo_begin 2 = .ok (.iadd, 1) := by decide +kernel
theorem dd_mo_begin_3 : decode by_mo_begin 3 = .ok (.istore_n 2, 1) := by decide +kernel
theorem dd_mo_begin_4 : decode by_mo_begin 4 = .ok (.aload_n 0, 1) := by decide +kernel
theorem dd_mo_begin_5 : decode by_mo_begin 5 = .ok (.getfield 59, 3) := by decide +kernel
theorem dd_mo_begin_8 : decode by_mo_begin 8 = .ok (.iload_n 1, 1) := by decide +kernel
theorem dd_mo_begin_9 : decode by_mo_begin 9 = .ok (.iconst 0, 1) := by decide +kernel
theorem dd_mo_begin_10 : decode by_mo_begin 10 = .ok (.iastore, 1) := by decide +kernel
theorem dd_mo_begin_11 : decode by_mo_begin 11 = .ok (.aload_n 0, 1) := by decide +kernel
theorem dd_mo_begin_12 : decode by_mo_begin 12 = .ok (.getfield 69, 3) := by decide +kernel
theorem dd_mo_begin_15 : decode by_mo_begin 15 = .ok (.iload_n 1, 1) := by decide +kernel
theorem dd_mo_begin_16 : decode by_mo_begin 16 = .ok (.iconst 0, 1) := by decide +kernel
theorem dd_mo_begin_17 : decode by_mo_begin 17 = .ok (.iastore, 1) := by decide +kernel
theorem dd_mo_begin_18 : decode by_mo_begin 18 = .ok (.iconst 0, 1) := by decide +kernel
theorem dd_mo_begin_19 : decode by_mo_begin 19 = .ok (.istore_n 3, 1) := by decide +kernel
theorem dd_mo_begin_20 : decode by_mo_begin 20 = .ok (.iload_n 3, 1) := by decide +kernel
theorem dd_mo_begin_21 : decode by_mo_begin 21 = .ok (.bipush 10, 2) := by decide +kernel
theorem dd_mo_begin_23 : decode by_mo_begin 23 = .ok (.if_icmp .ge 21, 3) := by decide +kernel
theorem dd_mo_begin_26 : decode by_mo_begin 26 = .ok (.aload_n 0, 1) := by decide +kernel
theorem dd_mo_begin_27 : decode by_mo_begin 27 = .ok (.getfield 62, 3) := by decide +kernel
theorem dd_mo_begin_30 : decode by_mo_begin 30 = .ok (.bipush 10, 2) := by decide +kernel
theorem dd_mo_begin_32 : decode by_mo_begin 32 = .ok (.iload_n 1, 1) := by decide +kernel
theorem dd_mo_begin_33 : decode by_mo_begin 33 = .ok (.imul, 1) := by decide +kernel
theorem dd_mo_begin_34 : decode by_mo_begin 34 = .ok (.iload_n 3, 1) := by decide +kernel
theorem dd_mo_begin_35 : decode by_mo_begin 35 = .ok (.iadd, 1) := by decide +kernel
theorem dd_mo_begin_36 : decode by_mo_begin 36 = .ok (.lconst 0, 1) := by decide +kernel
theorem dd_mo_begin_37 : decode by_mo_begin 37 = .ok (.lastore, 1) := by decide +kernel
theorem dd_mo_begin_38 : decode by_mo_begin 38 = .ok (.iinc 3 1, 3) := by decide +kernel
theorem dd_mo_begin_41 : decode by_mo_begin 41 = .ok (.goto (-21), 3) := by decide +kernel
theorem dd_mo_begin_44 : decode by_mo_begin 44 = .ok (.aload_n 0, 1) := by decide +kernel
theorem dd_mo_begin_45 : decode by_mo_begin 45 = .ok (.getfield 62, 3) := by decide +kernel
theorem dd_mo_begin_48 : decode by_mo_begin 48 = .ok (.bipush 10, 2) := by decide +kernel
theorem dd_mo_begin_50 : decode by_mo_begin 50 = .ok (.iload_n 1, 1) := by decide +kernel
theorem dd_mo_begin_51 : decode by_mo_begin 51 = .ok (.imul, 1) := by decide +kernel
theorem dd_mo_begin_52 : decode by_mo_begin 52 = .ok (.iconst 1, 1) := by decide +kernel
theorem dd_mo_begin_53 : decode by_mo_begin 53 = .ok (.iadd, 1) := by decide +kernel
theorem dd_mo_begin_54 : decode by_mo_begin 54 = .ok (.ldc2_w 117, 3) := by decide +kernel
theorem dd_mo_begin_57 : decode by_mo_begin 57 = .ok (.lastore, 1) := by decide +kernel
theorem dd_mo_begin_58 : decode by_mo_begin 58 = .ok (.aload_n 0, 1) := by decide +kernel
theorem dd_mo_begin_59 : decode by_mo_begin 59 = .ok (.getfield 62, 3) := by decide +kernel
theorem dd_mo_begin_62 : decode by_mo_begin 62 = .ok (.bipush 10, 2) := by decide +kernel
theorem dd_mo_begin_64 : decode by_mo_begin 64 = .ok (.iload_n 1, 1) := by decide +kernel
theorem dd_mo_begin_65 : decode by_mo_begin 65 = .ok (.imul, 1) := by decide +kernel
theorem dd_mo_begin_66 : decode by_mo_begin 66 = .ok (.iconst 2, 1) := by decide +kernel
theorem dd_mo_begin_67 : decode by_mo_begin 67 = .ok (.iadd, 1) := by decide +kernel
theorem dd_mo_begin_68 : decode by_mo_begin 68 = .ok (.aload_n 0, 1) := by decide +kernel
theorem dd_mo_begin_69 : decode by_mo_begin 69 = .ok (.getfield 50, 3) := by decide +kernel
theorem dd_mo_begin_72 : decode by_mo_begin 72 = .ok (.iload_n 2, 1) := by decide +kernel
theorem dd_mo_begin_73 : decode by_mo_begin 73 = .ok (.iaload, 1) := by decide +kernel
theorem dd_mo_begin_74 : decode by_mo_begin 74 = .ok (.i2l, 1) := by decide +kernel
theorem dd_mo_begin_75 : decode by_mo_begin 75 = .ok (.lastore, 1) := by decide +kernel
theorem dd_mo_begin_76 : decode by_mo_begin 76 = .ok (.aload_n 0, 1) := by decide +kernel
theorem dd_mo_begin_77 : decode by_mo_begin 77 = .ok (.getfield 62, 3) := by decide +kernel
theorem dd_mo_begin_80 : decode by_mo_begin 80 = .ok (.bipush 10, 2) := by decide +kernel
theorem dd_mo_begin_82 : decode by_mo_begin 82 = .ok (.iload_n 1, 1) := by decide +kernel
theorem dd_mo_begin_83 : decode by_mo_begin 83 = .ok (.imul, 1) := by decide +kernel
theorem dd_mo_begin_84 : decode by_mo_begin 84 = .ok (.iconst 3, 1) := by decide +kernel
theorem dd_mo_begin_85 : decode by_mo_begin 85 = .ok (.iadd, 1) := by decide +kernel
theorem dd_mo_begin_86 : decode by_mo_begin 86 = .ok (.aload_n 0, 1) := by decide +kernel
theorem dd_mo_begin_87 : decode by_mo_begin 87 = .ok (.getfield 47, 3) := by decide +kernel
theorem dd_mo_begin_90 : decode by_mo_begin 90 = .ok (.iload_n 2, 1) := by decide +kernel
theorem dd_mo_begin_91 : decode by_mo_begin 91 = .ok (.iaload, 1) := by decide +kernel
theorem dd_mo_begin_92 : decode by_mo_begin 92 = .ok (.i2l, 1) := by decide +kernel
theorem dd_mo_begin_93 : decode by_mo_begin 93 = .ok (.lastore, 1) := by decide +kernel
theorem dd_mo_begin_94 : decode by_mo_begin 94 = .ok (.iconst 0, 1) := by decide +kernel
theorem dd_mo_begin_95 : decode by_mo_begin 95 = .ok (.istore_n 3, 1) := by decide +kernel
theorem dd_mo_begin_96 : decode by_mo_begin 96 = .ok (.iload_n 3, 1) := by decide +kernel
theorem dd_mo_begin_97 : decode by_mo_begin 97 = .ok (.bipush 16, 2) := by decide +kernel
theorem dd_mo_begin_99 : decode by_mo_begin 99 = .ok (.if_icmp .ge 21, 3) := by decide +kernel
theorem dd_mo_begin_102 : decode by_mo_begin 102 = .ok (.aload_n 0, 1) := by decide +kernel
theorem dd_mo_begin_103 : decode by_mo_begin 103 = .ok (.getfield 72, 3) := by decide +kernel
theorem dd_mo_begin_106 : decode by_mo_begin 106 = .ok (.bipush 16, 2) := by decide +kernel
theorem dd_mo_begin_108 : decode by_mo_begin 108 = .ok (.iload_n 1, 1) := by decide +kernel
theorem dd_mo_begin_109 : decode by_mo_begin 109 = .ok (.imul, 1) := by decide +kernel
theorem dd_mo_begin_110 : decode by_mo_begin 110 = .ok (.iload_n 3, 1) := by decide +kernel
theorem dd_mo_begin_111 : decode by_mo_begin 111 = .ok (.iadd, 1) := by decide +kernel
theorem dd_mo_begin_112 : decode by_mo_begin 112 = .ok (.lconst 0, 1) := by decide +kernel
theorem dd_mo_begin_113 : decode by_mo_begin 113 = .ok (.lastore, 1) := by decide +kernel
theorem dd_mo_begin_114 : decode by_mo_begin 114 = .ok (.iinc 3 1, 3) := by decide +kernel
theorem dd_mo_begin_117 : decode by_mo_begin 117 = .ok (.goto (-21), 3) := by decide +kernel
theorem dd_mo_begin_120 : decode by_mo_begin 120 = .ok (.iconst 0, 1) := by decide +kernel
theorem dd_mo_begin_121 : decode by_mo_begin 121 = .ok (.istore_n 3, 1) := by decide +kernel
theorem dd_mo_begin_122 : decode by_mo_begin 122 = .ok (.iload_n 3, 1) := by decide +kernel
theorem dd_mo_begin_123 : decode by_mo_begin 123 = .ok (.bipush 40, 2) := by decide +kernel
theorem dd_mo_begin_125 : decode by_mo_begin 125 = .ok (.if_icmp .ge 21, 3) := by decide +kernel
theorem dd_mo_begin_128 : decode by_mo_begin 128 = .ok (.aload_n 0, 1) := by decide +kernel
theorem dd_mo_begin_129 : decode by_mo_begin 129 = .ok (.getfield 75, 3) := by decide +kernel
theorem dd_mo_begin_132 : decode by_mo_begin 132 = .ok (.bipush 40, 2) := by decide +kernel
theorem dd_mo_begin_134 : decode by_mo_begin 134 = .ok (.iload_n 1, 1) := by decide +kernel
theorem dd_mo_begin_135 : decode by_mo_begin 135 = .ok (.imul, 1) := by decide +kernel
theorem dd_mo_begin_136 : decode by_mo_begin 136 = .ok (.iload_n 3, 1) := by decide +kernel
theorem dd_mo_begin_137 : decode by_mo_begin 137 = .ok (.iadd, 1) := by decide +kernel
theorem dd_mo_begin_138 : decode by_mo_begin 138 = .ok (.lconst 0, 1) := by decide +kernel
theorem dd_mo_begin_139 : decode by_mo_begin 139 = .ok (.lastore, 1) := by decide +kernel
theorem dd_mo_begin_140 : decode by_mo_begin 140 = .ok (.iinc 3 1, 3) := by decide +kernel
theorem dd_mo_begin_143 : decode by_mo_begin 143 = .ok (.goto (-21), 3) := by decide +kernel
theorem dd_mo_begin_146 : decode by_mo_begin 146 = .ok (.iconst 0, 1) := by decide +kernel
theorem dd_mo_begin_147 : decode by_mo_begin 147 = .ok (.istore_n 3, 1) := by decide +kernel
theorem dd_mo_begin_148 : decode by_mo_begin 148 = .ok (.iload_n 3, 1) := by decide +kernel
theorem dd_mo_begin_149 : decode by_mo_begin 149 = .ok (.aload_n 0, 1) := by decide +kernel
theorem dd_mo_begin_150 : decode by_mo_begin 150 = .ok (.getfield 50, 3) := by decide +kernel
theorem dd_mo_begin_153 : decode by_mo_begin 153 = .ok (.iload_n 2, 1) := by decide +kernel
theorem dd_mo_begin_154 : decode by_mo_begin 154 = .ok (.iaload, 1) := by decide +kernel
theorem dd_mo_begin_155 : decode by_mo_begin 155 = .ok (.if_icmp .ge 105, 3) := by decide +kernel
theorem dd_mo_begin_158 : decode by_mo_begin 158 = .ok (.aload_n 0, 1) := by decide +kernel
theorem dd_mo_begin_159 : decode by_mo_begin 159 = .ok (.getfield 53, 3) := by decide +kernel
theorem dd_mo_begin_162 : decode by_mo_begin 162 = .ok (.iconst 4, 1) := by decide +kernel
theorem dd_mo_begin_163 : decode by_mo_begin 163 = .ok (.iload_n 2, 1) := by decide +kernel
theorem dd_mo_begin_164 : decode by_mo_begin 164 = .ok (.imul, 1) := by decide +kernel
theorem dd_mo_begin_165 : decode by_mo_begin 165 = .ok (.iload_n 3, 1) := by decide +kernel
theorem dd_mo_begin_166 : decode by_mo_begin 166 = .ok (.iadd, 1) := by decide +kernel
theorem dd_mo_begin_167 : decode by_mo_begin 167 = .ok (.iaload, 1) := by decide +kernel
theorem dd_mo_begin_168 : decode by_mo_begin 168 = .ok (.istore 4, 2) := by decide +kernel
theorem dd_mo_begin_170 : decode by_mo_begin 170 = .ok (.aload_n 0, 1) := by decide +kernel
theorem dd_mo_begin_171 : decode by_mo_begin 171 = .ok (.iload_n 2, 1) := by decide +kernel
theorem dd_mo_begin_172 : decode by_mo_begin 172 = .ok (.iload_n 3, 1) := by decide +kernel
theorem dd_mo_begin_173 : decode by_mo_begin 173 = .ok (.invokevirtual 114, 3) := by decide +kernel
theorem dd_mo_begin_176 : decode by_mo_begin 176 = .ok (.iload_n 3, 1) := by decide +kernel
theorem dd_mo_begin_177 : decode by_mo_begin 177 = .ok (.if_icmp .ne 7, 3) := by decide +kernel
theorem dd_mo_begin_180 : decode by_mo_begin 180 = .ok (.iconst 1, 1) := by decide +kernel
theorem dd_mo_begin_181 : decode by_mo_begin 181 = .ok (.goto 4, 3) := by decide +kernel
theorem dd_mo_begin_184 : decode by_mo_begin 184 = .ok (.iconst 0, 1) := by decide +kernel
theorem dd_mo_begin_185 : decode by_mo_begin 185 = .ok (.istore 5, 2) := by decide +kernel
theorem dd_mo_begin_187 : decode by_mo_begin 187 = .ok (.aload_n 0, 1) := by decide +kernel
theorem dd_mo_begin_188 : decode by_mo_begin 188 = .ok (.getfield 75, 3) := by decide +kernel
theorem dd_mo_begin_191 : decode by_mo_begin 191 = .ok (.bipush 40, 2) := by decide +kernel
theorem dd_mo_begin_193 : decode by_mo_begin 193 = .ok (.iload_n 1, 1) := by decide +kernel
theorem dd_mo_begin_194 : decode by_mo_begin 194 = .ok (.imul, 1) := by decide +kernel
theorem dd_mo_begin_195 : decode by_mo_begin 195 = .ok (.bipush 10, 2) := by decide +kernel
theorem dd_mo_begin_197 : decode by_mo_begin 197 = .ok (.iload_n 3, 1) := by decide +kernel
theorem dd_mo_begin_198 : decode by_mo_begin 198 = .ok (.imul, 1) := by decide +kernel
theorem dd_mo_begin_199 : decode by_mo_begin 199 = .ok (.iadd, 1) := by decide +kernel
theorem dd_mo_begin_200 : decode by_mo_begin 200 = .ok (.iload 5, 2) := by decide +kernel
theorem dd_mo_begin_202 : decode by_mo_begin 202 = .ok (.ifCond .eq 9, 3) := by decide +kernel
theorem dd_mo_begin_205 : decode by_mo_begin 205 = .ok (.iload 4, 2) := by decide +kernel
theorem dd_mo_begin_207 : decode by_mo_begin 207 = .ok (.i2l, 1) := by decide +kernel
theorem dd_mo_begin_208 : decode by_mo_begin 208 = .ok (.goto 12, 3) := by decide +kernel
theorem dd_mo_begin_211 : decode by_mo_begin 211 = .ok (.iconst (-1), 1) := by decide +kernel
theorem dd_mo_begin_212 : decode by_mo_begin 212 = .ok (.aload_n 0, 1) := by decide +kernel
theorem dd_mo_begin_213 : decode by_mo_begin 213 = .ok (.iload_n 2, 1) := by decide +kernel
theorem dd_mo_begin_214 : decode by_mo_begin 214 = .ok (.iload_n 3, 1) := by decide +kernel
theorem dd_mo_begin_215 : decode by_mo_begin 215 = .ok (.invokevirtual 114, 3) := by decide +kernel
theorem dd_mo_begin_218 : decode by_mo_begin 218 = .ok (.isub, 1) := by decide +kernel
theorem dd_mo_begin_219 : decode by_mo_begin 219 = .ok (.i2l, 1) := by decide +kernel
theorem dd_mo_begin_220 : decode by_mo_begin 220 = .ok (.lastore, 1) := by decide +kernel
theorem dd_mo_begin_221 : decode by_mo_begin 221 = .ok (.aload_n 0, 1) := by decide +kernel
theorem dd_mo_begin_222 : decode by_mo_begin 222 = .ok (.getfield 75, 3) := by decide +kernel
theorem dd_mo_begin_225 : decode by_mo_begin 225 = .ok (.bipush 40, 2) := by decide +kernel
theorem dd_mo_begin_227 : decode by_mo_begin 227 = .ok (.iload_n 1, 1) := by decide +kernel
theorem dd_mo_begin_228 : decode by_mo_begin 228 = .ok (.imul, 1) := by decide +kernel
theorem dd_mo_begin_229 : decode by_mo_begin 229 = .ok (.bipush 10, 2) := by decide +kernel
theorem dd_mo_begin_231 : decode by_mo_begin 231 = .ok (.iload_n 3, 1) := by decide +kernel
theorem dd_mo_begin_232 : decode by_mo_begin 232 = .ok (.imul, 1) := by decide +kernel
theorem dd_mo_begin_233 : decode by_mo_begin 233 = .ok (.iadd, 1) := by decide +kernel
theorem dd_mo_begin_234 : decode by_mo_begin 234 = .ok (.iconst 1, 1) := by decide +kernel
theorem dd_mo_begin_235 : decode by_mo_begin 235 = .ok (.iadd, 1) := by decide +kernel
theorem dd_mo_begin_236 : decode by_mo_begin 236 = .ok (.iload 5, 2) := by decide +kernel
theorem dd_mo_begin_238 : decode by_mo_begin 238 = .ok (.ifCond .eq 14, 3) := by decide +kernel
theorem dd_mo_begin_241 : decode by_mo_begin 241 = .ok (.aload_n 0, 1) := by decide +kernel
theorem dd_mo_begin_242 : decode by_mo_begin 242 = .ok (.iload_n 2, 1) := by decide +kernel
theorem dd_mo_begin_243 : decode by_mo_begin 243 = .ok (.iload 4, 2) := by decide +kernel
theorem dd_mo_begin_245 : decode by_mo_begin 245 = .ok (.invokevirtual 111, 3) := by decide +kernel
theorem dd_mo_begin_248 : decode by_mo_begin 248 = .ok (.i2l, 1) := by decide +kernel
theorem dd_mo_begin_249 : decode by_mo_begin 249 = .ok (.goto 4, 3) := by decide +kernel
theorem dd_mo_begin_252 : decode by_mo_begin 252 = .ok (.lconst 0, 1) := by decide +kernel
theorem dd_mo_begin_253 : decode by_mo_begin 253 = .ok (.lastore, 1) := by decide +kernel
theorem dd_mo_begin_254 : decode by_mo_begin 254 = .ok (.iinc 3 1, 3) := by decide +kernel
theorem dd_mo_begin_257 : decode by_mo_begin 257 = .ok (.goto (-109), 3) := by decide +kernel
theorem dd_mo_begin_260 : decode by_mo_begin 260 = .ok (.aload_n 0, 1) := by decide +kernel
theorem dd_mo_begin_261 : decode by_mo_begin 261 = .ok (.iload_n 1, 1) := by decide +kernel
theorem dd_mo_begin_262 : decode by_mo_begin 262 = .ok (.invokevirtual 119, 3) := by decide +kernel
theorem dd_mo_begin_265 : decode by_mo_begin 265 = .ok (.return_, 1) := by decide +kernel
def mo_begin_b253 (K148 : gw_M → Nat → Int32 → Int32 → Int32 → Option (Unit × gw_M)) (M : gw_M) (a0 : Nat) (v1 : Int32) (v2 : Int32) (v3 : Int32) (t0 : Int64) (t1 : Int32) (b2 : Nat) : Option (Unit × gw_M) :=
  gw_gu (gw_in t1 200) (gw_lt (gw_sL M b2 t1.toNatClampNeg t0) (fun M253 => K148 M253 a0 v1 v2 (v3 + (1 : Int32))))
def mo_begin_b220 (K148 : gw_M → Nat → Int32 → Int32 → Int32 → Option (Unit × gw_M)) (M : gw_M) (a0 : Nat) (v1 : Int32) (v2 : Int32) (v3 : Int32) (v4 : Int32) (v5 : Int32) (t0 : Int64) (t1 : Int32) (b2 : Nat) : Option (Unit × gw_M) :=
  gw_gu (gw_in t1 200) (gw_lt (gw_sL M b2 t1.toNatClampNeg t0) (fun M220 => if v5 = (0 : Int32) then (mo_begin_b253 K148 M220 a0 v1 v2 v3 (0 : Int64) ((((40 : Int32) * v1) + ((10 : Int32) * v3)) + (1 : Int32)) (a0 + 22)) else (gw_bd (mo_marksOf_b0 M220 a0 v2 v4) (fun r245 M245 => mo_begin_b253 K148 M245 a0 v1 v2 v3 r245.toInt64 ((((40 : Int32) * v1) + ((10 : Int32) * v3)) + (1 : Int32)) (a0 + 22)))))
def mo_begin_b185 (K148 : gw_M → Nat → Int32 → Int32 → Int32 → Option (Unit × gw_M)) (M : gw_M) (a0 : Nat) (v1 : Int32) (v2 : Int32) (v3 : Int32) (v4 : Int32) (t0 : Int32) : Option (Unit × gw_M) :=
  if t0 = (0 : Int32) then (gw_bd (mo_mainOf_b0 M a0 v2 v3) (fun r215 M215 => mo_begin_b220 K148 M215 a0 v1 v2 v3 v4 t0 (((-1 : Int32) - r215).toInt64) (((40 : Int32) * v1) + ((10 : Int32) * v3)) (a0 + 22))) else (mo_begin_b220 K148 M a0 v1 v2 v3 v4 t0 v4.toInt64 (((40 : Int32) * v1) + ((10 : Int32) * v3)) (a0 + 22))
def mo_begin_b148 (K148 : gw_M → Nat → Int32 → Int32 → Int32 → Option (Unit × gw_M)) (M : gw_M) (a0 : Nat) (v1 : Int32) (v2 : Int32) (v3 : Int32) : Option (Unit × gw_M) :=
  gw_gu (gw_in v2 9) (if (M.1 (a0 + 14) v2.toNatClampNeg) ≤ v3 then (gw_bd (mo_layOut_b0 M a0 v1) (fun _ M262 => some ((), M262))) else (gw_gu (gw_in (((4 : Int32) * v2) + v3) 36) (gw_lt (M.1 (a0 + 15) ((((4 : Int32) * v2) + v3).toNatClampNeg)) (fun x168 => gw_bd (mo_mainOf_b0 M a0 v2 v3) (fun r173 M173 => if r173 = v3 then (mo_begin_b185 K148 M173 a0 v1 v2 v3 x168 (1 : Int32)) else (mo_begin_b185 K148 M173 a0 v1 v2 v3 x168 (0 : Int32)))))))
def mo_begin_l148 : Nat → gw_M → Nat → Int32 → Int32 → Int32 → Option (Unit × gw_M)
  | 0 => fun _ _ _ _ _ => none
  | n + 1 => mo_begin_b148  (mo_begin_l148  n)
def mo_begin_b122 (K122 : gw_M → Nat → Int32 → Int32 → Int32 → Option (Unit × gw_M)) (M : gw_M) (a0 : Nat) (v1 : Int32) (v2 : Int32) (v3 : Int32) : Option (Unit × gw_M) :=
  if (40 : Int32) ≤ v3 then (mo_begin_l148  2100 M a0 v1 v2 (0 : Int32)) else (gw_gu (gw_in (((40 : Int32) * v1) + v3) 200) (gw_lt (gw_sL M (a0 + 22) ((((40 : Int32) * v1) + v3).toNatClampNeg) (0 : Int64)) (fun M139 => K122 M139 a0 v1 v2 (v3 + (1 : Int32)))))
def mo_begin_l122 : Nat → gw_M → Nat → Int32 → Int32 → Int32 → Option (Unit × gw_M)
  | 0 => fun _ _ _ _ _ => none
  | n + 1 => mo_begin_b122  (mo_begin_l122  n)
def mo_begin_b96 (K96 : gw_M → Nat → Int32 → Int32 → Int32 → Option (Unit × gw_M)) (M : gw_M) (a0 : Nat) (v1 : Int32) (v2 : Int32) (v3 : Int32) : Option (Unit × gw_M) :=
  if (16 : Int32) ≤ v3 then (mo_begin_l122  2100 M a0 v1 v2 (0 : Int32)) else (gw_gu (gw_in (((16 : Int32) * v1) + v3) 80) (gw_lt (gw_sL M (a0 + 21) ((((16 : Int32) * v1) + v3).toNatClampNeg) (0 : Int64)) (fun M113 => K96 M113 a0 v1 v2 (v3 + (1 : Int32)))))
def mo_begin_l96 : Nat → gw_M → Nat → Int32 → Int32 → Int32 → Option (Unit × gw_M)
  | 0 => fun _ _ _ _ _ => none
  | n + 1 => mo_begin_b96  (mo_begin_l96  n)
def mo_begin_b20 (K20 : gw_M → Nat → Int32 → Int32 → Int32 → Option (Unit × gw_M)) (M : gw_M) (a0 : Nat) (v1 : Int32) (v2 : Int32) (v3 : Int32) : Option (Unit × gw_M) :=
  if (10 : Int32) ≤ v3 then (gw_gu (gw_in (((10 : Int32) * v1) + (1 : Int32)) 50) (gw_lt (gw_sL M (a0 + 18) ((((10 : Int32) * v1) + (1 : Int32)).toNatClampNeg) (2000 : Int64)) (fun M57 => gw_gu (gw_in v2 9) (gw_gu (gw_in (((10 : Int32) * v1) + (2 : Int32)) 50) (gw_lt (gw_sL M57 (a0 + 18) ((((10 : Int32) * v1) + (2 : Int32)).toNatClampNeg) ((M57.1 (a0 + 14) v2.toNatClampNeg).toInt64)) (fun M75 => gw_gu (gw_in v2 9) (gw_gu (gw_in (((10 : Int32) * v1) + (3 : Int32)) 50) (gw_lt (gw_sL M75 (a0 + 18) ((((10 : Int32) * v1) + (3 : Int32)).toNatClampNeg) ((M75.1 (a0 + 13) v2.toNatClampNeg).toInt64)) (fun M93 => mo_begin_l96  2100 M93 a0 v1 v2 (0 : Int32)))))))))) else (gw_gu (gw_in (((10 : Int32) * v1) + v3) 50) (gw_lt (gw_sL M (a0 + 18) ((((10 : Int32) * v1) + v3).toNatClampNeg) (0 : Int64)) (fun M37 => K20 M37 a0 v1 v2 (v3 + (1 : Int32)))))
def mo_begin_l20 : Nat → gw_M → Nat → Int32 → Int32 → Int32 → Option (Unit × gw_M)
  | 0 => fun _ _ _ _ _ => none
  | n + 1 => mo_begin_b20  (mo_begin_l20  n)
def mo_begin_b0 (M : gw_M) (a0 : Nat) (v1 : Int32) : Option (Unit × gw_M) :=
  gw_lt ((3 : Int32) + v1) (fun x3 => gw_gu (gw_in v1 5) (gw_lt (gw_sI M (a0 + 17) v1.toNatClampNeg (0 : Int32)) (fun M10 => gw_gu (gw_in v1 5) (gw_lt (gw_sI M10 (a0 + 20) v1.toNatClampNeg (0 : Int32)) (fun M17 => mo_begin_l20  2100 M17 a0 v1 x3 (0 : Int32))))))
set_option maxRecDepth 100000 in
set_option maxHeartbeats 4000000 in
theorem wb_mo_begin_253 {p : Program} {l : Launch} {e : Env} {s : State} {m : MethodId} {args : Array Value} {below : List Frame} {meth : Method} {c : Code} {X : gw_X} {Y : gw_M} {z : (Unit × gw_M)} (C0 : gw_C ((Cond.code yy_mo_begin by_mo_begin 6 none) :: gw_w) by_mo_begin 6 none "AccountMachineModel" X p s m args meth c) {K148 : gw_M → Nat → Int32 → Int32 → Int32 → Option (Unit × gw_M)} (hK148 : ∀ (M : gw_M) (a0 : Nat) (v1 : Int32) (v2 : Int32) (v3 : Int32) (H : Heap) (locs : List Loc) (ls : Array Slot), gr_k a0 = (11, 0) → gw_G X (gw_E X Y M) s H locs → lv_has ls 6 [(0, .ref (gr_a X a0)), (1, .int v1), (2, .int v2), (3, .int v3)] → K148 M a0 v1 v2 v3 = some z → W p l e rm_mo_begin s m args below meth c H locs 0 0 (MQ below (gw_Qv X (fun M => (gw_E X Y M)) z) args s 0 0 (gw_A X)) (F0 m 148 ls [])) (M : gw_M) (a0 : Nat) (v1 : Int32) (v2 : Int32) (v3 : Int32) (t0 : Int64) (t1 : Int32) (b2 : Nat) (H : Heap) (locs : List Loc) (ls : Array Slot) (ha0 : gr_k a0 = (11, 0)) (hb2 : gr_k b2 = (1, 200)) (G : gw_G X (gw_E X Y M) s H locs) (hl : lv_has ls 6 [(0, .ref (gr_a X a0)), (1, .int v1), (2, .int v2), (3, .int v3)]) (hF : mo_begin_b253 K148 M a0 v1 v2 v3 t0 t1 b2 = some z) : W p l e rm_mo_begin s m args below meth c H locs 0 0 (MQ below (gw_Qv X (fun M => (gw_E X Y M)) z) args s 0 0 (gw_A X)) (F0 m 253 ls [.long t0, .int t1, .ref (gr_a X b2)]) := by
  obtain ⟨hx, hb, hml, hown, hts, hr, hlocks, hK⟩ := id C0
  have hg : ∀ w ∈ gw_w, w.before args s = true := fun w h => hts w (List.mem_cons_of_mem _ h)
  unfold mo_begin_b253 at hF
  obtain ⟨h253, hF⟩ := gw_gd hF
  refine gr_last hx hb hK G hb2 (gw_vp h253) (j := t1.toNatClampNeg) rfl dd_mo_begin_253 (fun M253 H locs e253 G => ?_)
  replace hF := gw_ly e253 hF
  refine lv_iinc (k := 3) (v := v3 + (1 : Int32)) (lv' := [(3, .int (v3 + (1 : Int32))), (0, .ref (gr_a X a0)), (1, .int v1), (2, .int v2)]) hx hb dd_mo_begin_254 hl rfl rfl (by decide) rfl (fun ls hl => ?_)
  refine lv_goto (tgt := 148) hx hb dd_mo_begin_257 (by decide) ?_
  exact hK148 M253 a0 v1 v2 (v3 + (1 : Int32)) _ _ _ ha0 G (lv_sub hl [1, 2, 3, 0] rfl) hF
set_option maxRecDepth 100000 in
set_option maxHeartbeats 4000000 in
theorem wb_mo_begin_220 {p : Program} {l : Launch} {e : Env} {s : State} {m : MethodId} {args : Array Value} {below : List Frame} {meth : Method} {c : Code} {X : gw_X} {Y : gw_M} {z : (Unit × gw_M)} (C0 : gw_C ((Cond.code yy_mo_begin by_mo_begin 6 none) :: gw_w) by_mo_begin 6 none "AccountMachineModel" X p s m args meth c) {K148 : gw_M → Nat → Int32 → Int32 → Int32 → Option (Unit × gw_M)} (hK148 : ∀ (M : gw_M) (a0 : Nat) (v1 : Int32) (v2 : Int32) (v3 : Int32) (H : Heap) (locs : List Loc) (ls : Array Slot), gr_k a0 = (11, 0) → gw_G X (gw_E X Y M) s H locs → lv_has ls 6 [(0, .ref (gr_a X a0)), (1, .int v1), (2, .int v2), (3, .int v3)] → K148 M a0 v1 v2 v3 = some z → W p l e rm_mo_begin s m args below meth c H locs 0 0 (MQ below (gw_Qv X (fun M => (gw_E X Y M)) z) args s 0 0 (gw_A X)) (F0 m 148 ls [])) (M : gw_M) (a0 : Nat) (v1 : Int32) (v2 : Int32) (v3 : Int32) (v4 : Int32) (v5 : Int32) (t0 : Int64) (t1 : Int32) (b2 : Nat) (H : Heap) (locs : List Loc) (ls : Array Slot) (ha0 : gr_k a0 = (11, 0)) (hb2 : gr_k b2 = (1, 200)) (G : gw_G X (gw_E X Y M) s H locs) (hl : lv_has ls 6 [(0, .ref (gr_a X a0)), (1, .int v1), (2, .int v2), (3, .int v3), (4, .int v4), (5, .int v5)]) (hF : mo_begin_b220 K148 M a0 v1 v2 v3 v4 v5 t0 t1 b2 = some z) : W p l e rm_mo_begin s m args below meth c H locs 0 0 (MQ below (gw_Qv X (fun M => (gw_E X Y M)) z) args s 0 0 (gw_A X)) (F0 m 220 ls [.long t0, .int t1, .ref (gr_a X b2)]) := by
  obtain ⟨hx, hb, hml, hown, hts, hr, hlocks, hK⟩ := id C0
  have hg : ∀ w ∈ gw_w, w.before args s = true := fun w h => hts w (List.mem_cons_of_mem _ h)
  unfold mo_begin_b220 at hF
  obtain ⟨h220, hF⟩ := gw_gd hF
  refine gr_last hx hb hK G hb2 (gw_vp h220) (j := t1.toNatClampNeg) rfl dd_mo_begin_220 (fun M220 H locs e220 G => ?_)
  replace hF := gw_ly e220 hF
  refine lv_aload_n hx hb dd_mo_begin_221 rfl (lv_at hl 0 rfl) ?_
  refine gf_mo_seen hx hb hg hown (hg _ kw_285) hK G ha0 dd_mo_begin_222 ?_
  refine lv_bipush (v := (40 : Int32)) hx hb dd_mo_begin_225 (by decide) ?_
  refine lv_iload_n hx hb dd_mo_begin_227 rfl (lv_at hl 1 rfl) ?_
  refine lv_imul hx hb dd_mo_begin_228 ?_
  refine lv_bipush (v := (10 : Int32)) hx hb dd_mo_begin_229 (by decide) ?_
  refine lv_iload_n hx hb dd_mo_begin_231 rfl (lv_at hl 3 rfl) ?_
  refine lv_imul hx hb dd_mo_begin_232 ?_
  refine W.eq (g2 := F0 m 233 _ _) rfl ?_
  refine lv_iadd hx hb dd_mo_begin_233 ?_
  refine lv_iconst (v := (1 : Int32)) hx hb dd_mo_begin_234 (by decide) ?_
  refine lv_iadd hx hb dd_mo_begin_235 ?_
  refine lv_iload hx hb dd_mo_begin_236 (lv_at hl 5 rfl) ?_
  refine lv_if_eq (tgt := 252) hx hb dd_mo_begin_238 (by decide) (fun h238 => ?_) (fun h238 => ?_)
  · replace hF := gw_et h238 hF
    refine lv_lconst (v := (0 : Int64)) hx hb dd_mo_begin_252 (by decide) ?_
    exact wb_mo_begin_253 C0 hK148 M220 a0 v1 v2 v3 (0 : Int64) ((((40 : Int32) * v1) + ((10 : Int32) * v3)) + (1 : Int32)) (a0 + 22) _ _ _ ha0 (gq_mo_seen ha0) G (lv_sub hl [0, 1, 2, 3] rfl) hF
  · replace hF := gw_ef h238 hF
    refine lv_aload_n hx hb dd_mo_begin_241 rfl (lv_at hl 0 rfl) ?_
    refine lv_iload_n hx hb dd_mo_begin_242 rfl (lv_at hl 2 rfl) ?_
    refine lv_iload hx hb dd_mo_begin_243 (lv_at hl 4 rfl) ?_
    obtain ⟨r245, M245, hc245, hF⟩ := gw_be hF
    refine gw_ci G (va_runV (As := [.int v2, .int v4]) (rest := [.int ((((40 : Int32) * v1) + ((10 : Int32) * v3)) + (1 : Int32)), .ref (gr_a X (a0 + 22))]) ⟨hx, hb, hml, hown, hts⟩ (ct_mo_marksOf l X Y M220 a0 v2 v4 ha0 _ hc245) (cwV 2 hts (gw_gV kw_282 kw_283 kw_284 kw_253 kw_281) rfl rfl rfl (by decide +kernel) ⟨Nat.le_of_ble_eq_true rfl, Nat.le_of_ble_eq_true rfl⟩) ⟨gw_blind, gw_recv_mo hK G ha0, gw_pre hK G⟩ rfl rfl hl.1 rfl (Nat.le_of_ble_eq_true rfl) dd_mo_begin_245 ⟨Nat.le_of_ble_eq_true rfl, Nat.le_of_ble_eq_true rfl⟩) (fun H locs G => ?_)
    refine lv_i2l (v := r245.toInt64) hx hb dd_mo_begin_248 rfl ?_
    refine lv_goto (tgt := 253) hx hb dd_mo_begin_249 (by decide) ?_
    exact wb_mo_begin_253 C0 hK148 M245 a0 v1 v2 v3 r245.toInt64 ((((40 : Int32) * v1) + ((10 : Int32) * v3)) + (1 : Int32)) (a0 + 22) _ _ _ ha0 (gq_mo_seen ha0) G (lv_sub hl [0, 1, 2, 3] rfl) hF
set_option maxRecDepth 100000 in
set_option maxHeartbeats 4000000 in
theorem wb_mo_begin_185 {p : Program} {l : Launch} {e : Env} {s : State} {m : MethodId} {args : Array Value} {below : List Frame} {meth : Method} {c : Code} {X : gw_X} {Y : gw_M} {z : (Unit × gw_M)} (C0 : gw_C ((Cond.code yy_mo_begin by_mo_begin 6 none) :: gw_w) by_mo_begin 6 none "AccountMachineModel" X p s m args meth c) {K148 : gw_M → Nat → Int32 → Int32 → Int32 → Option (Unit × gw_M)} (hK148 : ∀ (M : gw_M) (a0 : Nat) (v1 : Int32) (v2 : Int32) (v3 : Int32) (H : Heap) (locs : List Loc) (ls : Array Slot), gr_k a0 = (11, 0) → gw_G X (gw_E X Y M) s H locs → lv_has ls 6 [(0, .ref (gr_a X a0)), (1, .int v1), (2, .int v2), (3, .int v3)] → K148 M a0 v1 v2 v3 = some z → W p l e rm_mo_begin s m args below meth c H locs 0 0 (MQ below (gw_Qv X (fun M => (gw_E X Y M)) z) args s 0 0 (gw_A X)) (F0 m 148 ls [])) (M : gw_M) (a0 : Nat) (v1 : Int32) (v2 : Int32) (v3 : Int32) (v4 : Int32) (t0 : Int32) (H : Heap) (locs : List Loc) (ls : Array Slot) (ha0 : gr_k a0 = (11, 0)) (G : gw_G X (gw_E X Y M) s H locs) (hl : lv_has ls 6 [(0, .ref (gr_a X a0)), (1, .int v1), (2, .int v2), (3, .int v3), (4, .int v4)]) (hF : mo_begin_b185 K148 M a0 v1 v2 v3 v4 t0 = some z) : W p l e rm_mo_begin s m args below meth c H locs 0 0 (MQ below (gw_Qv X (fun M => (gw_E X Y M)) z) args s 0 0 (gw_A X)) (F0 m 185 ls [.int t0]) := by
  obtain ⟨hx, hb, hml, hown, hts, hr, hlocks, hK⟩ := id C0
  have hg : ∀ w ∈ gw_w, w.before args s = true := fun w h => hts w (List.mem_cons_of_mem _ h)
  unfold mo_begin_b185 at hF
  refine lv_istore (i := 5) (lv' := [(5, .int t0), (0, .ref (gr_a X a0)), (1, .int v1), (2, .int v2), (3, .int v3), (4, .int v4)]) hx hb dd_mo_begin_185 hl (by decide) rfl (fun ls hl => ?_)
  refine lv_aload_n hx hb dd_mo_begin_187 rfl (lv_at hl 1 rfl) ?_
  refine gf_mo_seen hx hb hg hown (hg _ kw_285) hK G ha0 dd_mo_begin_188 ?_
  refine lv_bipush (v := (40 : Int32)) hx hb dd_mo_begin_191 (by decide) ?_
  refine lv_iload_n hx hb dd_mo_begin_193 rfl (lv_at hl 2 rfl) ?_
  refine lv_imul hx hb dd_mo_begin_194 ?_
  refine lv_bipush (v := (10 : Int32)) hx hb dd_mo_begin_195 (by decide) ?_
  refine lv_iload_n hx hb dd_mo_begin_197 rfl (lv_at hl 4 rfl) ?_
  refine lv_imul hx hb dd_mo_begin_198 ?_
  refine W.eq (g2 := F0 m 199 _ _) rfl ?_
  refine lv_iadd hx hb dd_mo_begin_199 ?_
  refine lv_iload hx hb dd_mo_begin_200 (lv_at hl 0 rfl) ?_
  refine lv_if_eq (tgt := 211) hx hb dd_mo_begin_202 (by decide) (fun h202 => ?_) (fun h202 => ?_)
  · replace hF := gw_et h202 hF
    refine lv_iconst (v := (-1 : Int32)) hx hb dd_mo_begin_211 (by decide) ?_
    refine lv_aload_n hx hb dd_mo_begin_212 rfl (lv_at hl 1 rfl) ?_
    refine lv_iload_n hx hb dd_mo_begin_213 rfl (lv_at hl 3 rfl) ?_
    refine lv_iload_n hx hb dd_mo_begin_214 rfl (lv_at hl 4 rfl) ?_
    obtain ⟨r215, M215, hc215, hF⟩ := gw_be hF
    refine gw_ci G (va_runV (As := [.int v2, .int v3]) (rest := [.int (-1 : Int32), .int (((40 : Int32) * v1) + ((10 : Int32) * v3)), .ref (gr_a X (a0 + 22))]) ⟨hx, hb, hml, hown, hts⟩ (ct_mo_mainOf l X Y M a0 v2 v3 ha0 _ hc215) (cwV 2 hts (gw_gV kw_289 kw_290 kw_291 kw_253 kw_288) rfl rfl rfl (by decide +kernel) ⟨Nat.le_of_ble_eq_true rfl, Nat.le_of_ble_eq_true rfl⟩) ⟨gw_blind, gw_recv_mo hK G ha0, gw_pre hK G⟩ rfl rfl hl.1 rfl (Nat.le_of_ble_eq_true rfl) dd_mo_begin_215 ⟨Nat.le_of_ble_eq_true rfl, Nat.le_of_ble_eq_true rfl⟩) (fun H locs G => ?_)
    refine lv_isub hx hb dd_mo_begin_218 ?_
    refine lv_i2l (v := ((-1 : Int32) - r215).toInt64) hx hb dd_mo_begin_219 rfl ?_
    exact wb_mo_begin_220 C0 hK148 M215 a0 v1 v2 v3 v4 t0 (((-1 : Int32) - r215).toInt64) (((40 : Int32) * v1) + ((10 : Int32) * v3)) (a0 + 22) _ _ _ ha0 (gq_mo_seen ha0) G (lv_sub hl [1, 2, 3, 4, 5, 0] rfl) hF
  · replace hF := gw_ef h202 hF
    refine lv_iload hx hb dd_mo_begin_205 (lv_at hl 5 rfl) ?_
    refine lv_i2l (v := v4.toInt64) hx hb dd_mo_begin_207 rfl ?_
    refine lv_goto (tgt := 220) hx hb dd_mo_begin_208 (by decide) ?_
    exact wb_mo_begin_220 C0 hK148 M a0 v1 v2 v3 v4 t0 v4.toInt64 (((40 : Int32) * v1) + ((10 : Int32) * v3)) (a0 + 22) _ _ _ ha0 (gq_mo_seen ha0) G (lv_sub hl [1, 2, 3, 4, 5, 0] rfl) hF
set_option maxRecDepth 100000 in
set_option maxHeartbeats 4000000 in
theorem wb_mo_begin_148 {p : Program} {l : Launch} {e : Env} {s : State} {m : MethodId} {args : Array Value} {below : List Frame} {meth : Method} {c : Code} {X : gw_X} {Y : gw_M} {z : (Unit × gw_M)} (C0 : gw_C ((Cond.code yy_mo_begin by_mo_begin 6 none) :: gw_w) by_mo_begin 6 none "AccountMachineModel" X p s m args meth c) {K148 : gw_M → Nat → Int32 → Int32 → Int32 → Option (Unit × gw_M)} (hK148 : ∀ (M : gw_M) (a0 : Nat) (v1 : Int32) (v2 : Int32) (v3 : Int32) (H : Heap) (locs : List Loc) (ls : Array Slot), gr_k a0 = (11, 0) → gw_G X (gw_E X Y M) s H locs → lv_has ls 6 [(0, .ref (gr_a X a0)), (1, .int v1), (2, .int v2), (3, .int v3)] → K148 M a0 v1 v2 v3 = some z → W p l e rm_mo_begin s m args below meth c H locs 0 0 (MQ below (gw_Qv X (fun M => (gw_E X Y M)) z) args s 0 0 (gw_A X)) (F0 m 148 ls [])) (M : gw_M) (a0 : Nat) (v1 : Int32) (v2 : Int32) (v3 : Int32) (H : Heap) (locs : List Loc) (ls : Array Slot) (ha0 : gr_k a0 = (11, 0)) (G : gw_G X (gw_E X Y M) s H locs) (hl : lv_has ls 6 [(0, .ref (gr_a X a0)), (1, .int v1), (2, .int v2), (3, .int v3)]) (hF : mo_begin_b148 K148 M a0 v1 v2 v3 = some z) : W p l e rm_mo_begin s m args below meth c H locs 0 0 (MQ below (gw_Qv X (fun M => (gw_E X Y M)) z) args s 0 0 (gw_A X)) (F0 m 148 ls []) := by
  obtain ⟨hx, hb, hml, hown, hts, hr, hlocks, hK⟩ := id C0
  have hg : ∀ w ∈ gw_w, w.before args s = true := fun w h => hts w (List.mem_cons_of_mem _ h)
  unfold mo_begin_b148 at hF
  refine lv_iload_n hx hb dd_mo_begin_148 rfl (lv_at hl 3 rfl) ?_
  refine lv_aload_n hx hb dd_mo_begin_149 rfl (lv_at hl 0 rfl) ?_
  refine gf_mo_slots hx hb hg hown (hg _ kw_273) hK G ha0 dd_mo_begin_150 ?_
  refine lv_iload_n hx hb dd_mo_begin_153 rfl (lv_at hl 2 rfl) ?_
  obtain ⟨h154, hF⟩ := gw_gd hF
  refine gr_iald hx hb hK G (gq_mo_slots ha0) (gw_vp h154) (j := v2.toNatClampNeg) rfl dd_mo_begin_154 ?_
  refine lv_icmp_ge (tgt := 260) hx hb dd_mo_begin_155 (by decide) (fun h155 => ?_) (fun h155 => ?_)
  · replace hF := gw_et h155 hF
    refine lv_aload_n hx hb dd_mo_begin_260 rfl (lv_at hl 0 rfl) ?_
    refine lv_iload_n hx hb dd_mo_begin_261 rfl (lv_at hl 1 rfl) ?_
    obtain ⟨u262, M262, hc262, hF⟩ := gw_be hF
    refine gw_cv G (va_runV (As := [.int v1]) (rest := []) ⟨hx, hb, hml, hown, hts⟩ (ct_mo_layOut l X Y M a0 v1 ha0 _ hc262) (cwV 1 hts (gw_gV kw_295 kw_296 kw_297 kw_253 kw_294) rfl rfl rfl (by decide +kernel) ⟨Nat.le_of_ble_eq_true rfl, Nat.le_of_ble_eq_true rfl⟩) ⟨gw_blind, gw_recv_mo hK G ha0, gw_pre hK G⟩ rfl rfl hl.1 rfl (Nat.le_of_ble_eq_true rfl) dd_mo_begin_262 ⟨Nat.le_of_ble_eq_true rfl, Nat.le_of_ble_eq_true rfl⟩) (fun H locs G => ?_)
    exact W.vret hx hb hr (fun t ht hW => gw_endv (EF := (fun M => (gw_E X Y M))) (M := M262) G ht hF) G.2.2.2.2 dd_mo_begin_265 hlocks
  · replace hF := gw_ef h155 hF
    refine lv_aload_n hx hb dd_mo_begin_158 rfl (lv_at hl 0 rfl) ?_
    refine gf_mo_slotAccount hx hb hg hown (hg _ kw_274) hK G ha0 dd_mo_begin_159 ?_
    refine lv_iconst (v := (4 : Int32)) hx hb dd_mo_begin_162 (by decide) ?_
    refine lv_iload_n hx hb dd_mo_begin_163 rfl (lv_at hl 2 rfl) ?_
    refine lv_imul hx hb dd_mo_begin_164 ?_
    refine lv_iload_n hx hb dd_mo_begin_165 rfl (lv_at hl 3 rfl) ?_
    refine lv_iadd hx hb dd_mo_begin_166 ?_
    obtain ⟨h167, hF⟩ := gw_gd hF
    refine gr_iald hx hb hK G (gq_mo_slotAccount ha0) (gw_vp h167) (j := (((4 : Int32) * v2) + v3).toNatClampNeg) rfl dd_mo_begin_167 ?_
    refine lv_topi (fun x168 e168 => ?_)
    replace hF := gw_ly e168 hF
    refine lv_istore (i := 4) (lv' := [(4, .int x168), (0, .ref (gr_a X a0)), (1, .int v1), (2, .int v2), (3, .int v3)]) hx hb dd_mo_begin_168 hl (by decide) rfl (fun ls hl => ?_)
    refine W.eq (g2 := F0 m 170 _ _) rfl ?_
    refine lv_aload_n hx hb dd_mo_begin_170 rfl (lv_at hl 1 rfl) ?_
    refine lv_iload_n hx hb dd_mo_begin_171 rfl (lv_at hl 3 rfl) ?_
    refine lv_iload_n hx hb dd_mo_begin_172 rfl (lv_at hl 4 rfl) ?_
    obtain ⟨r173, M173, hc173, hF⟩ := gw_be hF
    refine gw_ci G (va_runV (As := [.int v2, .int v3]) (rest := []) ⟨hx, hb, hml, hown, hts⟩ (ct_mo_mainOf l X Y M a0 v2 v3 ha0 _ hc173) (cwV 2 hts (gw_gV kw_289 kw_290 kw_291 kw_253 kw_288) rfl rfl rfl (by decide +kernel) ⟨Nat.le_of_ble_eq_true rfl, Nat.le_of_ble_eq_true rfl⟩) ⟨gw_blind, gw_recv_mo hK G ha0, gw_pre hK G⟩ rfl rfl hl.1 rfl (Nat.le_of_ble_eq_true rfl) dd_mo_begin_173 ⟨Nat.le_of_ble_eq_true rfl, Nat.le_of_ble_eq_true rfl⟩) (fun H locs G => ?_)
    refine lv_iload_n hx hb dd_mo_begin_176 rfl (lv_at hl 4 rfl) ?_
    refine lv_icmp_ne (tgt := 184) hx hb dd_mo_begin_177 (by decide) (fun h177 => ?_) (fun h177 => ?_)
    · replace hF := gw_ef h177 hF
      refine lv_iconst (v := (0 : Int32)) hx hb dd_mo_begin_184 (by decide) ?_
      exact wb_mo_begin_185 C0 hK148 M173 a0 v1 v2 v3 x168 (0 : Int32) _ _ _ ha0 G (lv_sub hl [1, 2, 3, 4, 0] rfl) hF
    · replace hF := gw_et h177 hF
      refine lv_iconst (v := (1 : Int32)) hx hb dd_mo_begin_180 (by decide) ?_
      refine lv_goto (tgt := 185) hx hb dd_mo_begin_181 (by decide) ?_
      exact wb_mo_begin_185 C0 hK148 M173 a0 v1 v2 v3 x168 (1 : Int32) _ _ _ ha0 G (lv_sub hl [1, 2, 3, 4, 0] rfl) hF
theorem wl_mo_begin_148 {p : Program} {l : Launch} {e : Env} {s : State} {m : MethodId} {args : Array Value} {below : List Frame} {meth : Method} {c : Code} {X : gw_X} {Y : gw_M} {z : (Unit × gw_M)} (C0 : gw_C ((Cond.code yy_mo_begin by_mo_begin 6 none) :: gw_w) by_mo_begin 6 none "AccountMachineModel" X p s m args meth c) : ∀ n : Nat, ∀ (M : gw_M) (a0 : Nat) (v1 : Int32) (v2 : Int32) (v3 : Int32) (H : Heap) (locs : List Loc) (ls : Array Slot), gr_k a0 = (11, 0) → gw_G X (gw_E X Y M) s H locs → lv_has ls 6 [(0, .ref (gr_a X a0)), (1, .int v1), (2, .int v2), (3, .int v3)] → mo_begin_l148  n M a0 v1 v2 v3 = some z → W p l e rm_mo_begin s m args below meth c H locs 0 0 (MQ below (gw_Qv X (fun M => (gw_E X Y M)) z) args s 0 0 (gw_A X)) (F0 m 148 ls []) := by
  intro n
  induction n with
  | zero =>
    intro M a0 v1 v2 v3 H locs ls ha0 G hl hF
    have hF : (none : Option (Unit × gw_M)) = some z := hF
    cases hF
  | succ n ih =>
    intro M a0 v1 v2 v3 H locs ls ha0 G hl hF
    exact wb_mo_begin_148 C0  ih M a0 v1 v2 v3 H locs ls ha0 G hl hF
set_option maxRecDepth 100000 in
set_option maxHeartbeats 4000000 in
theorem wb_mo_begin_122 {p : Program} {l : Launch} {e : Env} {s : State} {m : MethodId} {args : Array Value} {below : List Frame} {meth : Method} {c : Code} {X : gw_X} {Y : gw_M} {z : (Unit × gw_M)} (C0 : gw_C ((Cond.code yy_mo_begin by_mo_begin 6 none) :: gw_w) by_mo_begin 6 none "AccountMachineModel" X p s m args meth c) {K122 : gw_M → Nat → Int32 → Int32 → Int32 → Option (Unit × gw_M)} (hK122 : ∀ (M : gw_M) (a0 : Nat) (v1 : Int32) (v2 : Int32) (v3 : Int32) (H : Heap) (locs : List Loc) (ls : Array Slot), gr_k a0 = (11, 0) → gw_G X (gw_E X Y M) s H locs → lv_has ls 6 [(0, .ref (gr_a X a0)), (1, .int v1), (2, .int v2), (3, .int v3)] → K122 M a0 v1 v2 v3 = some z → W p l e rm_mo_begin s m args below meth c H locs 0 0 (MQ below (gw_Qv X (fun M => (gw_E X Y M)) z) args s 0 0 (gw_A X)) (F0 m 122 ls [])) (M : gw_M) (a0 : Nat) (v1 : Int32) (v2 : Int32) (v3 : Int32) (H : Heap) (locs : List Loc) (ls : Array Slot) (ha0 : gr_k a0 = (11, 0)) (G : gw_G X (gw_E X Y M) s H locs) (hl : lv_has ls 6 [(0, .ref (gr_a X a0)), (1, .int v1), (2, .int v2), (3, .int v3)]) (hF : mo_begin_b122 K122 M a0 v1 v2 v3 = some z) : W p l e rm_mo_begin s m args below meth c H locs 0 0 (MQ below (gw_Qv X (fun M => (gw_E X Y M)) z) args s 0 0 (gw_A X)) (F0 m 122 ls []) := by
  obtain ⟨hx, hb, hml, hown, hts, hr, hlocks, hK⟩ := id C0
  have hg : ∀ w ∈ gw_w, w.before args s = true := fun w h => hts w (List.mem_cons_of_mem _ h)
  unfold mo_begin_b122 at hF
  refine lv_iload_n hx hb dd_mo_begin_122 rfl (lv_at hl 3 rfl) ?_
  refine lv_bipush (v := (40 : Int32)) hx hb dd_mo_begin_123 (by decide) ?_
  refine lv_icmp_ge (tgt := 146) hx hb dd_mo_begin_125 (by decide) (fun h125 => ?_) (fun h125 => ?_)
  · replace hF := gw_et h125 hF
    refine lv_iconst (v := (0 : Int32)) hx hb dd_mo_begin_146 (by decide) ?_
    refine lv_istore_n (i := 3) (lv' := [(3, .int (0 : Int32)), (0, .ref (gr_a X a0)), (1, .int v1), (2, .int v2)]) hx hb dd_mo_begin_147 rfl hl (by decide) rfl (fun ls hl => ?_)
    exact wl_mo_begin_148 C0  2100 M a0 v1 v2 (0 : Int32) _ _ _ ha0 G (lv_sub hl [1, 2, 3, 0] rfl) hF
  · replace hF := gw_ef h125 hF
    refine lv_aload_n hx hb dd_mo_begin_128 rfl (lv_at hl 0 rfl) ?_
    refine gf_mo_seen hx hb hg hown (hg _ kw_285) hK G ha0 dd_mo_begin_129 ?_
    refine lv_bipush (v := (40 : Int32)) hx hb dd_mo_begin_132 (by decide) ?_
    refine lv_iload_n hx hb dd_mo_begin_134 rfl (lv_at hl 1 rfl) ?_
    refine lv_imul hx hb dd_mo_begin_135 ?_
    refine lv_iload_n hx hb dd_mo_begin_136 rfl (lv_at hl 3 rfl) ?_
    refine lv_iadd hx hb dd_mo_begin_137 ?_
    refine lv_lconst (v := (0 : Int64)) hx hb dd_mo_begin_138 (by decide) ?_
    obtain ⟨h139, hF⟩ := gw_gd hF
    refine gr_last hx hb hK G (gq_mo_seen ha0) (gw_vp h139) (j := (((40 : Int32) * v1) + v3).toNatClampNeg) rfl dd_mo_begin_139 (fun M139 H locs e139 G => ?_)
    replace hF := gw_ly e139 hF
    refine W.eq (g2 := F0 m 140 _ _) rfl ?_
    refine lv_iinc (k := 3) (v := v3 + (1 : Int32)) (lv' := [(3, .int (v3 + (1 : Int32))), (0, .ref (gr_a X a0)), (1, .int v1), (2, .int v2)]) hx hb dd_mo_begin_140 hl rfl rfl (by decide) rfl (fun ls hl => ?_)
    refine lv_goto (tgt := 122) hx hb dd_mo_begin_143 (by decide) ?_
    exact hK122 M139 a0 v1 v2 (v3 + (1 : Int32)) _ _ _ ha0 G (lv_sub hl [1, 2, 3, 0] rfl) hF
theorem wl_mo_begin_122 {p : Program} {l : Launch} {e : Env} {s : State} {m : MethodId} {args : Array Value} {below : List Frame} {meth : Method} {c : Code} {X : gw_X} {Y : gw_M} {z : (Unit × gw_M)} (C0 : gw_C ((Cond.code yy_mo_begin by_mo_begin 6 none) :: gw_w) by_mo_begin 6 none "AccountMachineModel" X p s m args meth c) : ∀ n : Nat, ∀ (M : gw_M) (a0 : Nat) (v1 : Int32) (v2 : Int32) (v3 : Int32) (H : Heap) (locs : List Loc) (ls : Array Slot), gr_k a0 = (11, 0) → gw_G X (gw_E X Y M) s H locs → lv_has ls 6 [(0, .ref (gr_a X a0)), (1, .int v1), (2, .int v2), (3, .int v3)] → mo_begin_l122  n M a0 v1 v2 v3 = some z → W p l e rm_mo_begin s m args below meth c H locs 0 0 (MQ below (gw_Qv X (fun M => (gw_E X Y M)) z) args s 0 0 (gw_A X)) (F0 m 122 ls []) := by
  intro n
  induction n with
  | zero =>
    intro M a0 v1 v2 v3 H locs ls ha0 G hl hF
    have hF : (none : Option (Unit × gw_M)) = some z := hF
    cases hF
  | succ n ih =>
    intro M a0 v1 v2 v3 H locs ls ha0 G hl hF
    exact wb_mo_begin_122 C0  ih M a0 v1 v2 v3 H locs ls ha0 G hl hF
set_option maxRecDepth 100000 in
set_option maxHeartbeats 4000000 in
theorem wb_mo_begin_96 {p : Program} {l : Launch} {e : Env} {s : State} {m : MethodId} {args : Array Value} {below : List Frame} {meth : Method} {c : Code} {X : gw_X} {Y : gw_M} {z : (Unit × gw_M)} (C0 : gw_C ((Cond.code yy_mo_begin by_mo_begin 6 none) :: gw_w) by_mo_begin 6 none "AccountMachineModel" X p s m args meth c) {K96 : gw_M → Nat → Int32 → Int32 → Int32 → Option (Unit × gw_M)} (hK96 : ∀ (M : gw_M) (a0 : Nat) (v1 : Int32) (v2 : Int32) (v3 : Int32) (H : Heap) (locs : List Loc) (ls : Array Slot), gr_k a0 = (11, 0) → gw_G X (gw_E X Y M) s H locs → lv_has ls 6 [(0, .ref (gr_a X a0)), (1, .int v1), (2, .int v2), (3, .int v3)] → K96 M a0 v1 v2 v3 = some z → W p l e rm_mo_begin s m args below meth c H locs 0 0 (MQ below (gw_Qv X (fun M => (gw_E X Y M)) z) args s 0 0 (gw_A X)) (F0 m 96 ls [])) (M : gw_M) (a0 : Nat) (v1 : Int32) (v2 : Int32) (v3 : Int32) (H : Heap) (locs : List Loc) (ls : Array Slot) (ha0 : gr_k a0 = (11, 0)) (G : gw_G X (gw_E X Y M) s H locs) (hl : lv_has ls 6 [(0, .ref (gr_a X a0)), (1, .int v1), (2, .int v2), (3, .int v3)]) (hF : mo_begin_b96 K96 M a0 v1 v2 v3 = some z) : W p l e rm_mo_begin s m args below meth c H locs 0 0 (MQ below (gw_Qv X (fun M => (gw_E X Y M)) z) args s 0 0 (gw_A X)) (F0 m 96 ls []) := by
  obtain ⟨hx, hb, hml, hown, hts, hr, hlocks, hK⟩ := id C0
  have hg : ∀ w ∈ gw_w, w.before args s = true := fun w h => hts w (List.mem_cons_of_mem _ h)
  unfold mo_begin_b96 at hF
  refine lv_iload_n hx hb dd_mo_begin_96 rfl (lv_at hl 3 rfl) ?_
  refine lv_bipush (v := (16 : Int32)) hx hb dd_mo_begin_97 (by decide) ?_
  refine lv_icmp_ge (tgt := 120) hx hb dd_mo_begin_99 (by decide) (fun h99 => ?_) (fun h99 => ?_)
  · replace hF := gw_et h99 hF
    refine lv_iconst (v := (0 : Int32)) hx hb dd_mo_begin_120 (by decide) ?_
    refine lv_istore_n (i := 3) (lv' := [(3, .int (0 : Int32)), (0, .ref (gr_a X a0)), (1, .int v1), (2, .int v2)]) hx hb dd_mo_begin_121 rfl hl (by decide) rfl (fun ls hl => ?_)
    exact wl_mo_begin_122 C0  2100 M a0 v1 v2 (0 : Int32) _ _ _ ha0 G (lv_sub hl [1, 2, 3, 0] rfl) hF
  · replace hF := gw_ef h99 hF
    refine lv_aload_n hx hb dd_mo_begin_102 rfl (lv_at hl 0 rfl) ?_
    refine gf_mo_stack hx hb hg hown (hg _ kw_298) hK G ha0 dd_mo_begin_103 ?_
    refine lv_bipush (v := (16 : Int32)) hx hb dd_mo_begin_106 (by decide) ?_
    refine lv_iload_n hx hb dd_mo_begin_108 rfl (lv_at hl 1 rfl) ?_
    refine lv_imul hx hb dd_mo_begin_109 ?_
    refine lv_iload_n hx hb dd_mo_begin_110 rfl (lv_at hl 3 rfl) ?_
    refine lv_iadd hx hb dd_mo_begin_111 ?_
    refine lv_lconst (v := (0 : Int64)) hx hb dd_mo_begin_112 (by decide) ?_
    obtain ⟨h113, hF⟩ := gw_gd hF
    refine gr_last hx hb hK G (gq_mo_stack ha0) (gw_vp h113) (j := (((16 : Int32) * v1) + v3).toNatClampNeg) rfl dd_mo_begin_113 (fun M113 H locs e113 G => ?_)
    replace hF := gw_ly e113 hF
    refine W.eq (g2 := F0 m 114 _ _) rfl ?_
    refine lv_iinc (k := 3) (v := v3 + (1 : Int32)) (lv' := [(3, .int (v3 + (1 : Int32))), (0, .ref (gr_a X a0)), (1, .int v1), (2, .int v2)]) hx hb dd_mo_begin_114 hl rfl rfl (by decide) rfl (fun ls hl => ?_)
    refine lv_goto (tgt := 96) hx hb dd_mo_begin_117 (by decide) ?_
    exact hK96 M113 a0 v1 v2 (v3 + (1 : Int32)) _ _ _ ha0 G (lv_sub hl [1, 2, 3, 0] rfl) hF
theorem wl_mo_begin_96 {p : Program} {l : Launch} {e : Env} {s : State} {m : MethodId} {args : Array Value} {below : List Frame} {meth : Method} {c : Code} {X : gw_X} {Y : gw_M} {z : (Unit × gw_M)} (C0 : gw_C ((Cond.code yy_mo_begin by_mo_begin 6 none) :: gw_w) by_mo_begin 6 none "AccountMachineModel" X p s m args meth c) : ∀ n : Nat, ∀ (M : gw_M) (a0 : Nat) (v1 : Int32) (v2 : Int32) (v3 : Int32) (H : Heap) (locs : List Loc) (ls : Array Slot), gr_k a0 = (11, 0) → gw_G X (gw_E X Y M) s H locs → lv_has ls 6 [(0, .ref (gr_a X a0)), (1, .int v1), (2, .int v2), (3, .int v3)] → mo_begin_l96  n M a0 v1 v2 v3 = some z → W p l e rm_mo_begin s m args below meth c H locs 0 0 (MQ below (gw_Qv X (fun M => (gw_E X Y M)) z) args s 0 0 (gw_A X)) (F0 m 96 ls []) := by
  intro n
  induction n with
  | zero =>
    intro M a0 v1 v2 v3 H locs ls ha0 G hl hF
    have hF : (none : Option (Unit × gw_M)) = some z := hF
    cases hF
  | succ n ih =>
    intro M a0 v1 v2 v3 H locs ls ha0 G hl hF
    exact wb_mo_begin_96 C0  ih M a0 v1 v2 v3 H locs ls ha0 G hl hF
set_option maxRecDepth 100000 in
set_option maxHeartbeats 4000000 in
theorem wb_mo_begin_20 {p : Program} {l : Launch} {e : Env} {s : State} {m : MethodId} {args : Array Value} {below : List Frame} {meth : Method} {c : Code} {X : gw_X} {Y : gw_M} {z : (Unit × gw_M)} (C0 : gw_C ((Cond.code yy_mo_begin by_mo_begin 6 none) :: gw_w) by_mo_begin 6 none "AccountMachineModel" X p s m args meth c) {K20 : gw_M → Nat → Int32 → Int32 → Int32 → Option (Unit × gw_M)} (hK20 : ∀ (M : gw_M) (a0 : Nat) (v1 : Int32) (v2 : Int32) (v3 : Int32) (H : Heap) (locs : List Loc) (ls : Array Slot), gr_k a0 = (11, 0) → gw_G X (gw_E X Y M) s H locs → lv_has ls 6 [(0, .ref (gr_a X a0)), (1, .int v1), (2, .int v2), (3, .int v3)] → K20 M a0 v1 v2 v3 = some z → W p l e rm_mo_begin s m args below meth c H locs 0 0 (MQ below (gw_Qv X (fun M => (gw_E X Y M)) z) args s 0 0 (gw_A X)) (F0 m 20 ls [])) (M : gw_M) (a0 : Nat) (v1 : Int32) (v2 : Int32) (v3 : Int32) (H : Heap) (locs : List Loc) (ls : Array Slot) (ha0 : gr_k a0 = (11, 0)) (G : gw_G X (gw_E X Y M) s H locs) (hl : lv_has ls 6 [(0, .ref (gr_a X a0)), (1, .int v1), (2, .int v2), (3, .int v3)]) (hF : mo_begin_b20 K20 M a0 v1 v2 v3 = some z) : W p l e rm_mo_begin s m args below meth c H locs 0 0 (MQ below (gw_Qv X (fun M => (gw_E X Y M)) z) args s 0 0 (gw_A X)) (F0 m 20 ls []) := by
  obtain ⟨hx, hb, hml, hown, hts, hr, hlocks, hK⟩ := id C0
  have hg : ∀ w ∈ gw_w, w.before args s = true := fun w h => hts w (List.mem_cons_of_mem _ h)
  unfold mo_begin_b20 at hF
  refine lv_iload_n hx hb dd_mo_begin_20 rfl (lv_at hl 3 rfl) ?_
  refine lv_bipush (v := (10 : Int32)) hx hb dd_mo_begin_21 (by decide) ?_
  refine lv_icmp_ge (tgt := 44) hx hb dd_mo_begin_23 (by decide) (fun h23 => ?_) (fun h23 => ?_)
  · replace hF := gw_et h23 hF
    refine lv_aload_n hx hb dd_mo_begin_44 rfl (lv_at hl 0 rfl) ?_
    refine gf_mo_registers hx hb hg hown (hg _ kw_299) hK G ha0 dd_mo_begin_45 ?_
    refine lv_bipush (v := (10 : Int32)) hx hb dd_mo_begin_48 (by decide) ?_
    refine lv_iload_n hx hb dd_mo_begin_50 rfl (lv_at hl 1 rfl) ?_
    refine lv_imul hx hb dd_mo_begin_51 ?_
    refine lv_iconst (v := (1 : Int32)) hx hb dd_mo_begin_52 (by decide) ?_
    refine lv_iadd hx hb dd_mo_begin_53 ?_
    refine lv_ldc2 (v := (2000 : Int64)) hx hb hown (hg _ kw_300) dd_mo_begin_54 ?_
    obtain ⟨h57, hF⟩ := gw_gd hF
    refine gr_last hx hb hK G (gq_mo_registers ha0) (gw_vp h57) (j := (((10 : Int32) * v1) + (1 : Int32)).toNatClampNeg) rfl dd_mo_begin_57 (fun M57 H locs e57 G => ?_)
    replace hF := gw_ly e57 hF
    refine W.eq (g2 := F0 m 58 _ _) rfl ?_
    refine lv_aload_n hx hb dd_mo_begin_58 rfl (lv_at hl 0 rfl) ?_
    refine gf_mo_registers hx hb hg hown (hg _ kw_299) hK G ha0 dd_mo_begin_59 ?_
    refine lv_bipush (v := (10 : Int32)) hx hb dd_mo_begin_62 (by decide) ?_
    refine lv_iload_n hx hb dd_mo_begin_64 rfl (lv_at hl 1 rfl) ?_
    refine lv_imul hx hb dd_mo_begin_65 ?_
    refine lv_iconst (v := (2 : Int32)) hx hb dd_mo_begin_66 (by decide) ?_
    refine lv_iadd hx hb dd_mo_begin_67 ?_
    refine lv_aload_n hx hb dd_mo_begin_68 rfl (lv_at hl 0 rfl) ?_
    refine gf_mo_slots hx hb hg hown (hg _ kw_273) hK G ha0 dd_mo_begin_69 ?_
    refine lv_iload_n hx hb dd_mo_begin_72 rfl (lv_at hl 2 rfl) ?_
    refine W.eq (g2 := F0 m 73 _ _) rfl ?_
    obtain ⟨h73, hF⟩ := gw_gd hF
    refine gr_iald hx hb hK G (gq_mo_slots ha0) (gw_vp h73) (j := v2.toNatClampNeg) rfl dd_mo_begin_73 ?_
    refine lv_i2l (v := (M57.1 (a0 + 14) v2.toNatClampNeg).toInt64) hx hb dd_mo_begin_74 rfl ?_
    obtain ⟨h75, hF⟩ := gw_gd hF
    refine gr_last hx hb hK G (gq_mo_registers ha0) (gw_vp h75) (j := (((10 : Int32) * v1) + (2 : Int32)).toNatClampNeg) rfl dd_mo_begin_75 (fun M75 H locs e75 G => ?_)
    replace hF := gw_ly e75 hF
    refine lv_aload_n hx hb dd_mo_begin_76 rfl (lv_at hl 0 rfl) ?_
    refine gf_mo_registers hx hb hg hown (hg _ kw_299) hK G ha0 dd_mo_begin_77 ?_
    refine lv_bipush (v := (10 : Int32)) hx hb dd_mo_begin_80 (by decide) ?_
    refine lv_iload_n hx hb dd_mo_begin_82 rfl (lv_at hl 1 rfl) ?_
    refine lv_imul hx hb dd_mo_begin_83 ?_
    refine lv_iconst (v := (3 : Int32)) hx hb dd_mo_begin_84 (by decide) ?_
    refine lv_iadd hx hb dd_mo_begin_85 ?_
    refine W.eq (g2 := F0 m 86 _ _) rfl ?_
    refine lv_aload_n hx hb dd_mo_begin_86 rfl (lv_at hl 0 rfl) ?_
    refine gf_mo_argument hx hb hg hown (hg _ kw_272) hK G ha0 dd_mo_begin_87 ?_
    refine lv_iload_n hx hb dd_mo_begin_90 rfl (lv_at hl 2 rfl) ?_
    obtain ⟨h91, hF⟩ := gw_gd hF
    refine gr_iald hx hb hK G (gq_mo_argument ha0) (gw_vp h91) (j := v2.toNatClampNeg) rfl dd_mo_begin_91 ?_
    refine lv_i2l (v := (M75.1 (a0 + 13) v2.toNatClampNeg).toInt64) hx hb dd_mo_begin_92 rfl ?_
    obtain ⟨h93, hF⟩ := gw_gd hF
    refine gr_last hx hb hK G (gq_mo_registers ha0) (gw_vp h93) (j := (((10 : Int32) * v1) + (3 : Int32)).toNatClampNeg) rfl dd_mo_begin_93 (fun M93 H locs e93 G => ?_)
    replace hF := gw_ly e93 hF
    refine lv_iconst (v := (0 : Int32)) hx hb dd_mo_begin_94 (by decide) ?_
    refine lv_istore_n (i := 3) (lv' := [(3, .int (0 : Int32)), (0, .ref (gr_a X a0)), (1, .int v1), (2, .int v2)]) hx hb dd_mo_begin_95 rfl hl (by decide) rfl (fun ls hl => ?_)
    exact wl_mo_begin_96 C0  2100 M93 a0 v1 v2 (0 : Int32) _ _ _ ha0 G (lv_sub hl [1, 2, 3, 0] rfl) hF
  · replace hF := gw_ef h23 hF
    refine lv_aload_n hx hb dd_mo_begin_26 rfl (lv_at hl 0 rfl) ?_
    refine gf_mo_registers hx hb hg hown (hg _ kw_299) hK G ha0 dd_mo_begin_27 ?_
    refine lv_bipush (v := (10 : Int32)) hx hb dd_mo_begin_30 (by decide) ?_
    refine lv_iload_n hx hb dd_mo_begin_32 rfl (lv_at hl 1 rfl) ?_
    refine lv_imul hx hb dd_mo_begin_33 ?_
    refine lv_iload_n hx hb dd_mo_begin_34 rfl (lv_at hl 3 rfl) ?_
    refine lv_iadd hx hb dd_mo_begin_35 ?_
    refine lv_lconst (v := (0 : Int64)) hx hb dd_mo_begin_36 (by decide) ?_
    obtain ⟨h37, hF⟩ := gw_gd hF
    refine gr_last hx hb hK G (gq_mo_registers ha0) (gw_vp h37) (j := (((10 : Int32) * v1) + v3).toNatClampNeg) rfl dd_mo_begin_37 (fun M37 H locs e37 G => ?_)
    replace hF := gw_ly e37 hF
    refine W.eq (g2 := F0 m 38 _ _) rfl ?_
    refine lv_iinc (k := 3) (v := v3 + (1 : Int32)) (lv' := [(3, .int (v3 + (1 : Int32))), (0, .ref (gr_a X a0)), (1, .int v1), (2, .int v2)]) hx hb dd_mo_begin_38 hl rfl rfl (by decide) rfl (fun ls hl => ?_)
    refine lv_goto (tgt := 20) hx hb dd_mo_begin_41 (by decide) ?_
    exact hK20 M37 a0 v1 v2 (v3 + (1 : Int32)) _ _ _ ha0 G (lv_sub hl [1, 2, 3, 0] rfl) hF
theorem wl_mo_begin_20 {p : Program} {l : Launch} {e : Env} {s : State} {m : MethodId} {args : Array Value} {below : List Frame} {meth : Method} {c : Code} {X : gw_X} {Y : gw_M} {z : (Unit × gw_M)} (C0 : gw_C ((Cond.code yy_mo_begin by_mo_begin 6 none) :: gw_w) by_mo_begin 6 none "AccountMachineModel" X p s m args meth c) : ∀ n : Nat, ∀ (M : gw_M) (a0 : Nat) (v1 : Int32) (v2 : Int32) (v3 : Int32) (H : Heap) (locs : List Loc) (ls : Array Slot), gr_k a0 = (11, 0) → gw_G X (gw_E X Y M) s H locs → lv_has ls 6 [(0, .ref (gr_a X a0)), (1, .int v1), (2, .int v2), (3, .int v3)] → mo_begin_l20  n M a0 v1 v2 v3 = some z → W p l e rm_mo_begin s m args below meth c H locs 0 0 (MQ below (gw_Qv X (fun M => (gw_E X Y M)) z) args s 0 0 (gw_A X)) (F0 m 20 ls []) := by
  intro n
  induction n with
  | zero =>
    intro M a0 v1 v2 v3 H locs ls ha0 G hl hF
    have hF : (none : Option (Unit × gw_M)) = some z := hF
    cases hF
  | succ n ih =>
    intro M a0 v1 v2 v3 H locs ls ha0 G hl hF
    exact wb_mo_begin_20 C0  ih M a0 v1 v2 v3 H locs ls ha0 G hl hF
set_option maxRecDepth 100000 in
set_option maxHeartbeats 4000000 in
theorem wb_mo_begin_0 {p : Program} {l : Launch} {e : Env} {s : State} {m : MethodId} {args : Array Value} {below : List Frame} {meth : Method} {c : Code} {X : gw_X} {Y : gw_M} {z : (Unit × gw_M)} (C0 : gw_C ((Cond.code yy_mo_begin by_mo_begin 6 none) :: gw_w) by_mo_begin 6 none "AccountMachineModel" X p s m args meth c) (M : gw_M) (a0 : Nat) (v1 : Int32) (H : Heap) (locs : List Loc) (ls : Array Slot) (ha0 : gr_k a0 = (11, 0)) (G : gw_G X (gw_E X Y M) s H locs) (hl : lv_has ls 6 [(0, .ref (gr_a X a0)), (1, .int v1)]) (hF : mo_begin_b0  M a0 v1 = some z) : W p l e rm_mo_begin s m args below meth c H locs 0 0 (MQ below (gw_Qv X (fun M => (gw_E X Y M)) z) args s 0 0 (gw_A X)) (F0 m 0 ls []) := by
  obtain ⟨hx, hb, hml, hown, hts, hr, hlocks, hK⟩ := id C0
  have hg : ∀ w ∈ gw_w, w.before args s = true := fun w h => hts w (List.mem_cons_of_mem _ h)
  unfold mo_begin_b0 at hF
  refine lv_iconst (v := (3 : Int32)) hx hb dd_mo_begin_0 (by decide) ?_
  refine lv_iload_n hx hb dd_mo_begin_1 rfl (lv_at hl 1 rfl) ?_
  refine lv_iadd hx hb dd_mo_begin_2 ?_
  refine lv_topi (fun x3 e3 => ?_)
  replace hF := gw_ly e3 hF
  refine lv_istore_n (i := 2) (lv' := [(2, .int x3), (0, .ref (gr_a X a0)), (1, .int v1)]) hx hb dd_mo_begin_3 rfl hl (by decide) rfl (fun ls hl => ?_)
  refine lv_aload_n hx hb dd_mo_begin_4 rfl (lv_at hl 1 rfl) ?_
  refine gf_mo_place hx hb hg hown (hg _ kw_301) hK G ha0 dd_mo_begin_5 ?_
  refine lv_iload_n hx hb dd_mo_begin_8 rfl (lv_at hl 2 rfl) ?_
  refine lv_iconst (v := (0 : Int32)) hx hb dd_mo_begin_9 (by decide) ?_
  obtain ⟨h10, hF⟩ := gw_gd hF
  refine gr_iast hx hb hK G (gq_mo_place ha0) (gw_vp h10) (j := v1.toNatClampNeg) rfl dd_mo_begin_10 (fun M10 H locs e10 G => ?_)
  replace hF := gw_ly e10 hF
  refine W.eq (g2 := F0 m 11 _ _) rfl ?_
  refine lv_aload_n hx hb dd_mo_begin_11 rfl (lv_at hl 1 rfl) ?_
  refine gf_mo_calls hx hb hg hown (hg _ kw_302) hK G ha0 dd_mo_begin_12 ?_
  refine lv_iload_n hx hb dd_mo_begin_15 rfl (lv_at hl 2 rfl) ?_
  refine lv_iconst (v := (0 : Int32)) hx hb dd_mo_begin_16 (by decide) ?_
  obtain ⟨h17, hF⟩ := gw_gd hF
  refine gr_iast hx hb hK G (gq_mo_calls ha0) (gw_vp h17) (j := v1.toNatClampNeg) rfl dd_mo_begin_17 (fun M17 H locs e17 G => ?_)
  replace hF := gw_ly e17 hF
  refine lv_iconst (v := (0 : Int32)) hx hb dd_mo_begin_18 (by decide) ?_
  refine lv_istore_n (i := 3) (lv' := [(3, .int (0 : Int32)), (2, .int x3), (0, .ref (gr_a X a0)), (1, .int v1)]) hx hb dd_mo_begin_19 rfl hl (by decide) rfl (fun ls hl => ?_)
  exact wl_mo_begin_20 C0  2100 M17 a0 v1 x3 (0 : Int32) _ _ _ ha0 G (lv_sub hl [2, 3, 1, 0] rfl) hF
set_option maxRecDepth 100000 in
set_option maxHeartbeats 4000000 in
theorem ct_mo_begin (l : Launch) (X : gw_X) (Y : gw_M) (M : gw_M) (a0 : Nat) (v1 : Int32) (ha0 : gr_k a0 = (11, 0)) (z : (Unit × gw_M)) (hF : mo_begin_b0 M a0 v1 = some z) : Met l yy_mo_begin ((Cond.code yy_mo_begin by_mo_begin 6 none) :: gw_w) rm_mo_begin (va_Pc [.ref (gr_a X a0), .int v1] (gw_B X (gw_E X Y M))) (gw_Qv X (fun M => (gw_E X Y M)) z) 0 0 (gw_A X) := by
  refine Met.ofW (cc := by_mo_begin) (maxL := 6) (ret := none) (by decide) rfl ?_
  intro p e s m args below meth c s₁ B hml hv
  obtain ⟨rfl, hB⟩ := hv
  rw [lg_entry_eq]
  have hl := lv_entry ([.ref (gr_a X a0), .int v1]) (n := 6) (Nat.le_of_ble_eq_true rfl)
  generalize (lg_sl ([.ref (gr_a X a0), .int v1]) ++ List.replicate (6 - (lg_sl ([.ref (gr_a X a0), .int v1])).length) Slot.unset).toArray = ls at hl ⊢
  have hl : lv_has ls 6 [(0, .ref (gr_a X a0)), (1, .int v1)] := hl
  exact wb_mo_begin_0 (gw_ctx B hml rfl hB) M a0 v1 _ _ _ ha0 (gw_start hB) hl hF
/-! AccountMachineModel.wordAt(IJ)I -/
abbrev rm_mo_wordAt : Room := { frames := 1, cells := 0, slots := 0, locals := 25 }
theorem dd_mo_wordAt_0 : decode by_mo_wordAt 0 = .ok (.lload_n 2, 1) := by decide +kernel
theorem dd_mo_wordAt_1 : decode by_mo_wordAt 1 = .ok (.ldc2_w 117, 3) := by decide +kernel
theorem dd_mo_wordAt_4 : decode by_mo_wordAt 4 = .ok (.ldc2_w 123, 3) := by decide +kernel
theorem dd_mo_wordAt_7 : decode by_mo_wordAt 7 = .ok (.invokestatic 83, 3) := by decide +kernel
theorem dd_mo_wordAt_10 : decode by_mo_wordAt 10 = .ok (.ifCond .ne 5, 3) := by decide +kernel
theorem dd_mo_wordAt_13 : decode by_mo_wordAt 13 = .ok (.iconst (-1), 1) := by decide +kernel
theorem dd_mo_wordAt_14 : decode by_mo_wordAt 14 = .ok (.ireturn, 1) := by decide +kernel
theorem dd_mo_wordAt_15 : decode by_mo_wordAt 15 = .ok (.lload_n 2, 1) := by decide +kernel
theorem dd_mo_wordAt_16 : decode by_mo_wordAt 16 = .ok (.l2i, 1) := by decide +kernel
theorem dd_mo_wordAt_17 : decode by_mo_wordAt 17 = .ok (.sipush 2000, 3) := by decide +kernel
theorem dd_mo_wordAt_20 : decode by_mo_wordAt 20 = .ok (.isub, 1) := by decide +kernel
theorem dd_mo_wordAt_21 : decode by_mo_wordAt 21 = .ok (.istore 4, 2) := by decide +kernel
theorem dd_mo_wordAt_23 : decode by_mo_wordAt 23 = .ok (.iload 4, 2) := by decide +kernel
theorem dd_mo_wordAt_25 : decode by_mo_wordAt 25 = .ok (.bipush 10, 2) := by decide +kernel
theorem dd_mo_wordAt_27 : decode by_mo_wordAt 27 = .ok (.idiv, 1) := by decide +kernel
theorem dd_mo_wordAt_28 : decode by_mo_wordAt 28 = .ok (.aload_n 0, 1) := by decide +kernel
theorem dd_mo_wordAt_29 : decode by_mo_wordAt 29 = .ok (.getfield 50, 3) := by decide +kernel
theorem dd_mo_wordAt_32 : decode by_mo_wordAt 32 = .ok (.iconst 3, 1) := by decide +kernel
theorem dd_mo_wordAt_33 : decode by_mo_wordAt 33 = .ok (.iload_n 1, 1) := by decide +kernel
theorem dd_mo_wordAt_34 : decode by_mo_wordAt 34 = .ok (.iadd, 1) := by decide +kernel
theorem dd_mo_wordAt_35 : decode by_mo_wordAt 35 = .ok (.iaload, 1) := by decide +kernel
theorem dd_mo_wordAt_36 : decode by_mo_wordAt 36 = .ok (.if_icmp .ge 13, 3) := by decide +kernel
theorem dd_mo_wordAt_39 : decode by_mo_wordAt 39 = .ok (.bipush 40, 2) := by decide +kernel
theorem dd_mo_wordAt_41 : decode by_mo_wordAt 41 = .ok (.iload_n 1, 1) := by decide +kernel
theorem dd_mo_wordAt_42 : decode by_mo_wordAt 42 = .ok (.imul, 1) := by decide +kernel
theorem dd_mo_wordAt_43 : decode by_mo_wordAt 43 = .ok (.iload 4, 2) := by decide +kernel
theorem dd_mo_wordAt_45 : decode by_mo_wordAt 45 = .ok (.iadd, 1) := by decide +kernel
theorem dd_mo_wordAt_46 : decode by_mo_wordAt 46 = .ok (.goto 4, 3) := by decide +kernel
theorem dd_mo_wordAt_49 : decode by_mo_wordAt 49 = .ok (.iconst (-1), 1) := by decide +kernel
theorem dd_mo_wordAt_50 : decode by_mo_wordAt 50 = .ok (.ireturn, 1) := by decide +kernel
def mo_wordAt_b0 (M : gw_M) (a0 : Nat) (v1 : Int32) (v2 : Int64) : Option (Int32 × gw_M) :=
  gw_bd (mo_in_b0 M v2 (2000 : Int64) (2039 : Int64)) (fun r7 M7 => if r7 = (0 : Int32) then (some ((-1 : Int32), M7)) else (gw_lt (v2.toInt32 - (2000 : Int32)) (fun x21 => gw_gu (gw_in ((3 : Int32) + v1) 9) (if (M7.1 (a0 + 14) (((3 : Int32) + v1).toNatClampNeg)) ≤ (x21 / (10 : Int32)) then (some ((-1 : Int32), M7)) else (some (((40 : Int32) * v1) + x21, M7))))))
set_option maxRecDepth 100000 in
set_option maxHeartbeats 4000000 in
theorem wb_mo_wordAt_0 {p : Program} {l : Launch} {e : Env} {s : State} {m : MethodId} {args : Array Value} {below : List Frame} {meth : Method} {c : Code} {X : gw_X} {Y : gw_M} {z : (Int32 × gw_M)} (C0 : gw_C ((Cond.code yy_mo_wordAt by_mo_wordAt 5 (some .int)) :: gw_w) by_mo_wordAt 5 (some .int) "AccountMachineModel" X p s m args meth c) (M : gw_M) (a0 : Nat) (v1 : Int32) (v2 : Int64) (H : Heap) (locs : List Loc) (ls : Array Slot) (ha0 : gr_k a0 = (11, 0)) (G : gw_G X (gw_E X Y M) s H locs) (hl : lv_has ls 5 [(0, .ref (gr_a X a0)), (1, .int v1), (2, .long v2)]) (hF : mo_wordAt_b0  M a0 v1 v2 = some z) : W p l e rm_mo_wordAt s m args below meth c H locs 0 0 (MQ below (gw_Qi X (fun M => (gw_E X Y M)) z) args s 0 0 (gw_A X)) (F0 m 0 ls []) := by
  obtain ⟨hx, hb, hml, hown, hts, hr, hlocks, hK⟩ := id C0
  have hg : ∀ w ∈ gw_w, w.before args s = true := fun w h => hts w (List.mem_cons_of_mem _ h)
  unfold mo_wordAt_b0 at hF
  refine lv_lload_n hx hb dd_mo_wordAt_0 rfl (lv_at hl 2 rfl) ?_
  refine lv_ldc2 (v := (2000 : Int64)) hx hb hown (hg _ kw_300) dd_mo_wordAt_1 ?_
  refine lv_ldc2 (v := (2039 : Int64)) hx hb hown (hg _ kw_303) dd_mo_wordAt_4 ?_
  obtain ⟨r7, M7, hc7, hF⟩ := gw_be hF
  refine gw_ci G (va_runS (As := [.long v2, .long (2000 : Int64), .long (2039 : Int64)]) (rest := []) ⟨hx, hb, hml, hown, hts⟩ (ct_mo_in l X Y M v2 (2000 : Int64) (2039 : Int64)  _ hc7) (cwS 3 hts (gw_gS kw_251 kw_252 kw_253 kw_250) rfl rfl rfl (by decide +kernel) ⟨Nat.le_of_ble_eq_true rfl, Nat.le_of_ble_eq_true rfl⟩) ⟨gw_blind, gw_pre hK G⟩ rfl rfl hl.1 rfl (Nat.le_of_ble_eq_true rfl) dd_mo_wordAt_7 ⟨Nat.le_of_ble_eq_true rfl, Nat.le_of_ble_eq_true rfl⟩) (fun H locs G => ?_)
  refine lv_if_ne (tgt := 15) hx hb dd_mo_wordAt_10 (by decide) (fun h10 => ?_) (fun h10 => ?_)
  · replace hF := gw_ef h10 hF
    refine lv_lload_n hx hb dd_mo_wordAt_15 rfl (lv_at hl 2 rfl) ?_
    refine lv_l2i (v := v2.toInt32) hx hb dd_mo_wordAt_16 rfl ?_
    refine lv_sipush (v := (2000 : Int32)) hx hb dd_mo_wordAt_17 (by decide) ?_
    refine lv_isub hx hb dd_mo_wordAt_20 ?_
    refine lv_topi (fun x21 e21 => ?_)
    replace hF := gw_ly e21 hF
    refine lv_istore (i := 4) (lv' := [(4, .int x21), (0, .ref (gr_a X a0)), (1, .int v1), (2, .long v2)]) hx hb dd_mo_wordAt_21 hl (by decide) rfl (fun ls hl => ?_)
    refine lv_iload hx hb dd_mo_wordAt_23 (lv_at hl 0 rfl) ?_
    refine lv_bipush (v := (10 : Int32)) hx hb dd_mo_wordAt_25 (by decide) ?_
    refine lv_idiv hx hb dd_mo_wordAt_27 (by decide) ?_
    refine lv_aload_n hx hb dd_mo_wordAt_28 rfl (lv_at hl 1 rfl) ?_
    refine W.eq (g2 := F0 m 29 _ _) rfl ?_
    refine gf_mo_slots hx hb hg hown (hg _ kw_273) hK G ha0 dd_mo_wordAt_29 ?_
    refine lv_iconst (v := (3 : Int32)) hx hb dd_mo_wordAt_32 (by decide) ?_
    refine lv_iload_n hx hb dd_mo_wordAt_33 rfl (lv_at hl 2 rfl) ?_
    refine lv_iadd hx hb dd_mo_wordAt_34 ?_
    obtain ⟨h35, hF⟩ := gw_gd hF
    refine gr_iald hx hb hK G (gq_mo_slots ha0) (gw_vp h35) (j := ((3 : Int32) + v1).toNatClampNeg) rfl dd_mo_wordAt_35 ?_
    refine lv_icmp_ge (tgt := 49) hx hb dd_mo_wordAt_36 (by decide) (fun h36 => ?_) (fun h36 => ?_)
    · replace hF := gw_et h36 hF
      refine lv_iconst (v := (-1 : Int32)) hx hb dd_mo_wordAt_49 (by decide) ?_
      exact W.iret hx hb hr (fun t ht hW => gw_endi (EF := (fun M => (gw_E X Y M))) (M := M7) G ht hF) G.2.2.2.2 dd_mo_wordAt_50 hlocks
    · replace hF := gw_ef h36 hF
      refine lv_bipush (v := (40 : Int32)) hx hb dd_mo_wordAt_39 (by decide) ?_
      refine lv_iload_n hx hb dd_mo_wordAt_41 rfl (lv_at hl 2 rfl) ?_
      refine lv_imul hx hb dd_mo_wordAt_42 ?_
      refine lv_iload hx hb dd_mo_wordAt_43 (lv_at hl 0 rfl) ?_
      refine lv_iadd hx hb dd_mo_wordAt_45 ?_
      refine lv_goto (tgt := 50) hx hb dd_mo_wordAt_46 (by decide) ?_
      exact W.iret hx hb hr (fun t ht hW => gw_endi (EF := (fun M => (gw_E X Y M))) (M := M7) G ht hF) G.2.2.2.2 dd_mo_wordAt_50 hlocks
  · replace hF := gw_et h10 hF
    refine lv_iconst (v := (-1 : Int32)) hx hb dd_mo_wordAt_13 (by decide) ?_
    exact W.iret hx hb hr (fun t ht hW => gw_endi (EF := (fun M => (gw_E X Y M))) (M := M7) G ht hF) G.2.2.2.2 dd_mo_wordAt_14 hlocks
set_option maxRecDepth 100000 in
set_option maxHeartbeats 4000000 in
theorem ct_mo_wordAt (l : Launch) (X : gw_X) (Y : gw_M) (M : gw_M) (a0 : Nat) (v1 : Int32) (v2 : Int64) (ha0 : gr_k a0 = (11, 0)) (z : (Int32 × gw_M)) (hF : mo_wordAt_b0 M a0 v1 v2 = some z) : Met l yy_mo_wordAt ((Cond.code yy_mo_wordAt by_mo_wordAt 5 (some .int)) :: gw_w) rm_mo_wordAt (va_Pc [.ref (gr_a X a0), .int v1, .long v2] (gw_B X (gw_E X Y M))) (gw_Qi X (fun M => (gw_E X Y M)) z) 0 0 (gw_A X) := by
  refine Met.ofW (cc := by_mo_wordAt) (maxL := 5) (ret := (some .int)) (by decide) rfl ?_
  intro p e s m args below meth c s₁ B hml hv
  obtain ⟨rfl, hB⟩ := hv
  rw [lg_entry_eq]
  have hl := lv_entry ([.ref (gr_a X a0), .int v1, .long v2]) (n := 5) (Nat.le_of_ble_eq_true rfl)
  generalize (lg_sl ([.ref (gr_a X a0), .int v1, .long v2]) ++ List.replicate (5 - (lg_sl ([.ref (gr_a X a0), .int v1, .long v2])).length) Slot.unset).toArray = ls at hl ⊢
  have hl : lv_has ls 5 [(0, .ref (gr_a X a0)), (1, .int v1), (2, .long v2)] := hl
  exact wb_mo_wordAt_0 (gw_ctx B hml rfl hB) M a0 v1 v2 _ _ _ ha0 (gw_start hB) hl hF
/-! AccountMachineModel.mayStore(II)Z -/
abbrev rm_mo_mayStore : Room := { frames := 1, cells := 0, slots := 0, locals := 24 }
theorem dd_mo_mayStore_0 : decode by_mo_mayStore 0 = .ok (.iload_n 2, 1) := by decide +kernel
theorem dd_mo_mayStore_1 : decode by_mo_mayStore 1 = .ok (.bipush 40, 2) := by decide +kernel
theorem dd_mo_mayStore_3 : decode by_mo_mayStore 3 = .ok (.iload_n 1, 1) := by decide +kernel
theorem dd_mo_mayStore_4 : decode by_mo_mayStore 4 = .ok (.imul, 1) := by decide +kernel
theorem dd_mo_mayStore_5 : decode by_mo_mayStore 5 = .ok (.isub, 1) := by decide +kernel
theorem dd_mo_mayStore_6 : decode by_mo_mayStore 6 = .ok (.istore_n 3, 1) := by decide +kernel
theorem dd_mo_mayStore_7 : decode by_mo_mayStore 7 = .ok (.iload_n 3, 1) := by decide +kernel
theorem dd_mo_mayStore_8 : decode by_mo_mayStore 8 = .ok (.bipush 10, 2) := by decide +kernel
theorem dd_mo_mayStore_10 : decode by_mo_mayStore 10 = .ok (.irem, 1) := by decide +kernel
theorem dd_mo_mayStore_11 : decode by_mo_mayStore 11 = .ok (.istore 4, 2) := by decide +kernel
theorem dd_mo_mayStore_13 : decode by_mo_mayStore 13 = .ok (.aload_n 0, 1) := by decide +kernel
theorem dd_mo_mayStore_14 : decode by_mo_mayStore 14 = .ok (.iconst 3, 1) := by decide +kernel
theorem dd_mo_mayStore_15 : decode by_mo_mayStore 15 = .ok (.iload_n 1, 1) := by decide +kernel
theorem dd_mo_mayStore_16 : decode by_mo_mayStore 16 = .ok (.iadd, 1) := by decide +kernel
theorem dd_mo_mayStore_17 : decode by_mo_mayStore 17 = .ok (.iload_n 3, 1) := by decide +kernel
theorem dd_mo_mayStore_18 : decode by_mo_mayStore 18 = .ok (.bipush 10, 2) := by decide +kernel
theorem dd_mo_mayStore_20 : decode by_mo_mayStore 20 = .ok (.idiv, 1) := by decide +kernel
theorem dd_mo_mayStore_21 : decode by_mo_mayStore 21 = .ok (.invokevirtual 114, 3) := by decide +kernel
theorem dd_mo_mayStore_24 : decode by_mo_mayStore 24 = .ok (.iload_n 3, 1) := by decide +kernel
theorem dd_mo_mayStore_25 : decode by_mo_mayStore 25 = .ok (.bipush 10, 2) := by decide +kernel
theorem dd_mo_mayStore_27 : decode by_mo_mayStore 27 = .ok (.idiv, 1) := by decide +kernel
theorem dd_mo_mayStore_28 : decode by_mo_mayStore 28 = .ok (.if_icmp .eq 5, 3) := by decide +kernel
theorem dd_mo_mayStore_31 : decode by_mo_mayStore 31 = .ok (.iconst 0, 1) := by decide +kernel
theorem dd_mo_mayStore_32 : decode by_mo_mayStore 32 = .ok (.ireturn, 1) := by decide +kernel
theorem dd_mo_mayStore_33 : decode by_mo_mayStore 33 = .ok (.iload 4, 2) := by decide +kernel
theorem dd_mo_mayStore_35 : decode by_mo_mayStore 35 = .ok (.iconst 2, 1) := by decide +kernel
theorem dd_mo_mayStore_36 : decode by_mo_mayStore 36 = .ok (.if_icmp .eq 37, 3) := by decide +kernel
theorem dd_mo_mayStore_39 : decode by_mo_mayStore 39 = .ok (.iload 4, 2) := by decide +kernel
theorem dd_mo_mayStore_41 : decode by_mo_mayStore 41 = .ok (.iconst 3, 1) := by decide +kernel
theorem dd_mo_mayStore_42 : decode by_mo_mayStore 42 = .ok (.if_icmp .eq 31, 3) := by decide +kernel
theorem dd_mo_mayStore_45 : decode by_mo_mayStore 45 = .ok (.iload 4, 2) := by decide +kernel
theorem dd_mo_mayStore_47 : decode by_mo_mayStore 47 = .ok (.iconst 5, 1) := by decide +kernel
theorem dd_mo_mayStore_48 : decode by_mo_mayStore 48 = .ok (.if_icmp .lt 29, 3) := by decide +kernel
theorem dd_mo_mayStore_51 : decode by_mo_mayStore 51 = .ok (.iload 4, 2) := by decide +kernel
theorem dd_mo_mayStore_53 : decode by_mo_mayStore 53 = .ok (.i2l, 1) := by decide +kernel
theorem dd_mo_mayStore_54 : decode by_mo_mayStore 54 = .ok (.ldc2_w 125, 3) := by decide +kernel
theorem dd_mo_mayStore_57 : decode by_mo_mayStore 57 = .ok (.aload_n 0, 1) := by decide +kernel
theorem dd_mo_mayStore_58 : decode by_mo_mayStore 58 = .ok (.getfield 75, 3) := by decide +kernel
theorem dd_mo_mayStore_61 : decode by_mo_mayStore 61 = .ok (.iload_n 2, 1) := by decide +kernel
theorem dd_mo_mayStore_62 : decode by_mo_mayStore 62 = .ok (.iload 4, 2) := by decide +kernel
theorem dd_mo_mayStore_64 : decode by_mo_mayStore 64 = .ok (.isub, 1) := by decide +kernel
theorem dd_mo_mayStore_65 : decode by_mo_mayStore 65 = .ok (.iconst 4, 1) := by decide +kernel
theorem dd_mo_mayStore_66 : decode by_mo_mayStore 66 = .ok (.iadd, 1) := by decide +kernel
theorem dd_mo_mayStore_67 : decode by_mo_mayStore 67 = .ok (.laload, 1) := by decide +kernel
theorem dd_mo_mayStore_68 : decode by_mo_mayStore 68 = .ok (.ladd, 1) := by decide +kernel
theorem dd_mo_mayStore_69 : decode by_mo_mayStore 69 = .ok (.lcmp, 1) := by decide +kernel
theorem dd_mo_mayStore_70 : decode by_mo_mayStore 70 = .ok (.ifCond .gt 7, 3) := by decide +kernel
theorem dd_mo_mayStore_73 : decode by_mo_mayStore 73 = .ok (.iconst 1, 1) := by decide +kernel
theorem dd_mo_mayStore_74 : decode by_mo_mayStore 74 = .ok (.goto 4, 3) := by decide +kernel
theorem dd_mo_mayStore_77 : decode by_mo_mayStore 77 = .ok (.iconst 0, 1) := by decide +kernel
theorem dd_mo_mayStore_78 : decode by_mo_mayStore 78 = .ok (.ireturn, 1) := by decide +kernel
def mo_mayStore_b73 (M : gw_M) : Option (Int32 × gw_M) :=
  some ((1 : Int32), M)
def mo_mayStore_b0 (M : gw_M) (a0 : Nat) (v1 : Int32) (v2 : Int32) : Option (Int32 × gw_M) :=
  gw_lt (v2 - ((40 : Int32) * v1)) (fun x6 => gw_lt (x6 - x6 / (10 : Int32) * (10 : Int32)) (fun x11 => gw_bd (mo_mainOf_b0 M a0 ((3 : Int32) + v1) (x6 / (10 : Int32))) (fun r21 M21 => if r21 = (x6 / (10 : Int32)) then (if x11 = (2 : Int32) then (mo_mayStore_b73  M21) else (if x11 = (3 : Int32) then (mo_mayStore_b73  M21) else (if x11 < (5 : Int32) then (some ((0 : Int32), M21)) else (gw_gu (gw_in ((v2 - x11) + (4 : Int32)) 200) (if (0 : Int32) < (lg_cmp x11.toInt64 ((4 : Int64) + (M21.2 (a0 + 22) (((v2 - x11) + (4 : Int32)).toNatClampNeg)))) then (some ((0 : Int32), M21)) else (mo_mayStore_b73  M21)))))) else (some ((0 : Int32), M21)))))
set_option maxRecDepth 100000 in
set_option maxHeartbeats 4000000 in
theorem wb_mo_mayStore_73 {p : Program} {l : Launch} {e : Env} {s : State} {m : MethodId} {args : Array Value} {below : List Frame} {meth : Method} {c : Code} {X : gw_X} {Y : gw_M} {z : (Int32 × gw_M)} (C0 : gw_C ((Cond.code yy_mo_mayStore by_mo_mayStore 5 (some .boolean)) :: gw_w) by_mo_mayStore 5 (some .boolean) "AccountMachineModel" X p s m args meth c) (M : gw_M) (H : Heap) (locs : List Loc) (ls : Array Slot) (G : gw_G X (gw_E X Y M) s H locs) (hl : lv_has ls 5 []) (hF : mo_mayStore_b73  M = some z) : W p l e rm_mo_mayStore s m args below meth c H locs 0 0 (MQ below (gw_Qi X (fun M => (gw_E X Y M)) z) args s 0 0 (gw_A X)) (F0 m 73 ls []) := by
  obtain ⟨hx, hb, hml, hown, hts, hr, hlocks, hK⟩ := id C0
  have hg : ∀ w ∈ gw_w, w.before args s = true := fun w h => hts w (List.mem_cons_of_mem _ h)
  unfold mo_mayStore_b73 at hF
  refine lv_iconst (v := (1 : Int32)) hx hb dd_mo_mayStore_73 (by decide) ?_
  refine lv_goto (tgt := 78) hx hb dd_mo_mayStore_74 (by decide) ?_
  exact W.zret hx hb hr (by decide) (fun t ht hW => gw_endi (EF := (fun M => (gw_E X Y M))) (M := M) G ht hF) G.2.2.2.2 dd_mo_mayStore_78 hlocks
set_option maxRecDepth 100000 in
set_option maxHeartbeats 4000000 in
theorem wb_mo_mayStore_0 {p : Program} {l : Launch} {e : Env} {s : State} {m : MethodId} {args : Array Value} {below : List Frame} {meth : Method} {c : Code} {X : gw_X} {Y : gw_M} {z : (Int32 × gw_M)} (C0 : gw_C ((Cond.code yy_mo_mayStore by_mo_mayStore 5 (some .boolean)) :: gw_w) by_mo_mayStore 5 (some .boolean) "AccountMachineModel" X p s m args meth c) (M : gw_M) (a0 : Nat) (v1 : Int32) (v2 : Int32) (H : Heap) (locs : List Loc) (ls : Array Slot) (ha0 : gr_k a0 = (11, 0)) (G : gw_G X (gw_E X Y M) s H locs) (hl : lv_has ls 5 [(0, .ref (gr_a X a0)), (1, .int v1), (2, .int v2)]) (hF : mo_mayStore_b0  M a0 v1 v2 = some z) : W p l e rm_mo_mayStore s m args below meth c H locs 0 0 (MQ below (gw_Qi X (fun M => (gw_E X Y M)) z) args s 0 0 (gw_A X)) (F0 m 0 ls []) := by
  obtain ⟨hx, hb, hml, hown, hts, hr, hlocks, hK⟩ := id C0
  have hg : ∀ w ∈ gw_w, w.before args s = true := fun w h => hts w (List.mem_cons_of_mem _ h)
  unfold mo_mayStore_b0 at hF
  refine lv_iload_n hx hb dd_mo_mayStore_0 rfl (lv_at hl 2 rfl) ?_
  refine lv_bipush (v := (40 : Int32)) hx hb dd_mo_mayStore_1 (by decide) ?_
  refine lv_iload_n hx hb dd_mo_mayStore_3 rfl (lv_at hl 1 rfl) ?_
  refine lv_imul hx hb dd_mo_mayStore_4 ?_
  refine lv_isub hx hb dd_mo_mayStore_5 ?_
  refine lv_topi (fun x6 e6 => ?_)
  replace hF := gw_ly e6 hF
  refine lv_istore_n (i := 3) (lv' := [(3, .int x6), (0, .ref (gr_a X a0)), (1, .int v1), (2, .int v2)]) hx hb dd_mo_mayStore_6 rfl hl (by decide) rfl (fun ls hl => ?_)
  refine lv_iload_n hx hb dd_mo_mayStore_7 rfl (lv_at hl 0 rfl) ?_
  refine lv_bipush (v := (10 : Int32)) hx hb dd_mo_mayStore_8 (by decide) ?_
  refine lv_irem hx hb dd_mo_mayStore_10 (by decide) ?_
  refine W.eq (g2 := F0 m 11 _ _) rfl ?_
  refine lv_topi (fun x11 e11 => ?_)
  replace hF := gw_ly e11 hF
  refine lv_istore (i := 4) (lv' := [(4, .int x11), (3, .int x6), (0, .ref (gr_a X a0)), (1, .int v1), (2, .int v2)]) hx hb dd_mo_mayStore_11 hl (by decide) rfl (fun ls hl => ?_)
  refine lv_aload_n hx hb dd_mo_mayStore_13 rfl (lv_at hl 2 rfl) ?_
  refine lv_iconst (v := (3 : Int32)) hx hb dd_mo_mayStore_14 (by decide) ?_
  refine lv_iload_n hx hb dd_mo_mayStore_15 rfl (lv_at hl 3 rfl) ?_
  refine lv_iadd hx hb dd_mo_mayStore_16 ?_
  refine lv_iload_n hx hb dd_mo_mayStore_17 rfl (lv_at hl 1 rfl) ?_
  refine lv_bipush (v := (10 : Int32)) hx hb dd_mo_mayStore_18 (by decide) ?_
  refine lv_idiv hx hb dd_mo_mayStore_20 (by decide) ?_
  obtain ⟨r21, M21, hc21, hF⟩ := gw_be hF
  refine gw_ci G (va_runV (As := [.int ((3 : Int32) + v1), .int (x6 / (10 : Int32))]) (rest := []) ⟨hx, hb, hml, hown, hts⟩ (ct_mo_mainOf l X Y M a0 ((3 : Int32) + v1) (x6 / (10 : Int32)) ha0 _ hc21) (cwV 2 hts (gw_gV kw_289 kw_290 kw_291 kw_253 kw_288) rfl rfl rfl (by decide +kernel) ⟨Nat.le_of_ble_eq_true rfl, Nat.le_of_ble_eq_true rfl⟩) ⟨gw_blind, gw_recv_mo hK G ha0, gw_pre hK G⟩ rfl rfl hl.1 rfl (Nat.le_of_ble_eq_true rfl) dd_mo_mayStore_21 ⟨Nat.le_of_ble_eq_true rfl, Nat.le_of_ble_eq_true rfl⟩) (fun H locs G => ?_)
  refine lv_iload_n hx hb dd_mo_mayStore_24 rfl (lv_at hl 1 rfl) ?_
  refine W.eq (g2 := F0 m 25 _ _) rfl ?_
  refine lv_bipush (v := (10 : Int32)) hx hb dd_mo_mayStore_25 (by decide) ?_
  refine lv_idiv hx hb dd_mo_mayStore_27 (by decide) ?_
  refine lv_icmp_eq (tgt := 33) hx hb dd_mo_mayStore_28 (by decide) (fun h28 => ?_) (fun h28 => ?_)
  · replace hF := gw_et h28 hF
    refine lv_iload hx hb dd_mo_mayStore_33 (lv_at hl 0 rfl) ?_
    refine lv_iconst (v := (2 : Int32)) hx hb dd_mo_mayStore_35 (by decide) ?_
    refine lv_icmp_eq (tgt := 73) hx hb dd_mo_mayStore_36 (by decide) (fun h36 => ?_) (fun h36 => ?_)
    · replace hF := gw_et h36 hF
      exact wb_mo_mayStore_73 C0  M21 _ _ _  G (lv_sub hl [] rfl) hF
    · replace hF := gw_ef h36 hF
      refine lv_iload hx hb dd_mo_mayStore_39 (lv_at hl 0 rfl) ?_
      refine lv_iconst (v := (3 : Int32)) hx hb dd_mo_mayStore_41 (by decide) ?_
      refine lv_icmp_eq (tgt := 73) hx hb dd_mo_mayStore_42 (by decide) (fun h42 => ?_) (fun h42 => ?_)
      · replace hF := gw_et h42 hF
        exact wb_mo_mayStore_73 C0  M21 _ _ _  G (lv_sub hl [] rfl) hF
      · replace hF := gw_ef h42 hF
        refine lv_iload hx hb dd_mo_mayStore_45 (lv_at hl 0 rfl) ?_
        refine lv_iconst (v := (5 : Int32)) hx hb dd_mo_mayStore_47 (by decide) ?_
        refine lv_icmp_lt (tgt := 77) hx hb dd_mo_mayStore_48 (by decide) (fun h48 => ?_) (fun h48 => ?_)
        · replace hF := gw_et h48 hF
          refine lv_iconst (v := (0 : Int32)) hx hb dd_mo_mayStore_77 (by decide) ?_
          exact W.zret hx hb hr (by decide) (fun t ht hW => gw_endi (EF := (fun M => (gw_E X Y M))) (M := M21) G ht hF) G.2.2.2.2 dd_mo_mayStore_78 hlocks
        · replace hF := gw_ef h48 hF
          refine lv_iload hx hb dd_mo_mayStore_51 (lv_at hl 0 rfl) ?_
          refine lv_i2l (v := x11.toInt64) hx hb dd_mo_mayStore_53 rfl ?_
          refine lv_ldc2 (v := (4 : Int64)) hx hb hown (hg _ kw_304) dd_mo_mayStore_54 ?_
          refine lv_aload_n hx hb dd_mo_mayStore_57 rfl (lv_at hl 2 rfl) ?_
          refine gf_mo_seen hx hb hg hown (hg _ kw_285) hK G ha0 dd_mo_mayStore_58 ?_
          refine lv_iload_n hx hb dd_mo_mayStore_61 rfl (lv_at hl 4 rfl) ?_
          refine lv_iload hx hb dd_mo_mayStore_62 (lv_at hl 0 rfl) ?_
          refine lv_isub hx hb dd_mo_mayStore_64 ?_
          refine lv_iconst (v := (4 : Int32)) hx hb dd_mo_mayStore_65 (by decide) ?_
          refine W.eq (g2 := F0 m 66 _ _) rfl ?_
          refine lv_iadd hx hb dd_mo_mayStore_66 ?_
          obtain ⟨h67, hF⟩ := gw_gd hF
          refine gr_lald hx hb hK G (gq_mo_seen ha0) (gw_vp h67) (j := ((v2 - x11) + (4 : Int32)).toNatClampNeg) rfl dd_mo_mayStore_67 ?_
          refine lv_ladd hx hb dd_mo_mayStore_68 ?_
          refine W.lcmp hx hb dd_mo_mayStore_69 ?_
          refine lv_if_gt (tgt := 77) hx hb dd_mo_mayStore_70 (by decide) (fun h70 => ?_) (fun h70 => ?_)
          · replace hF := gw_et h70 hF
            refine lv_iconst (v := (0 : Int32)) hx hb dd_mo_mayStore_77 (by decide) ?_
            exact W.zret hx hb hr (by decide) (fun t ht hW => gw_endi (EF := (fun M => (gw_E X Y M))) (M := M21) G ht hF) G.2.2.2.2 dd_mo_mayStore_78 hlocks
          · replace hF := gw_ef h70 hF
            exact wb_mo_mayStore_73 C0  M21 _ _ _  G (lv_sub hl [] rfl) hF
  · replace hF := gw_ef h28 hF
    refine lv_iconst (v := (0 : Int32)) hx hb dd_mo_mayStore_31 (by decide) ?_
    exact W.zret hx hb hr (by decide) (fun t ht hW => gw_endi (EF := (fun M => (gw_E X Y M))) (M := M21) G ht hF) G.2.2.2.2 dd_mo_mayStore_32 hlocks
set_option maxRecDepth 100000 in
set_option maxHeartbeats 4000000 in
theorem ct_mo_mayStore (l : Launch) (X : gw_X) (Y : gw_M) (M : gw_M) (a0 : Nat) (v1 : Int32) (v2 : Int32) (ha0 : gr_k a0 = (11, 0)) (z : (Int32 × gw_M)) (hF : mo_mayStore_b0 M a0 v1 v2 = some z) : Met l yy_mo_mayStore ((Cond.code yy_mo_mayStore by_mo_mayStore 5 (some .boolean)) :: gw_w) rm_mo_mayStore (va_Pc [.ref (gr_a X a0), .int v1, .int v2] (gw_B X (gw_E X Y M))) (gw_Qi X (fun M => (gw_E X Y M)) z) 0 0 (gw_A X) := by
  refine Met.ofW (cc := by_mo_mayStore) (maxL := 5) (ret := (some .boolean)) (by decide) rfl ?_
  intro p e s m args below meth c s₁ B hml hv
  obtain ⟨rfl, hB⟩ := hv
  rw [lg_entry_eq]
  have hl := lv_entry ([.ref (gr_a X a0), .int v1, .int v2]) (n := 5) (Nat.le_of_ble_eq_true rfl)
  generalize (lg_sl ([.ref (gr_a X a0), .int v1, .int v2]) ++ List.replicate (5 - (lg_sl ([.ref (gr_a X a0), .int v1, .int v2])).length) Slot.unset).toArray = ls at hl ⊢
  have hl : lv_has ls 5 [(0, .ref (gr_a X a0)), (1, .int v1), (2, .int v2)] := hl
  exact wb_mo_mayStore_0 (gw_ctx B hml rfl hB) M a0 v1 v2 _ _ _ ha0 (gw_start hB) hl hF
/-! AccountMachineModel.wrongSlot(III)I -/
abbrev rm_mo_wrongSlot : Room := { frames := 2, cells := 0, slots := 0, locals := 46 }
theorem dd_mo_wrongSlot_0 : decode by_mo_wrongSlot 0 = .ok (.aload_n 0, 1) := by decide +kernel
theorem dd_mo_wrongSlot_1 : decode by_mo_wrongSlot 1 = .ok (.getfield 75, 3) := by decide +kernel
theorem dd_mo_wrongSlot_4 : decode by_mo_wrongSlot 4 = .ok (.iload_n 2, 1) := by decide +kernel
theorem dd_mo_wrongSlot_5 : decode by_mo_wrongSlot 5 = .ok (.iconst 2, 1) := by decide +kernel
theorem dd_mo_wrongSlot_6 : decode by_mo_wrongSlot 6 = .ok (.iadd, 1) := by decide +kernel
theorem dd_mo_wrongSlot_7 : decode by_mo_wrongSlot 7 = .ok (.laload, 1) := by decide +kernel
theorem dd_mo_wrongSlot_8 : decode by_mo_wrongSlot 8 = .ok (.lconst 0, 1) := by decide +kernel
theorem dd_mo_wrongSlot_9 : decode by_mo_wrongSlot 9 = .ok (.ldc2_w 81, 3) := by decide +kernel
theorem dd_mo_wrongSlot_12 : decode by_mo_wrongSlot 12 = .ok (.invokestatic 83, 3) := by decide +kernel
theorem dd_mo_wrongSlot_15 : decode by_mo_wrongSlot 15 = .ok (.ifCond .ne 6, 3) := by decide +kernel
theorem dd_mo_wrongSlot_18 : decode by_mo_wrongSlot 18 = .ok (.bipush 6, 2) := by decide +kernel
theorem dd_mo_wrongSlot_20 : decode by_mo_wrongSlot 20 = .ok (.ireturn, 1) := by decide +kernel
theorem dd_mo_wrongSlot_21 : decode by_mo_wrongSlot 21 = .ok (.aload_n 0, 1) := by decide +kernel
theorem dd_mo_wrongSlot_22 : decode by_mo_wrongSlot 22 = .ok (.iload_n 1, 1) := by decide +kernel
theorem dd_mo_wrongSlot_23 : decode by_mo_wrongSlot 23 = .ok (.iload_n 3, 1) := by decide +kernel
theorem dd_mo_wrongSlot_24 : decode by_mo_wrongSlot 24 = .ok (.invokevirtual 131, 3) := by decide +kernel
theorem dd_mo_wrongSlot_27 : decode by_mo_wrongSlot 27 = .ok (.istore 4, 2) := by decide +kernel
theorem dd_mo_wrongSlot_29 : decode by_mo_wrongSlot 29 = .ok (.iload 4, 2) := by decide +kernel
theorem dd_mo_wrongSlot_31 : decode by_mo_wrongSlot 31 = .ok (.ifCond .eq 22, 3) := by decide +kernel
theorem dd_mo_wrongSlot_34 : decode by_mo_wrongSlot 34 = .ok (.aload_n 0, 1) := by decide +kernel
theorem dd_mo_wrongSlot_35 : decode by_mo_wrongSlot 35 = .ok (.getfield 13, 3) := by decide +kernel
theorem dd_mo_wrongSlot_38 : decode by_mo_wrongSlot 38 = .ok (.iload_n 3, 1) := by decide +kernel
theorem dd_mo_wrongSlot_39 : decode by_mo_wrongSlot 39 = .ok (.iaload, 1) := by decide +kernel
theorem dd_mo_wrongSlot_40 : decode by_mo_wrongSlot 40 = .ok (.aload_n 0, 1) := by decide +kernel
theorem dd_mo_wrongSlot_41 : decode by_mo_wrongSlot 41 = .ok (.getfield 44, 3) := by decide +kernel
theorem dd_mo_wrongSlot_44 : decode by_mo_wrongSlot 44 = .ok (.iload_n 1, 1) := by decide +kernel
theorem dd_mo_wrongSlot_45 : decode by_mo_wrongSlot 45 = .ok (.iaload, 1) := by decide +kernel
theorem dd_mo_wrongSlot_46 : decode by_mo_wrongSlot 46 = .ok (.if_icmp .ne 7, 3) := by decide +kernel
theorem dd_mo_wrongSlot_49 : decode by_mo_wrongSlot 49 = .ok (.iconst 1, 1) := by decide +kernel
theorem dd_mo_wrongSlot_50 : decode by_mo_wrongSlot 50 = .ok (.goto 4, 3) := by decide +kernel
theorem dd_mo_wrongSlot_53 : decode by_mo_wrongSlot 53 = .ok (.iconst 0, 1) := by decide +kernel
theorem dd_mo_wrongSlot_54 : decode by_mo_wrongSlot 54 = .ok (.istore 5, 2) := by decide +kernel
theorem dd_mo_wrongSlot_56 : decode by_mo_wrongSlot 56 = .ok (.iconst 0, 1) := by decide +kernel
theorem dd_mo_wrongSlot_57 : decode by_mo_wrongSlot 57 = .ok (.istore 6, 2) := by decide +kernel
theorem dd_mo_wrongSlot_59 : decode by_mo_wrongSlot 59 = .ok (.iconst 0, 1) := by decide +kernel
theorem dd_mo_wrongSlot_60 : decode by_mo_wrongSlot 60 = .ok (.istore 7, 2) := by decide +kernel
theorem dd_mo_wrongSlot_62 : decode by_mo_wrongSlot 62 = .ok (.iconst 0, 1) := by decide +kernel
theorem dd_mo_wrongSlot_63 : decode by_mo_wrongSlot 63 = .ok (.istore 8, 2) := by decide +kernel
theorem dd_mo_wrongSlot_65 : decode by_mo_wrongSlot 65 = .ok (.iload 8, 2) := by decide +kernel
theorem dd_mo_wrongSlot_67 : decode by_mo_wrongSlot 67 = .ok (.iconst 4, 1) := by decide +kernel
theorem dd_mo_wrongSlot_68 : decode by_mo_wrongSlot 68 = .ok (.if_icmp .ge 83, 3) := by decide +kernel
theorem dd_mo_wrongSlot_71 : decode by_mo_wrongSlot 71 = .ok (.aload_n 0, 1) := by decide +kernel
theorem dd_mo_wrongSlot_72 : decode by_mo_wrongSlot 72 = .ok (.getfield 75, 3) := by decide +kernel
theorem dd_mo_wrongSlot_75 : decode by_mo_wrongSlot 75 = .ok (.iload_n 2, 1) := by decide +kernel
theorem dd_mo_wrongSlot_76 : decode by_mo_wrongSlot 76 = .ok (.iconst 5, 1) := by decide +kernel
theorem dd_mo_wrongSlot_77 : decode by_mo_wrongSlot 77 = .ok (.iadd, 1) := by decide +kernel
theorem dd_mo_wrongSlot_78 : decode by_mo_wrongSlot 78 = .ok (.iload 8, 2) := by decide +kernel
theorem dd_mo_wrongSlot_80 : decode by_mo_wrongSlot 80 = .ok (.iadd, 1) := by decide +kernel
theorem dd_mo_wrongSlot_81 : decode by_mo_wrongSlot 81 = .ok (.laload, 1) := by decide +kernel
theorem dd_mo_wrongSlot_82 : decode by_mo_wrongSlot 82 = .ok (.l2i, 1) := by decide +kernel
theorem dd_mo_wrongSlot_83 : decode by_mo_wrongSlot 83 = .ok (.istore 9, 2) := by decide +kernel
theorem dd_mo_wrongSlot_85 : decode by_mo_wrongSlot 85 = .ok (.iload 6, 2) := by decide +kernel
theorem dd_mo_wrongSlot_87 : decode by_mo_wrongSlot 87 = .ok (.ifCond .ne 8, 3) := by decide +kernel
theorem dd_mo_wrongSlot_90 : decode by_mo_wrongSlot 90 = .ok (.iload 9, 2) := by decide +kernel
theorem dd_mo_wrongSlot_92 : decode by_mo_wrongSlot 92 = .ok (.ifCond .eq 7, 3) := by decide +kernel
theorem dd_mo_wrongSlot_95 : decode by_mo_wrongSlot 95 = .ok (.iconst 1, 1) := by decide +kernel
theorem dd_mo_wrongSlot_96 : decode by_mo_wrongSlot 96 = .ok (.goto 4, 3) := by decide +kernel
theorem dd_mo_wrongSlot_99 : decode by_mo_wrongSlot 99 = .ok (.iconst 0, 1) := by decide +kernel
theorem dd_mo_wrongSlot_100 : decode by_mo_wrongSlot 100 = .ok (.istore 6, 2) := by decide +kernel
theorem dd_mo_wrongSlot_102 : decode by_mo_wrongSlot 102 = .ok (.iload 7, 2) := by decide +kernel
theorem dd_mo_wrongSlot_104 : decode by_mo_wrongSlot 104 = .ok (.ifCond .ne 34, 3) := by decide +kernel
theorem dd_mo_wrongSlot_107 : decode by_mo_wrongSlot 107 = .ok (.iload 9, 2) := by decide +kernel
theorem dd_mo_wrongSlot_109 : decode by_mo_wrongSlot 109 = .ok (.iload 8, 2) := by decide +kernel
theorem dd_mo_wrongSlot_111 : decode by_mo_wrongSlot 111 = .ok (.aload_n 0, 1) := by decide +kernel
theorem dd_mo_wrongSlot_112 : decode by_mo_wrongSlot 112 = .ok (.getfield 16, 3) := by decide +kernel
theorem dd_mo_wrongSlot_115 : decode by_mo_wrongSlot 115 = .ok (.iload_n 3, 1) := by decide +kernel
theorem dd_mo_wrongSlot_116 : decode by_mo_wrongSlot 116 = .ok (.iaload, 1) := by decide +kernel
theorem dd_mo_wrongSlot_117 : decode by_mo_wrongSlot 117 = .ok (.if_icmp .ge 17, 3) := by decide +kernel
theorem dd_mo_wrongSlot_120 : decode by_mo_wrongSlot 120 = .ok (.aload_n 0, 1) := by decide +kernel
theorem dd_mo_wrongSlot_121 : decode by_mo_wrongSlot 121 = .ok (.getfield 19, 3) := by decide +kernel
theorem dd_mo_wrongSlot_124 : decode by_mo_wrongSlot 124 = .ok (.iconst 4, 1) := by decide +kernel
theorem dd_mo_wrongSlot_125 : decode by_mo_wrongSlot 125 = .ok (.iload_n 3, 1) := by decide +kernel
theorem dd_mo_wrongSlot_126 : decode by_mo_wrongSlot 126 = .ok (.imul, 1) := by decide +kernel
theorem dd_mo_wrongSlot_127 : decode by_mo_wrongSlot 127 = .ok (.iload 8, 2) := by decide +kernel
theorem dd_mo_wrongSlot_129 : decode by_mo_wrongSlot 129 = .ok (.iadd, 1) := by decide +kernel
theorem dd_mo_wrongSlot_130 : decode by_mo_wrongSlot 130 = .ok (.iaload, 1) := by decide +kernel
theorem dd_mo_wrongSlot_131 : decode by_mo_wrongSlot 131 = .ok (.goto 4, 3) := by decide +kernel
theorem dd_mo_wrongSlot_134 : decode by_mo_wrongSlot 134 = .ok (.iconst 0, 1) := by decide +kernel
theorem dd_mo_wrongSlot_135 : decode by_mo_wrongSlot 135 = .ok (.if_icmp .eq 7, 3) := by decide +kernel
theorem dd_mo_wrongSlot_138 : decode by_mo_wrongSlot 138 = .ok (.iconst 1, 1) := by decide +kernel
theorem dd_mo_wrongSlot_139 : decode by_mo_wrongSlot 139 = .ok (.goto 4, 3) := by decide +kernel
theorem dd_mo_wrongSlot_142 : decode by_mo_wrongSlot 142 = .ok (.iconst 0, 1) := by decide +kernel
theorem dd_mo_wrongSlot_143 : decode by_mo_wrongSlot 143 = .ok (.istore 7, 2) := by decide +kernel
theorem dd_mo_wrongSlot_145 : decode by_mo_wrongSlot 145 = .ok (.iinc 8 1, 3) := by decide +kernel
theorem dd_mo_wrongSlot_148 : decode by_mo_wrongSlot 148 = .ok (.goto (-83), 3) := by decide +kernel
theorem dd_mo_wrongSlot_151 : decode by_mo_wrongSlot 151 = .ok (.aload_n 0, 1) := by decide +kernel
theorem dd_mo_wrongSlot_152 : decode by_mo_wrongSlot 152 = .ok (.getfield 75, 3) := by decide +kernel
theorem dd_mo_wrongSlot_155 : decode by_mo_wrongSlot 155 = .ok (.iload_n 2, 1) := by decide +kernel
theorem dd_mo_wrongSlot_156 : decode by_mo_wrongSlot 156 = .ok (.iconst 3, 1) := by decide +kernel
theorem dd_mo_wrongSlot_157 : decode by_mo_wrongSlot 157 = .ok (.iadd, 1) := by decide +kernel
theorem dd_mo_wrongSlot_158 : decode by_mo_wrongSlot 158 = .ok (.laload, 1) := by decide +kernel
theorem dd_mo_wrongSlot_159 : decode by_mo_wrongSlot 159 = .ok (.lstore 8, 2) := by decide +kernel
theorem dd_mo_wrongSlot_161 : decode by_mo_wrongSlot 161 = .ok (.aload_n 0, 1) := by decide +kernel
theorem dd_mo_wrongSlot_162 : decode by_mo_wrongSlot 162 = .ok (.getfield 75, 3) := by decide +kernel
theorem dd_mo_wrongSlot_165 : decode by_mo_wrongSlot 165 = .ok (.iload_n 2, 1) := by decide +kernel
theorem dd_mo_wrongSlot_166 : decode by_mo_wrongSlot 166 = .ok (.iconst 2, 1) := by decide +kernel
theorem dd_mo_wrongSlot_167 : decode by_mo_wrongSlot 167 = .ok (.iadd, 1) := by decide +kernel
theorem dd_mo_wrongSlot_168 : decode by_mo_wrongSlot 168 = .ok (.laload, 1) := by decide +kernel
theorem dd_mo_wrongSlot_169 : decode by_mo_wrongSlot 169 = .ok (.aload_n 0, 1) := by decide +kernel
theorem dd_mo_wrongSlot_170 : decode by_mo_wrongSlot 170 = .ok (.getfield 13, 3) := by decide +kernel
theorem dd_mo_wrongSlot_173 : decode by_mo_wrongSlot 173 = .ok (.iload_n 3, 1) := by decide +kernel
theorem dd_mo_wrongSlot_174 : decode by_mo_wrongSlot 174 = .ok (.iaload, 1) := by decide +kernel
theorem dd_mo_wrongSlot_175 : decode by_mo_wrongSlot 175 = .ok (.i2l, 1) := by decide +kernel
theorem dd_mo_wrongSlot_176 : decode by_mo_wrongSlot 176 = .ok (.lcmp, 1) := by decide +kernel
theorem dd_mo_wrongSlot_177 : decode by_mo_wrongSlot 177 = .ok (.ifCond .eq 7, 3) := by decide +kernel
theorem dd_mo_wrongSlot_180 : decode by_mo_wrongSlot 180 = .ok (.iconst 1, 1) := by decide +kernel
theorem dd_mo_wrongSlot_181 : decode by_mo_wrongSlot 181 = .ok (.goto 4, 3) := by decide +kernel
theorem dd_mo_wrongSlot_184 : decode by_mo_wrongSlot 184 = .ok (.iconst 0, 1) := by decide +kernel
theorem dd_mo_wrongSlot_185 : decode by_mo_wrongSlot 185 = .ok (.istore 10, 2) := by decide +kernel
theorem dd_mo_wrongSlot_187 : decode by_mo_wrongSlot 187 = .ok (.iload 10, 2) := by decide +kernel
theorem dd_mo_wrongSlot_189 : decode by_mo_wrongSlot 189 = .ok (.ifCond .eq 13, 3) := by decide +kernel
theorem dd_mo_wrongSlot_192 : decode by_mo_wrongSlot 192 = .ok (.iload 5, 2) := by decide +kernel
theorem dd_mo_wrongSlot_194 : decode by_mo_wrongSlot 194 = .ok (.ifCond .eq 20, 3) := by decide +kernel
theorem dd_mo_wrongSlot_197 : decode by_mo_wrongSlot 197 = .ok (.iload 6, 2) := by decide +kernel
theorem dd_mo_wrongSlot_199 : decode by_mo_wrongSlot 199 = .ok (.ifCond .ne 15, 3) := by decide +kernel
theorem dd_mo_wrongSlot_202 : decode by_mo_wrongSlot 202 = .ok (.lload 8, 2) := by decide +kernel
theorem dd_mo_wrongSlot_204 : decode by_mo_wrongSlot 204 = .ok (.lconst 0, 1) := by decide +kernel
theorem dd_mo_wrongSlot_205 : decode by_mo_wrongSlot 205 = .ok (.ldc2_w 135, 3) := by decide +kernel
theorem dd_mo_wrongSlot_208 : decode by_mo_wrongSlot 208 = .ok (.invokestatic 83, 3) := by decide +kernel
theorem dd_mo_wrongSlot_211 : decode by_mo_wrongSlot 211 = .ok (.ifCond .ne 6, 3) := by decide +kernel
theorem dd_mo_wrongSlot_214 : decode by_mo_wrongSlot 214 = .ok (.bipush 7, 2) := by decide +kernel
theorem dd_mo_wrongSlot_216 : decode by_mo_wrongSlot 216 = .ok (.ireturn, 1) := by decide +kernel
theorem dd_mo_wrongSlot_217 : decode by_mo_wrongSlot 217 = .ok (.lload 8, 2) := by decide +kernel
theorem dd_mo_wrongSlot_219 : decode by_mo_wrongSlot 219 = .ok (.aload_n 0, 1) := by decide +kernel
theorem dd_mo_wrongSlot_220 : decode by_mo_wrongSlot 220 = .ok (.getfield 7, 3) := by decide +kernel
theorem dd_mo_wrongSlot_223 : decode by_mo_wrongSlot 223 = .ok (.iload_n 3, 1) := by decide +kernel
theorem dd_mo_wrongSlot_224 : decode by_mo_wrongSlot 224 = .ok (.iaload, 1) := by decide +kernel
theorem dd_mo_wrongSlot_225 : decode by_mo_wrongSlot 225 = .ok (.i2l, 1) := by decide +kernel
theorem dd_mo_wrongSlot_226 : decode by_mo_wrongSlot 226 = .ok (.lcmp, 1) := by decide +kernel
theorem dd_mo_wrongSlot_227 : decode by_mo_wrongSlot 227 = .ok (.ifCond .ge 8, 3) := by decide +kernel
theorem dd_mo_wrongSlot_230 : decode by_mo_wrongSlot 230 = .ok (.iload 5, 2) := by decide +kernel
theorem dd_mo_wrongSlot_232 : decode by_mo_wrongSlot 232 = .ok (.ifCond .eq 31, 3) := by decide +kernel
theorem dd_mo_wrongSlot_235 : decode by_mo_wrongSlot 235 = .ok (.lload 8, 2) := by decide +kernel
theorem dd_mo_wrongSlot_237 : decode by_mo_wrongSlot 237 = .ok (.aload_n 0, 1) := by decide +kernel
theorem dd_mo_wrongSlot_238 : decode by_mo_wrongSlot 238 = .ok (.getfield 7, 3) := by decide +kernel
theorem dd_mo_wrongSlot_241 : decode by_mo_wrongSlot 241 = .ok (.iload_n 3, 1) := by decide +kernel
theorem dd_mo_wrongSlot_242 : decode by_mo_wrongSlot 242 = .ok (.iaload, 1) := by decide +kernel
theorem dd_mo_wrongSlot_243 : decode by_mo_wrongSlot 243 = .ok (.i2l, 1) := by decide +kernel
theorem dd_mo_wrongSlot_244 : decode by_mo_wrongSlot 244 = .ok (.lcmp, 1) := by decide +kernel
theorem dd_mo_wrongSlot_245 : decode by_mo_wrongSlot 245 = .ok (.ifCond .le 8, 3) := by decide +kernel
theorem dd_mo_wrongSlot_248 : decode by_mo_wrongSlot 248 = .ok (.iload 4, 2) := by decide +kernel
theorem dd_mo_wrongSlot_250 : decode by_mo_wrongSlot 250 = .ok (.ifCond .eq 13, 3) := by decide +kernel
theorem dd_mo_wrongSlot_253 : decode by_mo_wrongSlot 253 = .ok (.iload 7, 2) := by decide +kernel
theorem dd_mo_wrongSlot_255 : decode by_mo_wrongSlot 255 = .ok (.ifCond .eq 13, 3) := by decide +kernel
theorem dd_mo_wrongSlot_258 : decode by_mo_wrongSlot 258 = .ok (.iload 5, 2) := by decide +kernel
theorem dd_mo_wrongSlot_260 : decode by_mo_wrongSlot 260 = .ok (.ifCond .ne 8, 3) := by decide +kernel
theorem dd_mo_wrongSlot_263 : decode by_mo_wrongSlot 263 = .ok (.bipush 7, 2) := by decide +kernel
theorem dd_mo_wrongSlot_265 : decode by_mo_wrongSlot 265 = .ok (.goto 4, 3) := by decide +kernel
theorem dd_mo_wrongSlot_268 : decode by_mo_wrongSlot 268 = .ok (.iconst 0, 1) := by decide +kernel
theorem dd_mo_wrongSlot_269 : decode by_mo_wrongSlot 269 = .ok (.ireturn, 1) := by decide +kernel
def mo_wrongSlot_b263 (M : gw_M) : Option (Int32 × gw_M) :=
  some ((7 : Int32), M)
def mo_wrongSlot_b253 (M : gw_M) (v5 : Int32) (v7 : Int32) : Option (Int32 × gw_M) :=
  if v7 = (0 : Int32) then (some ((0 : Int32), M)) else (if v5 = (0 : Int32) then (mo_wrongSlot_b263  M) else (some ((0 : Int32), M)))
def mo_wrongSlot_b235 (M : gw_M) (a0 : Nat) (v3 : Int32) (v4 : Int32) (v5 : Int32) (v7 : Int32) (v8 : Int64) : Option (Int32 × gw_M) :=
  gw_gu (gw_in v3 16) (if (lg_cmp v8 ((M.1 (a0 + 1) v3.toNatClampNeg).toInt64)) ≤ (0 : Int32) then (mo_wrongSlot_b253  M v5 v7) else (if v4 = (0 : Int32) then (mo_wrongSlot_b263  M) else (mo_wrongSlot_b253  M v5 v7)))
def mo_wrongSlot_b202 (M : gw_M) (a0 : Nat) (v3 : Int32) (v4 : Int32) (v5 : Int32) (v7 : Int32) (v8 : Int64) : Option (Int32 × gw_M) :=
  gw_bd (mo_in_b0 M v8 (0 : Int64) (1000000 : Int64)) (fun r208 M208 => if r208 = (0 : Int32) then (some ((7 : Int32), M208)) else (gw_gu (gw_in v3 16) (if (0 : Int32) ≤ (lg_cmp v8 ((M208.1 (a0 + 1) v3.toNatClampNeg).toInt64)) then (mo_wrongSlot_b235  M208 a0 v3 v4 v5 v7 v8) else (if v5 = (0 : Int32) then (mo_wrongSlot_b263  M208) else (mo_wrongSlot_b235  M208 a0 v3 v4 v5 v7 v8)))))
def mo_wrongSlot_b185 (M : gw_M) (a0 : Nat) (v3 : Int32) (v4 : Int32) (v5 : Int32) (v6 : Int32) (v7 : Int32) (v8 : Int64) (t0 : Int32) : Option (Int32 × gw_M) :=
  if t0 = (0 : Int32) then (mo_wrongSlot_b202  M a0 v3 v4 v5 v7 v8) else (if v5 = (0 : Int32) then (some ((7 : Int32), M)) else (if v6 = (0 : Int32) then (mo_wrongSlot_b202  M a0 v3 v4 v5 v7 v8) else (some ((7 : Int32), M))))
def mo_wrongSlot_b143 (K65 : gw_M → Nat → Int32 → Int32 → Int32 → Int32 → Int32 → Int32 → Int32 → Option (Int32 × gw_M)) (M : gw_M) (a0 : Nat) (v2 : Int32) (v3 : Int32) (v4 : Int32) (v5 : Int32) (v6 : Int32) (v8 : Int32) (t0 : Int32) : Option (Int32 × gw_M) :=
  K65 M a0 v2 v3 v4 v5 v6 t0 (v8 + (1 : Int32))
def mo_wrongSlot_b138 (K65 : gw_M → Nat → Int32 → Int32 → Int32 → Int32 → Int32 → Int32 → Int32 → Option (Int32 × gw_M)) (M : gw_M) (a0 : Nat) (v2 : Int32) (v3 : Int32) (v4 : Int32) (v5 : Int32) (v6 : Int32) (v8 : Int32) : Option (Int32 × gw_M) :=
  mo_wrongSlot_b143 K65 M a0 v2 v3 v4 v5 v6 v8 (1 : Int32)
def mo_wrongSlot_b135 (K65 : gw_M → Nat → Int32 → Int32 → Int32 → Int32 → Int32 → Int32 → Int32 → Option (Int32 × gw_M)) (M : gw_M) (a0 : Nat) (v2 : Int32) (v3 : Int32) (v4 : Int32) (v5 : Int32) (v6 : Int32) (v8 : Int32) (t0 : Int32) (t1 : Int32) : Option (Int32 × gw_M) :=
  if t1 = t0 then (mo_wrongSlot_b143 K65 M a0 v2 v3 v4 v5 v6 v8 (0 : Int32)) else (mo_wrongSlot_b138 K65 M a0 v2 v3 v4 v5 v6 v8)
def mo_wrongSlot_b100 (K65 : gw_M → Nat → Int32 → Int32 → Int32 → Int32 → Int32 → Int32 → Int32 → Option (Int32 × gw_M)) (M : gw_M) (a0 : Nat) (v2 : Int32) (v3 : Int32) (v4 : Int32) (v5 : Int32) (v7 : Int32) (v8 : Int32) (v9 : Int32) (t0 : Int32) : Option (Int32 × gw_M) :=
  if v7 = (0 : Int32) then (gw_gu (gw_in v3 16) (if (M.1 (a0 + 3) v3.toNatClampNeg) ≤ v8 then (mo_wrongSlot_b135 K65 M a0 v2 v3 v4 v5 t0 v8 (0 : Int32) v9) else (gw_gu (gw_in (((4 : Int32) * v3) + v8) 64) (mo_wrongSlot_b135 K65 M a0 v2 v3 v4 v5 t0 v8 (M.1 (a0 + 4) ((((4 : Int32) * v3) + v8).toNatClampNeg)) v9)))) else (mo_wrongSlot_b138 K65 M a0 v2 v3 v4 v5 t0 v8)
def mo_wrongSlot_b95 (K65 : gw_M → Nat → Int32 → Int32 → Int32 → Int32 → Int32 → Int32 → Int32 → Option (Int32 × gw_M)) (M : gw_M) (a0 : Nat) (v2 : Int32) (v3 : Int32) (v4 : Int32) (v5 : Int32) (v7 : Int32) (v8 : Int32) (v9 : Int32) : Option (Int32 × gw_M) :=
  mo_wrongSlot_b100 K65 M a0 v2 v3 v4 v5 v7 v8 v9 (1 : Int32)
def mo_wrongSlot_b65 (K65 : gw_M → Nat → Int32 → Int32 → Int32 → Int32 → Int32 → Int32 → Int32 → Option (Int32 × gw_M)) (M : gw_M) (a0 : Nat) (v2 : Int32) (v3 : Int32) (v4 : Int32) (v5 : Int32) (v6 : Int32) (v7 : Int32) (v8 : Int32) : Option (Int32 × gw_M) :=
  if (4 : Int32) ≤ v8 then (gw_gu (gw_in (v2 + (3 : Int32)) 200) (gw_lt (M.2 (a0 + 22) ((v2 + (3 : Int32)).toNatClampNeg)) (fun x159 => gw_gu (gw_in (v2 + (2 : Int32)) 200) (gw_gu (gw_in v3 16) (if (lg_cmp (M.2 (a0 + 22) ((v2 + (2 : Int32)).toNatClampNeg)) ((M.1 (a0 + 2) v3.toNatClampNeg).toInt64)) = (0 : Int32) then (mo_wrongSlot_b185  M a0 v3 v4 v5 v6 v7 x159 (0 : Int32)) else (mo_wrongSlot_b185  M a0 v3 v4 v5 v6 v7 x159 (1 : Int32))))))) else (gw_gu (gw_in ((v2 + (5 : Int32)) + v8) 200) (gw_lt ((M.2 (a0 + 22) (((v2 + (5 : Int32)) + v8).toNatClampNeg)).toInt32) (fun x83 => if v6 = (0 : Int32) then (if x83 = (0 : Int32) then (mo_wrongSlot_b100 K65 M a0 v2 v3 v4 v5 v7 v8 x83 (0 : Int32)) else (mo_wrongSlot_b95 K65 M a0 v2 v3 v4 v5 v7 v8 x83)) else (mo_wrongSlot_b95 K65 M a0 v2 v3 v4 v5 v7 v8 x83))))
def mo_wrongSlot_l65 : Nat → gw_M → Nat → Int32 → Int32 → Int32 → Int32 → Int32 → Int32 → Int32 → Option (Int32 × gw_M)
  | 0 => fun _ _ _ _ _ _ _ _ _ => none
  | n + 1 => mo_wrongSlot_b65  (mo_wrongSlot_l65  n)
def mo_wrongSlot_b54 (M : gw_M) (a0 : Nat) (v2 : Int32) (v3 : Int32) (v4 : Int32) (t0 : Int32) : Option (Int32 × gw_M) :=
  mo_wrongSlot_l65  2100 M a0 v2 v3 v4 t0 (0 : Int32) (0 : Int32) (0 : Int32)
def mo_wrongSlot_b53 (M : gw_M) (a0 : Nat) (v2 : Int32) (v3 : Int32) (v4 : Int32) : Option (Int32 × gw_M) :=
  mo_wrongSlot_b54  M a0 v2 v3 v4 (0 : Int32)
def mo_wrongSlot_b0 (M : gw_M) (a0 : Nat) (v1 : Int32) (v2 : Int32) (v3 : Int32) : Option (Int32 × gw_M) :=
  gw_gu (gw_in (v2 + (2 : Int32)) 200) (gw_bd (mo_in_b0 M (M.2 (a0 + 22) ((v2 + (2 : Int32)).toNatClampNeg)) (0 : Int64) (3 : Int64)) (fun r12 M12 => if r12 = (0 : Int32) then (some ((6 : Int32), M12)) else (gw_bd (mo_writable_b0 M12 a0 v1 v3) (fun r24 M24 => if r24 = (0 : Int32) then (mo_wrongSlot_b53  M24 a0 v2 v3 r24) else (gw_gu (gw_in v3 16) (gw_gu (gw_in v1 9) (if (M24.1 (a0 + 2) v3.toNatClampNeg) = (M24.1 (a0 + 12) v1.toNatClampNeg) then (mo_wrongSlot_b54  M24 a0 v2 v3 r24 (1 : Int32)) else (mo_wrongSlot_b53  M24 a0 v2 v3 r24))))))))
set_option maxRecDepth 100000 in
set_option maxHeartbeats 4000000 in
theorem wb_mo_wrongSlot_263 {p : Program} {l : Launch} {e : Env} {s : State} {m : MethodId} {args : Array Value} {below : List Frame} {meth : Method} {c : Code} {X : gw_X} {Y : gw_M} {z : (Int32 × gw_M)} (C0 : gw_C ((Cond.code yy_mo_wrongSlot by_mo_wrongSlot 11 (some .int)) :: gw_w) by_mo_wrongSlot 11 (some .int) "AccountMachineModel" X p s m args meth c) (M : gw_M) (H : Heap) (locs : List Loc) (ls : Array Slot) (G : gw_G X (gw_E X Y M) s H locs) (hl : lv_has ls 11 []) (hF : mo_wrongSlot_b263  M = some z) : W p l e rm_mo_wrongSlot s m args below meth c H locs 0 0 (MQ below (gw_Qi X (fun M => (gw_E X Y M)) z) args s 0 0 (gw_A X)) (F0 m 263 ls []) := by
  obtain ⟨hx, hb, hml, hown, hts, hr, hlocks, hK⟩ := id C0
  have hg : ∀ w ∈ gw_w, w.before args s = true := fun w h => hts w (List.mem_cons_of_mem _ h)
  unfold mo_wrongSlot_b263 at hF
  refine lv_bipush (v := (7 : Int32)) hx hb dd_mo_wrongSlot_263 (by decide) ?_
  refine lv_goto (tgt := 269) hx hb dd_mo_wrongSlot_265 (by decide) ?_
  exact W.iret hx hb hr (fun t ht hW => gw_endi (EF := (fun M => (gw_E X Y M))) (M := M) G ht hF) G.2.2.2.2 dd_mo_wrongSlot_269 hlocks
set_option maxRecDepth 100000 in
set_option maxHeartbeats 4000000 in
theorem wb_mo_wrongSlot_253 {p : Program} {l : Launch} {e : Env} {s : State} {m : MethodId} {args : Array Value} {below : List Frame} {meth : Method} {c : Code} {X : gw_X} {Y : gw_M} {z : (Int32 × gw_M)} (C0 : gw_C ((Cond.code yy_mo_wrongSlot by_mo_wrongSlot 11 (some .int)) :: gw_w) by_mo_wrongSlot 11 (some .int) "AccountMachineModel" X p s m args meth c) (M : gw_M) (v5 : Int32) (v7 : Int32) (H : Heap) (locs : List Loc) (ls : Array Slot) (G : gw_G X (gw_E X Y M) s H locs) (hl : lv_has ls 11 [(5, .int v5), (7, .int v7)]) (hF : mo_wrongSlot_b253  M v5 v7 = some z) : W p l e rm_mo_wrongSlot s m args below meth c H locs 0 0 (MQ below (gw_Qi X (fun M => (gw_E X Y M)) z) args s 0 0 (gw_A X)) (F0 m 253 ls []) := by
  obtain ⟨hx, hb, hml, hown, hts, hr, hlocks, hK⟩ := id C0
  have hg : ∀ w ∈ gw_w, w.before args s = true := fun w h => hts w (List.mem_cons_of_mem _ h)
  unfold mo_wrongSlot_b253 at hF
  refine lv_iload hx hb dd_mo_wrongSlot_253 (lv_at hl 1 rfl) ?_
  refine lv_if_eq (tgt := 268) hx hb dd_mo_wrongSlot_255 (by decide) (fun h255 => ?_) (fun h255 => ?_)
  · replace hF := gw_et h255 hF
    refine lv_iconst (v := (0 : Int32)) hx hb dd_mo_wrongSlot_268 (by decide) ?_
    exact W.iret hx hb hr (fun t ht hW => gw_endi (EF := (fun M => (gw_E X Y M))) (M := M) G ht hF) G.2.2.2.2 dd_mo_wrongSlot_269 hlocks
  · replace hF := gw_ef h255 hF
    refine lv_iload hx hb dd_mo_wrongSlot_258 (lv_at hl 0 rfl) ?_
    refine lv_if_ne (tgt := 268) hx hb dd_mo_wrongSlot_260 (by decide) (fun h260 => ?_) (fun h260 => ?_)
    · replace hF := gw_ef h260 hF
      refine lv_iconst (v := (0 : Int32)) hx hb dd_mo_wrongSlot_268 (by decide) ?_
      exact W.iret hx hb hr (fun t ht hW => gw_endi (EF := (fun M => (gw_E X Y M))) (M := M) G ht hF) G.2.2.2.2 dd_mo_wrongSlot_269 hlocks
    · replace hF := gw_et h260 hF
      exact wb_mo_wrongSlot_263 C0  M _ _ _  G (lv_sub hl [] rfl) hF
set_option maxRecDepth 100000 in
set_option maxHeartbeats 4000000 in
theorem wb_mo_wrongSlot_235 {p : Program} {l : Launch} {e : Env} {s : State} {m : MethodId} {args : Array Value} {below : List Frame} {meth : Method} {c : Code} {X : gw_X} {Y : gw_M} {z : (Int32 × gw_M)} (C0 : gw_C ((Cond.code yy_mo_wrongSlot by_mo_wrongSlot 11 (some .int)) :: gw_w) by_mo_wrongSlot 11 (some .int) "AccountMachineModel" X p s m args meth c) (M : gw_M) (a0 : Nat) (v3 : Int32) (v4 : Int32) (v5 : Int32) (v7 : Int32) (v8 : Int64) (H : Heap) (locs : List Loc) (ls : Array Slot) (ha0 : gr_k a0 = (11, 0)) (G : gw_G X (gw_E X Y M) s H locs) (hl : lv_has ls 11 [(0, .ref (gr_a X a0)), (3, .int v3), (4, .int v4), (5, .int v5), (7, .int v7), (8, .long v8)]) (hF : mo_wrongSlot_b235  M a0 v3 v4 v5 v7 v8 = some z) : W p l e rm_mo_wrongSlot s m args below meth c H locs 0 0 (MQ below (gw_Qi X (fun M => (gw_E X Y M)) z) args s 0 0 (gw_A X)) (F0 m 235 ls []) := by
  obtain ⟨hx, hb, hml, hown, hts, hr, hlocks, hK⟩ := id C0
  have hg : ∀ w ∈ gw_w, w.before args s = true := fun w h => hts w (List.mem_cons_of_mem _ h)
  unfold mo_wrongSlot_b235 at hF
  refine lv_lload hx hb dd_mo_wrongSlot_235 (lv_at hl 5 rfl) ?_
  refine lv_aload_n hx hb dd_mo_wrongSlot_237 rfl (lv_at hl 0 rfl) ?_
  refine gf_mo_balances hx hb hg hown (hg _ kw_293) hK G ha0 dd_mo_wrongSlot_238 ?_
  refine lv_iload_n hx hb dd_mo_wrongSlot_241 rfl (lv_at hl 1 rfl) ?_
  obtain ⟨h242, hF⟩ := gw_gd hF
  refine gr_iald hx hb hK G (gq_mo_balances ha0) (gw_vp h242) (j := v3.toNatClampNeg) rfl dd_mo_wrongSlot_242 ?_
  refine lv_i2l (v := (M.1 (a0 + 1) v3.toNatClampNeg).toInt64) hx hb dd_mo_wrongSlot_243 rfl ?_
  refine W.lcmp hx hb dd_mo_wrongSlot_244 ?_
  refine lv_if_le (tgt := 253) hx hb dd_mo_wrongSlot_245 (by decide) (fun h245 => ?_) (fun h245 => ?_)
  · replace hF := gw_et h245 hF
    exact wb_mo_wrongSlot_253 C0  M v5 v7 _ _ _  G (lv_sub hl [3, 4] rfl) hF
  · replace hF := gw_ef h245 hF
    refine lv_iload hx hb dd_mo_wrongSlot_248 (lv_at hl 2 rfl) ?_
    refine lv_if_eq (tgt := 263) hx hb dd_mo_wrongSlot_250 (by decide) (fun h250 => ?_) (fun h250 => ?_)
    · replace hF := gw_et h250 hF
      exact wb_mo_wrongSlot_263 C0  M _ _ _  G (lv_sub hl [] rfl) hF
    · replace hF := gw_ef h250 hF
      exact wb_mo_wrongSlot_253 C0  M v5 v7 _ _ _  G (lv_sub hl [3, 4] rfl) hF
set_option maxRecDepth 100000 in
set_option maxHeartbeats 4000000 in
theorem wb_mo_wrongSlot_202 {p : Program} {l : Launch} {e : Env} {s : State} {m : MethodId} {args : Array Value} {below : List Frame} {meth : Method} {c : Code} {X : gw_X} {Y : gw_M} {z : (Int32 × gw_M)} (C0 : gw_C ((Cond.code yy_mo_wrongSlot by_mo_wrongSlot 11 (some .int)) :: gw_w) by_mo_wrongSlot 11 (some .int) "AccountMachineModel" X p s m args meth c) (M : gw_M) (a0 : Nat) (v3 : Int32) (v4 : Int32) (v5 : Int32) (v7 : Int32) (v8 : Int64) (H : Heap) (locs : List Loc) (ls : Array Slot) (ha0 : gr_k a0 = (11, 0)) (G : gw_G X (gw_E X Y M) s H locs) (hl : lv_has ls 11 [(0, .ref (gr_a X a0)), (3, .int v3), (4, .int v4), (5, .int v5), (7, .int v7), (8, .long v8)]) (hF : mo_wrongSlot_b202  M a0 v3 v4 v5 v7 v8 = some z) : W p l e rm_mo_wrongSlot s m args below meth c H locs 0 0 (MQ below (gw_Qi X (fun M => (gw_E X Y M)) z) args s 0 0 (gw_A X)) (F0 m 202 ls []) := by
  obtain ⟨hx, hb, hml, hown, hts, hr, hlocks, hK⟩ := id C0
  have hg : ∀ w ∈ gw_w, w.before args s = true := fun w h => hts w (List.mem_cons_of_mem _ h)
  unfold mo_wrongSlot_b202 at hF
  refine lv_lload hx hb dd_mo_wrongSlot_202 (lv_at hl 5 rfl) ?_
  refine lv_lconst (v := (0 : Int64)) hx hb dd_mo_wrongSlot_204 (by decide) ?_
  refine lv_ldc2 (v := (1000000 : Int64)) hx hb hown (hg _ kw_305) dd_mo_wrongSlot_205 ?_
  obtain ⟨r208, M208, hc208, hF⟩ := gw_be hF
  refine gw_ci G (va_runS (As := [.long v8, .long (0 : Int64), .long (1000000 : Int64)]) (rest := []) ⟨hx, hb, hml, hown, hts⟩ (ct_mo_in l X Y M v8 (0 : Int64) (1000000 : Int64)  _ hc208) (cwS 3 hts (gw_gS kw_251 kw_252 kw_253 kw_250) rfl rfl rfl (by decide +kernel) ⟨Nat.le_of_ble_eq_true rfl, Nat.le_of_ble_eq_true rfl⟩) ⟨gw_blind, gw_pre hK G⟩ rfl rfl hl.1 rfl (Nat.le_of_ble_eq_true rfl) dd_mo_wrongSlot_208 ⟨Nat.le_of_ble_eq_true rfl, Nat.le_of_ble_eq_true rfl⟩) (fun H locs G => ?_)
  refine lv_if_ne (tgt := 217) hx hb dd_mo_wrongSlot_211 (by decide) (fun h211 => ?_) (fun h211 => ?_)
  · replace hF := gw_ef h211 hF
    refine lv_lload hx hb dd_mo_wrongSlot_217 (lv_at hl 5 rfl) ?_
    refine lv_aload_n hx hb dd_mo_wrongSlot_219 rfl (lv_at hl 0 rfl) ?_
    refine gf_mo_balances hx hb hg hown (hg _ kw_293) hK G ha0 dd_mo_wrongSlot_220 ?_
    refine lv_iload_n hx hb dd_mo_wrongSlot_223 rfl (lv_at hl 1 rfl) ?_
    obtain ⟨h224, hF⟩ := gw_gd hF
    refine gr_iald hx hb hK G (gq_mo_balances ha0) (gw_vp h224) (j := v3.toNatClampNeg) rfl dd_mo_wrongSlot_224 ?_
    refine lv_i2l (v := (M208.1 (a0 + 1) v3.toNatClampNeg).toInt64) hx hb dd_mo_wrongSlot_225 rfl ?_
    refine W.lcmp hx hb dd_mo_wrongSlot_226 ?_
    refine lv_if_ge (tgt := 235) hx hb dd_mo_wrongSlot_227 (by decide) (fun h227 => ?_) (fun h227 => ?_)
    · replace hF := gw_et h227 hF
      exact wb_mo_wrongSlot_235 C0  M208 a0 v3 v4 v5 v7 v8 _ _ _ ha0 G (lv_sub hl [0, 1, 2, 3, 4, 5] rfl) hF
    · replace hF := gw_ef h227 hF
      refine lv_iload hx hb dd_mo_wrongSlot_230 (lv_at hl 3 rfl) ?_
      refine lv_if_eq (tgt := 263) hx hb dd_mo_wrongSlot_232 (by decide) (fun h232 => ?_) (fun h232 => ?_)
      · replace hF := gw_et h232 hF
        exact wb_mo_wrongSlot_263 C0  M208 _ _ _  G (lv_sub hl [] rfl) hF
      · replace hF := gw_ef h232 hF
        exact wb_mo_wrongSlot_235 C0  M208 a0 v3 v4 v5 v7 v8 _ _ _ ha0 G (lv_sub hl [0, 1, 2, 3, 4, 5] rfl) hF
  · replace hF := gw_et h211 hF
    refine lv_bipush (v := (7 : Int32)) hx hb dd_mo_wrongSlot_214 (by decide) ?_
    exact W.iret hx hb hr (fun t ht hW => gw_endi (EF := (fun M => (gw_E X Y M))) (M := M208) G ht hF) G.2.2.2.2 dd_mo_wrongSlot_216 hlocks
set_option maxRecDepth 100000 in
set_option maxHeartbeats 4000000 in
theorem wb_mo_wrongSlot_185 {p : Program} {l : Launch} {e : Env} {s : State} {m : MethodId} {args : Array Value} {below : List Frame} {meth : Method} {c : Code} {X : gw_X} {Y : gw_M} {z : (Int32 × gw_M)} (C0 : gw_C ((Cond.code yy_mo_wrongSlot by_mo_wrongSlot 11 (some .int)) :: gw_w) by_mo_wrongSlot 11 (some .int) "AccountMachineModel" X p s m args meth c) (M : gw_M) (a0 : Nat) (v3 : Int32) (v4 : Int32) (v5 : Int32) (v6 : Int32) (v7 : Int32) (v8 : Int64) (t0 : Int32) (H : Heap) (locs : List Loc) (ls : Array Slot) (ha0 : gr_k a0 = (11, 0)) (G : gw_G X (gw_E X Y M) s H locs) (hl : lv_has ls 11 [(0, .ref (gr_a X a0)), (3, .int v3), (4, .int v4), (5, .int v5), (6, .int v6), (7, .int v7), (8, .long v8)]) (hF : mo_wrongSlot_b185  M a0 v3 v4 v5 v6 v7 v8 t0 = some z) : W p l e rm_mo_wrongSlot s m args below meth c H locs 0 0 (MQ below (gw_Qi X (fun M => (gw_E X Y M)) z) args s 0 0 (gw_A X)) (F0 m 185 ls [.int t0]) := by
  obtain ⟨hx, hb, hml, hown, hts, hr, hlocks, hK⟩ := id C0
  have hg : ∀ w ∈ gw_w, w.before args s = true := fun w h => hts w (List.mem_cons_of_mem _ h)
  unfold mo_wrongSlot_b185 at hF
  refine lv_istore (i := 10) (lv' := [(10, .int t0), (0, .ref (gr_a X a0)), (3, .int v3), (4, .int v4), (5, .int v5), (6, .int v6), (7, .int v7), (8, .long v8)]) hx hb dd_mo_wrongSlot_185 hl (by decide) rfl (fun ls hl => ?_)
  refine lv_iload hx hb dd_mo_wrongSlot_187 (lv_at hl 0 rfl) ?_
  refine lv_if_eq (tgt := 202) hx hb dd_mo_wrongSlot_189 (by decide) (fun h189 => ?_) (fun h189 => ?_)
  · replace hF := gw_et h189 hF
    exact wb_mo_wrongSlot_202 C0  M a0 v3 v4 v5 v7 v8 _ _ _ ha0 G (lv_sub hl [1, 2, 3, 4, 6, 7] rfl) hF
  · replace hF := gw_ef h189 hF
    refine lv_iload hx hb dd_mo_wrongSlot_192 (lv_at hl 4 rfl) ?_
    refine lv_if_eq (tgt := 214) hx hb dd_mo_wrongSlot_194 (by decide) (fun h194 => ?_) (fun h194 => ?_)
    · replace hF := gw_et h194 hF
      refine lv_bipush (v := (7 : Int32)) hx hb dd_mo_wrongSlot_214 (by decide) ?_
      exact W.iret hx hb hr (fun t ht hW => gw_endi (EF := (fun M => (gw_E X Y M))) (M := M) G ht hF) G.2.2.2.2 dd_mo_wrongSlot_216 hlocks
    · replace hF := gw_ef h194 hF
      refine lv_iload hx hb dd_mo_wrongSlot_197 (lv_at hl 5 rfl) ?_
      refine lv_if_ne (tgt := 214) hx hb dd_mo_wrongSlot_199 (by decide) (fun h199 => ?_) (fun h199 => ?_)
      · replace hF := gw_ef h199 hF
        refine lv_bipush (v := (7 : Int32)) hx hb dd_mo_wrongSlot_214 (by decide) ?_
        exact W.iret hx hb hr (fun t ht hW => gw_endi (EF := (fun M => (gw_E X Y M))) (M := M) G ht hF) G.2.2.2.2 dd_mo_wrongSlot_216 hlocks
      · replace hF := gw_et h199 hF
        exact wb_mo_wrongSlot_202 C0  M a0 v3 v4 v5 v7 v8 _ _ _ ha0 G (lv_sub hl [1, 2, 3, 4, 6, 7] rfl) hF
set_option maxRecDepth 100000 in
set_option maxHeartbeats 4000000 in
theorem wb_mo_wrongSlot_143 {p : Program} {l : Launch} {e : Env} {s : State} {m : MethodId} {args : Array Value} {below : List Frame} {meth : Method} {c : Code} {X : gw_X} {Y : gw_M} {z : (Int32 × gw_M)} (C0 : gw_C ((Cond.code yy_mo_wrongSlot by_mo_wrongSlot 11 (some .int)) :: gw_w) by_mo_wrongSlot 11 (some .int) "AccountMachineModel" X p s m args meth c) {K65 : gw_M → Nat → Int32 → Int32 → Int32 → Int32 → Int32 → Int32 → Int32 → Option (Int32 × gw_M)} (hK65 : ∀ (M : gw_M) (a0 : Nat) (v2 : Int32) (v3 : Int32) (v4 : Int32) (v5 : Int32) (v6 : Int32) (v7 : Int32) (v8 : Int32) (H : Heap) (locs : List Loc) (ls : Array Slot), gr_k a0 = (11, 0) → gw_G X (gw_E X Y M) s H locs → lv_has ls 11 [(0, .ref (gr_a X a0)), (2, .int v2), (3, .int v3), (4, .int v4), (5, .int v5), (6, .int v6), (7, .int v7), (8, .int v8)] → K65 M a0 v2 v3 v4 v5 v6 v7 v8 = some z → W p l e rm_mo_wrongSlot s m args below meth c H locs 0 0 (MQ below (gw_Qi X (fun M => (gw_E X Y M)) z) args s 0 0 (gw_A X)) (F0 m 65 ls [])) (M : gw_M) (a0 : Nat) (v2 : Int32) (v3 : Int32) (v4 : Int32) (v5 : Int32) (v6 : Int32) (v8 : Int32) (t0 : Int32) (H : Heap) (locs : List Loc) (ls : Array Slot) (ha0 : gr_k a0 = (11, 0)) (G : gw_G X (gw_E X Y M) s H locs) (hl : lv_has ls 11 [(0, .ref (gr_a X a0)), (2, .int v2), (3, .int v3), (4, .int v4), (5, .int v5), (6, .int v6), (8, .int v8)]) (hF : mo_wrongSlot_b143 K65 M a0 v2 v3 v4 v5 v6 v8 t0 = some z) : W p l e rm_mo_wrongSlot s m args below meth c H locs 0 0 (MQ below (gw_Qi X (fun M => (gw_E X Y M)) z) args s 0 0 (gw_A X)) (F0 m 143 ls [.int t0]) := by
  obtain ⟨hx, hb, hml, hown, hts, hr, hlocks, hK⟩ := id C0
  have hg : ∀ w ∈ gw_w, w.before args s = true := fun w h => hts w (List.mem_cons_of_mem _ h)
  unfold mo_wrongSlot_b143 at hF
  refine lv_istore (i := 7) (lv' := [(7, .int t0), (0, .ref (gr_a X a0)), (2, .int v2), (3, .int v3), (4, .int v4), (5, .int v5), (6, .int v6), (8, .int v8)]) hx hb dd_mo_wrongSlot_143 hl (by decide) rfl (fun ls hl => ?_)
  refine lv_iinc (k := 7) (v := v8 + (1 : Int32)) (lv' := [(8, .int (v8 + (1 : Int32))), (7, .int t0), (0, .ref (gr_a X a0)), (2, .int v2), (3, .int v3), (4, .int v4), (5, .int v5), (6, .int v6)]) hx hb dd_mo_wrongSlot_145 hl rfl rfl (by decide) rfl (fun ls hl => ?_)
  refine lv_goto (tgt := 65) hx hb dd_mo_wrongSlot_148 (by decide) ?_
  exact hK65 M a0 v2 v3 v4 v5 v6 t0 (v8 + (1 : Int32)) _ _ _ ha0 G (lv_sub hl [2, 3, 4, 5, 6, 7, 1, 0] rfl) hF
set_option maxRecDepth 100000 in
set_option maxHeartbeats 4000000 in
theorem wb_mo_wrongSlot_138 {p : Program} {l : Launch} {e : Env} {s : State} {m : MethodId} {args : Array Value} {below : List Frame} {meth : Method} {c : Code} {X : gw_X} {Y : gw_M} {z : (Int32 × gw_M)} (C0 : gw_C ((Cond.code yy_mo_wrongSlot by_mo_wrongSlot 11 (some .int)) :: gw_w) by_mo_wrongSlot 11 (some .int) "AccountMachineModel" X p s m args meth c) {K65 : gw_M → Nat → Int32 → Int32 → Int32 → Int32 → Int32 → Int32 → Int32 → Option (Int32 × gw_M)} (hK65 : ∀ (M : gw_M) (a0 : Nat) (v2 : Int32) (v3 : Int32) (v4 : Int32) (v5 : Int32) (v6 : Int32) (v7 : Int32) (v8 : Int32) (H : Heap) (locs : List Loc) (ls : Array Slot), gr_k a0 = (11, 0) → gw_G X (gw_E X Y M) s H locs → lv_has ls 11 [(0, .ref (gr_a X a0)), (2, .int v2), (3, .int v3), (4, .int v4), (5, .int v5), (6, .int v6), (7, .int v7), (8, .int v8)] → K65 M a0 v2 v3 v4 v5 v6 v7 v8 = some z → W p l e rm_mo_wrongSlot s m args below meth c H locs 0 0 (MQ below (gw_Qi X (fun M => (gw_E X Y M)) z) args s 0 0 (gw_A X)) (F0 m 65 ls [])) (M : gw_M) (a0 : Nat) (v2 : Int32) (v3 : Int32) (v4 : Int32) (v5 : Int32) (v6 : Int32) (v8 : Int32) (H : Heap) (locs : List Loc) (ls : Array Slot) (ha0 : gr_k a0 = (11, 0)) (G : gw_G X (gw_E X Y M) s H locs) (hl : lv_has ls 11 [(0, .ref (gr_a X a0)), (2, .int v2), (3, .int v3), (4, .int v4), (5, .int v5), (6, .int v6), (8, .int v8)]) (hF : mo_wrongSlot_b138 K65 M a0 v2 v3 v4 v5 v6 v8 = some z) : W p l e rm_mo_wrongSlot s m args below meth c H locs 0 0 (MQ below (gw_Qi X (fun M => (gw_E X Y M)) z) args s 0 0 (gw_A X)) (F0 m 138 ls []) := by
  obtain ⟨hx, hb, hml, hown, hts, hr, hlocks, hK⟩ := id C0
  have hg : ∀ w ∈ gw_w, w.before args s = true := fun w h => hts w (List.mem_cons_of_mem _ h)
  unfold mo_wrongSlot_b138 at hF
  refine lv_iconst (v := (1 : Int32)) hx hb dd_mo_wrongSlot_138 (by decide) ?_
  refine lv_goto (tgt := 143) hx hb dd_mo_wrongSlot_139 (by decide) ?_
  exact wb_mo_wrongSlot_143 C0 hK65 M a0 v2 v3 v4 v5 v6 v8 (1 : Int32) _ _ _ ha0 G (lv_sub hl [0, 1, 2, 3, 4, 5, 6] rfl) hF
set_option maxRecDepth 100000 in
set_option maxHeartbeats 4000000 in
theorem wb_mo_wrongSlot_135 {p : Program} {l : Launch} {e : Env} {s : State} {m : MethodId} {args : Array Value} {below : List Frame} {meth : Method} {c : Code} {X : gw_X} {Y : gw_M} {z : (Int32 × gw_M)} (C0 : gw_C ((Cond.code yy_mo_wrongSlot by_mo_wrongSlot 11 (some .int)) :: gw_w) by_mo_wrongSlot 11 (some .int) "AccountMachineModel" X p s m args meth c) {K65 : gw_M → Nat → Int32 → Int32 → Int32 → Int32 → Int32 → Int32 → Int32 → Option (Int32 × gw_M)} (hK65 : ∀ (M : gw_M) (a0 : Nat) (v2 : Int32) (v3 : Int32) (v4 : Int32) (v5 : Int32) (v6 : Int32) (v7 : Int32) (v8 : Int32) (H : Heap) (locs : List Loc) (ls : Array Slot), gr_k a0 = (11, 0) → gw_G X (gw_E X Y M) s H locs → lv_has ls 11 [(0, .ref (gr_a X a0)), (2, .int v2), (3, .int v3), (4, .int v4), (5, .int v5), (6, .int v6), (7, .int v7), (8, .int v8)] → K65 M a0 v2 v3 v4 v5 v6 v7 v8 = some z → W p l e rm_mo_wrongSlot s m args below meth c H locs 0 0 (MQ below (gw_Qi X (fun M => (gw_E X Y M)) z) args s 0 0 (gw_A X)) (F0 m 65 ls [])) (M : gw_M) (a0 : Nat) (v2 : Int32) (v3 : Int32) (v4 : Int32) (v5 : Int32) (v6 : Int32) (v8 : Int32) (t0 : Int32) (t1 : Int32) (H : Heap) (locs : List Loc) (ls : Array Slot) (ha0 : gr_k a0 = (11, 0)) (G : gw_G X (gw_E X Y M) s H locs) (hl : lv_has ls 11 [(0, .ref (gr_a X a0)), (2, .int v2), (3, .int v3), (4, .int v4), (5, .int v5), (6, .int v6), (8, .int v8)]) (hF : mo_wrongSlot_b135 K65 M a0 v2 v3 v4 v5 v6 v8 t0 t1 = some z) : W p l e rm_mo_wrongSlot s m args below meth c H locs 0 0 (MQ below (gw_Qi X (fun M => (gw_E X Y M)) z) args s 0 0 (gw_A X)) (F0 m 135 ls [.int t0, .int t1]) := by
  obtain ⟨hx, hb, hml, hown, hts, hr, hlocks, hK⟩ := id C0
  have hg : ∀ w ∈ gw_w, w.before args s = true := fun w h => hts w (List.mem_cons_of_mem _ h)
  unfold mo_wrongSlot_b135 at hF
  refine lv_icmp_eq (tgt := 142) hx hb dd_mo_wrongSlot_135 (by decide) (fun h135 => ?_) (fun h135 => ?_)
  · replace hF := gw_et h135 hF
    refine lv_iconst (v := (0 : Int32)) hx hb dd_mo_wrongSlot_142 (by decide) ?_
    exact wb_mo_wrongSlot_143 C0 hK65 M a0 v2 v3 v4 v5 v6 v8 (0 : Int32) _ _ _ ha0 G (lv_sub hl [0, 1, 2, 3, 4, 5, 6] rfl) hF
  · replace hF := gw_ef h135 hF
    exact wb_mo_wrongSlot_138 C0 hK65 M a0 v2 v3 v4 v5 v6 v8 _ _ _ ha0 G (lv_sub hl [0, 1, 2, 3, 4, 5, 6] rfl) hF
set_option maxRecDepth 100000 in
set_option maxHeartbeats 4000000 in
theorem wb_mo_wrongSlot_100 {p : Program} {l : Launch} {e : Env} {s : State} {m : MethodId} {args : Array Value} {below : List Frame} {meth : Method} {c : Code} {X : gw_X} {Y : gw_M} {z : (Int32 × gw_M)} (C0 : gw_C ((Cond.code yy_mo_wrongSlot by_mo_wrongSlot 11 (some .int)) :: gw_w) by_mo_wrongSlot 11 (some .int) "AccountMachineModel" X p s m args meth c) {K65 : gw_M → Nat → Int32 → Int32 → Int32 → Int32 → Int32 → Int32 → Int32 → Option (Int32 × gw_M)} (hK65 : ∀ (M : gw_M) (a0 : Nat) (v2 : Int32) (v3 : Int32) (v4 : Int32) (v5 : Int32) (v6 : Int32) (v7 : Int32) (v8 : Int32) (H : Heap) (locs : List Loc) (ls : Array Slot), gr_k a0 = (11, 0) → gw_G X (gw_E X Y M) s H locs → lv_has ls 11 [(0, .ref (gr_a X a0)), (2, .int v2), (3, .int v3), (4, .int v4), (5, .int v5), (6, .int v6), (7, .int v7), (8, .int v8)] → K65 M a0 v2 v3 v4 v5 v6 v7 v8 = some z → W p l e rm_mo_wrongSlot s m args below meth c H locs 0 0 (MQ below (gw_Qi X (fun M => (gw_E X Y M)) z) args s 0 0 (gw_A X)) (F0 m 65 ls [])) (M : gw_M) (a0 : Nat) (v2 : Int32) (v3 : Int32) (v4 : Int32) (v5 : Int32) (v7 : Int32) (v8 : Int32) (v9 : Int32) (t0 : Int32) (H : Heap) (locs : List Loc) (ls : Array Slot) (ha0 : gr_k a0 = (11, 0)) (G : gw_G X (gw_E X Y M) s H locs) (hl : lv_has ls 11 [(0, .ref (gr_a X a0)), (2, .int v2), (3, .int v3), (4, .int v4), (5, .int v5), (7, .int v7), (8, .int v8), (9, .int v9)]) (hF : mo_wrongSlot_b100 K65 M a0 v2 v3 v4 v5 v7 v8 v9 t0 = some z) : W p l e rm_mo_wrongSlot s m args below meth c H locs 0 0 (MQ below (gw_Qi X (fun M => (gw_E X Y M)) z) args s 0 0 (gw_A X)) (F0 m 100 ls [.int t0]) := by
  obtain ⟨hx, hb, hml, hown, hts, hr, hlocks, hK⟩ := id C0
  have hg : ∀ w ∈ gw_w, w.before args s = true := fun w h => hts w (List.mem_cons_of_mem _ h)
  unfold mo_wrongSlot_b100 at hF
  refine lv_istore (i := 6) (lv' := [(6, .int t0), (0, .ref (gr_a X a0)), (2, .int v2), (3, .int v3), (4, .int v4), (5, .int v5), (7, .int v7), (8, .int v8), (9, .int v9)]) hx hb dd_mo_wrongSlot_100 hl (by decide) rfl (fun ls hl => ?_)
  refine lv_iload hx hb dd_mo_wrongSlot_102 (lv_at hl 6 rfl) ?_
  refine lv_if_ne (tgt := 138) hx hb dd_mo_wrongSlot_104 (by decide) (fun h104 => ?_) (fun h104 => ?_)
  · replace hF := gw_ef h104 hF
    exact wb_mo_wrongSlot_138 C0 hK65 M a0 v2 v3 v4 v5 t0 v8 _ _ _ ha0 G (lv_sub hl [1, 2, 3, 4, 5, 0, 7] rfl) hF
  · replace hF := gw_et h104 hF
    refine lv_iload hx hb dd_mo_wrongSlot_107 (lv_at hl 8 rfl) ?_
    refine lv_iload hx hb dd_mo_wrongSlot_109 (lv_at hl 7 rfl) ?_
    refine lv_aload_n hx hb dd_mo_wrongSlot_111 rfl (lv_at hl 1 rfl) ?_
    refine gf_mo_sizes hx hb hg hown (hg _ kw_286) hK G ha0 dd_mo_wrongSlot_112 ?_
    refine lv_iload_n hx hb dd_mo_wrongSlot_115 rfl (lv_at hl 3 rfl) ?_
    obtain ⟨h116, hF⟩ := gw_gd hF
    refine gr_iald hx hb hK G (gq_mo_sizes ha0) (gw_vp h116) (j := v3.toNatClampNeg) rfl dd_mo_wrongSlot_116 ?_
    refine lv_icmp_ge (tgt := 134) hx hb dd_mo_wrongSlot_117 (by decide) (fun h117 => ?_) (fun h117 => ?_)
    · replace hF := gw_et h117 hF
      refine lv_iconst (v := (0 : Int32)) hx hb dd_mo_wrongSlot_134 (by decide) ?_
      exact wb_mo_wrongSlot_135 C0 hK65 M a0 v2 v3 v4 v5 t0 v8 (0 : Int32) v9 _ _ _ ha0 G (lv_sub hl [1, 2, 3, 4, 5, 0, 7] rfl) hF
    · replace hF := gw_ef h117 hF
      refine lv_aload_n hx hb dd_mo_wrongSlot_120 rfl (lv_at hl 1 rfl) ?_
      refine gf_mo_words hx hb hg hown (hg _ kw_287) hK G ha0 dd_mo_wrongSlot_121 ?_
      refine lv_iconst (v := (4 : Int32)) hx hb dd_mo_wrongSlot_124 (by decide) ?_
      refine lv_iload_n hx hb dd_mo_wrongSlot_125 rfl (lv_at hl 3 rfl) ?_
      refine lv_imul hx hb dd_mo_wrongSlot_126 ?_
      refine lv_iload hx hb dd_mo_wrongSlot_127 (lv_at hl 7 rfl) ?_
      refine lv_iadd hx hb dd_mo_wrongSlot_129 ?_
      obtain ⟨h130, hF⟩ := gw_gd hF
      refine gr_iald hx hb hK G (gq_mo_words ha0) (gw_vp h130) (j := (((4 : Int32) * v3) + v8).toNatClampNeg) rfl dd_mo_wrongSlot_130 ?_
      refine lv_goto (tgt := 135) hx hb dd_mo_wrongSlot_131 (by decide) ?_
      exact wb_mo_wrongSlot_135 C0 hK65 M a0 v2 v3 v4 v5 t0 v8 (M.1 (a0 + 4) ((((4 : Int32) * v3) + v8).toNatClampNeg)) v9 _ _ _ ha0 G (lv_sub hl [1, 2, 3, 4, 5, 0, 7] rfl) hF
set_option maxRecDepth 100000 in
set_option maxHeartbeats 4000000 in
theorem wb_mo_wrongSlot_95 {p : Program} {l : Launch} {e : Env} {s : State} {m : MethodId} {args : Array Value} {below : List Frame} {meth : Method} {c : Code} {X : gw_X} {Y : gw_M} {z : (Int32 × gw_M)} (C0 : gw_C ((Cond.code yy_mo_wrongSlot by_mo_wrongSlot 11 (some .int)) :: gw_w) by_mo_wrongSlot 11 (some .int) "AccountMachineModel" X p s m args meth c) {K65 : gw_M → Nat → Int32 → Int32 → Int32 → Int32 → Int32 → Int32 → Int32 → Option (Int32 × gw_M)} (hK65 : ∀ (M : gw_M) (a0 : Nat) (v2 : Int32) (v3 : Int32) (v4 : Int32) (v5 : Int32) (v6 : Int32) (v7 : Int32) (v8 : Int32) (H : Heap) (locs : List Loc) (ls : Array Slot), gr_k a0 = (11, 0) → gw_G X (gw_E X Y M) s H locs → lv_has ls 11 [(0, .ref (gr_a X a0)), (2, .int v2), (3, .int v3), (4, .int v4), (5, .int v5), (6, .int v6), (7, .int v7), (8, .int v8)] → K65 M a0 v2 v3 v4 v5 v6 v7 v8 = some z → W p l e rm_mo_wrongSlot s m args below meth c H locs 0 0 (MQ below (gw_Qi X (fun M => (gw_E X Y M)) z) args s 0 0 (gw_A X)) (F0 m 65 ls [])) (M : gw_M) (a0 : Nat) (v2 : Int32) (v3 : Int32) (v4 : Int32) (v5 : Int32) (v7 : Int32) (v8 : Int32) (v9 : Int32) (H : Heap) (locs : List Loc) (ls : Array Slot) (ha0 : gr_k a0 = (11, 0)) (G : gw_G X (gw_E X Y M) s H locs) (hl : lv_has ls 11 [(0, .ref (gr_a X a0)), (2, .int v2), (3, .int v3), (4, .int v4), (5, .int v5), (7, .int v7), (8, .int v8), (9, .int v9)]) (hF : mo_wrongSlot_b95 K65 M a0 v2 v3 v4 v5 v7 v8 v9 = some z) : W p l e rm_mo_wrongSlot s m args below meth c H locs 0 0 (MQ below (gw_Qi X (fun M => (gw_E X Y M)) z) args s 0 0 (gw_A X)) (F0 m 95 ls []) := by
  obtain ⟨hx, hb, hml, hown, hts, hr, hlocks, hK⟩ := id C0
  have hg : ∀ w ∈ gw_w, w.before args s = true := fun w h => hts w (List.mem_cons_of_mem _ h)
  unfold mo_wrongSlot_b95 at hF
  refine lv_iconst (v := (1 : Int32)) hx hb dd_mo_wrongSlot_95 (by decide) ?_
  refine lv_goto (tgt := 100) hx hb dd_mo_wrongSlot_96 (by decide) ?_
  exact wb_mo_wrongSlot_100 C0 hK65 M a0 v2 v3 v4 v5 v7 v8 v9 (1 : Int32) _ _ _ ha0 G (lv_sub hl [0, 1, 2, 3, 4, 5, 6, 7] rfl) hF
set_option maxRecDepth 100000 in
set_option maxHeartbeats 4000000 in
theorem wb_mo_wrongSlot_65 {p : Program} {l : Launch} {e : Env} {s : State} {m : MethodId} {args : Array Value} {below : List Frame} {meth : Method} {c : Code} {X : gw_X} {Y : gw_M} {z : (Int32 × gw_M)} (C0 : gw_C ((Cond.code yy_mo_wrongSlot by_mo_wrongSlot 11 (some .int)) :: gw_w) by_mo_wrongSlot 11 (some .int) "AccountMachineModel" X p s m args meth c) {K65 : gw_M → Nat → Int32 → Int32 → Int32 → Int32 → Int32 → Int32 → Int32 → Option (Int32 × gw_M)} (hK65 : ∀ (M : gw_M) (a0 : Nat) (v2 : Int32) (v3 : Int32) (v4 : Int32) (v5 : Int32) (v6 : Int32) (v7 : Int32) (v8 : Int32) (H : Heap) (locs : List Loc) (ls : Array Slot), gr_k a0 = (11, 0) → gw_G X (gw_E X Y M) s H locs → lv_has ls 11 [(0, .ref (gr_a X a0)), (2, .int v2), (3, .int v3), (4, .int v4), (5, .int v5), (6, .int v6), (7, .int v7), (8, .int v8)] → K65 M a0 v2 v3 v4 v5 v6 v7 v8 = some z → W p l e rm_mo_wrongSlot s m args below meth c H locs 0 0 (MQ below (gw_Qi X (fun M => (gw_E X Y M)) z) args s 0 0 (gw_A X)) (F0 m 65 ls [])) (M : gw_M) (a0 : Nat) (v2 : Int32) (v3 : Int32) (v4 : Int32) (v5 : Int32) (v6 : Int32) (v7 : Int32) (v8 : Int32) (H : Heap) (locs : List Loc) (ls : Array Slot) (ha0 : gr_k a0 = (11, 0)) (G : gw_G X (gw_E X Y M) s H locs) (hl : lv_has ls 11 [(0, .ref (gr_a X a0)), (2, .int v2), (3, .int v3), (4, .int v4), (5, .int v5), (6, .int v6), (7, .int v7), (8, .int v8)]) (hF : mo_wrongSlot_b65 K65 M a0 v2 v3 v4 v5 v6 v7 v8 = some z) : W p l e rm_mo_wrongSlot s m args below meth c H locs 0 0 (MQ below (gw_Qi X (fun M => (gw_E X Y M)) z) args s 0 0 (gw_A X)) (F0 m 65 ls []) := by
  obtain ⟨hx, hb, hml, hown, hts, hr, hlocks, hK⟩ := id C0
  have hg : ∀ w ∈ gw_w, w.before args s = true := fun w h => hts w (List.mem_cons_of_mem _ h)
  unfold mo_wrongSlot_b65 at hF
  refine lv_iload hx hb dd_mo_wrongSlot_65 (lv_at hl 7 rfl) ?_
  refine lv_iconst (v := (4 : Int32)) hx hb dd_mo_wrongSlot_67 (by decide) ?_
  refine lv_icmp_ge (tgt := 151) hx hb dd_mo_wrongSlot_68 (by decide) (fun h68 => ?_) (fun h68 => ?_)
  · replace hF := gw_et h68 hF
    refine lv_aload_n hx hb dd_mo_wrongSlot_151 rfl (lv_at hl 0 rfl) ?_
    refine gf_mo_seen hx hb hg hown (hg _ kw_285) hK G ha0 dd_mo_wrongSlot_152 ?_
    refine lv_iload_n hx hb dd_mo_wrongSlot_155 rfl (lv_at hl 1 rfl) ?_
    refine lv_iconst (v := (3 : Int32)) hx hb dd_mo_wrongSlot_156 (by decide) ?_
    refine lv_iadd hx hb dd_mo_wrongSlot_157 ?_
    obtain ⟨h158, hF⟩ := gw_gd hF
    refine gr_lald hx hb hK G (gq_mo_seen ha0) (gw_vp h158) (j := (v2 + (3 : Int32)).toNatClampNeg) rfl dd_mo_wrongSlot_158 ?_
    refine lv_topl (fun x159 e159 => ?_)
    replace hF := gw_ly e159 hF
    refine lv_lstore (i := 8) (lv' := [(8, .long x159), (0, .ref (gr_a X a0)), (2, .int v2), (3, .int v3), (4, .int v4), (5, .int v5), (6, .int v6), (7, .int v7)]) hx hb dd_mo_wrongSlot_159 hl (by decide) rfl (fun ls hl => ?_)
    refine lv_aload_n hx hb dd_mo_wrongSlot_161 rfl (lv_at hl 1 rfl) ?_
    refine gf_mo_seen hx hb hg hown (hg _ kw_285) hK G ha0 dd_mo_wrongSlot_162 ?_
    refine W.eq (g2 := F0 m 165 _ _) rfl ?_
    refine lv_iload_n hx hb dd_mo_wrongSlot_165 rfl (lv_at hl 2 rfl) ?_
    refine lv_iconst (v := (2 : Int32)) hx hb dd_mo_wrongSlot_166 (by decide) ?_
    refine lv_iadd hx hb dd_mo_wrongSlot_167 ?_
    obtain ⟨h168, hF⟩ := gw_gd hF
    refine gr_lald hx hb hK G (gq_mo_seen ha0) (gw_vp h168) (j := (v2 + (2 : Int32)).toNatClampNeg) rfl dd_mo_wrongSlot_168 ?_
    refine lv_aload_n hx hb dd_mo_wrongSlot_169 rfl (lv_at hl 1 rfl) ?_
    refine gf_mo_owners hx hb hg hown (hg _ kw_292) hK G ha0 dd_mo_wrongSlot_170 ?_
    refine lv_iload_n hx hb dd_mo_wrongSlot_173 rfl (lv_at hl 3 rfl) ?_
    obtain ⟨h174, hF⟩ := gw_gd hF
    refine gr_iald hx hb hK G (gq_mo_owners ha0) (gw_vp h174) (j := v3.toNatClampNeg) rfl dd_mo_wrongSlot_174 ?_
    refine lv_i2l (v := (M.1 (a0 + 2) v3.toNatClampNeg).toInt64) hx hb dd_mo_wrongSlot_175 rfl ?_
    refine W.lcmp hx hb dd_mo_wrongSlot_176 ?_
    refine W.eq (g2 := F0 m 177 _ _) rfl ?_
    refine lv_if_eq (tgt := 184) hx hb dd_mo_wrongSlot_177 (by decide) (fun h177 => ?_) (fun h177 => ?_)
    · replace hF := gw_et h177 hF
      refine lv_iconst (v := (0 : Int32)) hx hb dd_mo_wrongSlot_184 (by decide) ?_
      exact wb_mo_wrongSlot_185 C0  M a0 v3 v4 v5 v6 v7 x159 (0 : Int32) _ _ _ ha0 G (lv_sub hl [1, 3, 4, 5, 6, 7, 0] rfl) hF
    · replace hF := gw_ef h177 hF
      refine lv_iconst (v := (1 : Int32)) hx hb dd_mo_wrongSlot_180 (by decide) ?_
      refine lv_goto (tgt := 185) hx hb dd_mo_wrongSlot_181 (by decide) ?_
      exact wb_mo_wrongSlot_185 C0  M a0 v3 v4 v5 v6 v7 x159 (1 : Int32) _ _ _ ha0 G (lv_sub hl [1, 3, 4, 5, 6, 7, 0] rfl) hF
  · replace hF := gw_ef h68 hF
    refine lv_aload_n hx hb dd_mo_wrongSlot_71 rfl (lv_at hl 0 rfl) ?_
    refine gf_mo_seen hx hb hg hown (hg _ kw_285) hK G ha0 dd_mo_wrongSlot_72 ?_
    refine lv_iload_n hx hb dd_mo_wrongSlot_75 rfl (lv_at hl 1 rfl) ?_
    refine lv_iconst (v := (5 : Int32)) hx hb dd_mo_wrongSlot_76 (by decide) ?_
    refine lv_iadd hx hb dd_mo_wrongSlot_77 ?_
    refine lv_iload hx hb dd_mo_wrongSlot_78 (lv_at hl 7 rfl) ?_
    refine lv_iadd hx hb dd_mo_wrongSlot_80 ?_
    obtain ⟨h81, hF⟩ := gw_gd hF
    refine gr_lald hx hb hK G (gq_mo_seen ha0) (gw_vp h81) (j := ((v2 + (5 : Int32)) + v8).toNatClampNeg) rfl dd_mo_wrongSlot_81 ?_
    refine lv_l2i (v := (M.2 (a0 + 22) (((v2 + (5 : Int32)) + v8).toNatClampNeg)).toInt32) hx hb dd_mo_wrongSlot_82 rfl ?_
    refine W.eq (g2 := F0 m 83 _ _) rfl ?_
    refine lv_topi (fun x83 e83 => ?_)
    replace hF := gw_ly e83 hF
    refine lv_istore (i := 9) (lv' := [(9, .int x83), (0, .ref (gr_a X a0)), (2, .int v2), (3, .int v3), (4, .int v4), (5, .int v5), (6, .int v6), (7, .int v7), (8, .int v8)]) hx hb dd_mo_wrongSlot_83 hl (by decide) rfl (fun ls hl => ?_)
    refine lv_iload hx hb dd_mo_wrongSlot_85 (lv_at hl 6 rfl) ?_
    refine lv_if_ne (tgt := 95) hx hb dd_mo_wrongSlot_87 (by decide) (fun h87 => ?_) (fun h87 => ?_)
    · replace hF := gw_ef h87 hF
      exact wb_mo_wrongSlot_95 C0 hK65 M a0 v2 v3 v4 v5 v7 v8 x83 _ _ _ ha0 G (lv_sub hl [1, 2, 3, 4, 5, 7, 8, 0] rfl) hF
    · replace hF := gw_et h87 hF
      refine lv_iload hx hb dd_mo_wrongSlot_90 (lv_at hl 0 rfl) ?_
      refine lv_if_eq (tgt := 99) hx hb dd_mo_wrongSlot_92 (by decide) (fun h92 => ?_) (fun h92 => ?_)
      · replace hF := gw_et h92 hF
        refine lv_iconst (v := (0 : Int32)) hx hb dd_mo_wrongSlot_99 (by decide) ?_
        exact wb_mo_wrongSlot_100 C0 hK65 M a0 v2 v3 v4 v5 v7 v8 x83 (0 : Int32) _ _ _ ha0 G (lv_sub hl [1, 2, 3, 4, 5, 7, 8, 0] rfl) hF
      · replace hF := gw_ef h92 hF
        exact wb_mo_wrongSlot_95 C0 hK65 M a0 v2 v3 v4 v5 v7 v8 x83 _ _ _ ha0 G (lv_sub hl [1, 2, 3, 4, 5, 7, 8, 0] rfl) hF
theorem wl_mo_wrongSlot_65 {p : Program} {l : Launch} {e : Env} {s : State} {m : MethodId} {args : Array Value} {below : List Frame} {meth : Method} {c : Code} {X : gw_X} {Y : gw_M} {z : (Int32 × gw_M)} (C0 : gw_C ((Cond.code yy_mo_wrongSlot by_mo_wrongSlot 11 (some .int)) :: gw_w) by_mo_wrongSlot 11 (some .int) "AccountMachineModel" X p s m args meth c) : ∀ n : Nat, ∀ (M : gw_M) (a0 : Nat) (v2 : Int32) (v3 : Int32) (v4 : Int32) (v5 : Int32) (v6 : Int32) (v7 : Int32) (v8 : Int32) (H : Heap) (locs : List Loc) (ls : Array Slot), gr_k a0 = (11, 0) → gw_G X (gw_E X Y M) s H locs → lv_has ls 11 [(0, .ref (gr_a X a0)), (2, .int v2), (3, .int v3), (4, .int v4), (5, .int v5), (6, .int v6), (7, .int v7), (8, .int v8)] → mo_wrongSlot_l65  n M a0 v2 v3 v4 v5 v6 v7 v8 = some z → W p l e rm_mo_wrongSlot s m args below meth c H locs 0 0 (MQ below (gw_Qi X (fun M => (gw_E X Y M)) z) args s 0 0 (gw_A X)) (F0 m 65 ls []) := by
  intro n
  induction n with
  | zero =>
    intro M a0 v2 v3 v4 v5 v6 v7 v8 H locs ls ha0 G hl hF
    have hF : (none : Option (Int32 × gw_M)) = some z := hF
    cases hF
  | succ n ih =>
    intro M a0 v2 v3 v4 v5 v6 v7 v8 H locs ls ha0 G hl hF
    exact wb_mo_wrongSlot_65 C0  ih M a0 v2 v3 v4 v5 v6 v7 v8 H locs ls ha0 G hl hF
set_option maxRecDepth 100000 in
set_option maxHeartbeats 4000000 in
theorem wb_mo_wrongSlot_54 {p : Program} {l : Launch} {e : Env} {s : State} {m : MethodId} {args : Array Value} {below : List Frame} {meth : Method} {c : Code} {X : gw_X} {Y : gw_M} {z : (Int32 × gw_M)} (C0 : gw_C ((Cond.code yy_mo_wrongSlot by_mo_wrongSlot 11 (some .int)) :: gw_w) by_mo_wrongSlot 11 (some .int) "AccountMachineModel" X p s m args meth c) (M : gw_M) (a0 : Nat) (v2 : Int32) (v3 : Int32) (v4 : Int32) (t0 : Int32) (H : Heap) (locs : List Loc) (ls : Array Slot) (ha0 : gr_k a0 = (11, 0)) (G : gw_G X (gw_E X Y M) s H locs) (hl : lv_has ls 11 [(0, .ref (gr_a X a0)), (2, .int v2), (3, .int v3), (4, .int v4)]) (hF : mo_wrongSlot_b54  M a0 v2 v3 v4 t0 = some z) : W p l e rm_mo_wrongSlot s m args below meth c H locs 0 0 (MQ below (gw_Qi X (fun M => (gw_E X Y M)) z) args s 0 0 (gw_A X)) (F0 m 54 ls [.int t0]) := by
  obtain ⟨hx, hb, hml, hown, hts, hr, hlocks, hK⟩ := id C0
  have hg : ∀ w ∈ gw_w, w.before args s = true := fun w h => hts w (List.mem_cons_of_mem _ h)
  unfold mo_wrongSlot_b54 at hF
  refine lv_istore (i := 5) (lv' := [(5, .int t0), (0, .ref (gr_a X a0)), (2, .int v2), (3, .int v3), (4, .int v4)]) hx hb dd_mo_wrongSlot_54 hl (by decide) rfl (fun ls hl => ?_)
  refine lv_iconst (v := (0 : Int32)) hx hb dd_mo_wrongSlot_56 (by decide) ?_
  refine lv_istore (i := 6) (lv' := [(6, .int (0 : Int32)), (5, .int t0), (0, .ref (gr_a X a0)), (2, .int v2), (3, .int v3), (4, .int v4)]) hx hb dd_mo_wrongSlot_57 hl (by decide) rfl (fun ls hl => ?_)
  refine lv_iconst (v := (0 : Int32)) hx hb dd_mo_wrongSlot_59 (by decide) ?_
  refine lv_istore (i := 7) (lv' := [(7, .int (0 : Int32)), (6, .int (0 : Int32)), (5, .int t0), (0, .ref (gr_a X a0)), (2, .int v2), (3, .int v3), (4, .int v4)]) hx hb dd_mo_wrongSlot_60 hl (by decide) rfl (fun ls hl => ?_)
  refine lv_iconst (v := (0 : Int32)) hx hb dd_mo_wrongSlot_62 (by decide) ?_
  refine lv_istore (i := 8) (lv' := [(8, .int (0 : Int32)), (7, .int (0 : Int32)), (6, .int (0 : Int32)), (5, .int t0), (0, .ref (gr_a X a0)), (2, .int v2), (3, .int v3), (4, .int v4)]) hx hb dd_mo_wrongSlot_63 hl (by decide) rfl (fun ls hl => ?_)
  exact wl_mo_wrongSlot_65 C0  2100 M a0 v2 v3 v4 t0 (0 : Int32) (0 : Int32) (0 : Int32) _ _ _ ha0 G (lv_sub hl [4, 5, 6, 7, 3, 2, 1, 0] rfl) hF
set_option maxRecDepth 100000 in
set_option maxHeartbeats 4000000 in
theorem wb_mo_wrongSlot_53 {p : Program} {l : Launch} {e : Env} {s : State} {m : MethodId} {args : Array Value} {below : List Frame} {meth : Method} {c : Code} {X : gw_X} {Y : gw_M} {z : (Int32 × gw_M)} (C0 : gw_C ((Cond.code yy_mo_wrongSlot by_mo_wrongSlot 11 (some .int)) :: gw_w) by_mo_wrongSlot 11 (some .int) "AccountMachineModel" X p s m args meth c) (M : gw_M) (a0 : Nat) (v2 : Int32) (v3 : Int32) (v4 : Int32) (H : Heap) (locs : List Loc) (ls : Array Slot) (ha0 : gr_k a0 = (11, 0)) (G : gw_G X (gw_E X Y M) s H locs) (hl : lv_has ls 11 [(0, .ref (gr_a X a0)), (2, .int v2), (3, .int v3), (4, .int v4)]) (hF : mo_wrongSlot_b53  M a0 v2 v3 v4 = some z) : W p l e rm_mo_wrongSlot s m args below meth c H locs 0 0 (MQ below (gw_Qi X (fun M => (gw_E X Y M)) z) args s 0 0 (gw_A X)) (F0 m 53 ls []) := by
  obtain ⟨hx, hb, hml, hown, hts, hr, hlocks, hK⟩ := id C0
  have hg : ∀ w ∈ gw_w, w.before args s = true := fun w h => hts w (List.mem_cons_of_mem _ h)
  unfold mo_wrongSlot_b53 at hF
  refine lv_iconst (v := (0 : Int32)) hx hb dd_mo_wrongSlot_53 (by decide) ?_
  exact wb_mo_wrongSlot_54 C0  M a0 v2 v3 v4 (0 : Int32) _ _ _ ha0 G (lv_sub hl [0, 1, 2, 3] rfl) hF
set_option maxRecDepth 100000 in
set_option maxHeartbeats 4000000 in
theorem wb_mo_wrongSlot_0 {p : Program} {l : Launch} {e : Env} {s : State} {m : MethodId} {args : Array Value} {below : List Frame} {meth : Method} {c : Code} {X : gw_X} {Y : gw_M} {z : (Int32 × gw_M)} (C0 : gw_C ((Cond.code yy_mo_wrongSlot by_mo_wrongSlot 11 (some .int)) :: gw_w) by_mo_wrongSlot 11 (some .int) "AccountMachineModel" X p s m args meth c) (M : gw_M) (a0 : Nat) (v1 : Int32) (v2 : Int32) (v3 : Int32) (H : Heap) (locs : List Loc) (ls : Array Slot) (ha0 : gr_k a0 = (11, 0)) (G : gw_G X (gw_E X Y M) s H locs) (hl : lv_has ls 11 [(0, .ref (gr_a X a0)), (1, .int v1), (2, .int v2), (3, .int v3)]) (hF : mo_wrongSlot_b0  M a0 v1 v2 v3 = some z) : W p l e rm_mo_wrongSlot s m args below meth c H locs 0 0 (MQ below (gw_Qi X (fun M => (gw_E X Y M)) z) args s 0 0 (gw_A X)) (F0 m 0 ls []) := by
  obtain ⟨hx, hb, hml, hown, hts, hr, hlocks, hK⟩ := id C0
  have hg : ∀ w ∈ gw_w, w.before args s = true := fun w h => hts w (List.mem_cons_of_mem _ h)
  unfold mo_wrongSlot_b0 at hF
  refine lv_aload_n hx hb dd_mo_wrongSlot_0 rfl (lv_at hl 0 rfl) ?_
  refine gf_mo_seen hx hb hg hown (hg _ kw_285) hK G ha0 dd_mo_wrongSlot_1 ?_
  refine lv_iload_n hx hb dd_mo_wrongSlot_4 rfl (lv_at hl 2 rfl) ?_
  refine lv_iconst (v := (2 : Int32)) hx hb dd_mo_wrongSlot_5 (by decide) ?_
  refine lv_iadd hx hb dd_mo_wrongSlot_6 ?_
  obtain ⟨h7, hF⟩ := gw_gd hF
  refine gr_lald hx hb hK G (gq_mo_seen ha0) (gw_vp h7) (j := (v2 + (2 : Int32)).toNatClampNeg) rfl dd_mo_wrongSlot_7 ?_
  refine lv_lconst (v := (0 : Int64)) hx hb dd_mo_wrongSlot_8 (by decide) ?_
  refine lv_ldc2 (v := (3 : Int64)) hx hb hown (hg _ kw_249) dd_mo_wrongSlot_9 ?_
  obtain ⟨r12, M12, hc12, hF⟩ := gw_be hF
  refine gw_ci G (va_runS (As := [.long (M.2 (a0 + 22) ((v2 + (2 : Int32)).toNatClampNeg)), .long (0 : Int64), .long (3 : Int64)]) (rest := []) ⟨hx, hb, hml, hown, hts⟩ (ct_mo_in l X Y M (M.2 (a0 + 22) ((v2 + (2 : Int32)).toNatClampNeg)) (0 : Int64) (3 : Int64)  _ hc12) (cwS 3 hts (gw_gS kw_251 kw_252 kw_253 kw_250) rfl rfl rfl (by decide +kernel) ⟨Nat.le_of_ble_eq_true rfl, Nat.le_of_ble_eq_true rfl⟩) ⟨gw_blind, gw_pre hK G⟩ rfl rfl hl.1 rfl (Nat.le_of_ble_eq_true rfl) dd_mo_wrongSlot_12 ⟨Nat.le_of_ble_eq_true rfl, Nat.le_of_ble_eq_true rfl⟩) (fun H locs G => ?_)
  refine W.eq (g2 := F0 m 15 _ _) rfl ?_
  refine lv_if_ne (tgt := 21) hx hb dd_mo_wrongSlot_15 (by decide) (fun h15 => ?_) (fun h15 => ?_)
  · replace hF := gw_ef h15 hF
    refine lv_aload_n hx hb dd_mo_wrongSlot_21 rfl (lv_at hl 0 rfl) ?_
    refine lv_iload_n hx hb dd_mo_wrongSlot_22 rfl (lv_at hl 1 rfl) ?_
    refine lv_iload_n hx hb dd_mo_wrongSlot_23 rfl (lv_at hl 3 rfl) ?_
    obtain ⟨r24, M24, hc24, hF⟩ := gw_be hF
    refine gw_ci G (va_runV (As := [.int v1, .int v3]) (rest := []) ⟨hx, hb, hml, hown, hts⟩ (ct_mo_writable l X Y M12 a0 v1 v3 ha0 _ hc24) (cwV 2 hts (gw_gV kw_307 kw_308 kw_309 kw_253 kw_306) rfl rfl rfl (by decide +kernel) ⟨Nat.le_of_ble_eq_true rfl, Nat.le_of_ble_eq_true rfl⟩) ⟨gw_blind, gw_recv_mo hK G ha0, gw_pre hK G⟩ rfl rfl hl.1 rfl (Nat.le_of_ble_eq_true rfl) dd_mo_wrongSlot_24 ⟨Nat.le_of_ble_eq_true rfl, Nat.le_of_ble_eq_true rfl⟩) (fun H locs G => ?_)
    refine lv_istore (i := 4) (lv' := [(4, .int r24), (0, .ref (gr_a X a0)), (1, .int v1), (2, .int v2), (3, .int v3)]) hx hb dd_mo_wrongSlot_27 hl (by decide) rfl (fun ls hl => ?_)
    refine lv_iload hx hb dd_mo_wrongSlot_29 (lv_at hl 0 rfl) ?_
    refine lv_if_eq (tgt := 53) hx hb dd_mo_wrongSlot_31 (by decide) (fun h31 => ?_) (fun h31 => ?_)
    · replace hF := gw_et h31 hF
      exact wb_mo_wrongSlot_53 C0  M24 a0 v2 v3 r24 _ _ _ ha0 G (lv_sub hl [1, 3, 4, 0] rfl) hF
    · replace hF := gw_ef h31 hF
      refine lv_aload_n hx hb dd_mo_wrongSlot_34 rfl (lv_at hl 1 rfl) ?_
      refine gf_mo_owners hx hb hg hown (hg _ kw_292) hK G ha0 dd_mo_wrongSlot_35 ?_
      refine lv_iload_n hx hb dd_mo_wrongSlot_38 rfl (lv_at hl 4 rfl) ?_
      obtain ⟨h39, hF⟩ := gw_gd hF
      refine gr_iald hx hb hK G (gq_mo_owners ha0) (gw_vp h39) (j := v3.toNatClampNeg) rfl dd_mo_wrongSlot_39 ?_
      refine lv_aload_n hx hb dd_mo_wrongSlot_40 rfl (lv_at hl 1 rfl) ?_
      refine gf_mo_program hx hb hg hown (hg _ kw_271) hK G ha0 dd_mo_wrongSlot_41 ?_
      refine lv_iload_n hx hb dd_mo_wrongSlot_44 rfl (lv_at hl 2 rfl) ?_
      obtain ⟨h45, hF⟩ := gw_gd hF
      refine gr_iald hx hb hK G (gq_mo_program ha0) (gw_vp h45) (j := v1.toNatClampNeg) rfl dd_mo_wrongSlot_45 ?_
      refine lv_icmp_ne (tgt := 53) hx hb dd_mo_wrongSlot_46 (by decide) (fun h46 => ?_) (fun h46 => ?_)
      · replace hF := gw_ef h46 hF
        exact wb_mo_wrongSlot_53 C0  M24 a0 v2 v3 r24 _ _ _ ha0 G (lv_sub hl [1, 3, 4, 0] rfl) hF
      · replace hF := gw_et h46 hF
        refine lv_iconst (v := (1 : Int32)) hx hb dd_mo_wrongSlot_49 (by decide) ?_
        refine lv_goto (tgt := 54) hx hb dd_mo_wrongSlot_50 (by decide) ?_
        exact wb_mo_wrongSlot_54 C0  M24 a0 v2 v3 r24 (1 : Int32) _ _ _ ha0 G (lv_sub hl [1, 3, 4, 0] rfl) hF
  · replace hF := gw_et h15 hF
    refine lv_bipush (v := (6 : Int32)) hx hb dd_mo_wrongSlot_18 (by decide) ?_
    exact W.iret hx hb hr (fun t ht hW => gw_endi (EF := (fun M => (gw_E X Y M))) (M := M12) G ht hF) G.2.2.2.2 dd_mo_wrongSlot_20 hlocks
set_option maxRecDepth 100000 in
set_option maxHeartbeats 4000000 in
theorem ct_mo_wrongSlot (l : Launch) (X : gw_X) (Y : gw_M) (M : gw_M) (a0 : Nat) (v1 : Int32) (v2 : Int32) (v3 : Int32) (ha0 : gr_k a0 = (11, 0)) (z : (Int32 × gw_M)) (hF : mo_wrongSlot_b0 M a0 v1 v2 v3 = some z) : Met l yy_mo_wrongSlot ((Cond.code yy_mo_wrongSlot by_mo_wrongSlot 11 (some .int)) :: gw_w) rm_mo_wrongSlot (va_Pc [.ref (gr_a X a0), .int v1, .int v2, .int v3] (gw_B X (gw_E X Y M))) (gw_Qi X (fun M => (gw_E X Y M)) z) 0 0 (gw_A X) := by
  refine Met.ofW (cc := by_mo_wrongSlot) (maxL := 11) (ret := (some .int)) (by decide) rfl ?_
  intro p e s m args below meth c s₁ B hml hv
  obtain ⟨rfl, hB⟩ := hv
  rw [lg_entry_eq]
  have hl := lv_entry ([.ref (gr_a X a0), .int v1, .int v2, .int v3]) (n := 11) (Nat.le_of_ble_eq_true rfl)
  generalize (lg_sl ([.ref (gr_a X a0), .int v1, .int v2, .int v3]) ++ List.replicate (11 - (lg_sl ([.ref (gr_a X a0), .int v1, .int v2, .int v3])).length) Slot.unset).toArray = ls at hl ⊢
  have hl : lv_has ls 11 [(0, .ref (gr_a X a0)), (1, .int v1), (2, .int v2), (3, .int v3)] := hl
  exact wb_mo_wrongSlot_0 (gw_ctx B hml rfl hB) M a0 v1 v2 v3 _ _ _ ha0 (gw_start hB) hl hF
/-! AccountMachineModel.handBack(I)I -/
abbrev rm_mo_handBack : Room := { frames := 3, cells := 0, slots := 0, locals := 76 }
theorem dd_mo_handBack_0 : decode by_mo_handBack 0 = .ok (.iconst 3, 1) := by decide +kernel
theorem dd_mo_handBack_1 : decode by_mo_handBack 1 = .ok (.iload_n 1, 1) := by decide +kernel
theorem dd_mo_handBack_2 : decode by_mo_handBack 2 = .ok (.iadd, 1) := by decide +kernel
theorem dd_mo_handBack_3 : decode by_mo_handBack 3 = .ok (.istore_n 2, 1) := by decide +kernel
theorem dd_mo_handBack_4 : decode by_mo_handBack 4 = .ok (.lconst 0, 1) := by decide +kernel
theorem dd_mo_handBack_5 : decode by_mo_handBack 5 = .ok (.lstore_n 3, 1) := by decide +kernel
theorem dd_mo_handBack_6 : decode by_mo_handBack 6 = .ok (.iconst 0, 1) := by decide +kernel
theorem dd_mo_handBack_7 : decode by_mo_handBack 7 = .ok (.istore 5, 2) := by decide +kernel
theorem dd_mo_handBack_9 : decode by_mo_handBack 9 = .ok (.iload 5, 2) := by decide +kernel
theorem dd_mo_handBack_11 : decode by_mo_handBack 11 = .ok (.aload_n 0, 1) := by decide +kernel
theorem dd_mo_handBack_12 : decode by_mo_handBack 12 = .ok (.getfield 50, 3) := by decide +kernel
theorem dd_mo_handBack_15 : decode by_mo_handBack 15 = .ok (.iload_n 2, 1) := by decide +kernel
theorem dd_mo_handBack_16 : decode by_mo_handBack 16 = .ok (.iaload, 1) := by decide +kernel
theorem dd_mo_handBack_17 : decode by_mo_handBack 17 = .ok (.if_icmp .ge 95, 3) := by decide +kernel
theorem dd_mo_handBack_20 : decode by_mo_handBack 20 = .ok (.aload_n 0, 1) := by decide +kernel
theorem dd_mo_handBack_21 : decode by_mo_handBack 21 = .ok (.iload_n 2, 1) := by decide +kernel
theorem dd_mo_handBack_22 : decode by_mo_handBack 22 = .ok (.iload 5, 2) := by decide +kernel
theorem dd_mo_handBack_24 : decode by_mo_handBack 24 = .ok (.invokevirtual 114, 3) := by decide +kernel
theorem dd_mo_handBack_27 : decode by_mo_handBack 27 = .ok (.iload 5, 2) := by decide +kernel
theorem dd_mo_handBack_29 : decode by_mo_handBack 29 = .ok (.if_icmp .ne 77, 3) := by decide +kernel
theorem dd_mo_handBack_32 : decode by_mo_handBack 32 = .ok (.aload_n 0, 1) := by decide +kernel
theorem dd_mo_handBack_33 : decode by_mo_handBack 33 = .ok (.iload_n 2, 1) := by decide +kernel
theorem dd_mo_handBack_34 : decode by_mo_handBack 34 = .ok (.bipush 40, 2) := by decide +kernel
theorem dd_mo_handBack_36 : decode by_mo_handBack 36 = .ok (.iload_n 1, 1) := by decide +kernel
theorem dd_mo_handBack_37 : decode by_mo_handBack 37 = .ok (.imul, 1) := by decide +kernel
theorem dd_mo_handBack_38 : decode by_mo_handBack 38 = .ok (.bipush 10, 2) := by decide +kernel
theorem dd_mo_handBack_40 : decode by_mo_handBack 40 = .ok (.iload 5, 2) := by decide +kernel
theorem dd_mo_handBack_42 : decode by_mo_handBack 42 = .ok (.imul, 1) := by decide +kernel
theorem dd_mo_handBack_43 : decode by_mo_handBack 43 = .ok (.iadd, 1) := by decide +kernel
theorem dd_mo_handBack_44 : decode by_mo_handBack 44 = .ok (.aload_n 0, 1) := by decide +kernel
theorem dd_mo_handBack_45 : decode by_mo_handBack 45 = .ok (.getfield 53, 3) := by decide +kernel
theorem dd_mo_handBack_48 : decode by_mo_handBack 48 = .ok (.iconst 4, 1) := by decide +kernel
theorem dd_mo_handBack_49 : decode by_mo_handBack 49 = .ok (.iload_n 2, 1) := by decide +kernel
theorem dd_mo_handBack_50 : decode by_mo_handBack 50 = .ok (.imul, 1) := by decide +kernel
theorem dd_mo_handBack_51 : decode by_mo_handBack 51 = .ok (.iload 5, 2) := by decide +kernel
theorem dd_mo_handBack_53 : decode by_mo_handBack 53 = .ok (.iadd, 1) := by decide +kernel
theorem dd_mo_handBack_54 : decode by_mo_handBack 54 = .ok (.iaload, 1) := by decide +kernel
theorem dd_mo_handBack_55 : decode by_mo_handBack 55 = .ok (.invokevirtual 127, 3) := by decide +kernel
theorem dd_mo_handBack_58 : decode by_mo_handBack 58 = .ok (.istore 6, 2) := by decide +kernel
theorem dd_mo_handBack_60 : decode by_mo_handBack 60 = .ok (.iload 6, 2) := by decide +kernel
theorem dd_mo_handBack_62 : decode by_mo_handBack 62 = .ok (.ifCond .le 6, 3) := by decide +kernel
theorem dd_mo_handBack_65 : decode by_mo_handBack 65 = .ok (.iload 6, 2) := by decide +kernel
theorem dd_mo_handBack_67 : decode by_mo_handBack 67 = .ok (.ireturn, 1) := by decide +kernel
theorem dd_mo_handBack_68 : decode by_mo_handBack 68 = .ok (.lload_n 3, 1) := by decide +kernel
theorem dd_mo_handBack_69 : decode by_mo_handBack 69 = .ok (.aload_n 0, 1) := by decide +kernel
theorem dd_mo_handBack_70 : decode by_mo_handBack 70 = .ok (.getfield 75, 3) := by decide +kernel
theorem dd_mo_handBack_73 : decode by_mo_handBack 73 = .ok (.bipush 40, 2) := by decide +kernel
theorem dd_mo_handBack_75 : decode by_mo_handBack 75 = .ok (.iload_n 1, 1) := by decide +kernel
theorem dd_mo_handBack_76 : decode by_mo_handBack 76 = .ok (.imul, 1) := by decide +kernel
theorem dd_mo_handBack_77 : decode by_mo_handBack 77 = .ok (.bipush 10, 2) := by decide +kernel
theorem dd_mo_handBack_79 : decode by_mo_handBack 79 = .ok (.iload 5, 2) := by decide +kernel
theorem dd_mo_handBack_81 : decode by_mo_handBack 81 = .ok (.imul, 1) := by decide +kernel
theorem dd_mo_handBack_82 : decode by_mo_handBack 82 = .ok (.iadd, 1) := by decide +kernel
theorem dd_mo_handBack_83 : decode by_mo_handBack 83 = .ok (.iconst 3, 1) := by decide +kernel
theorem dd_mo_handBack_84 : decode by_mo_handBack 84 = .ok (.iadd, 1) := by decide +kernel
theorem dd_mo_handBack_85 : decode by_mo_handBack 85 = .ok (.laload, 1) := by decide +kernel
theorem dd_mo_handBack_86 : decode by_mo_handBack 86 = .ok (.aload_n 0, 1) := by decide +kernel
theorem dd_mo_handBack_87 : decode by_mo_handBack 87 = .ok (.getfield 7, 3) := by decide +kernel
theorem dd_mo_handBack_90 : decode by_mo_handBack 90 = .ok (.aload_n 0, 1) := by decide +kernel
theorem dd_mo_handBack_91 : decode by_mo_handBack 91 = .ok (.getfield 53, 3) := by decide +kernel
theorem dd_mo_handBack_94 : decode by_mo_handBack 94 = .ok (.iconst 4, 1) := by decide +kernel
theorem dd_mo_handBack_95 : decode by_mo_handBack 95 = .ok (.iload_n 2, 1) := by decide +kernel
theorem dd_mo_handBack_96 : decode by_mo_handBack 96 = .ok (.imul, 1) := by decide +kernel
theorem dd_mo_handBack_97 : decode by_mo_handBack 97 = .ok (.iload 5, 2) := by decide +kernel
theorem dd_mo_handBack_99 : decode by_mo_handBack 99 = .ok (.iadd, 1) := by decide +kernel
theorem dd_mo_handBack_100 : decode by_mo_handBack 100 = .ok (.iaload, 1) := by decide +kernel
theorem dd_mo_handBack_101 : decode by_mo_handBack 101 = .ok (.iaload, 1) := by decide +kernel
theorem dd_mo_handBack_102 : decode by_mo_handBack 102 = .ok (.i2l, 1) := by decide +kernel
theorem dd_mo_handBack_103 : decode by_mo_handBack 103 = .ok (.lsub, 1) := by decide +kernel
theorem dd_mo_handBack_104 : decode by_mo_handBack 104 = .ok (.ladd, 1) := by decide +kernel
theorem dd_mo_handBack_105 : decode by_mo_handBack 105 = .ok (.lstore_n 3, 1) := by decide +kernel
theorem dd_mo_handBack_106 : decode by_mo_handBack 106 = .ok (.iinc 5 1, 3) := by decide +kernel
theorem dd_mo_handBack_109 : decode by_mo_handBack 109 = .ok (.goto (-100), 3) := by decide +kernel
theorem dd_mo_handBack_112 : decode by_mo_handBack 112 = .ok (.lload_n 3, 1) := by decide +kernel
theorem dd_mo_handBack_113 : decode by_mo_handBack 113 = .ok (.lconst 0, 1) := by decide +kernel
theorem dd_mo_handBack_114 : decode by_mo_handBack 114 = .ok (.lcmp, 1) := by decide +kernel
theorem dd_mo_handBack_115 : decode by_mo_handBack 115 = .ok (.ifCond .eq 6, 3) := by decide +kernel
theorem dd_mo_handBack_118 : decode by_mo_handBack 118 = .ok (.bipush 8, 2) := by decide +kernel
theorem dd_mo_handBack_120 : decode by_mo_handBack 120 = .ok (.ireturn, 1) := by decide +kernel
theorem dd_mo_handBack_121 : decode by_mo_handBack 121 = .ok (.iconst 0, 1) := by decide +kernel
theorem dd_mo_handBack_122 : decode by_mo_handBack 122 = .ok (.istore 5, 2) := by decide +kernel
theorem dd_mo_handBack_124 : decode by_mo_handBack 124 = .ok (.iload 5, 2) := by decide +kernel
theorem dd_mo_handBack_126 : decode by_mo_handBack 126 = .ok (.aload_n 0, 1) := by decide +kernel
theorem dd_mo_handBack_127 : decode by_mo_handBack 127 = .ok (.getfield 50, 3) := by decide +kernel
theorem dd_mo_handBack_130 : decode by_mo_handBack 130 = .ok (.iload_n 2, 1) := by decide +kernel
theorem dd_mo_handBack_131 : decode by_mo_handBack 131 = .ok (.iaload, 1) := by decide +kernel
theorem dd_mo_handBack_132 : decode by_mo_handBack 132 = .ok (.if_icmp .ge 120, 3) := by decide +kernel
theorem dd_mo_handBack_135 : decode by_mo_handBack 135 = .ok (.bipush 40, 2) := by decide +kernel
theorem dd_mo_handBack_137 : decode by_mo_handBack 137 = .ok (.iload_n 1, 1) := by decide +kernel
theorem dd_mo_handBack_138 : decode by_mo_handBack 138 = .ok (.imul, 1) := by decide +kernel
theorem dd_mo_handBack_139 : decode by_mo_handBack 139 = .ok (.bipush 10, 2) := by decide +kernel
theorem dd_mo_handBack_141 : decode by_mo_handBack 141 = .ok (.iload 5, 2) := by decide +kernel
theorem dd_mo_handBack_143 : decode by_mo_handBack 143 = .ok (.imul, 1) := by decide +kernel
theorem dd_mo_handBack_144 : decode by_mo_handBack 144 = .ok (.iadd, 1) := by decide +kernel
theorem dd_mo_handBack_145 : decode by_mo_handBack 145 = .ok (.istore 6, 2) := by decide +kernel
theorem dd_mo_handBack_147 : decode by_mo_handBack 147 = .ok (.aload_n 0, 1) := by decide +kernel
theorem dd_mo_handBack_148 : decode by_mo_handBack 148 = .ok (.getfield 53, 3) := by decide +kernel
theorem dd_mo_handBack_151 : decode by_mo_handBack 151 = .ok (.iconst 4, 1) := by decide +kernel
theorem dd_mo_handBack_152 : decode by_mo_handBack 152 = .ok (.iload_n 2, 1) := by decide +kernel
theorem dd_mo_handBack_153 : decode by_mo_handBack 153 = .ok (.imul, 1) := by decide +kernel
theorem dd_mo_handBack_154 : decode by_mo_handBack 154 = .ok (.iload 5, 2) := by decide +kernel
theorem dd_mo_handBack_156 : decode by_mo_handBack 156 = .ok (.iadd, 1) := by decide +kernel
theorem dd_mo_handBack_157 : decode by_mo_handBack 157 = .ok (.iaload, 1) := by decide +kernel
theorem dd_mo_handBack_158 : decode by_mo_handBack 158 = .ok (.istore 7, 2) := by decide +kernel
theorem dd_mo_handBack_160 : decode by_mo_handBack 160 = .ok (.aload_n 0, 1) := by decide +kernel
theorem dd_mo_handBack_161 : decode by_mo_handBack 161 = .ok (.iload_n 2, 1) := by decide +kernel
theorem dd_mo_handBack_162 : decode by_mo_handBack 162 = .ok (.iload 5, 2) := by decide +kernel
theorem dd_mo_handBack_164 : decode by_mo_handBack 164 = .ok (.invokevirtual 114, 3) := by decide +kernel
theorem dd_mo_handBack_167 : decode by_mo_handBack 167 = .ok (.iload 5, 2) := by decide +kernel
theorem dd_mo_handBack_169 : decode by_mo_handBack 169 = .ok (.if_icmp .ne 77, 3) := by decide +kernel
theorem dd_mo_handBack_172 : decode by_mo_handBack 172 = .ok (.aload_n 0, 1) := by decide +kernel
theorem dd_mo_handBack_173 : decode by_mo_handBack 173 = .ok (.getfield 13, 3) := by decide +kernel
theorem dd_mo_handBack_176 : decode by_mo_handBack 176 = .ok (.iload 7, 2) := by decide +kernel
theorem dd_mo_handBack_178 : decode by_mo_handBack 178 = .ok (.aload_n 0, 1) := by decide +kernel
theorem dd_mo_handBack_179 : decode by_mo_handBack 179 = .ok (.getfield 75, 3) := by decide +kernel
theorem dd_mo_handBack_182 : decode by_mo_handBack 182 = .ok (.iload 6, 2) := by decide +kernel
theorem dd_mo_handBack_184 : decode by_mo_handBack 184 = .ok (.iconst 2, 1) := by decide +kernel
theorem dd_mo_handBack_185 : decode by_mo_handBack 185 = .ok (.iadd, 1) := by decide +kernel
theorem dd_mo_handBack_186 : decode by_mo_handBack 186 = .ok (.laload, 1) := by decide +kernel
theorem dd_mo_handBack_187 : decode by_mo_handBack 187 = .ok (.l2i, 1) := by decide +kernel
theorem dd_mo_handBack_188 : decode by_mo_handBack 188 = .ok (.iastore, 1) := by decide +kernel
theorem dd_mo_handBack_189 : decode by_mo_handBack 189 = .ok (.aload_n 0, 1) := by decide +kernel
theorem dd_mo_handBack_190 : decode by_mo_handBack 190 = .ok (.getfield 7, 3) := by decide +kernel
theorem dd_mo_handBack_193 : decode by_mo_handBack 193 = .ok (.iload 7, 2) := by decide +kernel
theorem dd_mo_handBack_195 : decode by_mo_handBack 195 = .ok (.aload_n 0, 1) := by decide +kernel
theorem dd_mo_handBack_196 : decode by_mo_handBack 196 = .ok (.getfield 75, 3) := by decide +kernel
theorem dd_mo_handBack_199 : decode by_mo_handBack 199 = .ok (.iload 6, 2) := by decide +kernel
theorem dd_mo_handBack_201 : decode by_mo_handBack 201 = .ok (.iconst 3, 1) := by decide +kernel
theorem dd_mo_handBack_202 : decode by_mo_handBack 202 = .ok (.iadd, 1) := by decide +kernel
theorem dd_mo_handBack_203 : decode by_mo_handBack 203 = .ok (.laload, 1) := by decide +kernel
theorem dd_mo_handBack_204 : decode by_mo_handBack 204 = .ok (.l2i, 1) := by decide +kernel
theorem dd_mo_handBack_205 : decode by_mo_handBack 205 = .ok (.iastore, 1) := by decide +kernel
theorem dd_mo_handBack_206 : decode by_mo_handBack 206 = .ok (.iconst 0, 1) := by decide +kernel
theorem dd_mo_handBack_207 : decode by_mo_handBack 207 = .ok (.istore 8, 2) := by decide +kernel
theorem dd_mo_handBack_209 : decode by_mo_handBack 209 = .ok (.iload 8, 2) := by decide +kernel
theorem dd_mo_handBack_211 : decode by_mo_handBack 211 = .ok (.iconst 4, 1) := by decide +kernel
theorem dd_mo_handBack_212 : decode by_mo_handBack 212 = .ok (.if_icmp .ge 34, 3) := by decide +kernel
theorem dd_mo_handBack_215 : decode by_mo_handBack 215 = .ok (.aload_n 0, 1) := by decide +kernel
theorem dd_mo_handBack_216 : decode by_mo_handBack 216 = .ok (.getfield 19, 3) := by decide +kernel
theorem dd_mo_handBack_219 : decode by_mo_handBack 219 = .ok (.iconst 4, 1) := by decide +kernel
theorem dd_mo_handBack_220 : decode by_mo_handBack 220 = .ok (.iload 7, 2) := by decide +kernel
theorem dd_mo_handBack_222 : decode by_mo_handBack 222 = .ok (.imul, 1) := by decide +kernel
theorem dd_mo_handBack_223 : decode by_mo_handBack 223 = .ok (.iload 8, 2) := by decide +kernel
theorem dd_mo_handBack_225 : decode by_mo_handBack 225 = .ok (.iadd, 1) := by decide +kernel
theorem dd_mo_handBack_226 : decode by_mo_handBack 226 = .ok (.aload_n 0, 1) := by decide +kernel
theorem dd_mo_handBack_227 : decode by_mo_handBack 227 = .ok (.getfield 75, 3) := by decide +kernel
theorem dd_mo_handBack_230 : decode by_mo_handBack 230 = .ok (.iload 6, 2) := by decide +kernel
theorem dd_mo_handBack_232 : decode by_mo_handBack 232 = .ok (.iconst 5, 1) := by decide +kernel
theorem dd_mo_handBack_233 : decode by_mo_handBack 233 = .ok (.iadd, 1) := by decide +kernel
theorem dd_mo_handBack_234 : decode by_mo_handBack 234 = .ok (.iload 8, 2) := by decide +kernel
theorem dd_mo_handBack_236 : decode by_mo_handBack 236 = .ok (.iadd, 1) := by decide +kernel
theorem dd_mo_handBack_237 : decode by_mo_handBack 237 = .ok (.laload, 1) := by decide +kernel
theorem dd_mo_handBack_238 : decode by_mo_handBack 238 = .ok (.l2i, 1) := by decide +kernel
theorem dd_mo_handBack_239 : decode by_mo_handBack 239 = .ok (.iastore, 1) := by decide +kernel
theorem dd_mo_handBack_240 : decode by_mo_handBack 240 = .ok (.iinc 8 1, 3) := by decide +kernel
theorem dd_mo_handBack_243 : decode by_mo_handBack 243 = .ok (.goto (-34), 3) := by decide +kernel
theorem dd_mo_handBack_246 : decode by_mo_handBack 246 = .ok (.iinc 5 1, 3) := by decide +kernel
theorem dd_mo_handBack_249 : decode by_mo_handBack 249 = .ok (.goto (-125), 3) := by decide +kernel
theorem dd_mo_handBack_252 : decode by_mo_handBack 252 = .ok (.iconst 0, 1) := by decide +kernel
theorem dd_mo_handBack_253 : decode by_mo_handBack 253 = .ok (.ireturn, 1) := by decide +kernel
def mo_handBack_b246 (K124 : gw_M → Nat → Int32 → Int32 → Int32 → Option (Int32 × gw_M)) (M : gw_M) (a0 : Nat) (v1 : Int32) (v2 : Int32) (v5 : Int32) : Option (Int32 × gw_M) :=
  K124 M a0 v1 v2 (v5 + (1 : Int32))
def mo_handBack_b209 (K124 : gw_M → Nat → Int32 → Int32 → Int32 → Option (Int32 × gw_M)) (K209 : gw_M → Nat → Int32 → Int32 → Int32 → Int32 → Int32 → Int32 → Option (Int32 × gw_M)) (M : gw_M) (a0 : Nat) (v1 : Int32) (v2 : Int32) (v5 : Int32) (v6 : Int32) (v7 : Int32) (v8 : Int32) : Option (Int32 × gw_M) :=
  if (4 : Int32) ≤ v8 then (mo_handBack_b246 K124 M a0 v1 v2 v5) else (gw_gu (gw_in ((v6 + (5 : Int32)) + v8) 200) (gw_gu (gw_in (((4 : Int32) * v7) + v8) 64) (gw_lt (gw_sI M (a0 + 4) ((((4 : Int32) * v7) + v8).toNatClampNeg) ((M.2 (a0 + 22) (((v6 + (5 : Int32)) + v8).toNatClampNeg)).toInt32)) (fun M239 => K209 M239 a0 v1 v2 v5 v6 v7 (v8 + (1 : Int32))))))
def mo_handBack_l209 (K124 : gw_M → Nat → Int32 → Int32 → Int32 → Option (Int32 × gw_M)) : Nat → gw_M → Nat → Int32 → Int32 → Int32 → Int32 → Int32 → Int32 → Option (Int32 × gw_M)
  | 0 => fun _ _ _ _ _ _ _ _ => none
  | n + 1 => mo_handBack_b209 K124 (mo_handBack_l209 K124 n)
def mo_handBack_b124 (K124 : gw_M → Nat → Int32 → Int32 → Int32 → Option (Int32 × gw_M)) (M : gw_M) (a0 : Nat) (v1 : Int32) (v2 : Int32) (v5 : Int32) : Option (Int32 × gw_M) :=
  gw_gu (gw_in v2 9) (if (M.1 (a0 + 14) v2.toNatClampNeg) ≤ v5 then (some ((0 : Int32), M)) else (gw_lt (((40 : Int32) * v1) + ((10 : Int32) * v5)) (fun x145 => gw_gu (gw_in (((4 : Int32) * v2) + v5) 36) (gw_lt (M.1 (a0 + 15) ((((4 : Int32) * v2) + v5).toNatClampNeg)) (fun x158 => gw_bd (mo_mainOf_b0 M a0 v2 v5) (fun r164 M164 => if r164 = v5 then (gw_gu (gw_in (x145 + (2 : Int32)) 200) (gw_gu (gw_in x158 16) (gw_lt (gw_sI M164 (a0 + 2) x158.toNatClampNeg ((M164.2 (a0 + 22) ((x145 + (2 : Int32)).toNatClampNeg)).toInt32)) (fun M188 => gw_gu (gw_in (x145 + (3 : Int32)) 200) (gw_gu (gw_in x158 16) (gw_lt (gw_sI M188 (a0 + 1) x158.toNatClampNeg ((M188.2 (a0 + 22) ((x145 + (3 : Int32)).toNatClampNeg)).toInt32)) (fun M205 => mo_handBack_l209 K124 2100 M205 a0 v1 v2 v5 x145 x158 (0 : Int32)))))))) else (mo_handBack_b246 K124 M164 a0 v1 v2 v5)))))))
def mo_handBack_l124 : Nat → gw_M → Nat → Int32 → Int32 → Int32 → Option (Int32 × gw_M)
  | 0 => fun _ _ _ _ _ => none
  | n + 1 => mo_handBack_b124  (mo_handBack_l124  n)
def mo_handBack_b106 (K9 : gw_M → Nat → Int32 → Int32 → Int64 → Int32 → Option (Int32 × gw_M)) (M : gw_M) (a0 : Nat) (v1 : Int32) (v2 : Int32) (v3 : Int64) (v5 : Int32) : Option (Int32 × gw_M) :=
  K9 M a0 v1 v2 v3 (v5 + (1 : Int32))
def mo_handBack_b9 (K9 : gw_M → Nat → Int32 → Int32 → Int64 → Int32 → Option (Int32 × gw_M)) (M : gw_M) (a0 : Nat) (v1 : Int32) (v2 : Int32) (v3 : Int64) (v5 : Int32) : Option (Int32 × gw_M) :=
  gw_gu (gw_in v2 9) (if (M.1 (a0 + 14) v2.toNatClampNeg) ≤ v5 then (if (lg_cmp v3 (0 : Int64)) = (0 : Int32) then (mo_handBack_l124  2100 M a0 v1 v2 (0 : Int32)) else (some ((8 : Int32), M))) else (gw_bd (mo_mainOf_b0 M a0 v2 v5) (fun r24 M24 => if r24 = v5 then (gw_gu (gw_in (((4 : Int32) * v2) + v5) 36) (gw_bd (mo_wrongSlot_b0 M24 a0 v2 (((40 : Int32) * v1) + ((10 : Int32) * v5)) (M24.1 (a0 + 15) ((((4 : Int32) * v2) + v5).toNatClampNeg))) (fun r55 M55 => if r55 ≤ (0 : Int32) then (gw_gu (gw_in ((((40 : Int32) * v1) + ((10 : Int32) * v5)) + (3 : Int32)) 200) (gw_gu (gw_in (((4 : Int32) * v2) + v5) 36) (gw_gu (gw_in (M55.1 (a0 + 15) ((((4 : Int32) * v2) + v5).toNatClampNeg)) 16) (gw_lt (v3 + ((M55.2 (a0 + 22) (((((40 : Int32) * v1) + ((10 : Int32) * v5)) + (3 : Int32)).toNatClampNeg)) - ((M55.1 (a0 + 1) ((M55.1 (a0 + 15) ((((4 : Int32) * v2) + v5).toNatClampNeg)).toNatClampNeg)).toInt64))) (fun x105 => mo_handBack_b106 K9 M55 a0 v1 v2 x105 v5))))) else (some (r55, M55))))) else (mo_handBack_b106 K9 M24 a0 v1 v2 v3 v5))))
def mo_handBack_l9 : Nat → gw_M → Nat → Int32 → Int32 → Int64 → Int32 → Option (Int32 × gw_M)
  | 0 => fun _ _ _ _ _ _ => none
  | n + 1 => mo_handBack_b9  (mo_handBack_l9  n)
def mo_handBack_b0 (M : gw_M) (a0 : Nat) (v1 : Int32) : Option (Int32 × gw_M) :=
  gw_lt ((3 : Int32) + v1) (fun x3 => mo_handBack_l9  2100 M a0 v1 x3 (0 : Int64) (0 : Int32))
set_option maxRecDepth 100000 in
set_option maxHeartbeats 4000000 in
theorem wb_mo_handBack_246 {p : Program} {l : Launch} {e : Env} {s : State} {m : MethodId} {args : Array Value} {below : List Frame} {meth : Method} {c : Code} {X : gw_X} {Y : gw_M} {z : (Int32 × gw_M)} (C0 : gw_C ((Cond.code yy_mo_handBack by_mo_handBack 9 (some .int)) :: gw_w) by_mo_handBack 9 (some .int) "AccountMachineModel" X p s m args meth c) {K124 : gw_M → Nat → Int32 → Int32 → Int32 → Option (Int32 × gw_M)} (hK124 : ∀ (M : gw_M) (a0 : Nat) (v1 : Int32) (v2 : Int32) (v5 : Int32) (H : Heap) (locs : List Loc) (ls : Array Slot), gr_k a0 = (11, 0) → gw_G X (gw_E X Y M) s H locs → lv_has ls 9 [(0, .ref (gr_a X a0)), (1, .int v1), (2, .int v2), (5, .int v5)] → K124 M a0 v1 v2 v5 = some z → W p l e rm_mo_handBack s m args below meth c H locs 0 0 (MQ below (gw_Qi X (fun M => (gw_E X Y M)) z) args s 0 0 (gw_A X)) (F0 m 124 ls [])) (M : gw_M) (a0 : Nat) (v1 : Int32) (v2 : Int32) (v5 : Int32) (H : Heap) (locs : List Loc) (ls : Array Slot) (ha0 : gr_k a0 = (11, 0)) (G : gw_G X (gw_E X Y M) s H locs) (hl : lv_has ls 9 [(0, .ref (gr_a X a0)), (1, .int v1), (2, .int v2), (5, .int v5)]) (hF : mo_handBack_b246 K124 M a0 v1 v2 v5 = some z) : W p l e rm_mo_handBack s m args below meth c H locs 0 0 (MQ below (gw_Qi X (fun M => (gw_E X Y M)) z) args s 0 0 (gw_A X)) (F0 m 246 ls []) := by
  obtain ⟨hx, hb, hml, hown, hts, hr, hlocks, hK⟩ := id C0
  have hg : ∀ w ∈ gw_w, w.before args s = true := fun w h => hts w (List.mem_cons_of_mem _ h)
  unfold mo_handBack_b246 at hF
  refine lv_iinc (k := 3) (v := v5 + (1 : Int32)) (lv' := [(5, .int (v5 + (1 : Int32))), (0, .ref (gr_a X a0)), (1, .int v1), (2, .int v2)]) hx hb dd_mo_handBack_246 hl rfl rfl (by decide) rfl (fun ls hl => ?_)
  refine lv_goto (tgt := 124) hx hb dd_mo_handBack_249 (by decide) ?_
  exact hK124 M a0 v1 v2 (v5 + (1 : Int32)) _ _ _ ha0 G (lv_sub hl [1, 2, 3, 0] rfl) hF
set_option maxRecDepth 100000 in
set_option maxHeartbeats 4000000 in
theorem wb_mo_handBack_209 {p : Program} {l : Launch} {e : Env} {s : State} {m : MethodId} {args : Array Value} {below : List Frame} {meth : Method} {c : Code} {X : gw_X} {Y : gw_M} {z : (Int32 × gw_M)} (C0 : gw_C ((Cond.code yy_mo_handBack by_mo_handBack 9 (some .int)) :: gw_w) by_mo_handBack 9 (some .int) "AccountMachineModel" X p s m args meth c) {K124 : gw_M → Nat → Int32 → Int32 → Int32 → Option (Int32 × gw_M)} {K209 : gw_M → Nat → Int32 → Int32 → Int32 → Int32 → Int32 → Int32 → Option (Int32 × gw_M)} (hK124 : ∀ (M : gw_M) (a0 : Nat) (v1 : Int32) (v2 : Int32) (v5 : Int32) (H : Heap) (locs : List Loc) (ls : Array Slot), gr_k a0 = (11, 0) → gw_G X (gw_E X Y M) s H locs → lv_has ls 9 [(0, .ref (gr_a X a0)), (1, .int v1), (2, .int v2), (5, .int v5)] → K124 M a0 v1 v2 v5 = some z → W p l e rm_mo_handBack s m args below meth c H locs 0 0 (MQ below (gw_Qi X (fun M => (gw_E X Y M)) z) args s 0 0 (gw_A X)) (F0 m 124 ls [])) (hK209 : ∀ (M : gw_M) (a0 : Nat) (v1 : Int32) (v2 : Int32) (v5 : Int32) (v6 : Int32) (v7 : Int32) (v8 : Int32) (H : Heap) (locs : List Loc) (ls : Array Slot), gr_k a0 = (11, 0) → gw_G X (gw_E X Y M) s H locs → lv_has ls 9 [(0, .ref (gr_a X a0)), (1, .int v1), (2, .int v2), (5, .int v5), (6, .int v6), (7, .int v7), (8, .int v8)] → K209 M a0 v1 v2 v5 v6 v7 v8 = some z → W p l e rm_mo_handBack s m args below meth c H locs 0 0 (MQ below (gw_Qi X (fun M => (gw_E X Y M)) z) args s 0 0 (gw_A X)) (F0 m 209 ls [])) (M : gw_M) (a0 : Nat) (v1 : Int32) (v2 : Int32) (v5 : Int32) (v6 : Int32) (v7 : Int32) (v8 : Int32) (H : Heap) (locs : List Loc) (ls : Array Slot) (ha0 : gr_k a0 = (11, 0)) (G : gw_G X (gw_E X Y M) s H locs) (hl : lv_has ls 9 [(0, .ref (gr_a X a0)), (1, .int v1), (2, .int v2), (5, .int v5), (6, .int v6), (7, .int v7), (8, .int v8)]) (hF : mo_handBack_b209 K124 K209 M a0 v1 v2 v5 v6 v7 v8 = some z) : W p l e rm_mo_handBack s m args below meth c H locs 0 0 (MQ below (gw_Qi X (fun M => (gw_E X Y M)) z) args s 0 0 (gw_A X)) (F0 m 209 ls []) := by
  obtain ⟨hx, hb, hml, hown, hts, hr, hlocks, hK⟩ := id C0
  have hg : ∀ w ∈ gw_w, w.before args s = true := fun w h => hts w (List.mem_cons_of_mem _ h)
  unfold mo_handBack_b209 at hF
  refine lv_iload hx hb dd_mo_handBack_209 (lv_at hl 6 rfl) ?_
  refine lv_iconst (v := (4 : Int32)) hx hb dd_mo_handBack_211 (by decide) ?_
  refine lv_icmp_ge (tgt := 246) hx hb dd_mo_handBack_212 (by decide) (fun h212 => ?_) (fun h212 => ?_)
  · replace hF := gw_et h212 hF
    exact wb_mo_handBack_246 C0 hK124 M a0 v1 v2 v5 _ _ _ ha0 G (lv_sub hl [0, 1, 2, 3] rfl) hF
  · replace hF := gw_ef h212 hF
    refine lv_aload_n hx hb dd_mo_handBack_215 rfl (lv_at hl 0 rfl) ?_
    refine gf_mo_words hx hb hg hown (hg _ kw_287) hK G ha0 dd_mo_handBack_216 ?_
    refine lv_iconst (v := (4 : Int32)) hx hb dd_mo_handBack_219 (by decide) ?_
    refine lv_iload hx hb dd_mo_handBack_220 (lv_at hl 5 rfl) ?_
    refine lv_imul hx hb dd_mo_handBack_222 ?_
    refine lv_iload hx hb dd_mo_handBack_223 (lv_at hl 6 rfl) ?_
    refine lv_iadd hx hb dd_mo_handBack_225 ?_
    refine lv_aload_n hx hb dd_mo_handBack_226 rfl (lv_at hl 0 rfl) ?_
    refine gf_mo_seen hx hb hg hown (hg _ kw_285) hK G ha0 dd_mo_handBack_227 ?_
    refine W.eq (g2 := F0 m 230 _ _) rfl ?_
    refine lv_iload hx hb dd_mo_handBack_230 (lv_at hl 4 rfl) ?_
    refine lv_iconst (v := (5 : Int32)) hx hb dd_mo_handBack_232 (by decide) ?_
    refine lv_iadd hx hb dd_mo_handBack_233 ?_
    refine lv_iload hx hb dd_mo_handBack_234 (lv_at hl 6 rfl) ?_
    refine lv_iadd hx hb dd_mo_handBack_236 ?_
    obtain ⟨h237, hF⟩ := gw_gd hF
    refine gr_lald hx hb hK G (gq_mo_seen ha0) (gw_vp h237) (j := ((v6 + (5 : Int32)) + v8).toNatClampNeg) rfl dd_mo_handBack_237 ?_
    refine lv_l2i (v := (M.2 (a0 + 22) (((v6 + (5 : Int32)) + v8).toNatClampNeg)).toInt32) hx hb dd_mo_handBack_238 rfl ?_
    obtain ⟨h239, hF⟩ := gw_gd hF
    refine gr_iast hx hb hK G (gq_mo_words ha0) (gw_vp h239) (j := (((4 : Int32) * v7) + v8).toNatClampNeg) rfl dd_mo_handBack_239 (fun M239 H locs e239 G => ?_)
    replace hF := gw_ly e239 hF
    refine lv_iinc (k := 6) (v := v8 + (1 : Int32)) (lv' := [(8, .int (v8 + (1 : Int32))), (0, .ref (gr_a X a0)), (1, .int v1), (2, .int v2), (5, .int v5), (6, .int v6), (7, .int v7)]) hx hb dd_mo_handBack_240 hl rfl rfl (by decide) rfl (fun ls hl => ?_)
    refine lv_goto (tgt := 209) hx hb dd_mo_handBack_243 (by decide) ?_
    exact hK209 M239 a0 v1 v2 v5 v6 v7 (v8 + (1 : Int32)) _ _ _ ha0 G (lv_sub hl [1, 2, 3, 4, 5, 6, 0] rfl) hF
theorem wl_mo_handBack_209 {p : Program} {l : Launch} {e : Env} {s : State} {m : MethodId} {args : Array Value} {below : List Frame} {meth : Method} {c : Code} {X : gw_X} {Y : gw_M} {z : (Int32 × gw_M)} (C0 : gw_C ((Cond.code yy_mo_handBack by_mo_handBack 9 (some .int)) :: gw_w) by_mo_handBack 9 (some .int) "AccountMachineModel" X p s m args meth c) {K124 : gw_M → Nat → Int32 → Int32 → Int32 → Option (Int32 × gw_M)} (hK124 : ∀ (M : gw_M) (a0 : Nat) (v1 : Int32) (v2 : Int32) (v5 : Int32) (H : Heap) (locs : List Loc) (ls : Array Slot), gr_k a0 = (11, 0) → gw_G X (gw_E X Y M) s H locs → lv_has ls 9 [(0, .ref (gr_a X a0)), (1, .int v1), (2, .int v2), (5, .int v5)] → K124 M a0 v1 v2 v5 = some z → W p l e rm_mo_handBack s m args below meth c H locs 0 0 (MQ below (gw_Qi X (fun M => (gw_E X Y M)) z) args s 0 0 (gw_A X)) (F0 m 124 ls [])) : ∀ n : Nat, ∀ (M : gw_M) (a0 : Nat) (v1 : Int32) (v2 : Int32) (v5 : Int32) (v6 : Int32) (v7 : Int32) (v8 : Int32) (H : Heap) (locs : List Loc) (ls : Array Slot), gr_k a0 = (11, 0) → gw_G X (gw_E X Y M) s H locs → lv_has ls 9 [(0, .ref (gr_a X a0)), (1, .int v1), (2, .int v2), (5, .int v5), (6, .int v6), (7, .int v7), (8, .int v8)] → mo_handBack_l209 K124 n M a0 v1 v2 v5 v6 v7 v8 = some z → W p l e rm_mo_handBack s m args below meth c H locs 0 0 (MQ below (gw_Qi X (fun M => (gw_E X Y M)) z) args s 0 0 (gw_A X)) (F0 m 209 ls []) := by
  intro n
  induction n with
  | zero =>
    intro M a0 v1 v2 v5 v6 v7 v8 H locs ls ha0 G hl hF
    have hF : (none : Option (Int32 × gw_M)) = some z := hF
    cases hF
  | succ n ih =>
    intro M a0 v1 v2 v5 v6 v7 v8 H locs ls ha0 G hl hF
    exact wb_mo_handBack_209 C0 hK124 ih M a0 v1 v2 v5 v6 v7 v8 H locs ls ha0 G hl hF
set_option maxRecDepth 100000 in
set_option maxHeartbeats 4000000 in
theorem wb_mo_handBack_124 {p : Program} {l : Launch} {e : Env} {s : State} {m : MethodId} {args : Array Value} {below : List Frame} {meth : Method} {c : Code} {X : gw_X} {Y : gw_M} {z : (Int32 × gw_M)} (C0 : gw_C ((Cond.code yy_mo_handBack by_mo_handBack 9 (some .int)) :: gw_w) by_mo_handBack 9 (some .int) "AccountMachineModel" X p s m args meth c) {K124 : gw_M → Nat → Int32 → Int32 → Int32 → Option (Int32 × gw_M)} (hK124 : ∀ (M : gw_M) (a0 : Nat) (v1 : Int32) (v2 : Int32) (v5 : Int32) (H : Heap) (locs : List Loc) (ls : Array Slot), gr_k a0 = (11, 0) → gw_G X (gw_E X Y M) s H locs → lv_has ls 9 [(0, .ref (gr_a X a0)), (1, .int v1), (2, .int v2), (5, .int v5)] → K124 M a0 v1 v2 v5 = some z → W p l e rm_mo_handBack s m args below meth c H locs 0 0 (MQ below (gw_Qi X (fun M => (gw_E X Y M)) z) args s 0 0 (gw_A X)) (F0 m 124 ls [])) (M : gw_M) (a0 : Nat) (v1 : Int32) (v2 : Int32) (v5 : Int32) (H : Heap) (locs : List Loc) (ls : Array Slot) (ha0 : gr_k a0 = (11, 0)) (G : gw_G X (gw_E X Y M) s H locs) (hl : lv_has ls 9 [(0, .ref (gr_a X a0)), (1, .int v1), (2, .int v2), (5, .int v5)]) (hF : mo_handBack_b124 K124 M a0 v1 v2 v5 = some z) : W p l e rm_mo_handBack s m args below meth c H locs 0 0 (MQ below (gw_Qi X (fun M => (gw_E X Y M)) z) args s 0 0 (gw_A X)) (F0 m 124 ls []) := by
  obtain ⟨hx, hb, hml, hown, hts, hr, hlocks, hK⟩ := id C0
  have hg : ∀ w ∈ gw_w, w.before args s = true := fun w h => hts w (List.mem_cons_of_mem _ h)
  unfold mo_handBack_b124 at hF
  refine lv_iload hx hb dd_mo_handBack_124 (lv_at hl 3 rfl) ?_
  refine lv_aload_n hx hb dd_mo_handBack_126 rfl (lv_at hl 0 rfl) ?_
  refine gf_mo_slots hx hb hg hown (hg _ kw_273) hK G ha0 dd_mo_handBack_127 ?_
  refine lv_iload_n hx hb dd_mo_handBack_130 rfl (lv_at hl 2 rfl) ?_
  obtain ⟨h131, hF⟩ := gw_gd hF
  refine gr_iald hx hb hK G (gq_mo_slots ha0) (gw_vp h131) (j := v2.toNatClampNeg) rfl dd_mo_handBack_131 ?_
  refine lv_icmp_ge (tgt := 252) hx hb dd_mo_handBack_132 (by decide) (fun h132 => ?_) (fun h132 => ?_)
  · replace hF := gw_et h132 hF
    refine lv_iconst (v := (0 : Int32)) hx hb dd_mo_handBack_252 (by decide) ?_
    exact W.iret hx hb hr (fun t ht hW => gw_endi (EF := (fun M => (gw_E X Y M))) (M := M) G ht hF) G.2.2.2.2 dd_mo_handBack_253 hlocks
  · replace hF := gw_ef h132 hF
    refine lv_bipush (v := (40 : Int32)) hx hb dd_mo_handBack_135 (by decide) ?_
    refine lv_iload_n hx hb dd_mo_handBack_137 rfl (lv_at hl 1 rfl) ?_
    refine lv_imul hx hb dd_mo_handBack_138 ?_
    refine lv_bipush (v := (10 : Int32)) hx hb dd_mo_handBack_139 (by decide) ?_
    refine lv_iload hx hb dd_mo_handBack_141 (lv_at hl 3 rfl) ?_
    refine lv_imul hx hb dd_mo_handBack_143 ?_
    refine lv_iadd hx hb dd_mo_handBack_144 ?_
    refine lv_topi (fun x145 e145 => ?_)
    replace hF := gw_ly e145 hF
    refine lv_istore (i := 6) (lv' := [(6, .int x145), (0, .ref (gr_a X a0)), (1, .int v1), (2, .int v2), (5, .int v5)]) hx hb dd_mo_handBack_145 hl (by decide) rfl (fun ls hl => ?_)
    refine lv_aload_n hx hb dd_mo_handBack_147 rfl (lv_at hl 1 rfl) ?_
    refine W.eq (g2 := F0 m 148 _ _) rfl ?_
    refine gf_mo_slotAccount hx hb hg hown (hg _ kw_274) hK G ha0 dd_mo_handBack_148 ?_
    refine lv_iconst (v := (4 : Int32)) hx hb dd_mo_handBack_151 (by decide) ?_
    refine lv_iload_n hx hb dd_mo_handBack_152 rfl (lv_at hl 3 rfl) ?_
    refine lv_imul hx hb dd_mo_handBack_153 ?_
    refine lv_iload hx hb dd_mo_handBack_154 (lv_at hl 4 rfl) ?_
    refine lv_iadd hx hb dd_mo_handBack_156 ?_
    obtain ⟨h157, hF⟩ := gw_gd hF
    refine gr_iald hx hb hK G (gq_mo_slotAccount ha0) (gw_vp h157) (j := (((4 : Int32) * v2) + v5).toNatClampNeg) rfl dd_mo_handBack_157 ?_
    refine lv_topi (fun x158 e158 => ?_)
    replace hF := gw_ly e158 hF
    refine lv_istore (i := 7) (lv' := [(7, .int x158), (6, .int x145), (0, .ref (gr_a X a0)), (1, .int v1), (2, .int v2), (5, .int v5)]) hx hb dd_mo_handBack_158 hl (by decide) rfl (fun ls hl => ?_)
    refine lv_aload_n hx hb dd_mo_handBack_160 rfl (lv_at hl 2 rfl) ?_
    refine lv_iload_n hx hb dd_mo_handBack_161 rfl (lv_at hl 4 rfl) ?_
    refine W.eq (g2 := F0 m 162 _ _) rfl ?_
    refine lv_iload hx hb dd_mo_handBack_162 (lv_at hl 5 rfl) ?_
    obtain ⟨r164, M164, hc164, hF⟩ := gw_be hF
    refine gw_ci G (va_runV (As := [.int v2, .int v5]) (rest := []) ⟨hx, hb, hml, hown, hts⟩ (ct_mo_mainOf l X Y M a0 v2 v5 ha0 _ hc164) (cwV 2 hts (gw_gV kw_289 kw_290 kw_291 kw_253 kw_288) rfl rfl rfl (by decide +kernel) ⟨Nat.le_of_ble_eq_true rfl, Nat.le_of_ble_eq_true rfl⟩) ⟨gw_blind, gw_recv_mo hK G ha0, gw_pre hK G⟩ rfl rfl hl.1 rfl (Nat.le_of_ble_eq_true rfl) dd_mo_handBack_164 ⟨Nat.le_of_ble_eq_true rfl, Nat.le_of_ble_eq_true rfl⟩) (fun H locs G => ?_)
    refine lv_iload hx hb dd_mo_handBack_167 (lv_at hl 5 rfl) ?_
    refine lv_icmp_ne (tgt := 246) hx hb dd_mo_handBack_169 (by decide) (fun h169 => ?_) (fun h169 => ?_)
    · replace hF := gw_ef h169 hF
      exact wb_mo_handBack_246 C0 hK124 M164 a0 v1 v2 v5 _ _ _ ha0 G (lv_sub hl [2, 3, 4, 5] rfl) hF
    · replace hF := gw_et h169 hF
      refine lv_aload_n hx hb dd_mo_handBack_172 rfl (lv_at hl 2 rfl) ?_
      refine gf_mo_owners hx hb hg hown (hg _ kw_292) hK G ha0 dd_mo_handBack_173 ?_
      refine lv_iload hx hb dd_mo_handBack_176 (lv_at hl 0 rfl) ?_
      refine lv_aload_n hx hb dd_mo_handBack_178 rfl (lv_at hl 2 rfl) ?_
      refine gf_mo_seen hx hb hg hown (hg _ kw_285) hK G ha0 dd_mo_handBack_179 ?_
      refine lv_iload hx hb dd_mo_handBack_182 (lv_at hl 1 rfl) ?_
      refine lv_iconst (v := (2 : Int32)) hx hb dd_mo_handBack_184 (by decide) ?_
      refine lv_iadd hx hb dd_mo_handBack_185 ?_
      obtain ⟨h186, hF⟩ := gw_gd hF
      refine gr_lald hx hb hK G (gq_mo_seen ha0) (gw_vp h186) (j := (x145 + (2 : Int32)).toNatClampNeg) rfl dd_mo_handBack_186 ?_
      refine W.eq (g2 := F0 m 187 _ _) rfl ?_
      refine lv_l2i (v := (M164.2 (a0 + 22) ((x145 + (2 : Int32)).toNatClampNeg)).toInt32) hx hb dd_mo_handBack_187 rfl ?_
      obtain ⟨h188, hF⟩ := gw_gd hF
      refine gr_iast hx hb hK G (gq_mo_owners ha0) (gw_vp h188) (j := x158.toNatClampNeg) rfl dd_mo_handBack_188 (fun M188 H locs e188 G => ?_)
      replace hF := gw_ly e188 hF
      refine lv_aload_n hx hb dd_mo_handBack_189 rfl (lv_at hl 2 rfl) ?_
      refine gf_mo_balances hx hb hg hown (hg _ kw_293) hK G ha0 dd_mo_handBack_190 ?_
      refine lv_iload hx hb dd_mo_handBack_193 (lv_at hl 0 rfl) ?_
      refine lv_aload_n hx hb dd_mo_handBack_195 rfl (lv_at hl 2 rfl) ?_
      refine gf_mo_seen hx hb hg hown (hg _ kw_285) hK G ha0 dd_mo_handBack_196 ?_
      refine lv_iload hx hb dd_mo_handBack_199 (lv_at hl 1 rfl) ?_
      refine lv_iconst (v := (3 : Int32)) hx hb dd_mo_handBack_201 (by decide) ?_
      refine lv_iadd hx hb dd_mo_handBack_202 ?_
      refine W.eq (g2 := F0 m 203 _ _) rfl ?_
      obtain ⟨h203, hF⟩ := gw_gd hF
      refine gr_lald hx hb hK G (gq_mo_seen ha0) (gw_vp h203) (j := (x145 + (3 : Int32)).toNatClampNeg) rfl dd_mo_handBack_203 ?_
      refine lv_l2i (v := (M188.2 (a0 + 22) ((x145 + (3 : Int32)).toNatClampNeg)).toInt32) hx hb dd_mo_handBack_204 rfl ?_
      obtain ⟨h205, hF⟩ := gw_gd hF
      refine gr_iast hx hb hK G (gq_mo_balances ha0) (gw_vp h205) (j := x158.toNatClampNeg) rfl dd_mo_handBack_205 (fun M205 H locs e205 G => ?_)
      replace hF := gw_ly e205 hF
      refine lv_iconst (v := (0 : Int32)) hx hb dd_mo_handBack_206 (by decide) ?_
      refine lv_istore (i := 8) (lv' := [(8, .int (0 : Int32)), (7, .int x158), (6, .int x145), (0, .ref (gr_a X a0)), (1, .int v1), (2, .int v2), (5, .int v5)]) hx hb dd_mo_handBack_207 hl (by decide) rfl (fun ls hl => ?_)
      exact wl_mo_handBack_209 C0 hK124 2100 M205 a0 v1 v2 v5 x145 x158 (0 : Int32) _ _ _ ha0 G (lv_sub hl [3, 4, 5, 6, 2, 1, 0] rfl) hF
theorem wl_mo_handBack_124 {p : Program} {l : Launch} {e : Env} {s : State} {m : MethodId} {args : Array Value} {below : List Frame} {meth : Method} {c : Code} {X : gw_X} {Y : gw_M} {z : (Int32 × gw_M)} (C0 : gw_C ((Cond.code yy_mo_handBack by_mo_handBack 9 (some .int)) :: gw_w) by_mo_handBack 9 (some .int) "AccountMachineModel" X p s m args meth c) : ∀ n : Nat, ∀ (M : gw_M) (a0 : Nat) (v1 : Int32) (v2 : Int32) (v5 : Int32) (H : Heap) (locs : List Loc) (ls : Array Slot), gr_k a0 = (11, 0) → gw_G X (gw_E X Y M) s H locs → lv_has ls 9 [(0, .ref (gr_a X a0)), (1, .int v1), (2, .int v2), (5, .int v5)] → mo_handBack_l124  n M a0 v1 v2 v5 = some z → W p l e rm_mo_handBack s m args below meth c H locs 0 0 (MQ below (gw_Qi X (fun M => (gw_E X Y M)) z) args s 0 0 (gw_A X)) (F0 m 124 ls []) := by
  intro n
  induction n with
  | zero =>
    intro M a0 v1 v2 v5 H locs ls ha0 G hl hF
    have hF : (none : Option (Int32 × gw_M)) = some z := hF
    cases hF
  | succ n ih =>
    intro M a0 v1 v2 v5 H locs ls ha0 G hl hF
    exact wb_mo_handBack_124 C0  ih M a0 v1 v2 v5 H locs ls ha0 G hl hF
set_option maxRecDepth 100000 in
set_option maxHeartbeats 4000000 in
theorem wb_mo_handBack_106 {p : Program} {l : Launch} {e : Env} {s : State} {m : MethodId} {args : Array Value} {below : List Frame} {meth : Method} {c : Code} {X : gw_X} {Y : gw_M} {z : (Int32 × gw_M)} (C0 : gw_C ((Cond.code yy_mo_handBack by_mo_handBack 9 (some .int)) :: gw_w) by_mo_handBack 9 (some .int) "AccountMachineModel" X p s m args meth c) {K9 : gw_M → Nat → Int32 → Int32 → Int64 → Int32 → Option (Int32 × gw_M)} (hK9 : ∀ (M : gw_M) (a0 : Nat) (v1 : Int32) (v2 : Int32) (v3 : Int64) (v5 : Int32) (H : Heap) (locs : List Loc) (ls : Array Slot), gr_k a0 = (11, 0) → gw_G X (gw_E X Y M) s H locs → lv_has ls 9 [(0, .ref (gr_a X a0)), (1, .int v1), (2, .int v2), (3, .long v3), (5, .int v5)] → K9 M a0 v1 v2 v3 v5 = some z → W p l e rm_mo_handBack s m args below meth c H locs 0 0 (MQ below (gw_Qi X (fun M => (gw_E X Y M)) z) args s 0 0 (gw_A X)) (F0 m 9 ls [])) (M : gw_M) (a0 : Nat) (v1 : Int32) (v2 : Int32) (v3 : Int64) (v5 : Int32) (H : Heap) (locs : List Loc) (ls : Array Slot) (ha0 : gr_k a0 = (11, 0)) (G : gw_G X (gw_E X Y M) s H locs) (hl : lv_has ls 9 [(0, .ref (gr_a X a0)), (1, .int v1), (2, .int v2), (3, .long v3), (5, .int v5)]) (hF : mo_handBack_b106 K9 M a0 v1 v2 v3 v5 = some z) : W p l e rm_mo_handBack s m args below meth c H locs 0 0 (MQ below (gw_Qi X (fun M => (gw_E X Y M)) z) args s 0 0 (gw_A X)) (F0 m 106 ls []) := by
  obtain ⟨hx, hb, hml, hown, hts, hr, hlocks, hK⟩ := id C0
  have hg : ∀ w ∈ gw_w, w.before args s = true := fun w h => hts w (List.mem_cons_of_mem _ h)
  unfold mo_handBack_b106 at hF
  refine lv_iinc (k := 4) (v := v5 + (1 : Int32)) (lv' := [(5, .int (v5 + (1 : Int32))), (0, .ref (gr_a X a0)), (1, .int v1), (2, .int v2), (3, .long v3)]) hx hb dd_mo_handBack_106 hl rfl rfl (by decide) rfl (fun ls hl => ?_)
  refine lv_goto (tgt := 9) hx hb dd_mo_handBack_109 (by decide) ?_
  exact hK9 M a0 v1 v2 v3 (v5 + (1 : Int32)) _ _ _ ha0 G (lv_sub hl [1, 2, 3, 4, 0] rfl) hF
set_option maxRecDepth 100000 in
set_option maxHeartbeats 4000000 in
theorem wb_mo_handBack_9 {p : Program} {l : Launch} {e : Env} {s : State} {m : MethodId} {args : Array Value} {below : List Frame} {meth : Method} {c : Code} {X : gw_X} {Y : gw_M} {z : (Int32 × gw_M)} (C0 : gw_C ((Cond.code yy_mo_handBack by_mo_handBack 9 (some .int)) :: gw_w) by_mo_handBack 9 (some .int) "AccountMachineModel" X p s m args meth c) {K9 : gw_M → Nat → Int32 → Int32 → Int64 → Int32 → Option (Int32 × gw_M)} (hK9 : ∀ (M : gw_M) (a0 : Nat) (v1 : Int32) (v2 : Int32) (v3 : Int64) (v5 : Int32) (H : Heap) (locs : List Loc) (ls : Array Slot), gr_k a0 = (11, 0) → gw_G X (gw_E X Y M) s H locs → lv_has ls 9 [(0, .ref (gr_a X a0)), (1, .int v1), (2, .int v2), (3, .long v3), (5, .int v5)] → K9 M a0 v1 v2 v3 v5 = some z → W p l e rm_mo_handBack s m args below meth c H locs 0 0 (MQ below (gw_Qi X (fun M => (gw_E X Y M)) z) args s 0 0 (gw_A X)) (F0 m 9 ls [])) (M : gw_M) (a0 : Nat) (v1 : Int32) (v2 : Int32) (v3 : Int64) (v5 : Int32) (H : Heap) (locs : List Loc) (ls : Array Slot) (ha0 : gr_k a0 = (11, 0)) (G : gw_G X (gw_E X Y M) s H locs) (hl : lv_has ls 9 [(0, .ref (gr_a X a0)), (1, .int v1), (2, .int v2), (3, .long v3), (5, .int v5)]) (hF : mo_handBack_b9 K9 M a0 v1 v2 v3 v5 = some z) : W p l e rm_mo_handBack s m args below meth c H locs 0 0 (MQ below (gw_Qi X (fun M => (gw_E X Y M)) z) args s 0 0 (gw_A X)) (F0 m 9 ls []) := by
  obtain ⟨hx, hb, hml, hown, hts, hr, hlocks, hK⟩ := id C0
  have hg : ∀ w ∈ gw_w, w.before args s = true := fun w h => hts w (List.mem_cons_of_mem _ h)
  unfold mo_handBack_b9 at hF
  refine lv_iload hx hb dd_mo_handBack_9 (lv_at hl 4 rfl) ?_
  refine lv_aload_n hx hb dd_mo_handBack_11 rfl (lv_at hl 0 rfl) ?_
  refine gf_mo_slots hx hb hg hown (hg _ kw_273) hK G ha0 dd_mo_handBack_12 ?_
  refine lv_iload_n hx hb dd_mo_handBack_15 rfl (lv_at hl 2 rfl) ?_
  obtain ⟨h16, hF⟩ := gw_gd hF
  refine gr_iald hx hb hK G (gq_mo_slots ha0) (gw_vp h16) (j := v2.toNatClampNeg) rfl dd_mo_handBack_16 ?_
  refine lv_icmp_ge (tgt := 112) hx hb dd_mo_handBack_17 (by decide) (fun h17 => ?_) (fun h17 => ?_)
  · replace hF := gw_et h17 hF
    refine lv_lload_n hx hb dd_mo_handBack_112 rfl (lv_at hl 3 rfl) ?_
    refine lv_lconst (v := (0 : Int64)) hx hb dd_mo_handBack_113 (by decide) ?_
    refine W.lcmp hx hb dd_mo_handBack_114 ?_
    refine lv_if_eq (tgt := 121) hx hb dd_mo_handBack_115 (by decide) (fun h115 => ?_) (fun h115 => ?_)
    · replace hF := gw_et h115 hF
      refine lv_iconst (v := (0 : Int32)) hx hb dd_mo_handBack_121 (by decide) ?_
      refine lv_istore (i := 5) (lv' := [(5, .int (0 : Int32)), (0, .ref (gr_a X a0)), (1, .int v1), (2, .int v2), (3, .long v3)]) hx hb dd_mo_handBack_122 hl (by decide) rfl (fun ls hl => ?_)
      exact wl_mo_handBack_124 C0  2100 M a0 v1 v2 (0 : Int32) _ _ _ ha0 G (lv_sub hl [1, 2, 3, 0] rfl) hF
    · replace hF := gw_ef h115 hF
      refine lv_bipush (v := (8 : Int32)) hx hb dd_mo_handBack_118 (by decide) ?_
      exact W.iret hx hb hr (fun t ht hW => gw_endi (EF := (fun M => (gw_E X Y M))) (M := M) G ht hF) G.2.2.2.2 dd_mo_handBack_120 hlocks
  · replace hF := gw_ef h17 hF
    refine lv_aload_n hx hb dd_mo_handBack_20 rfl (lv_at hl 0 rfl) ?_
    refine lv_iload_n hx hb dd_mo_handBack_21 rfl (lv_at hl 2 rfl) ?_
    refine lv_iload hx hb dd_mo_handBack_22 (lv_at hl 4 rfl) ?_
    obtain ⟨r24, M24, hc24, hF⟩ := gw_be hF
    refine gw_ci G (va_runV (As := [.int v2, .int v5]) (rest := []) ⟨hx, hb, hml, hown, hts⟩ (ct_mo_mainOf l X Y M a0 v2 v5 ha0 _ hc24) (cwV 2 hts (gw_gV kw_289 kw_290 kw_291 kw_253 kw_288) rfl rfl rfl (by decide +kernel) ⟨Nat.le_of_ble_eq_true rfl, Nat.le_of_ble_eq_true rfl⟩) ⟨gw_blind, gw_recv_mo hK G ha0, gw_pre hK G⟩ rfl rfl hl.1 rfl (Nat.le_of_ble_eq_true rfl) dd_mo_handBack_24 ⟨Nat.le_of_ble_eq_true rfl, Nat.le_of_ble_eq_true rfl⟩) (fun H locs G => ?_)
    refine lv_iload hx hb dd_mo_handBack_27 (lv_at hl 4 rfl) ?_
    refine lv_icmp_ne (tgt := 106) hx hb dd_mo_handBack_29 (by decide) (fun h29 => ?_) (fun h29 => ?_)
    · replace hF := gw_ef h29 hF
      exact wb_mo_handBack_106 C0 hK9 M24 a0 v1 v2 v3 v5 _ _ _ ha0 G (lv_sub hl [0, 1, 2, 3, 4] rfl) hF
    · replace hF := gw_et h29 hF
      refine lv_aload_n hx hb dd_mo_handBack_32 rfl (lv_at hl 0 rfl) ?_
      refine lv_iload_n hx hb dd_mo_handBack_33 rfl (lv_at hl 2 rfl) ?_
      refine lv_bipush (v := (40 : Int32)) hx hb dd_mo_handBack_34 (by decide) ?_
      refine lv_iload_n hx hb dd_mo_handBack_36 rfl (lv_at hl 1 rfl) ?_
      refine lv_imul hx hb dd_mo_handBack_37 ?_
      refine lv_bipush (v := (10 : Int32)) hx hb dd_mo_handBack_38 (by decide) ?_
      refine lv_iload hx hb dd_mo_handBack_40 (lv_at hl 4 rfl) ?_
      refine lv_imul hx hb dd_mo_handBack_42 ?_
      refine lv_iadd hx hb dd_mo_handBack_43 ?_
      refine W.eq (g2 := F0 m 44 _ _) rfl ?_
      refine lv_aload_n hx hb dd_mo_handBack_44 rfl (lv_at hl 0 rfl) ?_
      refine gf_mo_slotAccount hx hb hg hown (hg _ kw_274) hK G ha0 dd_mo_handBack_45 ?_
      refine lv_iconst (v := (4 : Int32)) hx hb dd_mo_handBack_48 (by decide) ?_
      refine lv_iload_n hx hb dd_mo_handBack_49 rfl (lv_at hl 2 rfl) ?_
      refine lv_imul hx hb dd_mo_handBack_50 ?_
      refine lv_iload hx hb dd_mo_handBack_51 (lv_at hl 4 rfl) ?_
      refine lv_iadd hx hb dd_mo_handBack_53 ?_
      obtain ⟨h54, hF⟩ := gw_gd hF
      refine gr_iald hx hb hK G (gq_mo_slotAccount ha0) (gw_vp h54) (j := (((4 : Int32) * v2) + v5).toNatClampNeg) rfl dd_mo_handBack_54 ?_
      obtain ⟨r55, M55, hc55, hF⟩ := gw_be hF
      refine gw_ci G (va_runV (As := [.int v2, .int (((40 : Int32) * v1) + ((10 : Int32) * v5)), .int (M24.1 (a0 + 15) ((((4 : Int32) * v2) + v5).toNatClampNeg))]) (rest := []) ⟨hx, hb, hml, hown, hts⟩ (ct_mo_wrongSlot l X Y M24 a0 v2 (((40 : Int32) * v1) + ((10 : Int32) * v5)) (M24.1 (a0 + 15) ((((4 : Int32) * v2) + v5).toNatClampNeg)) ha0 _ hc55) (cwV 3 hts (gw_gV kw_311 kw_312 kw_313 kw_253 kw_310) rfl rfl rfl (by decide +kernel) ⟨Nat.le_of_ble_eq_true rfl, Nat.le_of_ble_eq_true rfl⟩) ⟨gw_blind, gw_recv_mo hK G ha0, gw_pre hK G⟩ rfl rfl hl.1 rfl (Nat.le_of_ble_eq_true rfl) dd_mo_handBack_55 ⟨Nat.le_of_ble_eq_true rfl, Nat.le_of_ble_eq_true rfl⟩) (fun H locs G => ?_)
      refine lv_istore (i := 6) (lv' := [(6, .int r55), (0, .ref (gr_a X a0)), (1, .int v1), (2, .int v2), (3, .long v3), (5, .int v5)]) hx hb dd_mo_handBack_58 hl (by decide) rfl (fun ls hl => ?_)
      refine W.eq (g2 := F0 m 60 _ _) rfl ?_
      refine lv_iload hx hb dd_mo_handBack_60 (lv_at hl 0 rfl) ?_
      refine lv_if_le (tgt := 68) hx hb dd_mo_handBack_62 (by decide) (fun h62 => ?_) (fun h62 => ?_)
      · replace hF := gw_et h62 hF
        refine lv_lload_n hx hb dd_mo_handBack_68 rfl (lv_at hl 4 rfl) ?_
        refine lv_aload_n hx hb dd_mo_handBack_69 rfl (lv_at hl 1 rfl) ?_
        refine gf_mo_seen hx hb hg hown (hg _ kw_285) hK G ha0 dd_mo_handBack_70 ?_
        refine lv_bipush (v := (40 : Int32)) hx hb dd_mo_handBack_73 (by decide) ?_
        refine lv_iload_n hx hb dd_mo_handBack_75 rfl (lv_at hl 2 rfl) ?_
        refine lv_imul hx hb dd_mo_handBack_76 ?_
        refine lv_bipush (v := (10 : Int32)) hx hb dd_mo_handBack_77 (by decide) ?_
        refine lv_iload hx hb dd_mo_handBack_79 (lv_at hl 5 rfl) ?_
        refine lv_imul hx hb dd_mo_handBack_81 ?_
        refine W.eq (g2 := F0 m 82 _ _) rfl ?_
        refine lv_iadd hx hb dd_mo_handBack_82 ?_
        refine lv_iconst (v := (3 : Int32)) hx hb dd_mo_handBack_83 (by decide) ?_
        refine lv_iadd hx hb dd_mo_handBack_84 ?_
        obtain ⟨h85, hF⟩ := gw_gd hF
        refine gr_lald hx hb hK G (gq_mo_seen ha0) (gw_vp h85) (j := ((((40 : Int32) * v1) + ((10 : Int32) * v5)) + (3 : Int32)).toNatClampNeg) rfl dd_mo_handBack_85 ?_
        refine lv_aload_n hx hb dd_mo_handBack_86 rfl (lv_at hl 1 rfl) ?_
        refine gf_mo_balances hx hb hg hown (hg _ kw_293) hK G ha0 dd_mo_handBack_87 ?_
        refine lv_aload_n hx hb dd_mo_handBack_90 rfl (lv_at hl 1 rfl) ?_
        refine gf_mo_slotAccount hx hb hg hown (hg _ kw_274) hK G ha0 dd_mo_handBack_91 ?_
        refine lv_iconst (v := (4 : Int32)) hx hb dd_mo_handBack_94 (by decide) ?_
        refine lv_iload_n hx hb dd_mo_handBack_95 rfl (lv_at hl 3 rfl) ?_
        refine W.eq (g2 := F0 m 96 _ _) rfl ?_
        refine lv_imul hx hb dd_mo_handBack_96 ?_
        refine lv_iload hx hb dd_mo_handBack_97 (lv_at hl 5 rfl) ?_
        refine lv_iadd hx hb dd_mo_handBack_99 ?_
        obtain ⟨h100, hF⟩ := gw_gd hF
        refine gr_iald hx hb hK G (gq_mo_slotAccount ha0) (gw_vp h100) (j := (((4 : Int32) * v2) + v5).toNatClampNeg) rfl dd_mo_handBack_100 ?_
        obtain ⟨h101, hF⟩ := gw_gd hF
        refine gr_iald hx hb hK G (gq_mo_balances ha0) (gw_vp h101) (j := (M55.1 (a0 + 15) ((((4 : Int32) * v2) + v5).toNatClampNeg)).toNatClampNeg) rfl dd_mo_handBack_101 ?_
        refine lv_i2l (v := (M55.1 (a0 + 1) ((M55.1 (a0 + 15) ((((4 : Int32) * v2) + v5).toNatClampNeg)).toNatClampNeg)).toInt64) hx hb dd_mo_handBack_102 rfl ?_
        refine lv_lsub hx hb dd_mo_handBack_103 ?_
        refine lv_ladd hx hb dd_mo_handBack_104 ?_
        refine lv_topl (fun x105 e105 => ?_)
        replace hF := gw_ly e105 hF
        refine lv_lstore_n (i := 3) (lv' := [(3, .long x105), (6, .int r55), (0, .ref (gr_a X a0)), (1, .int v1), (2, .int v2), (5, .int v5)]) hx hb dd_mo_handBack_105 rfl hl (by decide) rfl (fun ls hl => ?_)
        exact wb_mo_handBack_106 C0 hK9 M55 a0 v1 v2 x105 v5 _ _ _ ha0 G (lv_sub hl [2, 3, 4, 0, 5] rfl) hF
      · replace hF := gw_ef h62 hF
        refine lv_iload hx hb dd_mo_handBack_65 (lv_at hl 0 rfl) ?_
        exact W.iret hx hb hr (fun t ht hW => gw_endi (EF := (fun M => (gw_E X Y M))) (M := M55) G ht hF) G.2.2.2.2 dd_mo_handBack_67 hlocks
theorem wl_mo_handBack_9 {p : Program} {l : Launch} {e : Env} {s : State} {m : MethodId} {args : Array Value} {below : List Frame} {meth : Method} {c : Code} {X : gw_X} {Y : gw_M} {z : (Int32 × gw_M)} (C0 : gw_C ((Cond.code yy_mo_handBack by_mo_handBack 9 (some .int)) :: gw_w) by_mo_handBack 9 (some .int) "AccountMachineModel" X p s m args meth c) : ∀ n : Nat, ∀ (M : gw_M) (a0 : Nat) (v1 : Int32) (v2 : Int32) (v3 : Int64) (v5 : Int32) (H : Heap) (locs : List Loc) (ls : Array Slot), gr_k a0 = (11, 0) → gw_G X (gw_E X Y M) s H locs → lv_has ls 9 [(0, .ref (gr_a X a0)), (1, .int v1), (2, .int v2), (3, .long v3), (5, .int v5)] → mo_handBack_l9  n M a0 v1 v2 v3 v5 = some z → W p l e rm_mo_handBack s m args below meth c H locs 0 0 (MQ below (gw_Qi X (fun M => (gw_E X Y M)) z) args s 0 0 (gw_A X)) (F0 m 9 ls []) := by
  intro n
  induction n with
  | zero =>
    intro M a0 v1 v2 v3 v5 H locs ls ha0 G hl hF
    have hF : (none : Option (Int32 × gw_M)) = some z := hF
    cases hF
  | succ n ih =>
    intro M a0 v1 v2 v3 v5 H locs ls ha0 G hl hF
    exact wb_mo_handBack_9 C0  ih M a0 v1 v2 v3 v5 H locs ls ha0 G hl hF
set_option maxRecDepth 100000 in
set_option maxHeartbeats 4000000 in
theorem wb_mo_handBack_0 {p : Program} {l : Launch} {e : Env} {s : State} {m : MethodId} {args : Array Value} {below : List Frame} {meth : Method} {c : Code} {X : gw_X} {Y : gw_M} {z : (Int32 × gw_M)} (C0 : gw_C ((Cond.code yy_mo_handBack by_mo_handBack 9 (some .int)) :: gw_w) by_mo_handBack 9 (some .int) "AccountMachineModel" X p s m args meth c) (M : gw_M) (a0 : Nat) (v1 : Int32) (H : Heap) (locs : List Loc) (ls : Array Slot) (ha0 : gr_k a0 = (11, 0)) (G : gw_G X (gw_E X Y M) s H locs) (hl : lv_has ls 9 [(0, .ref (gr_a X a0)), (1, .int v1)]) (hF : mo_handBack_b0  M a0 v1 = some z) : W p l e rm_mo_handBack s m args below meth c H locs 0 0 (MQ below (gw_Qi X (fun M => (gw_E X Y M)) z) args s 0 0 (gw_A X)) (F0 m 0 ls []) := by
  obtain ⟨hx, hb, hml, hown, hts, hr, hlocks, hK⟩ := id C0
  have hg : ∀ w ∈ gw_w, w.before args s = true := fun w h => hts w (List.mem_cons_of_mem _ h)
  unfold mo_handBack_b0 at hF
  refine lv_iconst (v := (3 : Int32)) hx hb dd_mo_handBack_0 (by decide) ?_
  refine lv_iload_n hx hb dd_mo_handBack_1 rfl (lv_at hl 1 rfl) ?_
  refine lv_iadd hx hb dd_mo_handBack_2 ?_
  refine lv_topi (fun x3 e3 => ?_)
  replace hF := gw_ly e3 hF
  refine lv_istore_n (i := 2) (lv' := [(2, .int x3), (0, .ref (gr_a X a0)), (1, .int v1)]) hx hb dd_mo_handBack_3 rfl hl (by decide) rfl (fun ls hl => ?_)
  refine lv_lconst (v := (0 : Int64)) hx hb dd_mo_handBack_4 (by decide) ?_
  refine lv_lstore_n (i := 3) (lv' := [(3, .long (0 : Int64)), (2, .int x3), (0, .ref (gr_a X a0)), (1, .int v1)]) hx hb dd_mo_handBack_5 rfl hl (by decide) rfl (fun ls hl => ?_)
  refine lv_iconst (v := (0 : Int32)) hx hb dd_mo_handBack_6 (by decide) ?_
  refine lv_istore (i := 5) (lv' := [(5, .int (0 : Int32)), (3, .long (0 : Int64)), (2, .int x3), (0, .ref (gr_a X a0)), (1, .int v1)]) hx hb dd_mo_handBack_7 hl (by decide) rfl (fun ls hl => ?_)
  exact wl_mo_handBack_9 C0  2100 M a0 v1 x3 (0 : Int64) (0 : Int32) _ _ _ ha0 G (lv_sub hl [3, 4, 2, 1, 0] rfl) hF
set_option maxRecDepth 100000 in
set_option maxHeartbeats 4000000 in
theorem ct_mo_handBack (l : Launch) (X : gw_X) (Y : gw_M) (M : gw_M) (a0 : Nat) (v1 : Int32) (ha0 : gr_k a0 = (11, 0)) (z : (Int32 × gw_M)) (hF : mo_handBack_b0 M a0 v1 = some z) : Met l yy_mo_handBack ((Cond.code yy_mo_handBack by_mo_handBack 9 (some .int)) :: gw_w) rm_mo_handBack (va_Pc [.ref (gr_a X a0), .int v1] (gw_B X (gw_E X Y M))) (gw_Qi X (fun M => (gw_E X Y M)) z) 0 0 (gw_A X) := by
  refine Met.ofW (cc := by_mo_handBack) (maxL := 9) (ret := (some .int)) (by decide) rfl ?_
  intro p e s m args below meth c s₁ B hml hv
  obtain ⟨rfl, hB⟩ := hv
  rw [lg_entry_eq]
  have hl := lv_entry ([.ref (gr_a X a0), .int v1]) (n := 9) (Nat.le_of_ble_eq_true rfl)
  generalize (lg_sl ([.ref (gr_a X a0), .int v1]) ++ List.replicate (9 - (lg_sl ([.ref (gr_a X a0), .int v1])).length) Slot.unset).toArray = ls at hl ⊢
  have hl : lv_has ls 9 [(0, .ref (gr_a X a0)), (1, .int v1)] := hl
  exact wb_mo_handBack_0 (gw_ctx B hml rfl hB) M a0 v1 _ _ _ ha0 (gw_start hB) hl hF
