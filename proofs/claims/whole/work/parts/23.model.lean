/-! AccountMachineModel.makeOrder(I)I -/
abbrev rm_mo_makeOrder : Room := { frames := 2, cells := 0, slots := 0, locals := 46 }
theorem dd_mo_makeOrder_0 : decode by_mo_makeOrder 0 = .ok (.iconst 4, 1) := by decide +kernel
theorem dd_mo_makeOrder_1 : decode by_mo_makeOrder 1 = .ok (.iload_n 1, 1) := by decide +kernel
theorem dd_mo_makeOrder_2 : decode by_mo_makeOrder 2 = .ok (.iadd, 1) := by decide +kernel
theorem dd_mo_makeOrder_3 : decode by_mo_makeOrder 3 = .ok (.istore_n 2, 1) := by decide +kernel
theorem dd_mo_makeOrder_4 : decode by_mo_makeOrder 4 = .ok (.aload_n 0, 1) := by decide +kernel
theorem dd_mo_makeOrder_5 : decode by_mo_makeOrder 5 = .ok (.getfield 62, 3) := by decide +kernel
theorem dd_mo_makeOrder_8 : decode by_mo_makeOrder 8 = .ok (.bipush 10, 2) := by decide +kernel
theorem dd_mo_makeOrder_10 : decode by_mo_makeOrder 10 = .ok (.iload_n 1, 1) := by decide +kernel
theorem dd_mo_makeOrder_11 : decode by_mo_makeOrder 11 = .ok (.imul, 1) := by decide +kernel
theorem dd_mo_makeOrder_12 : decode by_mo_makeOrder 12 = .ok (.iconst 2, 1) := by decide +kernel
theorem dd_mo_makeOrder_13 : decode by_mo_makeOrder 13 = .ok (.iadd, 1) := by decide +kernel
theorem dd_mo_makeOrder_14 : decode by_mo_makeOrder 14 = .ok (.laload, 1) := by decide +kernel
theorem dd_mo_makeOrder_15 : decode by_mo_makeOrder 15 = .ok (.lstore_n 3, 1) := by decide +kernel
theorem dd_mo_makeOrder_16 : decode by_mo_makeOrder 16 = .ok (.aload_n 0, 1) := by decide +kernel
theorem dd_mo_makeOrder_17 : decode by_mo_makeOrder 17 = .ok (.getfield 50, 3) := by decide +kernel
theorem dd_mo_makeOrder_20 : decode by_mo_makeOrder 20 = .ok (.iload_n 2, 1) := by decide +kernel
theorem dd_mo_makeOrder_21 : decode by_mo_makeOrder 21 = .ok (.iconst 0, 1) := by decide +kernel
theorem dd_mo_makeOrder_22 : decode by_mo_makeOrder 22 = .ok (.iastore, 1) := by decide +kernel
theorem dd_mo_makeOrder_23 : decode by_mo_makeOrder 23 = .ok (.iconst 1, 1) := by decide +kernel
theorem dd_mo_makeOrder_24 : decode by_mo_makeOrder 24 = .ok (.istore 5, 2) := by decide +kernel
theorem dd_mo_makeOrder_26 : decode by_mo_makeOrder 26 = .ok (.iconst 0, 1) := by decide +kernel
theorem dd_mo_makeOrder_27 : decode by_mo_makeOrder 27 = .ok (.istore 6, 2) := by decide +kernel
theorem dd_mo_makeOrder_29 : decode by_mo_makeOrder 29 = .ok (.iload 6, 2) := by decide +kernel
theorem dd_mo_makeOrder_31 : decode by_mo_makeOrder 31 = .ok (.iconst 4, 1) := by decide +kernel
theorem dd_mo_makeOrder_32 : decode by_mo_makeOrder 32 = .ok (.if_icmp .ge 175, 3) := by decide +kernel
theorem dd_mo_makeOrder_35 : decode by_mo_makeOrder 35 = .ok (.lload_n 3, 1) := by decide +kernel
theorem dd_mo_makeOrder_36 : decode by_mo_makeOrder 36 = .ok (.bipush 8, 2) := by decide +kernel
theorem dd_mo_makeOrder_38 : decode by_mo_makeOrder 38 = .ok (.iload 6, 2) := by decide +kernel
theorem dd_mo_makeOrder_40 : decode by_mo_makeOrder 40 = .ok (.imul, 1) := by decide +kernel
theorem dd_mo_makeOrder_41 : decode by_mo_makeOrder 41 = .ok (.lshr, 1) := by decide +kernel
theorem dd_mo_makeOrder_42 : decode by_mo_makeOrder 42 = .ok (.l2i, 1) := by decide +kernel
theorem dd_mo_makeOrder_43 : decode by_mo_makeOrder 43 = .ok (.sipush 255, 3) := by decide +kernel
theorem dd_mo_makeOrder_46 : decode by_mo_makeOrder 46 = .ok (.iand, 1) := by decide +kernel
theorem dd_mo_makeOrder_47 : decode by_mo_makeOrder 47 = .ok (.istore 7, 2) := by decide +kernel
theorem dd_mo_makeOrder_49 : decode by_mo_makeOrder 49 = .ok (.iload 7, 2) := by decide +kernel
theorem dd_mo_makeOrder_51 : decode by_mo_makeOrder 51 = .ok (.bipush 16, 2) := by decide +kernel
theorem dd_mo_makeOrder_53 : decode by_mo_makeOrder 53 = .ok (.iand, 1) := by decide +kernel
theorem dd_mo_makeOrder_54 : decode by_mo_makeOrder 54 = .ok (.ifCond .ne 15, 3) := by decide +kernel
theorem dd_mo_makeOrder_57 : decode by_mo_makeOrder 57 = .ok (.iload 5, 2) := by decide +kernel
theorem dd_mo_makeOrder_59 : decode by_mo_makeOrder 59 = .ok (.ifCond .eq 7, 3) := by decide +kernel
theorem dd_mo_makeOrder_62 : decode by_mo_makeOrder 62 = .ok (.iconst 0, 1) := by decide +kernel
theorem dd_mo_makeOrder_63 : decode by_mo_makeOrder 63 = .ok (.goto 5, 3) := by decide +kernel
theorem dd_mo_makeOrder_66 : decode by_mo_makeOrder 66 = .ok (.bipush 10, 2) := by decide +kernel
theorem dd_mo_makeOrder_68 : decode by_mo_makeOrder 68 = .ok (.ireturn, 1) := by decide +kernel
theorem dd_mo_makeOrder_69 : decode by_mo_makeOrder 69 = .ok (.iload 7, 2) := by decide +kernel
theorem dd_mo_makeOrder_71 : decode by_mo_makeOrder 71 = .ok (.iconst 3, 1) := by decide +kernel
theorem dd_mo_makeOrder_72 : decode by_mo_makeOrder 72 = .ok (.iand, 1) := by decide +kernel
theorem dd_mo_makeOrder_73 : decode by_mo_makeOrder 73 = .ok (.aload_n 0, 1) := by decide +kernel
theorem dd_mo_makeOrder_74 : decode by_mo_makeOrder 74 = .ok (.getfield 50, 3) := by decide +kernel
theorem dd_mo_makeOrder_77 : decode by_mo_makeOrder 77 = .ok (.iconst 3, 1) := by decide +kernel
theorem dd_mo_makeOrder_78 : decode by_mo_makeOrder 78 = .ok (.iload_n 1, 1) := by decide +kernel
theorem dd_mo_makeOrder_79 : decode by_mo_makeOrder 79 = .ok (.iadd, 1) := by decide +kernel
theorem dd_mo_makeOrder_80 : decode by_mo_makeOrder 80 = .ok (.iaload, 1) := by decide +kernel
theorem dd_mo_makeOrder_81 : decode by_mo_makeOrder 81 = .ok (.if_icmp .lt 6, 3) := by decide +kernel
theorem dd_mo_makeOrder_84 : decode by_mo_makeOrder 84 = .ok (.bipush 9, 2) := by decide +kernel
theorem dd_mo_makeOrder_86 : decode by_mo_makeOrder 86 = .ok (.ireturn, 1) := by decide +kernel
theorem dd_mo_makeOrder_87 : decode by_mo_makeOrder 87 = .ok (.aload_n 0, 1) := by decide +kernel
theorem dd_mo_makeOrder_88 : decode by_mo_makeOrder 88 = .ok (.getfield 53, 3) := by decide +kernel
theorem dd_mo_makeOrder_91 : decode by_mo_makeOrder 91 = .ok (.iconst 4, 1) := by decide +kernel
theorem dd_mo_makeOrder_92 : decode by_mo_makeOrder 92 = .ok (.iconst 3, 1) := by decide +kernel
theorem dd_mo_makeOrder_93 : decode by_mo_makeOrder 93 = .ok (.iload_n 1, 1) := by decide +kernel
theorem dd_mo_makeOrder_94 : decode by_mo_makeOrder 94 = .ok (.iadd, 1) := by decide +kernel
theorem dd_mo_makeOrder_95 : decode by_mo_makeOrder 95 = .ok (.imul, 1) := by decide +kernel
theorem dd_mo_makeOrder_96 : decode by_mo_makeOrder 96 = .ok (.iload 7, 2) := by decide +kernel
theorem dd_mo_makeOrder_98 : decode by_mo_makeOrder 98 = .ok (.iconst 3, 1) := by decide +kernel
theorem dd_mo_makeOrder_99 : decode by_mo_makeOrder 99 = .ok (.iand, 1) := by decide +kernel
theorem dd_mo_makeOrder_100 : decode by_mo_makeOrder 100 = .ok (.iadd, 1) := by decide +kernel
theorem dd_mo_makeOrder_101 : decode by_mo_makeOrder 101 = .ok (.iaload, 1) := by decide +kernel
theorem dd_mo_makeOrder_102 : decode by_mo_makeOrder 102 = .ok (.istore 8, 2) := by decide +kernel
theorem dd_mo_makeOrder_104 : decode by_mo_makeOrder 104 = .ok (.iload 7, 2) := by decide +kernel
theorem dd_mo_makeOrder_106 : decode by_mo_makeOrder 106 = .ok (.iconst 4, 1) := by decide +kernel
theorem dd_mo_makeOrder_107 : decode by_mo_makeOrder 107 = .ok (.iand, 1) := by decide +kernel
theorem dd_mo_makeOrder_108 : decode by_mo_makeOrder 108 = .ok (.ifCond .eq 36, 3) := by decide +kernel
theorem dd_mo_makeOrder_111 : decode by_mo_makeOrder 111 = .ok (.aload_n 0, 1) := by decide +kernel
theorem dd_mo_makeOrder_112 : decode by_mo_makeOrder 112 = .ok (.iconst 3, 1) := by decide +kernel
theorem dd_mo_makeOrder_113 : decode by_mo_makeOrder 113 = .ok (.iload_n 1, 1) := by decide +kernel
theorem dd_mo_makeOrder_114 : decode by_mo_makeOrder 114 = .ok (.iadd, 1) := by decide +kernel
theorem dd_mo_makeOrder_115 : decode by_mo_makeOrder 115 = .ok (.iload 8, 2) := by decide +kernel
theorem dd_mo_makeOrder_117 : decode by_mo_makeOrder 117 = .ok (.invokevirtual 192, 3) := by decide +kernel
theorem dd_mo_makeOrder_120 : decode by_mo_makeOrder 120 = .ok (.ifCond .ne 24, 3) := by decide +kernel
theorem dd_mo_makeOrder_123 : decode by_mo_makeOrder 123 = .ok (.iload 8, 2) := by decide +kernel
theorem dd_mo_makeOrder_125 : decode by_mo_makeOrder 125 = .ok (.aload_n 0, 1) := by decide +kernel
theorem dd_mo_makeOrder_126 : decode by_mo_makeOrder 126 = .ok (.iload_n 1, 1) := by decide +kernel
theorem dd_mo_makeOrder_127 : decode by_mo_makeOrder 127 = .ok (.aload_n 0, 1) := by decide +kernel
theorem dd_mo_makeOrder_128 : decode by_mo_makeOrder 128 = .ok (.getfield 62, 3) := by decide +kernel
theorem dd_mo_makeOrder_131 : decode by_mo_makeOrder 131 = .ok (.bipush 10, 2) := by decide +kernel
theorem dd_mo_makeOrder_133 : decode by_mo_makeOrder 133 = .ok (.iload_n 1, 1) := by decide +kernel
theorem dd_mo_makeOrder_134 : decode by_mo_makeOrder 134 = .ok (.imul, 1) := by decide +kernel
theorem dd_mo_makeOrder_135 : decode by_mo_makeOrder 135 = .ok (.iconst 4, 1) := by decide +kernel
theorem dd_mo_makeOrder_136 : decode by_mo_makeOrder 136 = .ok (.iadd, 1) := by decide +kernel
theorem dd_mo_makeOrder_137 : decode by_mo_makeOrder 137 = .ok (.laload, 1) := by decide +kernel
theorem dd_mo_makeOrder_138 : decode by_mo_makeOrder 138 = .ok (.invokevirtual 189, 3) := by decide +kernel
theorem dd_mo_makeOrder_141 : decode by_mo_makeOrder 141 = .ok (.if_icmp .ne 7, 3) := by decide +kernel
theorem dd_mo_makeOrder_144 : decode by_mo_makeOrder 144 = .ok (.iconst 1, 1) := by decide +kernel
theorem dd_mo_makeOrder_145 : decode by_mo_makeOrder 145 = .ok (.goto 4, 3) := by decide +kernel
theorem dd_mo_makeOrder_148 : decode by_mo_makeOrder 148 = .ok (.iconst 0, 1) := by decide +kernel
theorem dd_mo_makeOrder_149 : decode by_mo_makeOrder 149 = .ok (.istore 9, 2) := by decide +kernel
theorem dd_mo_makeOrder_151 : decode by_mo_makeOrder 151 = .ok (.iload 5, 2) := by decide +kernel
theorem dd_mo_makeOrder_153 : decode by_mo_makeOrder 153 = .ok (.ifCond .eq 32, 3) := by decide +kernel
theorem dd_mo_makeOrder_156 : decode by_mo_makeOrder 156 = .ok (.iload 9, 2) := by decide +kernel
theorem dd_mo_makeOrder_158 : decode by_mo_makeOrder 158 = .ok (.ifCond .eq 27, 3) := by decide +kernel
theorem dd_mo_makeOrder_161 : decode by_mo_makeOrder 161 = .ok (.iload 7, 2) := by decide +kernel
theorem dd_mo_makeOrder_163 : decode by_mo_makeOrder 163 = .ok (.bipush 8, 2) := by decide +kernel
theorem dd_mo_makeOrder_165 : decode by_mo_makeOrder 165 = .ok (.iand, 1) := by decide +kernel
theorem dd_mo_makeOrder_166 : decode by_mo_makeOrder 166 = .ok (.ifCond .eq 15, 3) := by decide +kernel
theorem dd_mo_makeOrder_169 : decode by_mo_makeOrder 169 = .ok (.aload_n 0, 1) := by decide +kernel
theorem dd_mo_makeOrder_170 : decode by_mo_makeOrder 170 = .ok (.iconst 3, 1) := by decide +kernel
theorem dd_mo_makeOrder_171 : decode by_mo_makeOrder 171 = .ok (.iload_n 1, 1) := by decide +kernel
theorem dd_mo_makeOrder_172 : decode by_mo_makeOrder 172 = .ok (.iadd, 1) := by decide +kernel
theorem dd_mo_makeOrder_173 : decode by_mo_makeOrder 173 = .ok (.iload 8, 2) := by decide +kernel
theorem dd_mo_makeOrder_175 : decode by_mo_makeOrder 175 = .ok (.invokevirtual 131, 3) := by decide +kernel
theorem dd_mo_makeOrder_178 : decode by_mo_makeOrder 178 = .ok (.ifCond .eq 7, 3) := by decide +kernel
theorem dd_mo_makeOrder_181 : decode by_mo_makeOrder 181 = .ok (.iconst 1, 1) := by decide +kernel
theorem dd_mo_makeOrder_182 : decode by_mo_makeOrder 182 = .ok (.goto 4, 3) := by decide +kernel
theorem dd_mo_makeOrder_185 : decode by_mo_makeOrder 185 = .ok (.iconst 0, 1) := by decide +kernel
theorem dd_mo_makeOrder_186 : decode by_mo_makeOrder 186 = .ok (.istore 5, 2) := by decide +kernel
theorem dd_mo_makeOrder_188 : decode by_mo_makeOrder 188 = .ok (.aload_n 0, 1) := by decide +kernel
theorem dd_mo_makeOrder_189 : decode by_mo_makeOrder 189 = .ok (.iload_n 2, 1) := by decide +kernel
theorem dd_mo_makeOrder_190 : decode by_mo_makeOrder 190 = .ok (.iload 8, 2) := by decide +kernel
theorem dd_mo_makeOrder_192 : decode by_mo_makeOrder 192 = .ok (.iload 7, 2) := by decide +kernel
theorem dd_mo_makeOrder_194 : decode by_mo_makeOrder 194 = .ok (.iconst 2, 1) := by decide +kernel
theorem dd_mo_makeOrder_195 : decode by_mo_makeOrder 195 = .ok (.ishr, 1) := by decide +kernel
theorem dd_mo_makeOrder_196 : decode by_mo_makeOrder 196 = .ok (.iconst 3, 1) := by decide +kernel
theorem dd_mo_makeOrder_197 : decode by_mo_makeOrder 197 = .ok (.iand, 1) := by decide +kernel
theorem dd_mo_makeOrder_198 : decode by_mo_makeOrder 198 = .ok (.invokevirtual 107, 3) := by decide +kernel
theorem dd_mo_makeOrder_201 : decode by_mo_makeOrder 201 = .ok (.iinc 6 1, 3) := by decide +kernel
theorem dd_mo_makeOrder_204 : decode by_mo_makeOrder 204 = .ok (.goto (-175), 3) := by decide +kernel
theorem dd_mo_makeOrder_207 : decode by_mo_makeOrder 207 = .ok (.iload 5, 2) := by decide +kernel
theorem dd_mo_makeOrder_209 : decode by_mo_makeOrder 209 = .ok (.ifCond .eq 7, 3) := by decide +kernel
theorem dd_mo_makeOrder_212 : decode by_mo_makeOrder 212 = .ok (.iconst 0, 1) := by decide +kernel
theorem dd_mo_makeOrder_213 : decode by_mo_makeOrder 213 = .ok (.goto 5, 3) := by decide +kernel
theorem dd_mo_makeOrder_216 : decode by_mo_makeOrder 216 = .ok (.bipush 10, 2) := by decide +kernel
theorem dd_mo_makeOrder_218 : decode by_mo_makeOrder 218 = .ok (.ireturn, 1) := by decide +kernel
def mo_makeOrder_b186 (K29 : gw_M → Nat → Int32 → Int32 → Int64 → Int32 → Int32 → Option (Int32 × gw_M)) (M : gw_M) (a0 : Nat) (v1 : Int32) (v2 : Int32) (v3 : Int64) (v6 : Int32) (v7 : Int32) (v8 : Int32) (t0 : Int32) : Option (Int32 × gw_M) :=
  gw_bd (mo_add_b0 M a0 v2 v8 ((v7 >>> ((2 : Int32) &&& 31)) &&& (3 : Int32))) (fun _ M198 => K29 M198 a0 v1 v2 v3 t0 (v6 + (1 : Int32)))
def mo_makeOrder_b185 (K29 : gw_M → Nat → Int32 → Int32 → Int64 → Int32 → Int32 → Option (Int32 × gw_M)) (M : gw_M) (a0 : Nat) (v1 : Int32) (v2 : Int32) (v3 : Int64) (v6 : Int32) (v7 : Int32) (v8 : Int32) : Option (Int32 × gw_M) :=
  mo_makeOrder_b186 K29 M a0 v1 v2 v3 v6 v7 v8 (0 : Int32)
def mo_makeOrder_b181 (K29 : gw_M → Nat → Int32 → Int32 → Int64 → Int32 → Int32 → Option (Int32 × gw_M)) (M : gw_M) (a0 : Nat) (v1 : Int32) (v2 : Int32) (v3 : Int64) (v6 : Int32) (v7 : Int32) (v8 : Int32) : Option (Int32 × gw_M) :=
  mo_makeOrder_b186 K29 M a0 v1 v2 v3 v6 v7 v8 (1 : Int32)
def mo_makeOrder_b149 (K29 : gw_M → Nat → Int32 → Int32 → Int64 → Int32 → Int32 → Option (Int32 × gw_M)) (M : gw_M) (a0 : Nat) (v1 : Int32) (v2 : Int32) (v3 : Int64) (v5 : Int32) (v6 : Int32) (v7 : Int32) (v8 : Int32) (t0 : Int32) : Option (Int32 × gw_M) :=
  if v5 = (0 : Int32) then (mo_makeOrder_b185 K29 M a0 v1 v2 v3 v6 v7 v8) else (if t0 = (0 : Int32) then (mo_makeOrder_b185 K29 M a0 v1 v2 v3 v6 v7 v8) else (if (v7 &&& (8 : Int32)) = (0 : Int32) then (mo_makeOrder_b181 K29 M a0 v1 v2 v3 v6 v7 v8) else (gw_bd (mo_writable_b0 M a0 ((3 : Int32) + v1) v8) (fun r175 M175 => if r175 = (0 : Int32) then (mo_makeOrder_b185 K29 M175 a0 v1 v2 v3 v6 v7 v8) else (mo_makeOrder_b181 K29 M175 a0 v1 v2 v3 v6 v7 v8)))))
def mo_makeOrder_b144 (K29 : gw_M → Nat → Int32 → Int32 → Int64 → Int32 → Int32 → Option (Int32 × gw_M)) (M : gw_M) (a0 : Nat) (v1 : Int32) (v2 : Int32) (v3 : Int64) (v5 : Int32) (v6 : Int32) (v7 : Int32) (v8 : Int32) : Option (Int32 × gw_M) :=
  mo_makeOrder_b149 K29 M a0 v1 v2 v3 v5 v6 v7 v8 (1 : Int32)
def mo_makeOrder_b29 (K29 : gw_M → Nat → Int32 → Int32 → Int64 → Int32 → Int32 → Option (Int32 × gw_M)) (M : gw_M) (a0 : Nat) (v1 : Int32) (v2 : Int32) (v3 : Int64) (v5 : Int32) (v6 : Int32) : Option (Int32 × gw_M) :=
  if (4 : Int32) ≤ v6 then (if v5 = (0 : Int32) then (some ((10 : Int32), M)) else (some ((0 : Int32), M))) else (gw_lt (((v3 >>> (((8 : Int32) * v6).toInt64 &&& 63)).toInt32) &&& (255 : Int32)) (fun x47 => if (x47 &&& (16 : Int32)) = (0 : Int32) then (if v5 = (0 : Int32) then (some ((10 : Int32), M)) else (some ((0 : Int32), M))) else (gw_gu (gw_in ((3 : Int32) + v1) 9) (if (x47 &&& (3 : Int32)) < (M.1 (a0 + 14) (((3 : Int32) + v1).toNatClampNeg)) then (gw_gu (gw_in (((4 : Int32) * ((3 : Int32) + v1)) + (x47 &&& (3 : Int32))) 36) (gw_lt (M.1 (a0 + 15) ((((4 : Int32) * ((3 : Int32) + v1)) + (x47 &&& (3 : Int32))).toNatClampNeg)) (fun x102 => if (x47 &&& (4 : Int32)) = (0 : Int32) then (mo_makeOrder_b144 K29 M a0 v1 v2 v3 v5 v6 x47 x102) else (gw_bd (mo_signed_b0 M a0 ((3 : Int32) + v1) x102) (fun r117 M117 => if r117 = (0 : Int32) then (gw_gu (gw_in (((10 : Int32) * v1) + (4 : Int32)) 50) (gw_bd (mo_seat_b0 M117 a0 v1 (M117.2 (a0 + 18) ((((10 : Int32) * v1) + (4 : Int32)).toNatClampNeg))) (fun r138 M138 => if x102 = r138 then (mo_makeOrder_b144 K29 M138 a0 v1 v2 v3 v5 v6 x47 x102) else (mo_makeOrder_b149 K29 M138 a0 v1 v2 v3 v5 v6 x47 x102 (0 : Int32))))) else (mo_makeOrder_b144 K29 M117 a0 v1 v2 v3 v5 v6 x47 x102)))))) else (some ((9 : Int32), M))))))
def mo_makeOrder_l29 : Nat → gw_M → Nat → Int32 → Int32 → Int64 → Int32 → Int32 → Option (Int32 × gw_M)
  | 0 => fun _ _ _ _ _ _ _ => none
  | n + 1 => mo_makeOrder_b29  (mo_makeOrder_l29  n)
def mo_makeOrder_b0 (M : gw_M) (a0 : Nat) (v1 : Int32) : Option (Int32 × gw_M) :=
  gw_lt ((4 : Int32) + v1) (fun x3 => gw_gu (gw_in (((10 : Int32) * v1) + (2 : Int32)) 50) (gw_lt (M.2 (a0 + 18) ((((10 : Int32) * v1) + (2 : Int32)).toNatClampNeg)) (fun x15 => gw_gu (gw_in x3 9) (gw_lt (gw_sI M (a0 + 14) x3.toNatClampNeg (0 : Int32)) (fun M22 => mo_makeOrder_l29  2100 M22 a0 v1 x3 x15 (1 : Int32) (0 : Int32))))))
set_option maxRecDepth 100000 in
set_option maxHeartbeats 4000000 in
theorem wb_mo_makeOrder_186 {p : Program} {l : Launch} {e : Env} {s : State} {m : MethodId} {args : Array Value} {below : List Frame} {meth : Method} {c : Code} {X : gw_X} {Y : gw_M} {z : (Int32 × gw_M)} (C0 : gw_C ((Cond.code yy_mo_makeOrder by_mo_makeOrder 10 (some .int)) :: gw_w) by_mo_makeOrder 10 (some .int) "AccountMachineModel" X p s m args meth c) {K29 : gw_M → Nat → Int32 → Int32 → Int64 → Int32 → Int32 → Option (Int32 × gw_M)} (hK29 : ∀ (M : gw_M) (a0 : Nat) (v1 : Int32) (v2 : Int32) (v3 : Int64) (v5 : Int32) (v6 : Int32) (H : Heap) (locs : List Loc) (ls : Array Slot), gr_k a0 = (11, 0) → gw_G X (gw_E X Y M) s H locs → lv_has ls 10 [(0, .ref (gr_a X a0)), (1, .int v1), (2, .int v2), (3, .long v3), (5, .int v5), (6, .int v6)] → K29 M a0 v1 v2 v3 v5 v6 = some z → W p l e rm_mo_makeOrder s m args below meth c H locs 0 0 (MQ below (gw_Qi X (fun M => (gw_E X Y M)) z) args s 0 0 (gw_A X)) (F0 m 29 ls [])) (M : gw_M) (a0 : Nat) (v1 : Int32) (v2 : Int32) (v3 : Int64) (v6 : Int32) (v7 : Int32) (v8 : Int32) (t0 : Int32) (H : Heap) (locs : List Loc) (ls : Array Slot) (ha0 : gr_k a0 = (11, 0)) (G : gw_G X (gw_E X Y M) s H locs) (hl : lv_has ls 10 [(0, .ref (gr_a X a0)), (1, .int v1), (2, .int v2), (3, .long v3), (6, .int v6), (7, .int v7), (8, .int v8)]) (hF : mo_makeOrder_b186 K29 M a0 v1 v2 v3 v6 v7 v8 t0 = some z) : W p l e rm_mo_makeOrder s m args below meth c H locs 0 0 (MQ below (gw_Qi X (fun M => (gw_E X Y M)) z) args s 0 0 (gw_A X)) (F0 m 186 ls [.int t0]) := by
  obtain ⟨hx, hb, hml, hown, hts, hr, hlocks, hK⟩ := id C0
  have hg : ∀ w ∈ gw_w, w.before args s = true := fun w h => hts w (List.mem_cons_of_mem _ h)
  unfold mo_makeOrder_b186 at hF
  refine lv_istore (i := 5) (lv' := [(5, .int t0), (0, .ref (gr_a X a0)), (1, .int v1), (2, .int v2), (3, .long v3), (6, .int v6), (7, .int v7), (8, .int v8)]) hx hb dd_mo_makeOrder_186 hl (by decide) rfl (fun ls hl => ?_)
  refine lv_aload_n hx hb dd_mo_makeOrder_188 rfl (lv_at hl 1 rfl) ?_
  refine lv_iload_n hx hb dd_mo_makeOrder_189 rfl (lv_at hl 3 rfl) ?_
  refine lv_iload hx hb dd_mo_makeOrder_190 (lv_at hl 7 rfl) ?_
  refine lv_iload hx hb dd_mo_makeOrder_192 (lv_at hl 6 rfl) ?_
  refine lv_iconst (v := (2 : Int32)) hx hb dd_mo_makeOrder_194 (by decide) ?_
  refine lv_ishr hx hb dd_mo_makeOrder_195 ?_
  refine lv_iconst (v := (3 : Int32)) hx hb dd_mo_makeOrder_196 (by decide) ?_
  refine lv_iand hx hb dd_mo_makeOrder_197 ?_
  refine W.eq (g2 := F0 m 198 _ _) rfl ?_
  obtain ⟨u198, M198, hc198, hF⟩ := gw_be hF
  refine gw_cv G (va_runV (As := [.int v2, .int v8, .int ((v7 >>> ((2 : Int32) &&& 31)) &&& (3 : Int32))]) (rest := []) ⟨hx, hb, hml, hown, hts⟩ (ct_mo_add l X Y M a0 v2 v8 ((v7 >>> ((2 : Int32) &&& 31)) &&& (3 : Int32)) ha0 _ hc198) (cwV 3 hts (gw_gV kw_278 kw_279 kw_280 kw_253 kw_277) rfl rfl rfl (by decide +kernel) ⟨Nat.le_of_ble_eq_true rfl, Nat.le_of_ble_eq_true rfl⟩) ⟨gw_blind, gw_recv_mo hK G ha0, gw_pre hK G⟩ rfl rfl hl.1 rfl (Nat.le_of_ble_eq_true rfl) dd_mo_makeOrder_198 ⟨Nat.le_of_ble_eq_true rfl, Nat.le_of_ble_eq_true rfl⟩) (fun H locs G => ?_)
  refine lv_iinc (k := 5) (v := v6 + (1 : Int32)) (lv' := [(6, .int (v6 + (1 : Int32))), (5, .int t0), (0, .ref (gr_a X a0)), (1, .int v1), (2, .int v2), (3, .long v3), (7, .int v7), (8, .int v8)]) hx hb dd_mo_makeOrder_201 hl rfl rfl (by decide) rfl (fun ls hl => ?_)
  refine lv_goto (tgt := 29) hx hb dd_mo_makeOrder_204 (by decide) ?_
  exact hK29 M198 a0 v1 v2 v3 t0 (v6 + (1 : Int32)) _ _ _ ha0 G (lv_sub hl [2, 3, 4, 5, 1, 0] rfl) hF
set_option maxRecDepth 100000 in
set_option maxHeartbeats 4000000 in
theorem wb_mo_makeOrder_185 {p : Program} {l : Launch} {e : Env} {s : State} {m : MethodId} {args : Array Value} {below : List Frame} {meth : Method} {c : Code} {X : gw_X} {Y : gw_M} {z : (Int32 × gw_M)} (C0 : gw_C ((Cond.code yy_mo_makeOrder by_mo_makeOrder 10 (some .int)) :: gw_w) by_mo_makeOrder 10 (some .int) "AccountMachineModel" X p s m args meth c) {K29 : gw_M → Nat → Int32 → Int32 → Int64 → Int32 → Int32 → Option (Int32 × gw_M)} (hK29 : ∀ (M : gw_M) (a0 : Nat) (v1 : Int32) (v2 : Int32) (v3 : Int64) (v5 : Int32) (v6 : Int32) (H : Heap) (locs : List Loc) (ls : Array Slot), gr_k a0 = (11, 0) → gw_G X (gw_E X Y M) s H locs → lv_has ls 10 [(0, .ref (gr_a X a0)), (1, .int v1), (2, .int v2), (3, .long v3), (5, .int v5), (6, .int v6)] → K29 M a0 v1 v2 v3 v5 v6 = some z → W p l e rm_mo_makeOrder s m args below meth c H locs 0 0 (MQ below (gw_Qi X (fun M => (gw_E X Y M)) z) args s 0 0 (gw_A X)) (F0 m 29 ls [])) (M : gw_M) (a0 : Nat) (v1 : Int32) (v2 : Int32) (v3 : Int64) (v6 : Int32) (v7 : Int32) (v8 : Int32) (H : Heap) (locs : List Loc) (ls : Array Slot) (ha0 : gr_k a0 = (11, 0)) (G : gw_G X (gw_E X Y M) s H locs) (hl : lv_has ls 10 [(0, .ref (gr_a X a0)), (1, .int v1), (2, .int v2), (3, .long v3), (6, .int v6), (7, .int v7), (8, .int v8)]) (hF : mo_makeOrder_b185 K29 M a0 v1 v2 v3 v6 v7 v8 = some z) : W p l e rm_mo_makeOrder s m args below meth c H locs 0 0 (MQ below (gw_Qi X (fun M => (gw_E X Y M)) z) args s 0 0 (gw_A X)) (F0 m 185 ls []) := by
  obtain ⟨hx, hb, hml, hown, hts, hr, hlocks, hK⟩ := id C0
  have hg : ∀ w ∈ gw_w, w.before args s = true := fun w h => hts w (List.mem_cons_of_mem _ h)
  unfold mo_makeOrder_b185 at hF
  refine lv_iconst (v := (0 : Int32)) hx hb dd_mo_makeOrder_185 (by decide) ?_
  exact wb_mo_makeOrder_186 C0 hK29 M a0 v1 v2 v3 v6 v7 v8 (0 : Int32) _ _ _ ha0 G (lv_sub hl [0, 1, 2, 3, 4, 5, 6] rfl) hF
set_option maxRecDepth 100000 in
set_option maxHeartbeats 4000000 in
theorem wb_mo_makeOrder_181 {p : Program} {l : Launch} {e : Env} {s : State} {m : MethodId} {args : Array Value} {below : List Frame} {meth : Method} {c : Code} {X : gw_X} {Y : gw_M} {z : (Int32 × gw_M)} (C0 : gw_C ((Cond.code yy_mo_makeOrder by_mo_makeOrder 10 (some .int)) :: gw_w) by_mo_makeOrder 10 (some .int) "AccountMachineModel" X p s m args meth c) {K29 : gw_M → Nat → Int32 → Int32 → Int64 → Int32 → Int32 → Option (Int32 × gw_M)} (hK29 : ∀ (M : gw_M) (a0 : Nat) (v1 : Int32) (v2 : Int32) (v3 : Int64) (v5 : Int32) (v6 : Int32) (H : Heap) (locs : List Loc) (ls : Array Slot), gr_k a0 = (11, 0) → gw_G X (gw_E X Y M) s H locs → lv_has ls 10 [(0, .ref (gr_a X a0)), (1, .int v1), (2, .int v2), (3, .long v3), (5, .int v5), (6, .int v6)] → K29 M a0 v1 v2 v3 v5 v6 = some z → W p l e rm_mo_makeOrder s m args below meth c H locs 0 0 (MQ below (gw_Qi X (fun M => (gw_E X Y M)) z) args s 0 0 (gw_A X)) (F0 m 29 ls [])) (M : gw_M) (a0 : Nat) (v1 : Int32) (v2 : Int32) (v3 : Int64) (v6 : Int32) (v7 : Int32) (v8 : Int32) (H : Heap) (locs : List Loc) (ls : Array Slot) (ha0 : gr_k a0 = (11, 0)) (G : gw_G X (gw_E X Y M) s H locs) (hl : lv_has ls 10 [(0, .ref (gr_a X a0)), (1, .int v1), (2, .int v2), (3, .long v3), (6, .int v6), (7, .int v7), (8, .int v8)]) (hF : mo_makeOrder_b181 K29 M a0 v1 v2 v3 v6 v7 v8 = some z) : W p l e rm_mo_makeOrder s m args below meth c H locs 0 0 (MQ below (gw_Qi X (fun M => (gw_E X Y M)) z) args s 0 0 (gw_A X)) (F0 m 181 ls []) := by
  obtain ⟨hx, hb, hml, hown, hts, hr, hlocks, hK⟩ := id C0
  have hg : ∀ w ∈ gw_w, w.before args s = true := fun w h => hts w (List.mem_cons_of_mem _ h)
  unfold mo_makeOrder_b181 at hF
  refine lv_iconst (v := (1 : Int32)) hx hb dd_mo_makeOrder_181 (by decide) ?_
  refine lv_goto (tgt := 186) hx hb dd_mo_makeOrder_182 (by decide) ?_
  exact wb_mo_makeOrder_186 C0 hK29 M a0 v1 v2 v3 v6 v7 v8 (1 : Int32) _ _ _ ha0 G (lv_sub hl [0, 1, 2, 3, 4, 5, 6] rfl) hF
set_option maxRecDepth 100000 in
set_option maxHeartbeats 4000000 in
theorem wb_mo_makeOrder_149 {p : Program} {l : Launch} {e : Env} {s : State} {m : MethodId} {args : Array Value} {below : List Frame} {meth : Method} {c : Code} {X : gw_X} {Y : gw_M} {z : (Int32 × gw_M)} (C0 : gw_C ((Cond.code yy_mo_makeOrder by_mo_makeOrder 10 (some .int)) :: gw_w) by_mo_makeOrder 10 (some .int) "AccountMachineModel" X p s m args meth c) {K29 : gw_M → Nat → Int32 → Int32 → Int64 → Int32 → Int32 → Option (Int32 × gw_M)} (hK29 : ∀ (M : gw_M) (a0 : Nat) (v1 : Int32) (v2 : Int32) (v3 : Int64) (v5 : Int32) (v6 : Int32) (H : Heap) (locs : List Loc) (ls : Array Slot), gr_k a0 = (11, 0) → gw_G X (gw_E X Y M) s H locs → lv_has ls 10 [(0, .ref (gr_a X a0)), (1, .int v1), (2, .int v2), (3, .long v3), (5, .int v5), (6, .int v6)] → K29 M a0 v1 v2 v3 v5 v6 = some z → W p l e rm_mo_makeOrder s m args below meth c H locs 0 0 (MQ below (gw_Qi X (fun M => (gw_E X Y M)) z) args s 0 0 (gw_A X)) (F0 m 29 ls [])) (M : gw_M) (a0 : Nat) (v1 : Int32) (v2 : Int32) (v3 : Int64) (v5 : Int32) (v6 : Int32) (v7 : Int32) (v8 : Int32) (t0 : Int32) (H : Heap) (locs : List Loc) (ls : Array Slot) (ha0 : gr_k a0 = (11, 0)) (G : gw_G X (gw_E X Y M) s H locs) (hl : lv_has ls 10 [(0, .ref (gr_a X a0)), (1, .int v1), (2, .int v2), (3, .long v3), (5, .int v5), (6, .int v6), (7, .int v7), (8, .int v8)]) (hF : mo_makeOrder_b149 K29 M a0 v1 v2 v3 v5 v6 v7 v8 t0 = some z) : W p l e rm_mo_makeOrder s m args below meth c H locs 0 0 (MQ below (gw_Qi X (fun M => (gw_E X Y M)) z) args s 0 0 (gw_A X)) (F0 m 149 ls [.int t0]) := by
  obtain ⟨hx, hb, hml, hown, hts, hr, hlocks, hK⟩ := id C0
  have hg : ∀ w ∈ gw_w, w.before args s = true := fun w h => hts w (List.mem_cons_of_mem _ h)
  unfold mo_makeOrder_b149 at hF
  refine lv_istore (i := 9) (lv' := [(9, .int t0), (0, .ref (gr_a X a0)), (1, .int v1), (2, .int v2), (3, .long v3), (5, .int v5), (6, .int v6), (7, .int v7), (8, .int v8)]) hx hb dd_mo_makeOrder_149 hl (by decide) rfl (fun ls hl => ?_)
  refine lv_iload hx hb dd_mo_makeOrder_151 (lv_at hl 5 rfl) ?_
  refine lv_if_eq (tgt := 185) hx hb dd_mo_makeOrder_153 (by decide) (fun h153 => ?_) (fun h153 => ?_)
  · replace hF := gw_et h153 hF
    exact wb_mo_makeOrder_185 C0 hK29 M a0 v1 v2 v3 v6 v7 v8 _ _ _ ha0 G (lv_sub hl [1, 2, 3, 4, 6, 7, 8] rfl) hF
  · replace hF := gw_ef h153 hF
    refine lv_iload hx hb dd_mo_makeOrder_156 (lv_at hl 0 rfl) ?_
    refine lv_if_eq (tgt := 185) hx hb dd_mo_makeOrder_158 (by decide) (fun h158 => ?_) (fun h158 => ?_)
    · replace hF := gw_et h158 hF
      exact wb_mo_makeOrder_185 C0 hK29 M a0 v1 v2 v3 v6 v7 v8 _ _ _ ha0 G (lv_sub hl [1, 2, 3, 4, 6, 7, 8] rfl) hF
    · replace hF := gw_ef h158 hF
      refine lv_iload hx hb dd_mo_makeOrder_161 (lv_at hl 7 rfl) ?_
      refine lv_bipush (v := (8 : Int32)) hx hb dd_mo_makeOrder_163 (by decide) ?_
      refine lv_iand hx hb dd_mo_makeOrder_165 ?_
      refine lv_if_eq (tgt := 181) hx hb dd_mo_makeOrder_166 (by decide) (fun h166 => ?_) (fun h166 => ?_)
      · replace hF := gw_et h166 hF
        exact wb_mo_makeOrder_181 C0 hK29 M a0 v1 v2 v3 v6 v7 v8 _ _ _ ha0 G (lv_sub hl [1, 2, 3, 4, 6, 7, 8] rfl) hF
      · replace hF := gw_ef h166 hF
        refine lv_aload_n hx hb dd_mo_makeOrder_169 rfl (lv_at hl 1 rfl) ?_
        refine lv_iconst (v := (3 : Int32)) hx hb dd_mo_makeOrder_170 (by decide) ?_
        refine lv_iload_n hx hb dd_mo_makeOrder_171 rfl (lv_at hl 2 rfl) ?_
        refine lv_iadd hx hb dd_mo_makeOrder_172 ?_
        refine lv_iload hx hb dd_mo_makeOrder_173 (lv_at hl 8 rfl) ?_
        obtain ⟨r175, M175, hc175, hF⟩ := gw_be hF
        refine gw_ci G (va_runV (As := [.int ((3 : Int32) + v1), .int v8]) (rest := []) ⟨hx, hb, hml, hown, hts⟩ (ct_mo_writable l X Y M a0 ((3 : Int32) + v1) v8 ha0 _ hc175) (cwV 2 hts (gw_gV kw_307 kw_308 kw_309 kw_253 kw_306) rfl rfl rfl (by decide +kernel) ⟨Nat.le_of_ble_eq_true rfl, Nat.le_of_ble_eq_true rfl⟩) ⟨gw_blind, gw_recv_mo hK G ha0, gw_pre hK G⟩ rfl rfl hl.1 rfl (Nat.le_of_ble_eq_true rfl) dd_mo_makeOrder_175 ⟨Nat.le_of_ble_eq_true rfl, Nat.le_of_ble_eq_true rfl⟩) (fun H locs G => ?_)
        refine lv_if_eq (tgt := 185) hx hb dd_mo_makeOrder_178 (by decide) (fun h178 => ?_) (fun h178 => ?_)
        · replace hF := gw_et h178 hF
          exact wb_mo_makeOrder_185 C0 hK29 M175 a0 v1 v2 v3 v6 v7 v8 _ _ _ ha0 G (lv_sub hl [1, 2, 3, 4, 6, 7, 8] rfl) hF
        · replace hF := gw_ef h178 hF
          exact wb_mo_makeOrder_181 C0 hK29 M175 a0 v1 v2 v3 v6 v7 v8 _ _ _ ha0 G (lv_sub hl [1, 2, 3, 4, 6, 7, 8] rfl) hF
set_option maxRecDepth 100000 in
set_option maxHeartbeats 4000000 in
theorem wb_mo_makeOrder_144 {p : Program} {l : Launch} {e : Env} {s : State} {m : MethodId} {args : Array Value} {below : List Frame} {meth : Method} {c : Code} {X : gw_X} {Y : gw_M} {z : (Int32 × gw_M)} (C0 : gw_C ((Cond.code yy_mo_makeOrder by_mo_makeOrder 10 (some .int)) :: gw_w) by_mo_makeOrder 10 (some .int) "AccountMachineModel" X p s m args meth c) {K29 : gw_M → Nat → Int32 → Int32 → Int64 → Int32 → Int32 → Option (Int32 × gw_M)} (hK29 : ∀ (M : gw_M) (a0 : Nat) (v1 : Int32) (v2 : Int32) (v3 : Int64) (v5 : Int32) (v6 : Int32) (H : Heap) (locs : List Loc) (ls : Array Slot), gr_k a0 = (11, 0) → gw_G X (gw_E X Y M) s H locs → lv_has ls 10 [(0, .ref (gr_a X a0)), (1, .int v1), (2, .int v2), (3, .long v3), (5, .int v5), (6, .int v6)] → K29 M a0 v1 v2 v3 v5 v6 = some z → W p l e rm_mo_makeOrder s m args below meth c H locs 0 0 (MQ below (gw_Qi X (fun M => (gw_E X Y M)) z) args s 0 0 (gw_A X)) (F0 m 29 ls [])) (M : gw_M) (a0 : Nat) (v1 : Int32) (v2 : Int32) (v3 : Int64) (v5 : Int32) (v6 : Int32) (v7 : Int32) (v8 : Int32) (H : Heap) (locs : List Loc) (ls : Array Slot) (ha0 : gr_k a0 = (11, 0)) (G : gw_G X (gw_E X Y M) s H locs) (hl : lv_has ls 10 [(0, .ref (gr_a X a0)), (1, .int v1), (2, .int v2), (3, .long v3), (5, .int v5), (6, .int v6), (7, .int v7), (8, .int v8)]) (hF : mo_makeOrder_b144 K29 M a0 v1 v2 v3 v5 v6 v7 v8 = some z) : W p l e rm_mo_makeOrder s m args below meth c H locs 0 0 (MQ below (gw_Qi X (fun M => (gw_E X Y M)) z) args s 0 0 (gw_A X)) (F0 m 144 ls []) := by
  obtain ⟨hx, hb, hml, hown, hts, hr, hlocks, hK⟩ := id C0
  have hg : ∀ w ∈ gw_w, w.before args s = true := fun w h => hts w (List.mem_cons_of_mem _ h)
  unfold mo_makeOrder_b144 at hF
  refine lv_iconst (v := (1 : Int32)) hx hb dd_mo_makeOrder_144 (by decide) ?_
  refine lv_goto (tgt := 149) hx hb dd_mo_makeOrder_145 (by decide) ?_
  exact wb_mo_makeOrder_149 C0 hK29 M a0 v1 v2 v3 v5 v6 v7 v8 (1 : Int32) _ _ _ ha0 G (lv_sub hl [0, 1, 2, 3, 4, 5, 6, 7] rfl) hF
set_option maxRecDepth 100000 in
set_option maxHeartbeats 4000000 in
theorem wb_mo_makeOrder_29 {p : Program} {l : Launch} {e : Env} {s : State} {m : MethodId} {args : Array Value} {below : List Frame} {meth : Method} {c : Code} {X : gw_X} {Y : gw_M} {z : (Int32 × gw_M)} (C0 : gw_C ((Cond.code yy_mo_makeOrder by_mo_makeOrder 10 (some .int)) :: gw_w) by_mo_makeOrder 10 (some .int) "AccountMachineModel" X p s m args meth c) {K29 : gw_M → Nat → Int32 → Int32 → Int64 → Int32 → Int32 → Option (Int32 × gw_M)} (hK29 : ∀ (M : gw_M) (a0 : Nat) (v1 : Int32) (v2 : Int32) (v3 : Int64) (v5 : Int32) (v6 : Int32) (H : Heap) (locs : List Loc) (ls : Array Slot), gr_k a0 = (11, 0) → gw_G X (gw_E X Y M) s H locs → lv_has ls 10 [(0, .ref (gr_a X a0)), (1, .int v1), (2, .int v2), (3, .long v3), (5, .int v5), (6, .int v6)] → K29 M a0 v1 v2 v3 v5 v6 = some z → W p l e rm_mo_makeOrder s m args below meth c H locs 0 0 (MQ below (gw_Qi X (fun M => (gw_E X Y M)) z) args s 0 0 (gw_A X)) (F0 m 29 ls [])) (M : gw_M) (a0 : Nat) (v1 : Int32) (v2 : Int32) (v3 : Int64) (v5 : Int32) (v6 : Int32) (H : Heap) (locs : List Loc) (ls : Array Slot) (ha0 : gr_k a0 = (11, 0)) (G : gw_G X (gw_E X Y M) s H locs) (hl : lv_has ls 10 [(0, .ref (gr_a X a0)), (1, .int v1), (2, .int v2), (3, .long v3), (5, .int v5), (6, .int v6)]) (hF : mo_makeOrder_b29 K29 M a0 v1 v2 v3 v5 v6 = some z) : W p l e rm_mo_makeOrder s m args below meth c H locs 0 0 (MQ below (gw_Qi X (fun M => (gw_E X Y M)) z) args s 0 0 (gw_A X)) (F0 m 29 ls []) := by
  obtain ⟨hx, hb, hml, hown, hts, hr, hlocks, hK⟩ := id C0
  have hg : ∀ w ∈ gw_w, w.before args s = true := fun w h => hts w (List.mem_cons_of_mem _ h)
  unfold mo_makeOrder_b29 at hF
  refine lv_iload hx hb dd_mo_makeOrder_29 (lv_at hl 5 rfl) ?_
  refine lv_iconst (v := (4 : Int32)) hx hb dd_mo_makeOrder_31 (by decide) ?_
  refine lv_icmp_ge (tgt := 207) hx hb dd_mo_makeOrder_32 (by decide) (fun h32 => ?_) (fun h32 => ?_)
  · replace hF := gw_et h32 hF
    refine lv_iload hx hb dd_mo_makeOrder_207 (lv_at hl 4 rfl) ?_
    refine lv_if_eq (tgt := 216) hx hb dd_mo_makeOrder_209 (by decide) (fun h209 => ?_) (fun h209 => ?_)
    · replace hF := gw_et h209 hF
      refine lv_bipush (v := (10 : Int32)) hx hb dd_mo_makeOrder_216 (by decide) ?_
      exact W.iret hx hb hr (fun t ht hW => gw_endi (EF := (fun M => (gw_E X Y M))) (M := M) G ht hF) G.2.2.2.2 dd_mo_makeOrder_218 hlocks
    · replace hF := gw_ef h209 hF
      refine lv_iconst (v := (0 : Int32)) hx hb dd_mo_makeOrder_212 (by decide) ?_
      refine lv_goto (tgt := 218) hx hb dd_mo_makeOrder_213 (by decide) ?_
      exact W.iret hx hb hr (fun t ht hW => gw_endi (EF := (fun M => (gw_E X Y M))) (M := M) G ht hF) G.2.2.2.2 dd_mo_makeOrder_218 hlocks
  · replace hF := gw_ef h32 hF
    refine lv_lload_n hx hb dd_mo_makeOrder_35 rfl (lv_at hl 3 rfl) ?_
    refine lv_bipush (v := (8 : Int32)) hx hb dd_mo_makeOrder_36 (by decide) ?_
    refine lv_iload hx hb dd_mo_makeOrder_38 (lv_at hl 5 rfl) ?_
    refine lv_imul hx hb dd_mo_makeOrder_40 ?_
    refine lv_lshr (v := v3 >>> (((8 : Int32) * v6).toInt64 &&& 63)) hx hb dd_mo_makeOrder_41 rfl ?_
    refine lv_l2i (v := (v3 >>> (((8 : Int32) * v6).toInt64 &&& 63)).toInt32) hx hb dd_mo_makeOrder_42 rfl ?_
    refine lv_sipush (v := (255 : Int32)) hx hb dd_mo_makeOrder_43 (by decide) ?_
    refine lv_iand hx hb dd_mo_makeOrder_46 ?_
    refine lv_topi (fun x47 e47 => ?_)
    replace hF := gw_ly e47 hF
    refine lv_istore (i := 7) (lv' := [(7, .int x47), (0, .ref (gr_a X a0)), (1, .int v1), (2, .int v2), (3, .long v3), (5, .int v5), (6, .int v6)]) hx hb dd_mo_makeOrder_47 hl (by decide) rfl (fun ls hl => ?_)
    refine W.eq (g2 := F0 m 49 _ _) rfl ?_
    refine lv_iload hx hb dd_mo_makeOrder_49 (lv_at hl 0 rfl) ?_
    refine lv_bipush (v := (16 : Int32)) hx hb dd_mo_makeOrder_51 (by decide) ?_
    refine lv_iand hx hb dd_mo_makeOrder_53 ?_
    refine lv_if_ne (tgt := 69) hx hb dd_mo_makeOrder_54 (by decide) (fun h54 => ?_) (fun h54 => ?_)
    · replace hF := gw_ef h54 hF
      refine lv_iload hx hb dd_mo_makeOrder_69 (lv_at hl 0 rfl) ?_
      refine lv_iconst (v := (3 : Int32)) hx hb dd_mo_makeOrder_71 (by decide) ?_
      refine lv_iand hx hb dd_mo_makeOrder_72 ?_
      refine lv_aload_n hx hb dd_mo_makeOrder_73 rfl (lv_at hl 1 rfl) ?_
      refine gf_mo_slots hx hb hg hown (hg _ kw_273) hK G ha0 dd_mo_makeOrder_74 ?_
      refine lv_iconst (v := (3 : Int32)) hx hb dd_mo_makeOrder_77 (by decide) ?_
      refine lv_iload_n hx hb dd_mo_makeOrder_78 rfl (lv_at hl 2 rfl) ?_
      refine lv_iadd hx hb dd_mo_makeOrder_79 ?_
      obtain ⟨h80, hF⟩ := gw_gd hF
      refine gr_iald hx hb hK G (gq_mo_slots ha0) (gw_vp h80) (j := ((3 : Int32) + v1).toNatClampNeg) rfl dd_mo_makeOrder_80 ?_
      refine W.eq (g2 := F0 m 81 _ _) rfl ?_
      refine lv_icmp_lt (tgt := 87) hx hb dd_mo_makeOrder_81 (by decide) (fun h81 => ?_) (fun h81 => ?_)
      · replace hF := gw_et h81 hF
        refine lv_aload_n hx hb dd_mo_makeOrder_87 rfl (lv_at hl 1 rfl) ?_
        refine gf_mo_slotAccount hx hb hg hown (hg _ kw_274) hK G ha0 dd_mo_makeOrder_88 ?_
        refine lv_iconst (v := (4 : Int32)) hx hb dd_mo_makeOrder_91 (by decide) ?_
        refine lv_iconst (v := (3 : Int32)) hx hb dd_mo_makeOrder_92 (by decide) ?_
        refine lv_iload_n hx hb dd_mo_makeOrder_93 rfl (lv_at hl 2 rfl) ?_
        refine lv_iadd hx hb dd_mo_makeOrder_94 ?_
        refine lv_imul hx hb dd_mo_makeOrder_95 ?_
        refine lv_iload hx hb dd_mo_makeOrder_96 (lv_at hl 0 rfl) ?_
        refine lv_iconst (v := (3 : Int32)) hx hb dd_mo_makeOrder_98 (by decide) ?_
        refine W.eq (g2 := F0 m 99 _ _) rfl ?_
        refine lv_iand hx hb dd_mo_makeOrder_99 ?_
        refine lv_iadd hx hb dd_mo_makeOrder_100 ?_
        obtain ⟨h101, hF⟩ := gw_gd hF
        refine gr_iald hx hb hK G (gq_mo_slotAccount ha0) (gw_vp h101) (j := (((4 : Int32) * ((3 : Int32) + v1)) + (x47 &&& (3 : Int32))).toNatClampNeg) rfl dd_mo_makeOrder_101 ?_
        refine lv_topi (fun x102 e102 => ?_)
        replace hF := gw_ly e102 hF
        refine lv_istore (i := 8) (lv' := [(8, .int x102), (7, .int x47), (0, .ref (gr_a X a0)), (1, .int v1), (2, .int v2), (3, .long v3), (5, .int v5), (6, .int v6)]) hx hb dd_mo_makeOrder_102 hl (by decide) rfl (fun ls hl => ?_)
        refine lv_iload hx hb dd_mo_makeOrder_104 (lv_at hl 1 rfl) ?_
        refine lv_iconst (v := (4 : Int32)) hx hb dd_mo_makeOrder_106 (by decide) ?_
        refine lv_iand hx hb dd_mo_makeOrder_107 ?_
        refine lv_if_eq (tgt := 144) hx hb dd_mo_makeOrder_108 (by decide) (fun h108 => ?_) (fun h108 => ?_)
        · replace hF := gw_et h108 hF
          exact wb_mo_makeOrder_144 C0 hK29 M a0 v1 v2 v3 v5 v6 x47 x102 _ _ _ ha0 G (lv_sub hl [2, 3, 4, 5, 6, 7, 1, 0] rfl) hF
        · replace hF := gw_ef h108 hF
          refine lv_aload_n hx hb dd_mo_makeOrder_111 rfl (lv_at hl 2 rfl) ?_
          refine lv_iconst (v := (3 : Int32)) hx hb dd_mo_makeOrder_112 (by decide) ?_
          refine lv_iload_n hx hb dd_mo_makeOrder_113 rfl (lv_at hl 3 rfl) ?_
          refine lv_iadd hx hb dd_mo_makeOrder_114 ?_
          refine lv_iload hx hb dd_mo_makeOrder_115 (lv_at hl 0 rfl) ?_
          obtain ⟨r117, M117, hc117, hF⟩ := gw_be hF
          refine gw_ci G (va_runV (As := [.int ((3 : Int32) + v1), .int x102]) (rest := []) ⟨hx, hb, hml, hown, hts⟩ (ct_mo_signed l X Y M a0 ((3 : Int32) + v1) x102 ha0 _ hc117) (cwV 2 hts (gw_gV kw_316 kw_317 kw_318 kw_253 kw_315) rfl rfl rfl (by decide +kernel) ⟨Nat.le_of_ble_eq_true rfl, Nat.le_of_ble_eq_true rfl⟩) ⟨gw_blind, gw_recv_mo hK G ha0, gw_pre hK G⟩ rfl rfl hl.1 rfl (Nat.le_of_ble_eq_true rfl) dd_mo_makeOrder_117 ⟨Nat.le_of_ble_eq_true rfl, Nat.le_of_ble_eq_true rfl⟩) (fun H locs G => ?_)
          refine lv_if_ne (tgt := 144) hx hb dd_mo_makeOrder_120 (by decide) (fun h120 => ?_) (fun h120 => ?_)
          · replace hF := gw_ef h120 hF
            exact wb_mo_makeOrder_144 C0 hK29 M117 a0 v1 v2 v3 v5 v6 x47 x102 _ _ _ ha0 G (lv_sub hl [2, 3, 4, 5, 6, 7, 1, 0] rfl) hF
          · replace hF := gw_et h120 hF
            refine lv_iload hx hb dd_mo_makeOrder_123 (lv_at hl 0 rfl) ?_
            refine lv_aload_n hx hb dd_mo_makeOrder_125 rfl (lv_at hl 2 rfl) ?_
            refine lv_iload_n hx hb dd_mo_makeOrder_126 rfl (lv_at hl 3 rfl) ?_
            refine lv_aload_n hx hb dd_mo_makeOrder_127 rfl (lv_at hl 2 rfl) ?_
            refine gf_mo_registers hx hb hg hown (hg _ kw_299) hK G ha0 dd_mo_makeOrder_128 ?_
            refine lv_bipush (v := (10 : Int32)) hx hb dd_mo_makeOrder_131 (by decide) ?_
            refine lv_iload_n hx hb dd_mo_makeOrder_133 rfl (lv_at hl 3 rfl) ?_
            refine lv_imul hx hb dd_mo_makeOrder_134 ?_
            refine lv_iconst (v := (4 : Int32)) hx hb dd_mo_makeOrder_135 (by decide) ?_
            refine W.eq (g2 := F0 m 136 _ _) rfl ?_
            refine lv_iadd hx hb dd_mo_makeOrder_136 ?_
            obtain ⟨h137, hF⟩ := gw_gd hF
            refine gr_lald hx hb hK G (gq_mo_registers ha0) (gw_vp h137) (j := (((10 : Int32) * v1) + (4 : Int32)).toNatClampNeg) rfl dd_mo_makeOrder_137 ?_
            obtain ⟨r138, M138, hc138, hF⟩ := gw_be hF
            refine gw_ci G (va_runV (As := [.int v1, .long (M117.2 (a0 + 18) ((((10 : Int32) * v1) + (4 : Int32)).toNatClampNeg))]) (rest := [.int x102]) ⟨hx, hb, hml, hown, hts⟩ (ct_mo_seat l X Y M117 a0 v1 (M117.2 (a0 + 18) ((((10 : Int32) * v1) + (4 : Int32)).toNatClampNeg)) ha0 _ hc138) (cwV 2 hts (gw_gV kw_320 kw_321 kw_322 kw_253 kw_319) rfl rfl rfl (by decide +kernel) ⟨Nat.le_of_ble_eq_true rfl, Nat.le_of_ble_eq_true rfl⟩) ⟨gw_blind, gw_recv_mo hK G ha0, gw_pre hK G⟩ rfl rfl hl.1 rfl (Nat.le_of_ble_eq_true rfl) dd_mo_makeOrder_138 ⟨Nat.le_of_ble_eq_true rfl, Nat.le_of_ble_eq_true rfl⟩) (fun H locs G => ?_)
            refine lv_icmp_ne (tgt := 148) hx hb dd_mo_makeOrder_141 (by decide) (fun h141 => ?_) (fun h141 => ?_)
            · replace hF := gw_ef h141 hF
              refine lv_iconst (v := (0 : Int32)) hx hb dd_mo_makeOrder_148 (by decide) ?_
              exact wb_mo_makeOrder_149 C0 hK29 M138 a0 v1 v2 v3 v5 v6 x47 x102 (0 : Int32) _ _ _ ha0 G (lv_sub hl [2, 3, 4, 5, 6, 7, 1, 0] rfl) hF
            · replace hF := gw_et h141 hF
              exact wb_mo_makeOrder_144 C0 hK29 M138 a0 v1 v2 v3 v5 v6 x47 x102 _ _ _ ha0 G (lv_sub hl [2, 3, 4, 5, 6, 7, 1, 0] rfl) hF
      · replace hF := gw_ef h81 hF
        refine lv_bipush (v := (9 : Int32)) hx hb dd_mo_makeOrder_84 (by decide) ?_
        exact W.iret hx hb hr (fun t ht hW => gw_endi (EF := (fun M => (gw_E X Y M))) (M := M) G ht hF) G.2.2.2.2 dd_mo_makeOrder_86 hlocks
    · replace hF := gw_et h54 hF
      refine lv_iload hx hb dd_mo_makeOrder_57 (lv_at hl 5 rfl) ?_
      refine lv_if_eq (tgt := 66) hx hb dd_mo_makeOrder_59 (by decide) (fun h59 => ?_) (fun h59 => ?_)
      · replace hF := gw_et h59 hF
        refine lv_bipush (v := (10 : Int32)) hx hb dd_mo_makeOrder_66 (by decide) ?_
        exact W.iret hx hb hr (fun t ht hW => gw_endi (EF := (fun M => (gw_E X Y M))) (M := M) G ht hF) G.2.2.2.2 dd_mo_makeOrder_68 hlocks
      · replace hF := gw_ef h59 hF
        refine lv_iconst (v := (0 : Int32)) hx hb dd_mo_makeOrder_62 (by decide) ?_
        refine lv_goto (tgt := 68) hx hb dd_mo_makeOrder_63 (by decide) ?_
        exact W.iret hx hb hr (fun t ht hW => gw_endi (EF := (fun M => (gw_E X Y M))) (M := M) G ht hF) G.2.2.2.2 dd_mo_makeOrder_68 hlocks
theorem wl_mo_makeOrder_29 {p : Program} {l : Launch} {e : Env} {s : State} {m : MethodId} {args : Array Value} {below : List Frame} {meth : Method} {c : Code} {X : gw_X} {Y : gw_M} {z : (Int32 × gw_M)} (C0 : gw_C ((Cond.code yy_mo_makeOrder by_mo_makeOrder 10 (some .int)) :: gw_w) by_mo_makeOrder 10 (some .int) "AccountMachineModel" X p s m args meth c) : ∀ n : Nat, ∀ (M : gw_M) (a0 : Nat) (v1 : Int32) (v2 : Int32) (v3 : Int64) (v5 : Int32) (v6 : Int32) (H : Heap) (locs : List Loc) (ls : Array Slot), gr_k a0 = (11, 0) → gw_G X (gw_E X Y M) s H locs → lv_has ls 10 [(0, .ref (gr_a X a0)), (1, .int v1), (2, .int v2), (3, .long v3), (5, .int v5), (6, .int v6)] → mo_makeOrder_l29  n M a0 v1 v2 v3 v5 v6 = some z → W p l e rm_mo_makeOrder s m args below meth c H locs 0 0 (MQ below (gw_Qi X (fun M => (gw_E X Y M)) z) args s 0 0 (gw_A X)) (F0 m 29 ls []) := by
  intro n
  induction n with
  | zero =>
    intro M a0 v1 v2 v3 v5 v6 H locs ls ha0 G hl hF
    have hF : (none : Option (Int32 × gw_M)) = some z := hF
    cases hF
  | succ n ih =>
    intro M a0 v1 v2 v3 v5 v6 H locs ls ha0 G hl hF
    exact wb_mo_makeOrder_29 C0  ih M a0 v1 v2 v3 v5 v6 H locs ls ha0 G hl hF
set_option maxRecDepth 100000 in
set_option maxHeartbeats 4000000 in
theorem wb_mo_makeOrder_0 {p : Program} {l : Launch} {e : Env} {s : State} {m : MethodId} {args : Array Value} {below : List Frame} {meth : Method} {c : Code} {X : gw_X} {Y : gw_M} {z : (Int32 × gw_M)} (C0 : gw_C ((Cond.code yy_mo_makeOrder by_mo_makeOrder 10 (some .int)) :: gw_w) by_mo_makeOrder 10 (some .int) "AccountMachineModel" X p s m args meth c) (M : gw_M) (a0 : Nat) (v1 : Int32) (H : Heap) (locs : List Loc) (ls : Array Slot) (ha0 : gr_k a0 = (11, 0)) (G : gw_G X (gw_E X Y M) s H locs) (hl : lv_has ls 10 [(0, .ref (gr_a X a0)), (1, .int v1)]) (hF : mo_makeOrder_b0  M a0 v1 = some z) : W p l e rm_mo_makeOrder s m args below meth c H locs 0 0 (MQ below (gw_Qi X (fun M => (gw_E X Y M)) z) args s 0 0 (gw_A X)) (F0 m 0 ls []) := by
  obtain ⟨hx, hb, hml, hown, hts, hr, hlocks, hK⟩ := id C0
  have hg : ∀ w ∈ gw_w, w.before args s = true := fun w h => hts w (List.mem_cons_of_mem _ h)
  unfold mo_makeOrder_b0 at hF
  refine lv_iconst (v := (4 : Int32)) hx hb dd_mo_makeOrder_0 (by decide) ?_
  refine lv_iload_n hx hb dd_mo_makeOrder_1 rfl (lv_at hl 1 rfl) ?_
  refine lv_iadd hx hb dd_mo_makeOrder_2 ?_
  refine lv_topi (fun x3 e3 => ?_)
  replace hF := gw_ly e3 hF
  refine lv_istore_n (i := 2) (lv' := [(2, .int x3), (0, .ref (gr_a X a0)), (1, .int v1)]) hx hb dd_mo_makeOrder_3 rfl hl (by decide) rfl (fun ls hl => ?_)
  refine lv_aload_n hx hb dd_mo_makeOrder_4 rfl (lv_at hl 1 rfl) ?_
  refine gf_mo_registers hx hb hg hown (hg _ kw_299) hK G ha0 dd_mo_makeOrder_5 ?_
  refine lv_bipush (v := (10 : Int32)) hx hb dd_mo_makeOrder_8 (by decide) ?_
  refine lv_iload_n hx hb dd_mo_makeOrder_10 rfl (lv_at hl 2 rfl) ?_
  refine lv_imul hx hb dd_mo_makeOrder_11 ?_
  refine W.eq (g2 := F0 m 12 _ _) rfl ?_
  refine lv_iconst (v := (2 : Int32)) hx hb dd_mo_makeOrder_12 (by decide) ?_
  refine lv_iadd hx hb dd_mo_makeOrder_13 ?_
  obtain ⟨h14, hF⟩ := gw_gd hF
  refine gr_lald hx hb hK G (gq_mo_registers ha0) (gw_vp h14) (j := (((10 : Int32) * v1) + (2 : Int32)).toNatClampNeg) rfl dd_mo_makeOrder_14 ?_
  refine lv_topl (fun x15 e15 => ?_)
  replace hF := gw_ly e15 hF
  refine lv_lstore_n (i := 3) (lv' := [(3, .long x15), (2, .int x3), (0, .ref (gr_a X a0)), (1, .int v1)]) hx hb dd_mo_makeOrder_15 rfl hl (by decide) rfl (fun ls hl => ?_)
  refine lv_aload_n hx hb dd_mo_makeOrder_16 rfl (lv_at hl 2 rfl) ?_
  refine gf_mo_slots hx hb hg hown (hg _ kw_273) hK G ha0 dd_mo_makeOrder_17 ?_
  refine lv_iload_n hx hb dd_mo_makeOrder_20 rfl (lv_at hl 1 rfl) ?_
  refine lv_iconst (v := (0 : Int32)) hx hb dd_mo_makeOrder_21 (by decide) ?_
  obtain ⟨h22, hF⟩ := gw_gd hF
  refine gr_iast hx hb hK G (gq_mo_slots ha0) (gw_vp h22) (j := x3.toNatClampNeg) rfl dd_mo_makeOrder_22 (fun M22 H locs e22 G => ?_)
  replace hF := gw_ly e22 hF
  refine lv_iconst (v := (1 : Int32)) hx hb dd_mo_makeOrder_23 (by decide) ?_
  refine W.eq (g2 := F0 m 24 _ _) rfl ?_
  refine lv_istore (i := 5) (lv' := [(5, .int (1 : Int32)), (3, .long x15), (2, .int x3), (0, .ref (gr_a X a0)), (1, .int v1)]) hx hb dd_mo_makeOrder_24 hl (by decide) rfl (fun ls hl => ?_)
  refine lv_iconst (v := (0 : Int32)) hx hb dd_mo_makeOrder_26 (by decide) ?_
  refine lv_istore (i := 6) (lv' := [(6, .int (0 : Int32)), (5, .int (1 : Int32)), (3, .long x15), (2, .int x3), (0, .ref (gr_a X a0)), (1, .int v1)]) hx hb dd_mo_makeOrder_27 hl (by decide) rfl (fun ls hl => ?_)
  exact wl_mo_makeOrder_29 C0  2100 M22 a0 v1 x3 x15 (1 : Int32) (0 : Int32) _ _ _ ha0 G (lv_sub hl [4, 5, 3, 2, 1, 0] rfl) hF
set_option maxRecDepth 100000 in
set_option maxHeartbeats 4000000 in
theorem ct_mo_makeOrder (l : Launch) (X : gw_X) (Y : gw_M) (M : gw_M) (a0 : Nat) (v1 : Int32) (ha0 : gr_k a0 = (11, 0)) (z : (Int32 × gw_M)) (hF : mo_makeOrder_b0 M a0 v1 = some z) : Met l yy_mo_makeOrder ((Cond.code yy_mo_makeOrder by_mo_makeOrder 10 (some .int)) :: gw_w) rm_mo_makeOrder (va_Pc [.ref (gr_a X a0), .int v1] (gw_B X (gw_E X Y M))) (gw_Qi X (fun M => (gw_E X Y M)) z) 0 0 (gw_A X) := by
  refine Met.ofW (cc := by_mo_makeOrder) (maxL := 10) (ret := (some .int)) (by decide) rfl ?_
  intro p e s m args below meth c s₁ B hml hv
  obtain ⟨rfl, hB⟩ := hv
  rw [lg_entry_eq]
  have hl := lv_entry ([.ref (gr_a X a0), .int v1]) (n := 10) (Nat.le_of_ble_eq_true rfl)
  generalize (lg_sl ([.ref (gr_a X a0), .int v1]) ++ List.replicate (10 - (lg_sl ([.ref (gr_a X a0), .int v1])).length) Slot.unset).toArray = ls at hl ⊢
  have hl : lv_has ls 10 [(0, .ref (gr_a X a0)), (1, .int v1)] := hl
  exact wb_mo_makeOrder_0 (gw_ctx B hml rfl hB) M a0 v1 _ _ _ ha0 (gw_start hB) hl hF
/-! AccountMachineModel.transfer(IIII)I -/
abbrev rm_mo_transfer : Room := { frames := 2, cells := 0, slots := 0, locals := 46 }
theorem dd_mo_transfer_0 : decode by_mo_transfer 0 = .ok (.aload_n 0, 1) := by decide +kernel
theorem dd_mo_transfer_1 : decode by_mo_transfer 1 = .ok (.getfield 50, 3) := by decide +kernel
theorem dd_mo_transfer_4 : decode by_mo_transfer 4 = .ok (.iload_n 1, 1) := by decide +kernel
theorem dd_mo_transfer_5 : decode by_mo_transfer 5 = .ok (.iaload, 1) := by decide +kernel
theorem dd_mo_transfer_6 : decode by_mo_transfer 6 = .ok (.iconst 2, 1) := by decide +kernel
theorem dd_mo_transfer_7 : decode by_mo_transfer 7 = .ok (.if_icmp .lt 13, 3) := by decide +kernel
theorem dd_mo_transfer_10 : decode by_mo_transfer 10 = .ok (.iload 4, 2) := by decide +kernel
theorem dd_mo_transfer_12 : decode by_mo_transfer 12 = .ok (.ifCond .lt 8, 3) := by decide +kernel
theorem dd_mo_transfer_15 : decode by_mo_transfer 15 = .ok (.iload_n 2, 1) := by decide +kernel
theorem dd_mo_transfer_16 : decode by_mo_transfer 16 = .ok (.iload_n 3, 1) := by decide +kernel
theorem dd_mo_transfer_17 : decode by_mo_transfer 17 = .ok (.if_icmp .ne 6, 3) := by decide +kernel
theorem dd_mo_transfer_20 : decode by_mo_transfer 20 = .ok (.bipush 13, 2) := by decide +kernel
theorem dd_mo_transfer_22 : decode by_mo_transfer 22 = .ok (.ireturn, 1) := by decide +kernel
theorem dd_mo_transfer_23 : decode by_mo_transfer 23 = .ok (.aload_n 0, 1) := by decide +kernel
theorem dd_mo_transfer_24 : decode by_mo_transfer 24 = .ok (.iload_n 1, 1) := by decide +kernel
theorem dd_mo_transfer_25 : decode by_mo_transfer 25 = .ok (.iload_n 2, 1) := by decide +kernel
theorem dd_mo_transfer_26 : decode by_mo_transfer 26 = .ok (.invokevirtual 192, 3) := by decide +kernel
theorem dd_mo_transfer_29 : decode by_mo_transfer 29 = .ok (.ifCond .eq 21, 3) := by decide +kernel
theorem dd_mo_transfer_32 : decode by_mo_transfer 32 = .ok (.aload_n 0, 1) := by decide +kernel
theorem dd_mo_transfer_33 : decode by_mo_transfer 33 = .ok (.iload_n 1, 1) := by decide +kernel
theorem dd_mo_transfer_34 : decode by_mo_transfer 34 = .ok (.iload_n 2, 1) := by decide +kernel
theorem dd_mo_transfer_35 : decode by_mo_transfer 35 = .ok (.invokevirtual 131, 3) := by decide +kernel
theorem dd_mo_transfer_38 : decode by_mo_transfer 38 = .ok (.ifCond .eq 12, 3) := by decide +kernel
theorem dd_mo_transfer_41 : decode by_mo_transfer 41 = .ok (.aload_n 0, 1) := by decide +kernel
theorem dd_mo_transfer_42 : decode by_mo_transfer 42 = .ok (.iload_n 1, 1) := by decide +kernel
theorem dd_mo_transfer_43 : decode by_mo_transfer 43 = .ok (.iload_n 3, 1) := by decide +kernel
theorem dd_mo_transfer_44 : decode by_mo_transfer 44 = .ok (.invokevirtual 131, 3) := by decide +kernel
theorem dd_mo_transfer_47 : decode by_mo_transfer 47 = .ok (.ifCond .ne 6, 3) := by decide +kernel
theorem dd_mo_transfer_50 : decode by_mo_transfer 50 = .ok (.bipush 10, 2) := by decide +kernel
theorem dd_mo_transfer_52 : decode by_mo_transfer 52 = .ok (.ireturn, 1) := by decide +kernel
theorem dd_mo_transfer_53 : decode by_mo_transfer 53 = .ok (.aload_n 0, 1) := by decide +kernel
theorem dd_mo_transfer_54 : decode by_mo_transfer 54 = .ok (.getfield 13, 3) := by decide +kernel
theorem dd_mo_transfer_57 : decode by_mo_transfer 57 = .ok (.iload_n 2, 1) := by decide +kernel
theorem dd_mo_transfer_58 : decode by_mo_transfer 58 = .ok (.iaload, 1) := by decide +kernel
theorem dd_mo_transfer_59 : decode by_mo_transfer 59 = .ok (.ifCond .ne 41, 3) := by decide +kernel
theorem dd_mo_transfer_62 : decode by_mo_transfer 62 = .ok (.aload_n 0, 1) := by decide +kernel
theorem dd_mo_transfer_63 : decode by_mo_transfer 63 = .ok (.getfield 16, 3) := by decide +kernel
theorem dd_mo_transfer_66 : decode by_mo_transfer 66 = .ok (.iload_n 2, 1) := by decide +kernel
theorem dd_mo_transfer_67 : decode by_mo_transfer 67 = .ok (.iaload, 1) := by decide +kernel
theorem dd_mo_transfer_68 : decode by_mo_transfer 68 = .ok (.ifCond .ne 32, 3) := by decide +kernel
theorem dd_mo_transfer_71 : decode by_mo_transfer 71 = .ok (.aload_n 0, 1) := by decide +kernel
theorem dd_mo_transfer_72 : decode by_mo_transfer 72 = .ok (.getfield 7, 3) := by decide +kernel
theorem dd_mo_transfer_75 : decode by_mo_transfer 75 = .ok (.iload_n 2, 1) := by decide +kernel
theorem dd_mo_transfer_76 : decode by_mo_transfer 76 = .ok (.iaload, 1) := by decide +kernel
theorem dd_mo_transfer_77 : decode by_mo_transfer 77 = .ok (.iload 4, 2) := by decide +kernel
theorem dd_mo_transfer_79 : decode by_mo_transfer 79 = .ok (.if_icmp .lt 21, 3) := by decide +kernel
theorem dd_mo_transfer_82 : decode by_mo_transfer 82 = .ok (.aload_n 0, 1) := by decide +kernel
theorem dd_mo_transfer_83 : decode by_mo_transfer 83 = .ok (.getfield 7, 3) := by decide +kernel
theorem dd_mo_transfer_86 : decode by_mo_transfer 86 = .ok (.iload_n 3, 1) := by decide +kernel
theorem dd_mo_transfer_87 : decode by_mo_transfer 87 = .ok (.iaload, 1) := by decide +kernel
theorem dd_mo_transfer_88 : decode by_mo_transfer 88 = .ok (.i2l, 1) := by decide +kernel
theorem dd_mo_transfer_89 : decode by_mo_transfer 89 = .ok (.iload 4, 2) := by decide +kernel
theorem dd_mo_transfer_91 : decode by_mo_transfer 91 = .ok (.i2l, 1) := by decide +kernel
theorem dd_mo_transfer_92 : decode by_mo_transfer 92 = .ok (.ladd, 1) := by decide +kernel
theorem dd_mo_transfer_93 : decode by_mo_transfer 93 = .ok (.ldc2_w 135, 3) := by decide +kernel
theorem dd_mo_transfer_96 : decode by_mo_transfer 96 = .ok (.lcmp, 1) := by decide +kernel
theorem dd_mo_transfer_97 : decode by_mo_transfer 97 = .ok (.ifCond .le 6, 3) := by decide +kernel
theorem dd_mo_transfer_100 : decode by_mo_transfer 100 = .ok (.bipush 7, 2) := by decide +kernel
theorem dd_mo_transfer_102 : decode by_mo_transfer 102 = .ok (.ireturn, 1) := by decide +kernel
theorem dd_mo_transfer_103 : decode by_mo_transfer 103 = .ok (.aload_n 0, 1) := by decide +kernel
theorem dd_mo_transfer_104 : decode by_mo_transfer 104 = .ok (.getfield 7, 3) := by decide +kernel
theorem dd_mo_transfer_107 : decode by_mo_transfer 107 = .ok (.iload_n 2, 1) := by decide +kernel
theorem dd_mo_transfer_108 : decode by_mo_transfer 108 = .ok (.dup2, 1) := by decide +kernel
theorem dd_mo_transfer_109 : decode by_mo_transfer 109 = .ok (.iaload, 1) := by decide +kernel
theorem dd_mo_transfer_110 : decode by_mo_transfer 110 = .ok (.iload 4, 2) := by decide +kernel
theorem dd_mo_transfer_112 : decode by_mo_transfer 112 = .ok (.isub, 1) := by decide +kernel
theorem dd_mo_transfer_113 : decode by_mo_transfer 113 = .ok (.iastore, 1) := by decide +kernel
theorem dd_mo_transfer_114 : decode by_mo_transfer 114 = .ok (.aload_n 0, 1) := by decide +kernel
theorem dd_mo_transfer_115 : decode by_mo_transfer 115 = .ok (.getfield 7, 3) := by decide +kernel
theorem dd_mo_transfer_118 : decode by_mo_transfer 118 = .ok (.iload_n 3, 1) := by decide +kernel
theorem dd_mo_transfer_119 : decode by_mo_transfer 119 = .ok (.dup2, 1) := by decide +kernel
theorem dd_mo_transfer_120 : decode by_mo_transfer 120 = .ok (.iaload, 1) := by decide +kernel
theorem dd_mo_transfer_121 : decode by_mo_transfer 121 = .ok (.iload 4, 2) := by decide +kernel
theorem dd_mo_transfer_123 : decode by_mo_transfer 123 = .ok (.iadd, 1) := by decide +kernel
theorem dd_mo_transfer_124 : decode by_mo_transfer 124 = .ok (.iastore, 1) := by decide +kernel
theorem dd_mo_transfer_125 : decode by_mo_transfer 125 = .ok (.iconst 0, 1) := by decide +kernel
theorem dd_mo_transfer_126 : decode by_mo_transfer 126 = .ok (.ireturn, 1) := by decide +kernel
def mo_transfer_b0 (M : gw_M) (a0 : Nat) (v1 : Int32) (v2 : Int32) (v3 : Int32) (v4 : Int32) : Option (Int32 × gw_M) :=
  gw_gu (gw_in v1 9) (if (M.1 (a0 + 14) v1.toNatClampNeg) < (2 : Int32) then (some ((13 : Int32), M)) else (if v4 < (0 : Int32) then (some ((13 : Int32), M)) else (if v2 = v3 then (some ((13 : Int32), M)) else (gw_bd (mo_signed_b0 M a0 v1 v2) (fun r26 M26 => if r26 = (0 : Int32) then (some ((10 : Int32), M26)) else (gw_bd (mo_writable_b0 M26 a0 v1 v2) (fun r35 M35 => if r35 = (0 : Int32) then (some ((10 : Int32), M35)) else (gw_bd (mo_writable_b0 M35 a0 v1 v3) (fun r44 M44 => if r44 = (0 : Int32) then (some ((10 : Int32), M44)) else (gw_gu (gw_in v2 16) (if (M44.1 (a0 + 2) v2.toNatClampNeg) = (0 : Int32) then (gw_gu (gw_in v2 16) (if (M44.1 (a0 + 3) v2.toNatClampNeg) = (0 : Int32) then (gw_gu (gw_in v2 16) (if (M44.1 (a0 + 1) v2.toNatClampNeg) < v4 then (some ((7 : Int32), M44)) else (gw_gu (gw_in v3 16) (if (lg_cmp (((M44.1 (a0 + 1) v3.toNatClampNeg).toInt64) + v4.toInt64) (1000000 : Int64)) ≤ (0 : Int32) then (gw_gu (gw_in v2 16) (gw_gu (gw_in v2 16) (gw_lt (gw_sI M44 (a0 + 1) v2.toNatClampNeg ((M44.1 (a0 + 1) v2.toNatClampNeg) - v4)) (fun M113 => gw_gu (gw_in v3 16) (gw_gu (gw_in v3 16) (gw_lt (gw_sI M113 (a0 + 1) v3.toNatClampNeg ((M113.1 (a0 + 1) v3.toNatClampNeg) + v4)) (fun M124 => some ((0 : Int32), M124)))))))) else (some ((7 : Int32), M44)))))) else (some ((7 : Int32), M44)))) else (some ((7 : Int32), M44)))))))))))))
set_option maxRecDepth 100000 in
set_option maxHeartbeats 4000000 in
theorem wb_mo_transfer_0 {p : Program} {l : Launch} {e : Env} {s : State} {m : MethodId} {args : Array Value} {below : List Frame} {meth : Method} {c : Code} {X : gw_X} {Y : gw_M} {z : (Int32 × gw_M)} (C0 : gw_C ((Cond.code yy_mo_transfer by_mo_transfer 5 (some .int)) :: gw_w) by_mo_transfer 5 (some .int) "AccountMachineModel" X p s m args meth c) (M : gw_M) (a0 : Nat) (v1 : Int32) (v2 : Int32) (v3 : Int32) (v4 : Int32) (H : Heap) (locs : List Loc) (ls : Array Slot) (ha0 : gr_k a0 = (11, 0)) (G : gw_G X (gw_E X Y M) s H locs) (hl : lv_has ls 5 [(0, .ref (gr_a X a0)), (1, .int v1), (2, .int v2), (3, .int v3), (4, .int v4)]) (hF : mo_transfer_b0  M a0 v1 v2 v3 v4 = some z) : W p l e rm_mo_transfer s m args below meth c H locs 0 0 (MQ below (gw_Qi X (fun M => (gw_E X Y M)) z) args s 0 0 (gw_A X)) (F0 m 0 ls []) := by
  obtain ⟨hx, hb, hml, hown, hts, hr, hlocks, hK⟩ := id C0
  have hg : ∀ w ∈ gw_w, w.before args s = true := fun w h => hts w (List.mem_cons_of_mem _ h)
  unfold mo_transfer_b0 at hF
  refine lv_aload_n hx hb dd_mo_transfer_0 rfl (lv_at hl 0 rfl) ?_
  refine gf_mo_slots hx hb hg hown (hg _ kw_273) hK G ha0 dd_mo_transfer_1 ?_
  refine lv_iload_n hx hb dd_mo_transfer_4 rfl (lv_at hl 1 rfl) ?_
  obtain ⟨h5, hF⟩ := gw_gd hF
  refine gr_iald hx hb hK G (gq_mo_slots ha0) (gw_vp h5) (j := v1.toNatClampNeg) rfl dd_mo_transfer_5 ?_
  refine lv_iconst (v := (2 : Int32)) hx hb dd_mo_transfer_6 (by decide) ?_
  refine lv_icmp_lt (tgt := 20) hx hb dd_mo_transfer_7 (by decide) (fun h7 => ?_) (fun h7 => ?_)
  · replace hF := gw_et h7 hF
    refine lv_bipush (v := (13 : Int32)) hx hb dd_mo_transfer_20 (by decide) ?_
    exact W.iret hx hb hr (fun t ht hW => gw_endi (EF := (fun M => (gw_E X Y M))) (M := M) G ht hF) G.2.2.2.2 dd_mo_transfer_22 hlocks
  · replace hF := gw_ef h7 hF
    refine lv_iload hx hb dd_mo_transfer_10 (lv_at hl 4 rfl) ?_
    refine lv_if_lt (tgt := 20) hx hb dd_mo_transfer_12 (by decide) (fun h12 => ?_) (fun h12 => ?_)
    · replace hF := gw_et h12 hF
      refine lv_bipush (v := (13 : Int32)) hx hb dd_mo_transfer_20 (by decide) ?_
      exact W.iret hx hb hr (fun t ht hW => gw_endi (EF := (fun M => (gw_E X Y M))) (M := M) G ht hF) G.2.2.2.2 dd_mo_transfer_22 hlocks
    · replace hF := gw_ef h12 hF
      refine lv_iload_n hx hb dd_mo_transfer_15 rfl (lv_at hl 2 rfl) ?_
      refine lv_iload_n hx hb dd_mo_transfer_16 rfl (lv_at hl 3 rfl) ?_
      refine lv_icmp_ne (tgt := 23) hx hb dd_mo_transfer_17 (by decide) (fun h17 => ?_) (fun h17 => ?_)
      · replace hF := gw_ef h17 hF
        refine lv_aload_n hx hb dd_mo_transfer_23 rfl (lv_at hl 0 rfl) ?_
        refine lv_iload_n hx hb dd_mo_transfer_24 rfl (lv_at hl 1 rfl) ?_
        refine lv_iload_n hx hb dd_mo_transfer_25 rfl (lv_at hl 2 rfl) ?_
        obtain ⟨r26, M26, hc26, hF⟩ := gw_be hF
        refine gw_ci G (va_runV (As := [.int v1, .int v2]) (rest := []) ⟨hx, hb, hml, hown, hts⟩ (ct_mo_signed l X Y M a0 v1 v2 ha0 _ hc26) (cwV 2 hts (gw_gV kw_316 kw_317 kw_318 kw_253 kw_315) rfl rfl rfl (by decide +kernel) ⟨Nat.le_of_ble_eq_true rfl, Nat.le_of_ble_eq_true rfl⟩) ⟨gw_blind, gw_recv_mo hK G ha0, gw_pre hK G⟩ rfl rfl hl.1 rfl (Nat.le_of_ble_eq_true rfl) dd_mo_transfer_26 ⟨Nat.le_of_ble_eq_true rfl, Nat.le_of_ble_eq_true rfl⟩) (fun H locs G => ?_)
        refine lv_if_eq (tgt := 50) hx hb dd_mo_transfer_29 (by decide) (fun h29 => ?_) (fun h29 => ?_)
        · replace hF := gw_et h29 hF
          refine lv_bipush (v := (10 : Int32)) hx hb dd_mo_transfer_50 (by decide) ?_
          exact W.iret hx hb hr (fun t ht hW => gw_endi (EF := (fun M => (gw_E X Y M))) (M := M26) G ht hF) G.2.2.2.2 dd_mo_transfer_52 hlocks
        · replace hF := gw_ef h29 hF
          refine lv_aload_n hx hb dd_mo_transfer_32 rfl (lv_at hl 0 rfl) ?_
          refine lv_iload_n hx hb dd_mo_transfer_33 rfl (lv_at hl 1 rfl) ?_
          refine lv_iload_n hx hb dd_mo_transfer_34 rfl (lv_at hl 2 rfl) ?_
          obtain ⟨r35, M35, hc35, hF⟩ := gw_be hF
          refine gw_ci G (va_runV (As := [.int v1, .int v2]) (rest := []) ⟨hx, hb, hml, hown, hts⟩ (ct_mo_writable l X Y M26 a0 v1 v2 ha0 _ hc35) (cwV 2 hts (gw_gV kw_307 kw_308 kw_309 kw_253 kw_306) rfl rfl rfl (by decide +kernel) ⟨Nat.le_of_ble_eq_true rfl, Nat.le_of_ble_eq_true rfl⟩) ⟨gw_blind, gw_recv_mo hK G ha0, gw_pre hK G⟩ rfl rfl hl.1 rfl (Nat.le_of_ble_eq_true rfl) dd_mo_transfer_35 ⟨Nat.le_of_ble_eq_true rfl, Nat.le_of_ble_eq_true rfl⟩) (fun H locs G => ?_)
          refine lv_if_eq (tgt := 50) hx hb dd_mo_transfer_38 (by decide) (fun h38 => ?_) (fun h38 => ?_)
          · replace hF := gw_et h38 hF
            refine lv_bipush (v := (10 : Int32)) hx hb dd_mo_transfer_50 (by decide) ?_
            exact W.iret hx hb hr (fun t ht hW => gw_endi (EF := (fun M => (gw_E X Y M))) (M := M35) G ht hF) G.2.2.2.2 dd_mo_transfer_52 hlocks
          · replace hF := gw_ef h38 hF
            refine lv_aload_n hx hb dd_mo_transfer_41 rfl (lv_at hl 0 rfl) ?_
            refine lv_iload_n hx hb dd_mo_transfer_42 rfl (lv_at hl 1 rfl) ?_
            refine lv_iload_n hx hb dd_mo_transfer_43 rfl (lv_at hl 3 rfl) ?_
            obtain ⟨r44, M44, hc44, hF⟩ := gw_be hF
            refine gw_ci G (va_runV (As := [.int v1, .int v3]) (rest := []) ⟨hx, hb, hml, hown, hts⟩ (ct_mo_writable l X Y M35 a0 v1 v3 ha0 _ hc44) (cwV 2 hts (gw_gV kw_307 kw_308 kw_309 kw_253 kw_306) rfl rfl rfl (by decide +kernel) ⟨Nat.le_of_ble_eq_true rfl, Nat.le_of_ble_eq_true rfl⟩) ⟨gw_blind, gw_recv_mo hK G ha0, gw_pre hK G⟩ rfl rfl hl.1 rfl (Nat.le_of_ble_eq_true rfl) dd_mo_transfer_44 ⟨Nat.le_of_ble_eq_true rfl, Nat.le_of_ble_eq_true rfl⟩) (fun H locs G => ?_)
            refine lv_if_ne (tgt := 53) hx hb dd_mo_transfer_47 (by decide) (fun h47 => ?_) (fun h47 => ?_)
            · replace hF := gw_ef h47 hF
              refine lv_aload_n hx hb dd_mo_transfer_53 rfl (lv_at hl 0 rfl) ?_
              refine gf_mo_owners hx hb hg hown (hg _ kw_292) hK G ha0 dd_mo_transfer_54 ?_
              refine lv_iload_n hx hb dd_mo_transfer_57 rfl (lv_at hl 2 rfl) ?_
              obtain ⟨h58, hF⟩ := gw_gd hF
              refine gr_iald hx hb hK G (gq_mo_owners ha0) (gw_vp h58) (j := v2.toNatClampNeg) rfl dd_mo_transfer_58 ?_
              refine lv_if_ne (tgt := 100) hx hb dd_mo_transfer_59 (by decide) (fun h59 => ?_) (fun h59 => ?_)
              · replace hF := gw_ef h59 hF
                refine lv_bipush (v := (7 : Int32)) hx hb dd_mo_transfer_100 (by decide) ?_
                exact W.iret hx hb hr (fun t ht hW => gw_endi (EF := (fun M => (gw_E X Y M))) (M := M44) G ht hF) G.2.2.2.2 dd_mo_transfer_102 hlocks
              · replace hF := gw_et h59 hF
                refine lv_aload_n hx hb dd_mo_transfer_62 rfl (lv_at hl 0 rfl) ?_
                refine gf_mo_sizes hx hb hg hown (hg _ kw_286) hK G ha0 dd_mo_transfer_63 ?_
                refine lv_iload_n hx hb dd_mo_transfer_66 rfl (lv_at hl 2 rfl) ?_
                obtain ⟨h67, hF⟩ := gw_gd hF
                refine gr_iald hx hb hK G (gq_mo_sizes ha0) (gw_vp h67) (j := v2.toNatClampNeg) rfl dd_mo_transfer_67 ?_
                refine lv_if_ne (tgt := 100) hx hb dd_mo_transfer_68 (by decide) (fun h68 => ?_) (fun h68 => ?_)
                · replace hF := gw_ef h68 hF
                  refine lv_bipush (v := (7 : Int32)) hx hb dd_mo_transfer_100 (by decide) ?_
                  exact W.iret hx hb hr (fun t ht hW => gw_endi (EF := (fun M => (gw_E X Y M))) (M := M44) G ht hF) G.2.2.2.2 dd_mo_transfer_102 hlocks
                · replace hF := gw_et h68 hF
                  refine lv_aload_n hx hb dd_mo_transfer_71 rfl (lv_at hl 0 rfl) ?_
                  refine gf_mo_balances hx hb hg hown (hg _ kw_293) hK G ha0 dd_mo_transfer_72 ?_
                  refine lv_iload_n hx hb dd_mo_transfer_75 rfl (lv_at hl 2 rfl) ?_
                  obtain ⟨h76, hF⟩ := gw_gd hF
                  refine gr_iald hx hb hK G (gq_mo_balances ha0) (gw_vp h76) (j := v2.toNatClampNeg) rfl dd_mo_transfer_76 ?_
                  refine lv_iload hx hb dd_mo_transfer_77 (lv_at hl 4 rfl) ?_
                  refine lv_icmp_lt (tgt := 100) hx hb dd_mo_transfer_79 (by decide) (fun h79 => ?_) (fun h79 => ?_)
                  · replace hF := gw_et h79 hF
                    refine lv_bipush (v := (7 : Int32)) hx hb dd_mo_transfer_100 (by decide) ?_
                    exact W.iret hx hb hr (fun t ht hW => gw_endi (EF := (fun M => (gw_E X Y M))) (M := M44) G ht hF) G.2.2.2.2 dd_mo_transfer_102 hlocks
                  · replace hF := gw_ef h79 hF
                    refine lv_aload_n hx hb dd_mo_transfer_82 rfl (lv_at hl 0 rfl) ?_
                    refine gf_mo_balances hx hb hg hown (hg _ kw_293) hK G ha0 dd_mo_transfer_83 ?_
                    refine lv_iload_n hx hb dd_mo_transfer_86 rfl (lv_at hl 3 rfl) ?_
                    obtain ⟨h87, hF⟩ := gw_gd hF
                    refine gr_iald hx hb hK G (gq_mo_balances ha0) (gw_vp h87) (j := v3.toNatClampNeg) rfl dd_mo_transfer_87 ?_
                    refine lv_i2l (v := (M44.1 (a0 + 1) v3.toNatClampNeg).toInt64) hx hb dd_mo_transfer_88 rfl ?_
                    refine lv_iload hx hb dd_mo_transfer_89 (lv_at hl 4 rfl) ?_
                    refine lv_i2l (v := v4.toInt64) hx hb dd_mo_transfer_91 rfl ?_
                    refine lv_ladd hx hb dd_mo_transfer_92 ?_
                    refine lv_ldc2 (v := (1000000 : Int64)) hx hb hown (hg _ kw_305) dd_mo_transfer_93 ?_
                    refine W.eq (g2 := F0 m 96 _ _) rfl ?_
                    refine W.lcmp hx hb dd_mo_transfer_96 ?_
                    refine lv_if_le (tgt := 103) hx hb dd_mo_transfer_97 (by decide) (fun h97 => ?_) (fun h97 => ?_)
                    · replace hF := gw_et h97 hF
                      refine lv_aload_n hx hb dd_mo_transfer_103 rfl (lv_at hl 0 rfl) ?_
                      refine gf_mo_balances hx hb hg hown (hg _ kw_293) hK G ha0 dd_mo_transfer_104 ?_
                      refine lv_iload_n hx hb dd_mo_transfer_107 rfl (lv_at hl 2 rfl) ?_
                      refine lv_dup2_11 hx hb dd_mo_transfer_108 rfl rfl ?_
                      obtain ⟨h109, hF⟩ := gw_gd hF
                      refine gr_iald hx hb hK G (gq_mo_balances ha0) (gw_vp h109) (j := v2.toNatClampNeg) rfl dd_mo_transfer_109 ?_
                      refine lv_iload hx hb dd_mo_transfer_110 (lv_at hl 4 rfl) ?_
                      refine lv_isub hx hb dd_mo_transfer_112 ?_
                      obtain ⟨h113, hF⟩ := gw_gd hF
                      refine gr_iast hx hb hK G (gq_mo_balances ha0) (gw_vp h113) (j := v2.toNatClampNeg) rfl dd_mo_transfer_113 (fun M113 H locs e113 G => ?_)
                      replace hF := gw_ly e113 hF
                      refine lv_aload_n hx hb dd_mo_transfer_114 rfl (lv_at hl 0 rfl) ?_
                      refine W.eq (g2 := F0 m 115 _ _) rfl ?_
                      refine gf_mo_balances hx hb hg hown (hg _ kw_293) hK G ha0 dd_mo_transfer_115 ?_
                      refine lv_iload_n hx hb dd_mo_transfer_118 rfl (lv_at hl 3 rfl) ?_
                      refine lv_dup2_11 hx hb dd_mo_transfer_119 rfl rfl ?_
                      obtain ⟨h120, hF⟩ := gw_gd hF
                      refine gr_iald hx hb hK G (gq_mo_balances ha0) (gw_vp h120) (j := v3.toNatClampNeg) rfl dd_mo_transfer_120 ?_
                      refine lv_iload hx hb dd_mo_transfer_121 (lv_at hl 4 rfl) ?_
                      refine lv_iadd hx hb dd_mo_transfer_123 ?_
                      obtain ⟨h124, hF⟩ := gw_gd hF
                      refine gr_iast hx hb hK G (gq_mo_balances ha0) (gw_vp h124) (j := v3.toNatClampNeg) rfl dd_mo_transfer_124 (fun M124 H locs e124 G => ?_)
                      replace hF := gw_ly e124 hF
                      refine lv_iconst (v := (0 : Int32)) hx hb dd_mo_transfer_125 (by decide) ?_
                      exact W.iret hx hb hr (fun t ht hW => gw_endi (EF := (fun M => (gw_E X Y M))) (M := M124) G ht hF) G.2.2.2.2 dd_mo_transfer_126 hlocks
                    · replace hF := gw_ef h97 hF
                      refine lv_bipush (v := (7 : Int32)) hx hb dd_mo_transfer_100 (by decide) ?_
                      exact W.iret hx hb hr (fun t ht hW => gw_endi (EF := (fun M => (gw_E X Y M))) (M := M44) G ht hF) G.2.2.2.2 dd_mo_transfer_102 hlocks
            · replace hF := gw_et h47 hF
              refine lv_bipush (v := (10 : Int32)) hx hb dd_mo_transfer_50 (by decide) ?_
              exact W.iret hx hb hr (fun t ht hW => gw_endi (EF := (fun M => (gw_E X Y M))) (M := M44) G ht hF) G.2.2.2.2 dd_mo_transfer_52 hlocks
      · replace hF := gw_et h17 hF
        refine lv_bipush (v := (13 : Int32)) hx hb dd_mo_transfer_20 (by decide) ?_
        exact W.iret hx hb hr (fun t ht hW => gw_endi (EF := (fun M => (gw_E X Y M))) (M := M) G ht hF) G.2.2.2.2 dd_mo_transfer_22 hlocks
set_option maxRecDepth 100000 in
set_option maxHeartbeats 4000000 in
theorem ct_mo_transfer (l : Launch) (X : gw_X) (Y : gw_M) (M : gw_M) (a0 : Nat) (v1 : Int32) (v2 : Int32) (v3 : Int32) (v4 : Int32) (ha0 : gr_k a0 = (11, 0)) (z : (Int32 × gw_M)) (hF : mo_transfer_b0 M a0 v1 v2 v3 v4 = some z) : Met l yy_mo_transfer ((Cond.code yy_mo_transfer by_mo_transfer 5 (some .int)) :: gw_w) rm_mo_transfer (va_Pc [.ref (gr_a X a0), .int v1, .int v2, .int v3, .int v4] (gw_B X (gw_E X Y M))) (gw_Qi X (fun M => (gw_E X Y M)) z) 0 0 (gw_A X) := by
  refine Met.ofW (cc := by_mo_transfer) (maxL := 5) (ret := (some .int)) (by decide) rfl ?_
  intro p e s m args below meth c s₁ B hml hv
  obtain ⟨rfl, hB⟩ := hv
  rw [lg_entry_eq]
  have hl := lv_entry ([.ref (gr_a X a0), .int v1, .int v2, .int v3, .int v4]) (n := 5) (Nat.le_of_ble_eq_true rfl)
  generalize (lg_sl ([.ref (gr_a X a0), .int v1, .int v2, .int v3, .int v4]) ++ List.replicate (5 - (lg_sl ([.ref (gr_a X a0), .int v1, .int v2, .int v3, .int v4])).length) Slot.unset).toArray = ls at hl ⊢
  have hl : lv_has ls 5 [(0, .ref (gr_a X a0)), (1, .int v1), (2, .int v2), (3, .int v3), (4, .int v4)] := hl
  exact wb_mo_transfer_0 (gw_ctx B hml rfl hB) M a0 v1 v2 v3 v4 _ _ _ ha0 (gw_start hB) hl hF
/-! AccountMachineModel.system(I)I -/
abbrev rm_mo_system : Room := { frames := 3, cells := 0, slots := 0, locals := 70 }
theorem dd_mo_system_0 : decode by_mo_system 0 = .ok (.aload_n 0, 1) := by decide +kernel
theorem dd_mo_system_1 : decode by_mo_system 1 = .ok (.iconst 2, 1) := by decide +kernel
theorem dd_mo_system_2 : decode by_mo_system 2 = .ok (.invokevirtual 143, 3) := by decide +kernel
theorem dd_mo_system_5 : decode by_mo_system 5 = .ok (.ifCond .ne 5, 3) := by decide +kernel
theorem dd_mo_system_8 : decode by_mo_system 8 = .ok (.iconst 3, 1) := by decide +kernel
theorem dd_mo_system_9 : decode by_mo_system 9 = .ok (.ireturn, 1) := by decide +kernel
theorem dd_mo_system_10 : decode by_mo_system 10 = .ok (.aload_n 0, 1) := by decide +kernel
theorem dd_mo_system_11 : decode by_mo_system 11 = .ok (.getfield 47, 3) := by decide +kernel
theorem dd_mo_system_14 : decode by_mo_system 14 = .ok (.iload_n 1, 1) := by decide +kernel
theorem dd_mo_system_15 : decode by_mo_system 15 = .ok (.iaload, 1) := by decide +kernel
theorem dd_mo_system_16 : decode by_mo_system 16 = .ok (.iconst 3, 1) := by decide +kernel
theorem dd_mo_system_17 : decode by_mo_system 17 = .ok (.iand, 1) := by decide +kernel
theorem dd_mo_system_18 : decode by_mo_system 18 = .ok (.istore_n 2, 1) := by decide +kernel
theorem dd_mo_system_19 : decode by_mo_system 19 = .ok (.aload_n 0, 1) := by decide +kernel
theorem dd_mo_system_20 : decode by_mo_system 20 = .ok (.getfield 47, 3) := by decide +kernel
theorem dd_mo_system_23 : decode by_mo_system 23 = .ok (.iload_n 1, 1) := by decide +kernel
theorem dd_mo_system_24 : decode by_mo_system 24 = .ok (.iaload, 1) := by decide +kernel
theorem dd_mo_system_25 : decode by_mo_system 25 = .ok (.iconst 2, 1) := by decide +kernel
theorem dd_mo_system_26 : decode by_mo_system 26 = .ok (.ishr, 1) := by decide +kernel
theorem dd_mo_system_27 : decode by_mo_system 27 = .ok (.istore_n 3, 1) := by decide +kernel
theorem dd_mo_system_28 : decode by_mo_system 28 = .ok (.aload_n 0, 1) := by decide +kernel
theorem dd_mo_system_29 : decode by_mo_system 29 = .ok (.getfield 53, 3) := by decide +kernel
theorem dd_mo_system_32 : decode by_mo_system 32 = .ok (.iconst 4, 1) := by decide +kernel
theorem dd_mo_system_33 : decode by_mo_system 33 = .ok (.iload_n 1, 1) := by decide +kernel
theorem dd_mo_system_34 : decode by_mo_system 34 = .ok (.imul, 1) := by decide +kernel
theorem dd_mo_system_35 : decode by_mo_system 35 = .ok (.iaload, 1) := by decide +kernel
theorem dd_mo_system_36 : decode by_mo_system 36 = .ok (.istore 4, 2) := by decide +kernel
theorem dd_mo_system_38 : decode by_mo_system 38 = .ok (.aload_n 0, 1) := by decide +kernel
theorem dd_mo_system_39 : decode by_mo_system 39 = .ok (.getfield 53, 3) := by decide +kernel
theorem dd_mo_system_42 : decode by_mo_system 42 = .ok (.iconst 4, 1) := by decide +kernel
theorem dd_mo_system_43 : decode by_mo_system 43 = .ok (.iload_n 1, 1) := by decide +kernel
theorem dd_mo_system_44 : decode by_mo_system 44 = .ok (.imul, 1) := by decide +kernel
theorem dd_mo_system_45 : decode by_mo_system 45 = .ok (.iconst 1, 1) := by decide +kernel
theorem dd_mo_system_46 : decode by_mo_system 46 = .ok (.iadd, 1) := by decide +kernel
theorem dd_mo_system_47 : decode by_mo_system 47 = .ok (.iaload, 1) := by decide +kernel
theorem dd_mo_system_48 : decode by_mo_system 48 = .ok (.istore 5, 2) := by decide +kernel
theorem dd_mo_system_50 : decode by_mo_system 50 = .ok (.iload_n 2, 1) := by decide +kernel
theorem dd_mo_system_51 : decode by_mo_system 51 = .ok (.ifCond .ne 14, 3) := by decide +kernel
theorem dd_mo_system_54 : decode by_mo_system 54 = .ok (.aload_n 0, 1) := by decide +kernel
theorem dd_mo_system_55 : decode by_mo_system 55 = .ok (.iload_n 1, 1) := by decide +kernel
theorem dd_mo_system_56 : decode by_mo_system 56 = .ok (.iload 4, 2) := by decide +kernel
theorem dd_mo_system_58 : decode by_mo_system 58 = .ok (.iload 5, 2) := by decide +kernel
theorem dd_mo_system_60 : decode by_mo_system 60 = .ok (.iload_n 3, 1) := by decide +kernel
theorem dd_mo_system_61 : decode by_mo_system 61 = .ok (.invokevirtual 208, 3) := by decide +kernel
theorem dd_mo_system_64 : decode by_mo_system 64 = .ok (.ireturn, 1) := by decide +kernel
theorem dd_mo_system_65 : decode by_mo_system 65 = .ok (.iload_n 2, 1) := by decide +kernel
theorem dd_mo_system_66 : decode by_mo_system 66 = .ok (.iconst 3, 1) := by decide +kernel
theorem dd_mo_system_67 : decode by_mo_system 67 = .ok (.if_icmp .eq 44, 3) := by decide +kernel
theorem dd_mo_system_70 : decode by_mo_system 70 = .ok (.aload_n 0, 1) := by decide +kernel
theorem dd_mo_system_71 : decode by_mo_system 71 = .ok (.getfield 50, 3) := by decide +kernel
theorem dd_mo_system_74 : decode by_mo_system 74 = .ok (.iload_n 1, 1) := by decide +kernel
theorem dd_mo_system_75 : decode by_mo_system 75 = .ok (.iaload, 1) := by decide +kernel
theorem dd_mo_system_76 : decode by_mo_system 76 = .ok (.ifCond .eq 35, 3) := by decide +kernel
theorem dd_mo_system_79 : decode by_mo_system 79 = .ok (.iload_n 2, 1) := by decide +kernel
theorem dd_mo_system_80 : decode by_mo_system 80 = .ok (.iconst 1, 1) := by decide +kernel
theorem dd_mo_system_81 : decode by_mo_system 81 = .ok (.if_icmp .ne 18, 3) := by decide +kernel
theorem dd_mo_system_84 : decode by_mo_system 84 = .ok (.iload_n 3, 1) := by decide +kernel
theorem dd_mo_system_85 : decode by_mo_system 85 = .ok (.i2l, 1) := by decide +kernel
theorem dd_mo_system_86 : decode by_mo_system 86 = .ok (.lconst 1, 1) := by decide +kernel
theorem dd_mo_system_87 : decode by_mo_system 87 = .ok (.ldc2_w 81, 3) := by decide +kernel
theorem dd_mo_system_90 : decode by_mo_system 90 = .ok (.invokestatic 83, 3) := by decide +kernel
theorem dd_mo_system_93 : decode by_mo_system 93 = .ok (.ifCond .ne 21, 3) := by decide +kernel
theorem dd_mo_system_96 : decode by_mo_system 96 = .ok (.goto 15, 3) := by decide +kernel
theorem dd_mo_system_99 : decode by_mo_system 99 = .ok (.iload_n 3, 1) := by decide +kernel
theorem dd_mo_system_100 : decode by_mo_system 100 = .ok (.i2l, 1) := by decide +kernel
theorem dd_mo_system_101 : decode by_mo_system 101 = .ok (.lconst 0, 1) := by decide +kernel
theorem dd_mo_system_102 : decode by_mo_system 102 = .ok (.ldc2_w 125, 3) := by decide +kernel
theorem dd_mo_system_105 : decode by_mo_system 105 = .ok (.invokestatic 83, 3) := by decide +kernel
theorem dd_mo_system_108 : decode by_mo_system 108 = .ok (.ifCond .ne 6, 3) := by decide +kernel
theorem dd_mo_system_111 : decode by_mo_system 111 = .ok (.bipush 13, 2) := by decide +kernel
theorem dd_mo_system_113 : decode by_mo_system 113 = .ok (.ireturn, 1) := by decide +kernel
theorem dd_mo_system_114 : decode by_mo_system 114 = .ok (.aload_n 0, 1) := by decide +kernel
theorem dd_mo_system_115 : decode by_mo_system 115 = .ok (.iload_n 1, 1) := by decide +kernel
theorem dd_mo_system_116 : decode by_mo_system 116 = .ok (.iload 4, 2) := by decide +kernel
theorem dd_mo_system_118 : decode by_mo_system 118 = .ok (.invokevirtual 192, 3) := by decide +kernel
theorem dd_mo_system_121 : decode by_mo_system 121 = .ok (.ifCond .eq 13, 3) := by decide +kernel
theorem dd_mo_system_124 : decode by_mo_system 124 = .ok (.aload_n 0, 1) := by decide +kernel
theorem dd_mo_system_125 : decode by_mo_system 125 = .ok (.iload_n 1, 1) := by decide +kernel
theorem dd_mo_system_126 : decode by_mo_system 126 = .ok (.iload 4, 2) := by decide +kernel
theorem dd_mo_system_128 : decode by_mo_system 128 = .ok (.invokevirtual 131, 3) := by decide +kernel
theorem dd_mo_system_131 : decode by_mo_system 131 = .ok (.ifCond .ne 6, 3) := by decide +kernel
theorem dd_mo_system_134 : decode by_mo_system 134 = .ok (.bipush 10, 2) := by decide +kernel
theorem dd_mo_system_136 : decode by_mo_system 136 = .ok (.ireturn, 1) := by decide +kernel
theorem dd_mo_system_137 : decode by_mo_system 137 = .ok (.aload_n 0, 1) := by decide +kernel
theorem dd_mo_system_138 : decode by_mo_system 138 = .ok (.getfield 13, 3) := by decide +kernel
theorem dd_mo_system_141 : decode by_mo_system 141 = .ok (.iload 4, 2) := by decide +kernel
theorem dd_mo_system_143 : decode by_mo_system 143 = .ok (.iaload, 1) := by decide +kernel
theorem dd_mo_system_144 : decode by_mo_system 144 = .ok (.ifCond .ne 18, 3) := by decide +kernel
theorem dd_mo_system_147 : decode by_mo_system 147 = .ok (.iload_n 2, 1) := by decide +kernel
theorem dd_mo_system_148 : decode by_mo_system 148 = .ok (.iconst 2, 1) := by decide +kernel
theorem dd_mo_system_149 : decode by_mo_system 149 = .ok (.if_icmp .ne 16, 3) := by decide +kernel
theorem dd_mo_system_152 : decode by_mo_system 152 = .ok (.aload_n 0, 1) := by decide +kernel
theorem dd_mo_system_153 : decode by_mo_system 153 = .ok (.getfield 16, 3) := by decide +kernel
theorem dd_mo_system_156 : decode by_mo_system 156 = .ok (.iload 4, 2) := by decide +kernel
theorem dd_mo_system_158 : decode by_mo_system 158 = .ok (.iaload, 1) := by decide +kernel
theorem dd_mo_system_159 : decode by_mo_system 159 = .ok (.ifCond .eq 6, 3) := by decide +kernel
theorem dd_mo_system_162 : decode by_mo_system 162 = .ok (.bipush 7, 2) := by decide +kernel
theorem dd_mo_system_164 : decode by_mo_system 164 = .ok (.ireturn, 1) := by decide +kernel
theorem dd_mo_system_165 : decode by_mo_system 165 = .ok (.iload_n 2, 1) := by decide +kernel
theorem dd_mo_system_166 : decode by_mo_system 166 = .ok (.iconst 1, 1) := by decide +kernel
theorem dd_mo_system_167 : decode by_mo_system 167 = .ok (.if_icmp .ne 14, 3) := by decide +kernel
theorem dd_mo_system_170 : decode by_mo_system 170 = .ok (.aload_n 0, 1) := by decide +kernel
theorem dd_mo_system_171 : decode by_mo_system 171 = .ok (.getfield 13, 3) := by decide +kernel
theorem dd_mo_system_174 : decode by_mo_system 174 = .ok (.iload 4, 2) := by decide +kernel
theorem dd_mo_system_176 : decode by_mo_system 176 = .ok (.iload_n 3, 1) := by decide +kernel
theorem dd_mo_system_177 : decode by_mo_system 177 = .ok (.iastore, 1) := by decide +kernel
theorem dd_mo_system_178 : decode by_mo_system 178 = .ok (.goto 39, 3) := by decide +kernel
theorem dd_mo_system_181 : decode by_mo_system 181 = .ok (.aload_n 0, 1) := by decide +kernel
theorem dd_mo_system_182 : decode by_mo_system 182 = .ok (.getfield 16, 3) := by decide +kernel
theorem dd_mo_system_185 : decode by_mo_system 185 = .ok (.iload 4, 2) := by decide +kernel
theorem dd_mo_system_187 : decode by_mo_system 187 = .ok (.iload_n 3, 1) := by decide +kernel
theorem dd_mo_system_188 : decode by_mo_system 188 = .ok (.iastore, 1) := by decide +kernel
theorem dd_mo_system_189 : decode by_mo_system 189 = .ok (.iconst 0, 1) := by decide +kernel
theorem dd_mo_system_190 : decode by_mo_system 190 = .ok (.istore 6, 2) := by decide +kernel
theorem dd_mo_system_192 : decode by_mo_system 192 = .ok (.iload 6, 2) := by decide +kernel
theorem dd_mo_system_194 : decode by_mo_system 194 = .ok (.iconst 4, 1) := by decide +kernel
theorem dd_mo_system_195 : decode by_mo_system 195 = .ok (.if_icmp .ge 22, 3) := by decide +kernel
theorem dd_mo_system_198 : decode by_mo_system 198 = .ok (.aload_n 0, 1) := by decide +kernel
theorem dd_mo_system_199 : decode by_mo_system 199 = .ok (.getfield 19, 3) := by decide +kernel
theorem dd_mo_system_202 : decode by_mo_system 202 = .ok (.iconst 4, 1) := by decide +kernel
theorem dd_mo_system_203 : decode by_mo_system 203 = .ok (.iload 4, 2) := by decide +kernel
theorem dd_mo_system_205 : decode by_mo_system 205 = .ok (.imul, 1) := by decide +kernel
theorem dd_mo_system_206 : decode by_mo_system 206 = .ok (.iload 6, 2) := by decide +kernel
theorem dd_mo_system_208 : decode by_mo_system 208 = .ok (.iadd, 1) := by decide +kernel
theorem dd_mo_system_209 : decode by_mo_system 209 = .ok (.iconst 0, 1) := by decide +kernel
theorem dd_mo_system_210 : decode by_mo_system 210 = .ok (.iastore, 1) := by decide +kernel
theorem dd_mo_system_211 : decode by_mo_system 211 = .ok (.iinc 6 1, 3) := by decide +kernel
theorem dd_mo_system_214 : decode by_mo_system 214 = .ok (.goto (-22), 3) := by decide +kernel
theorem dd_mo_system_217 : decode by_mo_system 217 = .ok (.iconst 0, 1) := by decide +kernel
theorem dd_mo_system_218 : decode by_mo_system 218 = .ok (.ireturn, 1) := by decide +kernel
def mo_system_b192 (K192 : gw_M → Nat → Int32 → Int32 → Option (Int32 × gw_M)) (M : gw_M) (a0 : Nat) (v4 : Int32) (v6 : Int32) : Option (Int32 × gw_M) :=
  if (4 : Int32) ≤ v6 then (some ((0 : Int32), M)) else (gw_gu (gw_in (((4 : Int32) * v4) + v6) 64) (gw_lt (gw_sI M (a0 + 4) ((((4 : Int32) * v4) + v6).toNatClampNeg) (0 : Int32)) (fun M210 => K192 M210 a0 v4 (v6 + (1 : Int32)))))
def mo_system_l192 : Nat → gw_M → Nat → Int32 → Int32 → Option (Int32 × gw_M)
  | 0 => fun _ _ _ _ => none
  | n + 1 => mo_system_b192  (mo_system_l192  n)
def mo_system_b165 (M : gw_M) (a0 : Nat) (v2 : Int32) (v3 : Int32) (v4 : Int32) : Option (Int32 × gw_M) :=
  if v2 = (1 : Int32) then (gw_gu (gw_in v4 16) (gw_lt (gw_sI M (a0 + 2) v4.toNatClampNeg v3) (fun M177 => some ((0 : Int32), M177)))) else (gw_gu (gw_in v4 16) (gw_lt (gw_sI M (a0 + 3) v4.toNatClampNeg v3) (fun M188 => mo_system_l192  2100 M188 a0 v4 (0 : Int32))))
def mo_system_b114 (M : gw_M) (a0 : Nat) (v1 : Int32) (v2 : Int32) (v3 : Int32) (v4 : Int32) : Option (Int32 × gw_M) :=
  gw_bd (mo_signed_b0 M a0 v1 v4) (fun r118 M118 => if r118 = (0 : Int32) then (some ((10 : Int32), M118)) else (gw_bd (mo_writable_b0 M118 a0 v1 v4) (fun r128 M128 => if r128 = (0 : Int32) then (some ((10 : Int32), M128)) else (gw_gu (gw_in v4 16) (if (M128.1 (a0 + 2) v4.toNatClampNeg) = (0 : Int32) then (if v2 = (2 : Int32) then (gw_gu (gw_in v4 16) (if (M128.1 (a0 + 3) v4.toNatClampNeg) = (0 : Int32) then (mo_system_b165  M128 a0 v2 v3 v4) else (some ((7 : Int32), M128)))) else (mo_system_b165  M128 a0 v2 v3 v4)) else (some ((7 : Int32), M128)))))))
def mo_system_b0 (M : gw_M) (a0 : Nat) (v1 : Int32) : Option (Int32 × gw_M) :=
  gw_bd (mo_pay_b0 M a0 (2 : Int32)) (fun r2 M2 => if r2 = (0 : Int32) then (some ((3 : Int32), M2)) else (gw_gu (gw_in v1 9) (gw_lt ((M2.1 (a0 + 13) v1.toNatClampNeg) &&& (3 : Int32)) (fun x18 => gw_gu (gw_in v1 9) (gw_lt ((M2.1 (a0 + 13) v1.toNatClampNeg) >>> ((2 : Int32) &&& 31)) (fun x27 => gw_gu (gw_in ((4 : Int32) * v1) 36) (gw_lt (M2.1 (a0 + 15) (((4 : Int32) * v1).toNatClampNeg)) (fun x36 => gw_gu (gw_in (((4 : Int32) * v1) + (1 : Int32)) 36) (gw_lt (M2.1 (a0 + 15) ((((4 : Int32) * v1) + (1 : Int32)).toNatClampNeg)) (fun x48 => if x18 = (0 : Int32) then (gw_bd (mo_transfer_b0 M2 a0 v1 x36 x48 x27) (fun r61 M61 => some (r61, M61))) else (if x18 = (3 : Int32) then (some ((13 : Int32), M2)) else (gw_gu (gw_in v1 9) (if (M2.1 (a0 + 14) v1.toNatClampNeg) = (0 : Int32) then (some ((13 : Int32), M2)) else (if x18 = (1 : Int32) then (gw_bd (mo_in_b0 M2 x27.toInt64 (1 : Int64) (3 : Int64)) (fun r90 M90 => if r90 = (0 : Int32) then (some ((13 : Int32), M90)) else (mo_system_b114  M90 a0 v1 x18 x27 x36))) else (gw_bd (mo_in_b0 M2 x27.toInt64 (0 : Int64) (4 : Int64)) (fun r105 M105 => if r105 = (0 : Int32) then (some ((13 : Int32), M105)) else (mo_system_b114  M105 a0 v1 x18 x27 x36)))))))))))))))))
set_option maxRecDepth 100000 in
set_option maxHeartbeats 4000000 in
theorem wb_mo_system_192 {p : Program} {l : Launch} {e : Env} {s : State} {m : MethodId} {args : Array Value} {below : List Frame} {meth : Method} {c : Code} {X : gw_X} {Y : gw_M} {z : (Int32 × gw_M)} (C0 : gw_C ((Cond.code yy_mo_system by_mo_system 7 (some .int)) :: gw_w) by_mo_system 7 (some .int) "AccountMachineModel" X p s m args meth c) {K192 : gw_M → Nat → Int32 → Int32 → Option (Int32 × gw_M)} (hK192 : ∀ (M : gw_M) (a0 : Nat) (v4 : Int32) (v6 : Int32) (H : Heap) (locs : List Loc) (ls : Array Slot), gr_k a0 = (11, 0) → gw_G X (gw_E X Y M) s H locs → lv_has ls 7 [(0, .ref (gr_a X a0)), (4, .int v4), (6, .int v6)] → K192 M a0 v4 v6 = some z → W p l e rm_mo_system s m args below meth c H locs 0 0 (MQ below (gw_Qi X (fun M => (gw_E X Y M)) z) args s 0 0 (gw_A X)) (F0 m 192 ls [])) (M : gw_M) (a0 : Nat) (v4 : Int32) (v6 : Int32) (H : Heap) (locs : List Loc) (ls : Array Slot) (ha0 : gr_k a0 = (11, 0)) (G : gw_G X (gw_E X Y M) s H locs) (hl : lv_has ls 7 [(0, .ref (gr_a X a0)), (4, .int v4), (6, .int v6)]) (hF : mo_system_b192 K192 M a0 v4 v6 = some z) : W p l e rm_mo_system s m args below meth c H locs 0 0 (MQ below (gw_Qi X (fun M => (gw_E X Y M)) z) args s 0 0 (gw_A X)) (F0 m 192 ls []) := by
  obtain ⟨hx, hb, hml, hown, hts, hr, hlocks, hK⟩ := id C0
  have hg : ∀ w ∈ gw_w, w.before args s = true := fun w h => hts w (List.mem_cons_of_mem _ h)
  unfold mo_system_b192 at hF
  refine lv_iload hx hb dd_mo_system_192 (lv_at hl 2 rfl) ?_
  refine lv_iconst (v := (4 : Int32)) hx hb dd_mo_system_194 (by decide) ?_
  refine lv_icmp_ge (tgt := 217) hx hb dd_mo_system_195 (by decide) (fun h195 => ?_) (fun h195 => ?_)
  · replace hF := gw_et h195 hF
    refine lv_iconst (v := (0 : Int32)) hx hb dd_mo_system_217 (by decide) ?_
    exact W.iret hx hb hr (fun t ht hW => gw_endi (EF := (fun M => (gw_E X Y M))) (M := M) G ht hF) G.2.2.2.2 dd_mo_system_218 hlocks
  · replace hF := gw_ef h195 hF
    refine lv_aload_n hx hb dd_mo_system_198 rfl (lv_at hl 0 rfl) ?_
    refine gf_mo_words hx hb hg hown (hg _ kw_287) hK G ha0 dd_mo_system_199 ?_
    refine lv_iconst (v := (4 : Int32)) hx hb dd_mo_system_202 (by decide) ?_
    refine lv_iload hx hb dd_mo_system_203 (lv_at hl 1 rfl) ?_
    refine lv_imul hx hb dd_mo_system_205 ?_
    refine lv_iload hx hb dd_mo_system_206 (lv_at hl 2 rfl) ?_
    refine lv_iadd hx hb dd_mo_system_208 ?_
    refine lv_iconst (v := (0 : Int32)) hx hb dd_mo_system_209 (by decide) ?_
    obtain ⟨h210, hF⟩ := gw_gd hF
    refine gr_iast hx hb hK G (gq_mo_words ha0) (gw_vp h210) (j := (((4 : Int32) * v4) + v6).toNatClampNeg) rfl dd_mo_system_210 (fun M210 H locs e210 G => ?_)
    replace hF := gw_ly e210 hF
    refine W.eq (g2 := F0 m 211 _ _) rfl ?_
    refine lv_iinc (k := 2) (v := v6 + (1 : Int32)) (lv' := [(6, .int (v6 + (1 : Int32))), (0, .ref (gr_a X a0)), (4, .int v4)]) hx hb dd_mo_system_211 hl rfl rfl (by decide) rfl (fun ls hl => ?_)
    refine lv_goto (tgt := 192) hx hb dd_mo_system_214 (by decide) ?_
    exact hK192 M210 a0 v4 (v6 + (1 : Int32)) _ _ _ ha0 G (lv_sub hl [1, 2, 0] rfl) hF
theorem wl_mo_system_192 {p : Program} {l : Launch} {e : Env} {s : State} {m : MethodId} {args : Array Value} {below : List Frame} {meth : Method} {c : Code} {X : gw_X} {Y : gw_M} {z : (Int32 × gw_M)} (C0 : gw_C ((Cond.code yy_mo_system by_mo_system 7 (some .int)) :: gw_w) by_mo_system 7 (some .int) "AccountMachineModel" X p s m args meth c) : ∀ n : Nat, ∀ (M : gw_M) (a0 : Nat) (v4 : Int32) (v6 : Int32) (H : Heap) (locs : List Loc) (ls : Array Slot), gr_k a0 = (11, 0) → gw_G X (gw_E X Y M) s H locs → lv_has ls 7 [(0, .ref (gr_a X a0)), (4, .int v4), (6, .int v6)] → mo_system_l192  n M a0 v4 v6 = some z → W p l e rm_mo_system s m args below meth c H locs 0 0 (MQ below (gw_Qi X (fun M => (gw_E X Y M)) z) args s 0 0 (gw_A X)) (F0 m 192 ls []) := by
  intro n
  induction n with
  | zero =>
    intro M a0 v4 v6 H locs ls ha0 G hl hF
    have hF : (none : Option (Int32 × gw_M)) = some z := hF
    cases hF
  | succ n ih =>
    intro M a0 v4 v6 H locs ls ha0 G hl hF
    exact wb_mo_system_192 C0  ih M a0 v4 v6 H locs ls ha0 G hl hF
set_option maxRecDepth 100000 in
set_option maxHeartbeats 4000000 in
theorem wb_mo_system_165 {p : Program} {l : Launch} {e : Env} {s : State} {m : MethodId} {args : Array Value} {below : List Frame} {meth : Method} {c : Code} {X : gw_X} {Y : gw_M} {z : (Int32 × gw_M)} (C0 : gw_C ((Cond.code yy_mo_system by_mo_system 7 (some .int)) :: gw_w) by_mo_system 7 (some .int) "AccountMachineModel" X p s m args meth c) (M : gw_M) (a0 : Nat) (v2 : Int32) (v3 : Int32) (v4 : Int32) (H : Heap) (locs : List Loc) (ls : Array Slot) (ha0 : gr_k a0 = (11, 0)) (G : gw_G X (gw_E X Y M) s H locs) (hl : lv_has ls 7 [(0, .ref (gr_a X a0)), (2, .int v2), (3, .int v3), (4, .int v4)]) (hF : mo_system_b165  M a0 v2 v3 v4 = some z) : W p l e rm_mo_system s m args below meth c H locs 0 0 (MQ below (gw_Qi X (fun M => (gw_E X Y M)) z) args s 0 0 (gw_A X)) (F0 m 165 ls []) := by
  obtain ⟨hx, hb, hml, hown, hts, hr, hlocks, hK⟩ := id C0
  have hg : ∀ w ∈ gw_w, w.before args s = true := fun w h => hts w (List.mem_cons_of_mem _ h)
  unfold mo_system_b165 at hF
  refine lv_iload_n hx hb dd_mo_system_165 rfl (lv_at hl 1 rfl) ?_
  refine lv_iconst (v := (1 : Int32)) hx hb dd_mo_system_166 (by decide) ?_
  refine lv_icmp_ne (tgt := 181) hx hb dd_mo_system_167 (by decide) (fun h167 => ?_) (fun h167 => ?_)
  · replace hF := gw_ef h167 hF
    refine lv_aload_n hx hb dd_mo_system_181 rfl (lv_at hl 0 rfl) ?_
    refine gf_mo_sizes hx hb hg hown (hg _ kw_286) hK G ha0 dd_mo_system_182 ?_
    refine lv_iload hx hb dd_mo_system_185 (lv_at hl 3 rfl) ?_
    refine lv_iload_n hx hb dd_mo_system_187 rfl (lv_at hl 2 rfl) ?_
    obtain ⟨h188, hF⟩ := gw_gd hF
    refine gr_iast hx hb hK G (gq_mo_sizes ha0) (gw_vp h188) (j := v4.toNatClampNeg) rfl dd_mo_system_188 (fun M188 H locs e188 G => ?_)
    replace hF := gw_ly e188 hF
    refine lv_iconst (v := (0 : Int32)) hx hb dd_mo_system_189 (by decide) ?_
    refine lv_istore (i := 6) (lv' := [(6, .int (0 : Int32)), (0, .ref (gr_a X a0)), (2, .int v2), (3, .int v3), (4, .int v4)]) hx hb dd_mo_system_190 hl (by decide) rfl (fun ls hl => ?_)
    exact wl_mo_system_192 C0  2100 M188 a0 v4 (0 : Int32) _ _ _ ha0 G (lv_sub hl [1, 4, 0] rfl) hF
  · replace hF := gw_et h167 hF
    refine lv_aload_n hx hb dd_mo_system_170 rfl (lv_at hl 0 rfl) ?_
    refine gf_mo_owners hx hb hg hown (hg _ kw_292) hK G ha0 dd_mo_system_171 ?_
    refine lv_iload hx hb dd_mo_system_174 (lv_at hl 3 rfl) ?_
    refine lv_iload_n hx hb dd_mo_system_176 rfl (lv_at hl 2 rfl) ?_
    obtain ⟨h177, hF⟩ := gw_gd hF
    refine gr_iast hx hb hK G (gq_mo_owners ha0) (gw_vp h177) (j := v4.toNatClampNeg) rfl dd_mo_system_177 (fun M177 H locs e177 G => ?_)
    replace hF := gw_ly e177 hF
    refine lv_goto (tgt := 217) hx hb dd_mo_system_178 (by decide) ?_
    refine lv_iconst (v := (0 : Int32)) hx hb dd_mo_system_217 (by decide) ?_
    exact W.iret hx hb hr (fun t ht hW => gw_endi (EF := (fun M => (gw_E X Y M))) (M := M177) G ht hF) G.2.2.2.2 dd_mo_system_218 hlocks
set_option maxRecDepth 100000 in
set_option maxHeartbeats 4000000 in
theorem wb_mo_system_114 {p : Program} {l : Launch} {e : Env} {s : State} {m : MethodId} {args : Array Value} {below : List Frame} {meth : Method} {c : Code} {X : gw_X} {Y : gw_M} {z : (Int32 × gw_M)} (C0 : gw_C ((Cond.code yy_mo_system by_mo_system 7 (some .int)) :: gw_w) by_mo_system 7 (some .int) "AccountMachineModel" X p s m args meth c) (M : gw_M) (a0 : Nat) (v1 : Int32) (v2 : Int32) (v3 : Int32) (v4 : Int32) (H : Heap) (locs : List Loc) (ls : Array Slot) (ha0 : gr_k a0 = (11, 0)) (G : gw_G X (gw_E X Y M) s H locs) (hl : lv_has ls 7 [(0, .ref (gr_a X a0)), (1, .int v1), (2, .int v2), (3, .int v3), (4, .int v4)]) (hF : mo_system_b114  M a0 v1 v2 v3 v4 = some z) : W p l e rm_mo_system s m args below meth c H locs 0 0 (MQ below (gw_Qi X (fun M => (gw_E X Y M)) z) args s 0 0 (gw_A X)) (F0 m 114 ls []) := by
  obtain ⟨hx, hb, hml, hown, hts, hr, hlocks, hK⟩ := id C0
  have hg : ∀ w ∈ gw_w, w.before args s = true := fun w h => hts w (List.mem_cons_of_mem _ h)
  unfold mo_system_b114 at hF
  refine lv_aload_n hx hb dd_mo_system_114 rfl (lv_at hl 0 rfl) ?_
  refine lv_iload_n hx hb dd_mo_system_115 rfl (lv_at hl 1 rfl) ?_
  refine lv_iload hx hb dd_mo_system_116 (lv_at hl 4 rfl) ?_
  obtain ⟨r118, M118, hc118, hF⟩ := gw_be hF
  refine gw_ci G (va_runV (As := [.int v1, .int v4]) (rest := []) ⟨hx, hb, hml, hown, hts⟩ (ct_mo_signed l X Y M a0 v1 v4 ha0 _ hc118) (cwV 2 hts (gw_gV kw_316 kw_317 kw_318 kw_253 kw_315) rfl rfl rfl (by decide +kernel) ⟨Nat.le_of_ble_eq_true rfl, Nat.le_of_ble_eq_true rfl⟩) ⟨gw_blind, gw_recv_mo hK G ha0, gw_pre hK G⟩ rfl rfl hl.1 rfl (Nat.le_of_ble_eq_true rfl) dd_mo_system_118 ⟨Nat.le_of_ble_eq_true rfl, Nat.le_of_ble_eq_true rfl⟩) (fun H locs G => ?_)
  refine lv_if_eq (tgt := 134) hx hb dd_mo_system_121 (by decide) (fun h121 => ?_) (fun h121 => ?_)
  · replace hF := gw_et h121 hF
    refine lv_bipush (v := (10 : Int32)) hx hb dd_mo_system_134 (by decide) ?_
    exact W.iret hx hb hr (fun t ht hW => gw_endi (EF := (fun M => (gw_E X Y M))) (M := M118) G ht hF) G.2.2.2.2 dd_mo_system_136 hlocks
  · replace hF := gw_ef h121 hF
    refine lv_aload_n hx hb dd_mo_system_124 rfl (lv_at hl 0 rfl) ?_
    refine lv_iload_n hx hb dd_mo_system_125 rfl (lv_at hl 1 rfl) ?_
    refine lv_iload hx hb dd_mo_system_126 (lv_at hl 4 rfl) ?_
    obtain ⟨r128, M128, hc128, hF⟩ := gw_be hF
    refine gw_ci G (va_runV (As := [.int v1, .int v4]) (rest := []) ⟨hx, hb, hml, hown, hts⟩ (ct_mo_writable l X Y M118 a0 v1 v4 ha0 _ hc128) (cwV 2 hts (gw_gV kw_307 kw_308 kw_309 kw_253 kw_306) rfl rfl rfl (by decide +kernel) ⟨Nat.le_of_ble_eq_true rfl, Nat.le_of_ble_eq_true rfl⟩) ⟨gw_blind, gw_recv_mo hK G ha0, gw_pre hK G⟩ rfl rfl hl.1 rfl (Nat.le_of_ble_eq_true rfl) dd_mo_system_128 ⟨Nat.le_of_ble_eq_true rfl, Nat.le_of_ble_eq_true rfl⟩) (fun H locs G => ?_)
    refine lv_if_ne (tgt := 137) hx hb dd_mo_system_131 (by decide) (fun h131 => ?_) (fun h131 => ?_)
    · replace hF := gw_ef h131 hF
      refine lv_aload_n hx hb dd_mo_system_137 rfl (lv_at hl 0 rfl) ?_
      refine gf_mo_owners hx hb hg hown (hg _ kw_292) hK G ha0 dd_mo_system_138 ?_
      refine lv_iload hx hb dd_mo_system_141 (lv_at hl 4 rfl) ?_
      obtain ⟨h143, hF⟩ := gw_gd hF
      refine gr_iald hx hb hK G (gq_mo_owners ha0) (gw_vp h143) (j := v4.toNatClampNeg) rfl dd_mo_system_143 ?_
      refine lv_if_ne (tgt := 162) hx hb dd_mo_system_144 (by decide) (fun h144 => ?_) (fun h144 => ?_)
      · replace hF := gw_ef h144 hF
        refine lv_bipush (v := (7 : Int32)) hx hb dd_mo_system_162 (by decide) ?_
        exact W.iret hx hb hr (fun t ht hW => gw_endi (EF := (fun M => (gw_E X Y M))) (M := M128) G ht hF) G.2.2.2.2 dd_mo_system_164 hlocks
      · replace hF := gw_et h144 hF
        refine lv_iload_n hx hb dd_mo_system_147 rfl (lv_at hl 2 rfl) ?_
        refine lv_iconst (v := (2 : Int32)) hx hb dd_mo_system_148 (by decide) ?_
        refine lv_icmp_ne (tgt := 165) hx hb dd_mo_system_149 (by decide) (fun h149 => ?_) (fun h149 => ?_)
        · replace hF := gw_ef h149 hF
          exact wb_mo_system_165 C0  M128 a0 v2 v3 v4 _ _ _ ha0 G (lv_sub hl [0, 2, 3, 4] rfl) hF
        · replace hF := gw_et h149 hF
          refine lv_aload_n hx hb dd_mo_system_152 rfl (lv_at hl 0 rfl) ?_
          refine gf_mo_sizes hx hb hg hown (hg _ kw_286) hK G ha0 dd_mo_system_153 ?_
          refine lv_iload hx hb dd_mo_system_156 (lv_at hl 4 rfl) ?_
          obtain ⟨h158, hF⟩ := gw_gd hF
          refine gr_iald hx hb hK G (gq_mo_sizes ha0) (gw_vp h158) (j := v4.toNatClampNeg) rfl dd_mo_system_158 ?_
          refine lv_if_eq (tgt := 165) hx hb dd_mo_system_159 (by decide) (fun h159 => ?_) (fun h159 => ?_)
          · replace hF := gw_et h159 hF
            exact wb_mo_system_165 C0  M128 a0 v2 v3 v4 _ _ _ ha0 G (lv_sub hl [0, 2, 3, 4] rfl) hF
          · replace hF := gw_ef h159 hF
            refine lv_bipush (v := (7 : Int32)) hx hb dd_mo_system_162 (by decide) ?_
            exact W.iret hx hb hr (fun t ht hW => gw_endi (EF := (fun M => (gw_E X Y M))) (M := M128) G ht hF) G.2.2.2.2 dd_mo_system_164 hlocks
    · replace hF := gw_et h131 hF
      refine lv_bipush (v := (10 : Int32)) hx hb dd_mo_system_134 (by decide) ?_
      exact W.iret hx hb hr (fun t ht hW => gw_endi (EF := (fun M => (gw_E X Y M))) (M := M128) G ht hF) G.2.2.2.2 dd_mo_system_136 hlocks
set_option maxRecDepth 100000 in
set_option maxHeartbeats 4000000 in
theorem wb_mo_system_0 {p : Program} {l : Launch} {e : Env} {s : State} {m : MethodId} {args : Array Value} {below : List Frame} {meth : Method} {c : Code} {X : gw_X} {Y : gw_M} {z : (Int32 × gw_M)} (C0 : gw_C ((Cond.code yy_mo_system by_mo_system 7 (some .int)) :: gw_w) by_mo_system 7 (some .int) "AccountMachineModel" X p s m args meth c) (M : gw_M) (a0 : Nat) (v1 : Int32) (H : Heap) (locs : List Loc) (ls : Array Slot) (ha0 : gr_k a0 = (11, 0)) (G : gw_G X (gw_E X Y M) s H locs) (hl : lv_has ls 7 [(0, .ref (gr_a X a0)), (1, .int v1)]) (hF : mo_system_b0  M a0 v1 = some z) : W p l e rm_mo_system s m args below meth c H locs 0 0 (MQ below (gw_Qi X (fun M => (gw_E X Y M)) z) args s 0 0 (gw_A X)) (F0 m 0 ls []) := by
  obtain ⟨hx, hb, hml, hown, hts, hr, hlocks, hK⟩ := id C0
  have hg : ∀ w ∈ gw_w, w.before args s = true := fun w h => hts w (List.mem_cons_of_mem _ h)
  unfold mo_system_b0 at hF
  refine lv_aload_n hx hb dd_mo_system_0 rfl (lv_at hl 0 rfl) ?_
  refine lv_iconst (v := (2 : Int32)) hx hb dd_mo_system_1 (by decide) ?_
  obtain ⟨r2, M2, hc2, hF⟩ := gw_be hF
  refine gw_ci G (va_runV (As := [.int (2 : Int32)]) (rest := []) ⟨hx, hb, hml, hown, hts⟩ (ct_mo_pay l X Y M a0 (2 : Int32) ha0 _ hc2) (cwV 1 hts (gw_gV kw_324 kw_325 kw_326 kw_253 kw_323) rfl rfl rfl (by decide +kernel) ⟨Nat.le_of_ble_eq_true rfl, Nat.le_of_ble_eq_true rfl⟩) ⟨gw_blind, gw_recv_mo hK G ha0, gw_pre hK G⟩ rfl rfl hl.1 rfl (Nat.le_of_ble_eq_true rfl) dd_mo_system_2 ⟨Nat.le_of_ble_eq_true rfl, Nat.le_of_ble_eq_true rfl⟩) (fun H locs G => ?_)
  refine lv_if_ne (tgt := 10) hx hb dd_mo_system_5 (by decide) (fun h5 => ?_) (fun h5 => ?_)
  · replace hF := gw_ef h5 hF
    refine lv_aload_n hx hb dd_mo_system_10 rfl (lv_at hl 0 rfl) ?_
    refine gf_mo_argument hx hb hg hown (hg _ kw_272) hK G ha0 dd_mo_system_11 ?_
    refine lv_iload_n hx hb dd_mo_system_14 rfl (lv_at hl 1 rfl) ?_
    obtain ⟨h15, hF⟩ := gw_gd hF
    refine gr_iald hx hb hK G (gq_mo_argument ha0) (gw_vp h15) (j := v1.toNatClampNeg) rfl dd_mo_system_15 ?_
    refine lv_iconst (v := (3 : Int32)) hx hb dd_mo_system_16 (by decide) ?_
    refine lv_iand hx hb dd_mo_system_17 ?_
    refine lv_topi (fun x18 e18 => ?_)
    replace hF := gw_ly e18 hF
    refine lv_istore_n (i := 2) (lv' := [(2, .int x18), (0, .ref (gr_a X a0)), (1, .int v1)]) hx hb dd_mo_system_18 rfl hl (by decide) rfl (fun ls hl => ?_)
    refine lv_aload_n hx hb dd_mo_system_19 rfl (lv_at hl 1 rfl) ?_
    refine gf_mo_argument hx hb hg hown (hg _ kw_272) hK G ha0 dd_mo_system_20 ?_
    refine W.eq (g2 := F0 m 23 _ _) rfl ?_
    refine lv_iload_n hx hb dd_mo_system_23 rfl (lv_at hl 2 rfl) ?_
    obtain ⟨h24, hF⟩ := gw_gd hF
    refine gr_iald hx hb hK G (gq_mo_argument ha0) (gw_vp h24) (j := v1.toNatClampNeg) rfl dd_mo_system_24 ?_
    refine lv_iconst (v := (2 : Int32)) hx hb dd_mo_system_25 (by decide) ?_
    refine lv_ishr hx hb dd_mo_system_26 ?_
    refine lv_topi (fun x27 e27 => ?_)
    replace hF := gw_ly e27 hF
    refine lv_istore_n (i := 3) (lv' := [(3, .int x27), (2, .int x18), (0, .ref (gr_a X a0)), (1, .int v1)]) hx hb dd_mo_system_27 rfl hl (by decide) rfl (fun ls hl => ?_)
    refine lv_aload_n hx hb dd_mo_system_28 rfl (lv_at hl 2 rfl) ?_
    refine gf_mo_slotAccount hx hb hg hown (hg _ kw_274) hK G ha0 dd_mo_system_29 ?_
    refine lv_iconst (v := (4 : Int32)) hx hb dd_mo_system_32 (by decide) ?_
    refine lv_iload_n hx hb dd_mo_system_33 rfl (lv_at hl 3 rfl) ?_
    refine lv_imul hx hb dd_mo_system_34 ?_
    refine W.eq (g2 := F0 m 35 _ _) rfl ?_
    obtain ⟨h35, hF⟩ := gw_gd hF
    refine gr_iald hx hb hK G (gq_mo_slotAccount ha0) (gw_vp h35) (j := ((4 : Int32) * v1).toNatClampNeg) rfl dd_mo_system_35 ?_
    refine lv_topi (fun x36 e36 => ?_)
    replace hF := gw_ly e36 hF
    refine lv_istore (i := 4) (lv' := [(4, .int x36), (3, .int x27), (2, .int x18), (0, .ref (gr_a X a0)), (1, .int v1)]) hx hb dd_mo_system_36 hl (by decide) rfl (fun ls hl => ?_)
    refine lv_aload_n hx hb dd_mo_system_38 rfl (lv_at hl 3 rfl) ?_
    refine gf_mo_slotAccount hx hb hg hown (hg _ kw_274) hK G ha0 dd_mo_system_39 ?_
    refine lv_iconst (v := (4 : Int32)) hx hb dd_mo_system_42 (by decide) ?_
    refine lv_iload_n hx hb dd_mo_system_43 rfl (lv_at hl 4 rfl) ?_
    refine lv_imul hx hb dd_mo_system_44 ?_
    refine lv_iconst (v := (1 : Int32)) hx hb dd_mo_system_45 (by decide) ?_
    refine lv_iadd hx hb dd_mo_system_46 ?_
    obtain ⟨h47, hF⟩ := gw_gd hF
    refine gr_iald hx hb hK G (gq_mo_slotAccount ha0) (gw_vp h47) (j := (((4 : Int32) * v1) + (1 : Int32)).toNatClampNeg) rfl dd_mo_system_47 ?_
    refine W.eq (g2 := F0 m 48 _ _) rfl ?_
    refine lv_topi (fun x48 e48 => ?_)
    replace hF := gw_ly e48 hF
    refine lv_istore (i := 5) (lv' := [(5, .int x48), (4, .int x36), (3, .int x27), (2, .int x18), (0, .ref (gr_a X a0)), (1, .int v1)]) hx hb dd_mo_system_48 hl (by decide) rfl (fun ls hl => ?_)
    refine lv_iload_n hx hb dd_mo_system_50 rfl (lv_at hl 3 rfl) ?_
    refine lv_if_ne (tgt := 65) hx hb dd_mo_system_51 (by decide) (fun h51 => ?_) (fun h51 => ?_)
    · replace hF := gw_ef h51 hF
      refine lv_iload_n hx hb dd_mo_system_65 rfl (lv_at hl 3 rfl) ?_
      refine lv_iconst (v := (3 : Int32)) hx hb dd_mo_system_66 (by decide) ?_
      refine lv_icmp_eq (tgt := 111) hx hb dd_mo_system_67 (by decide) (fun h67 => ?_) (fun h67 => ?_)
      · replace hF := gw_et h67 hF
        refine lv_bipush (v := (13 : Int32)) hx hb dd_mo_system_111 (by decide) ?_
        exact W.iret hx hb hr (fun t ht hW => gw_endi (EF := (fun M => (gw_E X Y M))) (M := M2) G ht hF) G.2.2.2.2 dd_mo_system_113 hlocks
      · replace hF := gw_ef h67 hF
        refine lv_aload_n hx hb dd_mo_system_70 rfl (lv_at hl 4 rfl) ?_
        refine gf_mo_slots hx hb hg hown (hg _ kw_273) hK G ha0 dd_mo_system_71 ?_
        refine lv_iload_n hx hb dd_mo_system_74 rfl (lv_at hl 5 rfl) ?_
        obtain ⟨h75, hF⟩ := gw_gd hF
        refine gr_iald hx hb hK G (gq_mo_slots ha0) (gw_vp h75) (j := v1.toNatClampNeg) rfl dd_mo_system_75 ?_
        refine lv_if_eq (tgt := 111) hx hb dd_mo_system_76 (by decide) (fun h76 => ?_) (fun h76 => ?_)
        · replace hF := gw_et h76 hF
          refine lv_bipush (v := (13 : Int32)) hx hb dd_mo_system_111 (by decide) ?_
          exact W.iret hx hb hr (fun t ht hW => gw_endi (EF := (fun M => (gw_E X Y M))) (M := M2) G ht hF) G.2.2.2.2 dd_mo_system_113 hlocks
        · replace hF := gw_ef h76 hF
          refine lv_iload_n hx hb dd_mo_system_79 rfl (lv_at hl 3 rfl) ?_
          refine lv_iconst (v := (1 : Int32)) hx hb dd_mo_system_80 (by decide) ?_
          refine lv_icmp_ne (tgt := 99) hx hb dd_mo_system_81 (by decide) (fun h81 => ?_) (fun h81 => ?_)
          · replace hF := gw_ef h81 hF
            refine lv_iload_n hx hb dd_mo_system_99 rfl (lv_at hl 2 rfl) ?_
            refine lv_i2l (v := x27.toInt64) hx hb dd_mo_system_100 rfl ?_
            refine lv_lconst (v := (0 : Int64)) hx hb dd_mo_system_101 (by decide) ?_
            refine lv_ldc2 (v := (4 : Int64)) hx hb hown (hg _ kw_304) dd_mo_system_102 ?_
            obtain ⟨r105, M105, hc105, hF⟩ := gw_be hF
            refine gw_ci G (va_runS (As := [.long x27.toInt64, .long (0 : Int64), .long (4 : Int64)]) (rest := []) ⟨hx, hb, hml, hown, hts⟩ (ct_mo_in l X Y M2 x27.toInt64 (0 : Int64) (4 : Int64)  _ hc105) (cwS 3 hts (gw_gS kw_251 kw_252 kw_253 kw_250) rfl rfl rfl (by decide +kernel) ⟨Nat.le_of_ble_eq_true rfl, Nat.le_of_ble_eq_true rfl⟩) ⟨gw_blind, gw_pre hK G⟩ rfl rfl hl.1 rfl (Nat.le_of_ble_eq_true rfl) dd_mo_system_105 ⟨Nat.le_of_ble_eq_true rfl, Nat.le_of_ble_eq_true rfl⟩) (fun H locs G => ?_)
            refine lv_if_ne (tgt := 114) hx hb dd_mo_system_108 (by decide) (fun h108 => ?_) (fun h108 => ?_)
            · replace hF := gw_ef h108 hF
              exact wb_mo_system_114 C0  M105 a0 v1 x18 x27 x36 _ _ _ ha0 G (lv_sub hl [4, 5, 3, 2, 1] rfl) hF
            · replace hF := gw_et h108 hF
              refine lv_bipush (v := (13 : Int32)) hx hb dd_mo_system_111 (by decide) ?_
              exact W.iret hx hb hr (fun t ht hW => gw_endi (EF := (fun M => (gw_E X Y M))) (M := M105) G ht hF) G.2.2.2.2 dd_mo_system_113 hlocks
          · replace hF := gw_et h81 hF
            refine lv_iload_n hx hb dd_mo_system_84 rfl (lv_at hl 2 rfl) ?_
            refine lv_i2l (v := x27.toInt64) hx hb dd_mo_system_85 rfl ?_
            refine lv_lconst (v := (1 : Int64)) hx hb dd_mo_system_86 (by decide) ?_
            refine lv_ldc2 (v := (3 : Int64)) hx hb hown (hg _ kw_249) dd_mo_system_87 ?_
            obtain ⟨r90, M90, hc90, hF⟩ := gw_be hF
            refine gw_ci G (va_runS (As := [.long x27.toInt64, .long (1 : Int64), .long (3 : Int64)]) (rest := []) ⟨hx, hb, hml, hown, hts⟩ (ct_mo_in l X Y M2 x27.toInt64 (1 : Int64) (3 : Int64)  _ hc90) (cwS 3 hts (gw_gS kw_251 kw_252 kw_253 kw_250) rfl rfl rfl (by decide +kernel) ⟨Nat.le_of_ble_eq_true rfl, Nat.le_of_ble_eq_true rfl⟩) ⟨gw_blind, gw_pre hK G⟩ rfl rfl hl.1 rfl (Nat.le_of_ble_eq_true rfl) dd_mo_system_90 ⟨Nat.le_of_ble_eq_true rfl, Nat.le_of_ble_eq_true rfl⟩) (fun H locs G => ?_)
            refine lv_if_ne (tgt := 114) hx hb dd_mo_system_93 (by decide) (fun h93 => ?_) (fun h93 => ?_)
            · replace hF := gw_ef h93 hF
              exact wb_mo_system_114 C0  M90 a0 v1 x18 x27 x36 _ _ _ ha0 G (lv_sub hl [4, 5, 3, 2, 1] rfl) hF
            · replace hF := gw_et h93 hF
              refine lv_goto (tgt := 111) hx hb dd_mo_system_96 (by decide) ?_
              refine lv_bipush (v := (13 : Int32)) hx hb dd_mo_system_111 (by decide) ?_
              exact W.iret hx hb hr (fun t ht hW => gw_endi (EF := (fun M => (gw_E X Y M))) (M := M90) G ht hF) G.2.2.2.2 dd_mo_system_113 hlocks
    · replace hF := gw_et h51 hF
      refine lv_aload_n hx hb dd_mo_system_54 rfl (lv_at hl 4 rfl) ?_
      refine lv_iload_n hx hb dd_mo_system_55 rfl (lv_at hl 5 rfl) ?_
      refine lv_iload hx hb dd_mo_system_56 (lv_at hl 1 rfl) ?_
      refine lv_iload hx hb dd_mo_system_58 (lv_at hl 0 rfl) ?_
      refine lv_iload_n hx hb dd_mo_system_60 rfl (lv_at hl 2 rfl) ?_
      obtain ⟨r61, M61, hc61, hF⟩ := gw_be hF
      refine gw_ci G (va_runV (As := [.int v1, .int x36, .int x48, .int x27]) (rest := []) ⟨hx, hb, hml, hown, hts⟩ (ct_mo_transfer l X Y M2 a0 v1 x36 x48 x27 ha0 _ hc61) (cwV 4 hts (gw_gV kw_328 kw_329 kw_330 kw_253 kw_327) rfl rfl rfl (by decide +kernel) ⟨Nat.le_of_ble_eq_true rfl, Nat.le_of_ble_eq_true rfl⟩) ⟨gw_blind, gw_recv_mo hK G ha0, gw_pre hK G⟩ rfl rfl hl.1 rfl (Nat.le_of_ble_eq_true rfl) dd_mo_system_61 ⟨Nat.le_of_ble_eq_true rfl, Nat.le_of_ble_eq_true rfl⟩) (fun H locs G => ?_)
      exact W.iret hx hb hr (fun t ht hW => gw_endi (EF := (fun M => (gw_E X Y M))) (M := M61) G ht hF) G.2.2.2.2 dd_mo_system_64 hlocks
  · replace hF := gw_et h5 hF
    refine lv_iconst (v := (3 : Int32)) hx hb dd_mo_system_8 (by decide) ?_
    exact W.iret hx hb hr (fun t ht hW => gw_endi (EF := (fun M => (gw_E X Y M))) (M := M2) G ht hF) G.2.2.2.2 dd_mo_system_9 hlocks
set_option maxRecDepth 100000 in
set_option maxHeartbeats 4000000 in
theorem ct_mo_system (l : Launch) (X : gw_X) (Y : gw_M) (M : gw_M) (a0 : Nat) (v1 : Int32) (ha0 : gr_k a0 = (11, 0)) (z : (Int32 × gw_M)) (hF : mo_system_b0 M a0 v1 = some z) : Met l yy_mo_system ((Cond.code yy_mo_system by_mo_system 7 (some .int)) :: gw_w) rm_mo_system (va_Pc [.ref (gr_a X a0), .int v1] (gw_B X (gw_E X Y M))) (gw_Qi X (fun M => (gw_E X Y M)) z) 0 0 (gw_A X) := by
  refine Met.ofW (cc := by_mo_system) (maxL := 7) (ret := (some .int)) (by decide) rfl ?_
  intro p e s m args below meth c s₁ B hml hv
  obtain ⟨rfl, hB⟩ := hv
  rw [lg_entry_eq]
  have hl := lv_entry ([.ref (gr_a X a0), .int v1]) (n := 7) (Nat.le_of_ble_eq_true rfl)
  generalize (lg_sl ([.ref (gr_a X a0), .int v1]) ++ List.replicate (7 - (lg_sl ([.ref (gr_a X a0), .int v1])).length) Slot.unset).toArray = ls at hl ⊢
  have hl : lv_has ls 7 [(0, .ref (gr_a X a0)), (1, .int v1)] := hl
  exact wb_mo_system_0 (gw_ctx B hml rfl hB) M a0 v1 _ _ _ ha0 (gw_start hB) hl hF
/-! AccountMachineModel.comeBack(I)V -/
abbrev rm_mo_comeBack : Room := { frames := 2, cells := 0, slots := 0, locals := 50 }
theorem dd_mo_comeBack_0 : decode by_mo_comeBack 0 = .ok (.aload_n 0, 1) := by decide +kernel
theorem dd_mo_comeBack_1 : decode by_mo_comeBack 1 = .ok (.iload_n 1, 1) := by decide +kernel
theorem dd_mo_comeBack_2 : decode by_mo_comeBack 2 = .ok (.invokevirtual 119, 3) := by decide +kernel
theorem dd_mo_comeBack_5 : decode by_mo_comeBack 5 = .ok (.aload_n 0, 1) := by decide +kernel
theorem dd_mo_comeBack_6 : decode by_mo_comeBack 6 = .ok (.getfield 62, 3) := by decide +kernel
theorem dd_mo_comeBack_9 : decode by_mo_comeBack 9 = .ok (.bipush 10, 2) := by decide +kernel
theorem dd_mo_comeBack_11 : decode by_mo_comeBack 11 = .ok (.iload_n 1, 1) := by decide +kernel
theorem dd_mo_comeBack_12 : decode by_mo_comeBack 12 = .ok (.imul, 1) := by decide +kernel
theorem dd_mo_comeBack_13 : decode by_mo_comeBack 13 = .ok (.lconst 0, 1) := by decide +kernel
theorem dd_mo_comeBack_14 : decode by_mo_comeBack 14 = .ok (.lastore, 1) := by decide +kernel
theorem dd_mo_comeBack_15 : decode by_mo_comeBack 15 = .ok (.aload_n 0, 1) := by decide +kernel
theorem dd_mo_comeBack_16 : decode by_mo_comeBack 16 = .ok (.getfield 59, 3) := by decide +kernel
theorem dd_mo_comeBack_19 : decode by_mo_comeBack 19 = .ok (.iload_n 1, 1) := by decide +kernel
theorem dd_mo_comeBack_20 : decode by_mo_comeBack 20 = .ok (.dup2, 1) := by decide +kernel
theorem dd_mo_comeBack_21 : decode by_mo_comeBack 21 = .ok (.iaload, 1) := by decide +kernel
theorem dd_mo_comeBack_22 : decode by_mo_comeBack 22 = .ok (.iconst 1, 1) := by decide +kernel
theorem dd_mo_comeBack_23 : decode by_mo_comeBack 23 = .ok (.iadd, 1) := by decide +kernel
theorem dd_mo_comeBack_24 : decode by_mo_comeBack 24 = .ok (.iastore, 1) := by decide +kernel
theorem dd_mo_comeBack_25 : decode by_mo_comeBack 25 = .ok (.return_, 1) := by decide +kernel
def mo_comeBack_b0 (M : gw_M) (a0 : Nat) (v1 : Int32) : Option (Unit × gw_M) :=
  gw_bd (mo_layOut_b0 M a0 v1) (fun _ M2 => gw_gu (gw_in ((10 : Int32) * v1) 50) (gw_lt (gw_sL M2 (a0 + 18) (((10 : Int32) * v1).toNatClampNeg) (0 : Int64)) (fun M14 => gw_gu (gw_in v1 5) (gw_gu (gw_in v1 5) (gw_lt (gw_sI M14 (a0 + 17) v1.toNatClampNeg ((M14.1 (a0 + 17) v1.toNatClampNeg) + (1 : Int32))) (fun M24 => some ((), M24)))))))
set_option maxRecDepth 100000 in
set_option maxHeartbeats 4000000 in
theorem wb_mo_comeBack_0 {p : Program} {l : Launch} {e : Env} {s : State} {m : MethodId} {args : Array Value} {below : List Frame} {meth : Method} {c : Code} {X : gw_X} {Y : gw_M} {z : (Unit × gw_M)} (C0 : gw_C ((Cond.code yy_mo_comeBack by_mo_comeBack 2 none) :: gw_w) by_mo_comeBack 2 none "AccountMachineModel" X p s m args meth c) (M : gw_M) (a0 : Nat) (v1 : Int32) (H : Heap) (locs : List Loc) (ls : Array Slot) (ha0 : gr_k a0 = (11, 0)) (G : gw_G X (gw_E X Y M) s H locs) (hl : lv_has ls 2 [(0, .ref (gr_a X a0)), (1, .int v1)]) (hF : mo_comeBack_b0  M a0 v1 = some z) : W p l e rm_mo_comeBack s m args below meth c H locs 0 0 (MQ below (gw_Qv X (fun M => (gw_E X Y M)) z) args s 0 0 (gw_A X)) (F0 m 0 ls []) := by
  obtain ⟨hx, hb, hml, hown, hts, hr, hlocks, hK⟩ := id C0
  have hg : ∀ w ∈ gw_w, w.before args s = true := fun w h => hts w (List.mem_cons_of_mem _ h)
  unfold mo_comeBack_b0 at hF
  refine lv_aload_n hx hb dd_mo_comeBack_0 rfl (lv_at hl 0 rfl) ?_
  refine lv_iload_n hx hb dd_mo_comeBack_1 rfl (lv_at hl 1 rfl) ?_
  obtain ⟨u2, M2, hc2, hF⟩ := gw_be hF
  refine gw_cv G (va_runV (As := [.int v1]) (rest := []) ⟨hx, hb, hml, hown, hts⟩ (ct_mo_layOut l X Y M a0 v1 ha0 _ hc2) (cwV 1 hts (gw_gV kw_295 kw_296 kw_297 kw_253 kw_294) rfl rfl rfl (by decide +kernel) ⟨Nat.le_of_ble_eq_true rfl, Nat.le_of_ble_eq_true rfl⟩) ⟨gw_blind, gw_recv_mo hK G ha0, gw_pre hK G⟩ rfl rfl hl.1 rfl (Nat.le_of_ble_eq_true rfl) dd_mo_comeBack_2 ⟨Nat.le_of_ble_eq_true rfl, Nat.le_of_ble_eq_true rfl⟩) (fun H locs G => ?_)
  refine lv_aload_n hx hb dd_mo_comeBack_5 rfl (lv_at hl 0 rfl) ?_
  refine gf_mo_registers hx hb hg hown (hg _ kw_299) hK G ha0 dd_mo_comeBack_6 ?_
  refine lv_bipush (v := (10 : Int32)) hx hb dd_mo_comeBack_9 (by decide) ?_
  refine lv_iload_n hx hb dd_mo_comeBack_11 rfl (lv_at hl 1 rfl) ?_
  refine lv_imul hx hb dd_mo_comeBack_12 ?_
  refine lv_lconst (v := (0 : Int64)) hx hb dd_mo_comeBack_13 (by decide) ?_
  refine W.eq (g2 := F0 m 14 _ _) rfl ?_
  obtain ⟨h14, hF⟩ := gw_gd hF
  refine gr_last hx hb hK G (gq_mo_registers ha0) (gw_vp h14) (j := ((10 : Int32) * v1).toNatClampNeg) rfl dd_mo_comeBack_14 (fun M14 H locs e14 G => ?_)
  replace hF := gw_ly e14 hF
  refine lv_aload_n hx hb dd_mo_comeBack_15 rfl (lv_at hl 0 rfl) ?_
  refine gf_mo_place hx hb hg hown (hg _ kw_301) hK G ha0 dd_mo_comeBack_16 ?_
  refine lv_iload_n hx hb dd_mo_comeBack_19 rfl (lv_at hl 1 rfl) ?_
  refine lv_dup2_11 hx hb dd_mo_comeBack_20 rfl rfl ?_
  obtain ⟨h21, hF⟩ := gw_gd hF
  refine gr_iald hx hb hK G (gq_mo_place ha0) (gw_vp h21) (j := v1.toNatClampNeg) rfl dd_mo_comeBack_21 ?_
  refine lv_iconst (v := (1 : Int32)) hx hb dd_mo_comeBack_22 (by decide) ?_
  refine lv_iadd hx hb dd_mo_comeBack_23 ?_
  obtain ⟨h24, hF⟩ := gw_gd hF
  refine gr_iast hx hb hK G (gq_mo_place ha0) (gw_vp h24) (j := v1.toNatClampNeg) rfl dd_mo_comeBack_24 (fun M24 H locs e24 G => ?_)
  replace hF := gw_ly e24 hF
  exact W.vret hx hb hr (fun t ht hW => gw_endv (EF := (fun M => (gw_E X Y M))) (M := M24) G ht hF) G.2.2.2.2 dd_mo_comeBack_25 hlocks
set_option maxRecDepth 100000 in
set_option maxHeartbeats 4000000 in
theorem ct_mo_comeBack (l : Launch) (X : gw_X) (Y : gw_M) (M : gw_M) (a0 : Nat) (v1 : Int32) (ha0 : gr_k a0 = (11, 0)) (z : (Unit × gw_M)) (hF : mo_comeBack_b0 M a0 v1 = some z) : Met l yy_mo_comeBack ((Cond.code yy_mo_comeBack by_mo_comeBack 2 none) :: gw_w) rm_mo_comeBack (va_Pc [.ref (gr_a X a0), .int v1] (gw_B X (gw_E X Y M))) (gw_Qv X (fun M => (gw_E X Y M)) z) 0 0 (gw_A X) := by
  refine Met.ofW (cc := by_mo_comeBack) (maxL := 2) (ret := none) (by decide) rfl ?_
  intro p e s m args below meth c s₁ B hml hv
  obtain ⟨rfl, hB⟩ := hv
  rw [lg_entry_eq]
  have hl := lv_entry ([.ref (gr_a X a0), .int v1]) (n := 2) (Nat.le_of_ble_eq_true rfl)
  generalize (lg_sl ([.ref (gr_a X a0), .int v1]) ++ List.replicate (2 - (lg_sl ([.ref (gr_a X a0), .int v1])).length) Slot.unset).toArray = ls at hl ⊢
  have hl : lv_has ls 2 [(0, .ref (gr_a X a0)), (1, .int v1)] := hl
  exact wb_mo_comeBack_0 (gw_ctx B hml rfl hB) M a0 v1 _ _ _ ha0 (gw_start hB) hl hF
/-! AccountMachineModel.invoke(I)I -/
abbrev rm_mo_invoke : Room := { frames := 4, cells := 0, slots := 0, locals := 104 }
theorem dd_mo_invoke_0 : decode by_mo_invoke 0 = .ok (.aload_n 0, 1) := by decide +kernel
theorem dd_mo_invoke_1 : decode by_mo_invoke 1 = .ok (.getfield 62, 3) := by decide +kernel
theorem dd_mo_invoke_4 : decode by_mo_invoke 4 = .ok (.bipush 10, 2) := by decide +kernel
theorem dd_mo_invoke_6 : decode by_mo_invoke 6 = .ok (.iload_n 1, 1) := by decide +kernel
theorem dd_mo_invoke_7 : decode by_mo_invoke 7 = .ok (.imul, 1) := by decide +kernel
theorem dd_mo_invoke_8 : decode by_mo_invoke 8 = .ok (.iconst 1, 1) := by decide +kernel
theorem dd_mo_invoke_9 : decode by_mo_invoke 9 = .ok (.iadd, 1) := by decide +kernel
theorem dd_mo_invoke_10 : decode by_mo_invoke 10 = .ok (.laload, 1) := by decide +kernel
theorem dd_mo_invoke_11 : decode by_mo_invoke 11 = .ok (.lstore_n 2, 1) := by decide +kernel
theorem dd_mo_invoke_12 : decode by_mo_invoke 12 = .ok (.aload_n 0, 1) := by decide +kernel
theorem dd_mo_invoke_13 : decode by_mo_invoke 13 = .ok (.lload_n 2, 1) := by decide +kernel
theorem dd_mo_invoke_14 : decode by_mo_invoke 14 = .ok (.invokevirtual 195, 3) := by decide +kernel
theorem dd_mo_invoke_17 : decode by_mo_invoke 17 = .ok (.ifCond .ne 5, 3) := by decide +kernel
theorem dd_mo_invoke_20 : decode by_mo_invoke 20 = .ok (.iconst 1, 1) := by decide +kernel
theorem dd_mo_invoke_21 : decode by_mo_invoke 21 = .ok (.ireturn, 1) := by decide +kernel
theorem dd_mo_invoke_22 : decode by_mo_invoke 22 = .ok (.iload_n 1, 1) := by decide +kernel
theorem dd_mo_invoke_23 : decode by_mo_invoke 23 = .ok (.iconst 4, 1) := by decide +kernel
theorem dd_mo_invoke_24 : decode by_mo_invoke 24 = .ok (.if_icmp .ne 7, 3) := by decide +kernel
theorem dd_mo_invoke_27 : decode by_mo_invoke 27 = .ok (.iconst 1, 1) := by decide +kernel
theorem dd_mo_invoke_28 : decode by_mo_invoke 28 = .ok (.goto 4, 3) := by decide +kernel
theorem dd_mo_invoke_31 : decode by_mo_invoke 31 = .ok (.iconst 0, 1) := by decide +kernel
theorem dd_mo_invoke_32 : decode by_mo_invoke 32 = .ok (.istore 4, 2) := by decide +kernel
theorem dd_mo_invoke_34 : decode by_mo_invoke 34 = .ok (.aload_n 0, 1) := by decide +kernel
theorem dd_mo_invoke_35 : decode by_mo_invoke 35 = .ok (.iload_n 1, 1) := by decide +kernel
theorem dd_mo_invoke_36 : decode by_mo_invoke 36 = .ok (.invokevirtual 199, 3) := by decide +kernel
theorem dd_mo_invoke_39 : decode by_mo_invoke 39 = .ok (.istore 5, 2) := by decide +kernel
theorem dd_mo_invoke_41 : decode by_mo_invoke 41 = .ok (.iload 5, 2) := by decide +kernel
theorem dd_mo_invoke_43 : decode by_mo_invoke 43 = .ok (.ifCond .le 6, 3) := by decide +kernel
theorem dd_mo_invoke_46 : decode by_mo_invoke 46 = .ok (.iload 5, 2) := by decide +kernel
theorem dd_mo_invoke_48 : decode by_mo_invoke 48 = .ok (.ireturn, 1) := by decide +kernel
theorem dd_mo_invoke_49 : decode by_mo_invoke 49 = .ok (.iconst 0, 1) := by decide +kernel
theorem dd_mo_invoke_50 : decode by_mo_invoke 50 = .ok (.istore 6, 2) := by decide +kernel
theorem dd_mo_invoke_52 : decode by_mo_invoke 52 = .ok (.iconst 1, 1) := by decide +kernel
theorem dd_mo_invoke_53 : decode by_mo_invoke 53 = .ok (.istore 7, 2) := by decide +kernel
theorem dd_mo_invoke_55 : decode by_mo_invoke 55 = .ok (.iload 7, 2) := by decide +kernel
theorem dd_mo_invoke_57 : decode by_mo_invoke 57 = .ok (.iload_n 1, 1) := by decide +kernel
theorem dd_mo_invoke_58 : decode by_mo_invoke 58 = .ok (.if_icmp .gt 56, 3) := by decide +kernel
theorem dd_mo_invoke_61 : decode by_mo_invoke 61 = .ok (.iload 6, 2) := by decide +kernel
theorem dd_mo_invoke_63 : decode by_mo_invoke 63 = .ok (.ifCond .ne 38, 3) := by decide +kernel
theorem dd_mo_invoke_66 : decode by_mo_invoke 66 = .ok (.lload_n 2, 1) := by decide +kernel
theorem dd_mo_invoke_67 : decode by_mo_invoke 67 = .ok (.lconst 0, 1) := by decide +kernel
theorem dd_mo_invoke_68 : decode by_mo_invoke 68 = .ok (.lcmp, 1) := by decide +kernel
theorem dd_mo_invoke_69 : decode by_mo_invoke 69 = .ok (.ifCond .le 36, 3) := by decide +kernel
theorem dd_mo_invoke_72 : decode by_mo_invoke 72 = .ok (.aload_n 0, 1) := by decide +kernel
theorem dd_mo_invoke_73 : decode by_mo_invoke 73 = .ok (.getfield 44, 3) := by decide +kernel
theorem dd_mo_invoke_76 : decode by_mo_invoke 76 = .ok (.iconst 3, 1) := by decide +kernel
theorem dd_mo_invoke_77 : decode by_mo_invoke 77 = .ok (.iload 7, 2) := by decide +kernel
theorem dd_mo_invoke_79 : decode by_mo_invoke 79 = .ok (.iadd, 1) := by decide +kernel
theorem dd_mo_invoke_80 : decode by_mo_invoke 80 = .ok (.iaload, 1) := by decide +kernel
theorem dd_mo_invoke_81 : decode by_mo_invoke 81 = .ok (.i2l, 1) := by decide +kernel
theorem dd_mo_invoke_82 : decode by_mo_invoke 82 = .ok (.lload_n 2, 1) := by decide +kernel
theorem dd_mo_invoke_83 : decode by_mo_invoke 83 = .ok (.lcmp, 1) := by decide +kernel
theorem dd_mo_invoke_84 : decode by_mo_invoke 84 = .ok (.ifCond .ne 21, 3) := by decide +kernel
theorem dd_mo_invoke_87 : decode by_mo_invoke 87 = .ok (.lload_n 2, 1) := by decide +kernel
theorem dd_mo_invoke_88 : decode by_mo_invoke 88 = .ok (.aload_n 0, 1) := by decide +kernel
theorem dd_mo_invoke_89 : decode by_mo_invoke 89 = .ok (.getfield 44, 3) := by decide +kernel
theorem dd_mo_invoke_92 : decode by_mo_invoke 92 = .ok (.iconst 3, 1) := by decide +kernel
theorem dd_mo_invoke_93 : decode by_mo_invoke 93 = .ok (.iload_n 1, 1) := by decide +kernel
theorem dd_mo_invoke_94 : decode by_mo_invoke 94 = .ok (.iadd, 1) := by decide +kernel
theorem dd_mo_invoke_95 : decode by_mo_invoke 95 = .ok (.iaload, 1) := by decide +kernel
theorem dd_mo_invoke_96 : decode by_mo_invoke 96 = .ok (.i2l, 1) := by decide +kernel
theorem dd_mo_invoke_97 : decode by_mo_invoke 97 = .ok (.lcmp, 1) := by decide +kernel
theorem dd_mo_invoke_98 : decode by_mo_invoke 98 = .ok (.ifCond .eq 7, 3) := by decide +kernel
theorem dd_mo_invoke_101 : decode by_mo_invoke 101 = .ok (.iconst 1, 1) := by decide +kernel
theorem dd_mo_invoke_102 : decode by_mo_invoke 102 = .ok (.goto 4, 3) := by decide +kernel
theorem dd_mo_invoke_105 : decode by_mo_invoke 105 = .ok (.iconst 0, 1) := by decide +kernel
theorem dd_mo_invoke_106 : decode by_mo_invoke 106 = .ok (.istore 6, 2) := by decide +kernel
theorem dd_mo_invoke_108 : decode by_mo_invoke 108 = .ok (.iinc 7 1, 3) := by decide +kernel
theorem dd_mo_invoke_111 : decode by_mo_invoke 111 = .ok (.goto (-56), 3) := by decide +kernel
theorem dd_mo_invoke_114 : decode by_mo_invoke 114 = .ok (.iload 6, 2) := by decide +kernel
theorem dd_mo_invoke_116 : decode by_mo_invoke 116 = .ok (.ifCond .eq 6, 3) := by decide +kernel
theorem dd_mo_invoke_119 : decode by_mo_invoke 119 = .ok (.bipush 11, 2) := by decide +kernel
theorem dd_mo_invoke_121 : decode by_mo_invoke 121 = .ok (.ireturn, 1) := by decide +kernel
theorem dd_mo_invoke_122 : decode by_mo_invoke 122 = .ok (.iload 4, 2) := by decide +kernel
theorem dd_mo_invoke_124 : decode by_mo_invoke 124 = .ok (.ifCond .eq 6, 3) := by decide +kernel
theorem dd_mo_invoke_127 : decode by_mo_invoke 127 = .ok (.bipush 12, 2) := by decide +kernel
theorem dd_mo_invoke_129 : decode by_mo_invoke 129 = .ok (.ireturn, 1) := by decide +kernel
theorem dd_mo_invoke_130 : decode by_mo_invoke 130 = .ok (.aload_n 0, 1) := by decide +kernel
theorem dd_mo_invoke_131 : decode by_mo_invoke 131 = .ok (.iload_n 1, 1) := by decide +kernel
theorem dd_mo_invoke_132 : decode by_mo_invoke 132 = .ok (.invokevirtual 173, 3) := by decide +kernel
theorem dd_mo_invoke_135 : decode by_mo_invoke 135 = .ok (.istore 5, 2) := by decide +kernel
theorem dd_mo_invoke_137 : decode by_mo_invoke 137 = .ok (.iload 5, 2) := by decide +kernel
theorem dd_mo_invoke_139 : decode by_mo_invoke 139 = .ok (.ifCond .le 6, 3) := by decide +kernel
theorem dd_mo_invoke_142 : decode by_mo_invoke 142 = .ok (.iload 5, 2) := by decide +kernel
theorem dd_mo_invoke_144 : decode by_mo_invoke 144 = .ok (.ireturn, 1) := by decide +kernel
theorem dd_mo_invoke_145 : decode by_mo_invoke 145 = .ok (.aload_n 0, 1) := by decide +kernel
theorem dd_mo_invoke_146 : decode by_mo_invoke 146 = .ok (.getfield 44, 3) := by decide +kernel
theorem dd_mo_invoke_149 : decode by_mo_invoke 149 = .ok (.iconst 4, 1) := by decide +kernel
theorem dd_mo_invoke_150 : decode by_mo_invoke 150 = .ok (.iload_n 1, 1) := by decide +kernel
theorem dd_mo_invoke_151 : decode by_mo_invoke 151 = .ok (.iadd, 1) := by decide +kernel
theorem dd_mo_invoke_152 : decode by_mo_invoke 152 = .ok (.lload_n 2, 1) := by decide +kernel
theorem dd_mo_invoke_153 : decode by_mo_invoke 153 = .ok (.l2i, 1) := by decide +kernel
theorem dd_mo_invoke_154 : decode by_mo_invoke 154 = .ok (.iastore, 1) := by decide +kernel
theorem dd_mo_invoke_155 : decode by_mo_invoke 155 = .ok (.aload_n 0, 1) := by decide +kernel
theorem dd_mo_invoke_156 : decode by_mo_invoke 156 = .ok (.getfield 47, 3) := by decide +kernel
theorem dd_mo_invoke_159 : decode by_mo_invoke 159 = .ok (.iconst 4, 1) := by decide +kernel
theorem dd_mo_invoke_160 : decode by_mo_invoke 160 = .ok (.iload_n 1, 1) := by decide +kernel
theorem dd_mo_invoke_161 : decode by_mo_invoke 161 = .ok (.iadd, 1) := by decide +kernel
theorem dd_mo_invoke_162 : decode by_mo_invoke 162 = .ok (.aload_n 0, 1) := by decide +kernel
theorem dd_mo_invoke_163 : decode by_mo_invoke 163 = .ok (.getfield 62, 3) := by decide +kernel
theorem dd_mo_invoke_166 : decode by_mo_invoke 166 = .ok (.bipush 10, 2) := by decide +kernel
theorem dd_mo_invoke_168 : decode by_mo_invoke 168 = .ok (.iload_n 1, 1) := by decide +kernel
theorem dd_mo_invoke_169 : decode by_mo_invoke 169 = .ok (.imul, 1) := by decide +kernel
theorem dd_mo_invoke_170 : decode by_mo_invoke 170 = .ok (.iconst 3, 1) := by decide +kernel
theorem dd_mo_invoke_171 : decode by_mo_invoke 171 = .ok (.iadd, 1) := by decide +kernel
theorem dd_mo_invoke_172 : decode by_mo_invoke 172 = .ok (.laload, 1) := by decide +kernel
theorem dd_mo_invoke_173 : decode by_mo_invoke 173 = .ok (.l2i, 1) := by decide +kernel
theorem dd_mo_invoke_174 : decode by_mo_invoke 174 = .ok (.iastore, 1) := by decide +kernel
theorem dd_mo_invoke_175 : decode by_mo_invoke 175 = .ok (.lload_n 2, 1) := by decide +kernel
theorem dd_mo_invoke_176 : decode by_mo_invoke 176 = .ok (.lconst 0, 1) := by decide +kernel
theorem dd_mo_invoke_177 : decode by_mo_invoke 177 = .ok (.lcmp, 1) := by decide +kernel
theorem dd_mo_invoke_178 : decode by_mo_invoke 178 = .ok (.ifCond .le 20, 3) := by decide +kernel
theorem dd_mo_invoke_181 : decode by_mo_invoke 181 = .ok (.aload_n 0, 1) := by decide +kernel
theorem dd_mo_invoke_182 : decode by_mo_invoke 182 = .ok (.iload_n 1, 1) := by decide +kernel
theorem dd_mo_invoke_183 : decode by_mo_invoke 183 = .ok (.iconst 1, 1) := by decide +kernel
theorem dd_mo_invoke_184 : decode by_mo_invoke 184 = .ok (.iadd, 1) := by decide +kernel
theorem dd_mo_invoke_185 : decode by_mo_invoke 185 = .ok (.putfield 140, 3) := by decide +kernel
theorem dd_mo_invoke_188 : decode by_mo_invoke 188 = .ok (.aload_n 0, 1) := by decide +kernel
theorem dd_mo_invoke_189 : decode by_mo_invoke 189 = .ok (.aload_n 0, 1) := by decide +kernel
theorem dd_mo_invoke_190 : decode by_mo_invoke 190 = .ok (.getfield 140, 3) := by decide +kernel
theorem dd_mo_invoke_193 : decode by_mo_invoke 193 = .ok (.invokevirtual 202, 3) := by decide +kernel
theorem dd_mo_invoke_196 : decode by_mo_invoke 196 = .ok (.iconst 0, 1) := by decide +kernel
theorem dd_mo_invoke_197 : decode by_mo_invoke 197 = .ok (.ireturn, 1) := by decide +kernel
theorem dd_mo_invoke_198 : decode by_mo_invoke 198 = .ok (.aload_n 0, 1) := by decide +kernel
theorem dd_mo_invoke_199 : decode by_mo_invoke 199 = .ok (.iconst 4, 1) := by decide +kernel
theorem dd_mo_invoke_200 : decode by_mo_invoke 200 = .ok (.iload_n 1, 1) := by decide +kernel
theorem dd_mo_invoke_201 : decode by_mo_invoke 201 = .ok (.iadd, 1) := by decide +kernel
theorem dd_mo_invoke_202 : decode by_mo_invoke 202 = .ok (.invokevirtual 205, 3) := by decide +kernel
theorem dd_mo_invoke_205 : decode by_mo_invoke 205 = .ok (.istore 5, 2) := by decide +kernel
theorem dd_mo_invoke_207 : decode by_mo_invoke 207 = .ok (.iload 5, 2) := by decide +kernel
theorem dd_mo_invoke_209 : decode by_mo_invoke 209 = .ok (.ifCond .ne 8, 3) := by decide +kernel
theorem dd_mo_invoke_212 : decode by_mo_invoke 212 = .ok (.aload_n 0, 1) := by decide +kernel
theorem dd_mo_invoke_213 : decode by_mo_invoke 213 = .ok (.iload_n 1, 1) := by decide +kernel
theorem dd_mo_invoke_214 : decode by_mo_invoke 214 = .ok (.invokevirtual 176, 3) := by decide +kernel
theorem dd_mo_invoke_217 : decode by_mo_invoke 217 = .ok (.iload 5, 2) := by decide +kernel
theorem dd_mo_invoke_219 : decode by_mo_invoke 219 = .ok (.ireturn, 1) := by decide +kernel
def mo_invoke_b106 (K55 : gw_M → Nat → Int32 → Int64 → Int32 → Int32 → Int32 → Option (Int32 × gw_M)) (M : gw_M) (a0 : Nat) (v1 : Int32) (v2 : Int64) (v4 : Int32) (v7 : Int32) (t0 : Int32) : Option (Int32 × gw_M) :=
  K55 M a0 v1 v2 v4 t0 (v7 + (1 : Int32))
def mo_invoke_b105 (K55 : gw_M → Nat → Int32 → Int64 → Int32 → Int32 → Int32 → Option (Int32 × gw_M)) (M : gw_M) (a0 : Nat) (v1 : Int32) (v2 : Int64) (v4 : Int32) (v7 : Int32) : Option (Int32 × gw_M) :=
  mo_invoke_b106 K55 M a0 v1 v2 v4 v7 (0 : Int32)
def mo_invoke_b101 (K55 : gw_M → Nat → Int32 → Int64 → Int32 → Int32 → Int32 → Option (Int32 × gw_M)) (M : gw_M) (a0 : Nat) (v1 : Int32) (v2 : Int64) (v4 : Int32) (v7 : Int32) : Option (Int32 × gw_M) :=
  mo_invoke_b106 K55 M a0 v1 v2 v4 v7 (1 : Int32)
def mo_invoke_b55 (K55 : gw_M → Nat → Int32 → Int64 → Int32 → Int32 → Int32 → Option (Int32 × gw_M)) (M : gw_M) (a0 : Nat) (v1 : Int32) (v2 : Int64) (v4 : Int32) (v6 : Int32) (v7 : Int32) : Option (Int32 × gw_M) :=
  if v1 < v7 then (if v6 = (0 : Int32) then (if v4 = (0 : Int32) then (gw_bd (mo_handBack_b0 M a0 v1) (fun r132 M132 => if r132 ≤ (0 : Int32) then (gw_gu (gw_in ((4 : Int32) + v1) 9) (gw_lt (gw_sI M132 (a0 + 12) (((4 : Int32) + v1).toNatClampNeg) v2.toInt32) (fun M154 => gw_gu (gw_in (((10 : Int32) * v1) + (3 : Int32)) 50) (gw_gu (gw_in ((4 : Int32) + v1) 9) (gw_lt (gw_sI M154 (a0 + 13) (((4 : Int32) + v1).toNatClampNeg) ((M154.2 (a0 + 18) ((((10 : Int32) * v1) + (3 : Int32)).toNatClampNeg)).toInt32)) (fun M174 => if (lg_cmp v2 (0 : Int64)) ≤ (0 : Int32) then (gw_bd (mo_system_b0 M174 a0 ((4 : Int32) + v1)) (fun r202 M202 => if r202 = (0 : Int32) then (gw_bd (mo_comeBack_b0 M202 a0 v1) (fun _ M214 => some (r202, M214))) else (some (r202, M202)))) else (gw_lt (gw_sI M174 a0 17 (v1 + (1 : Int32))) (fun M185 => gw_bd (mo_begin_b0 M185 a0 (M185.1 a0 17)) (fun _ M193 => some ((0 : Int32), M193)))))))))) else (some (r132, M132)))) else (some ((12 : Int32), M))) else (some ((11 : Int32), M))) else (if v6 = (0 : Int32) then (if (lg_cmp v2 (0 : Int64)) ≤ (0 : Int32) then (mo_invoke_b105 K55 M a0 v1 v2 v4 v7) else (gw_gu (gw_in ((3 : Int32) + v7) 9) (if (lg_cmp ((M.1 (a0 + 12) (((3 : Int32) + v7).toNatClampNeg)).toInt64) v2) = (0 : Int32) then (gw_gu (gw_in ((3 : Int32) + v1) 9) (if (lg_cmp v2 ((M.1 (a0 + 12) (((3 : Int32) + v1).toNatClampNeg)).toInt64)) = (0 : Int32) then (mo_invoke_b105 K55 M a0 v1 v2 v4 v7) else (mo_invoke_b101 K55 M a0 v1 v2 v4 v7))) else (mo_invoke_b105 K55 M a0 v1 v2 v4 v7)))) else (mo_invoke_b101 K55 M a0 v1 v2 v4 v7))
def mo_invoke_l55 : Nat → gw_M → Nat → Int32 → Int64 → Int32 → Int32 → Int32 → Option (Int32 × gw_M)
  | 0 => fun _ _ _ _ _ _ _ => none
  | n + 1 => mo_invoke_b55  (mo_invoke_l55  n)
def mo_invoke_b32 (M : gw_M) (a0 : Nat) (v1 : Int32) (v2 : Int64) (t0 : Int32) : Option (Int32 × gw_M) :=
  gw_bd (mo_makeOrder_b0 M a0 v1) (fun r36 M36 => if r36 ≤ (0 : Int32) then (mo_invoke_l55  2100 M36 a0 v1 v2 t0 (0 : Int32) (1 : Int32)) else (some (r36, M36)))
def mo_invoke_b0 (M : gw_M) (a0 : Nat) (v1 : Int32) : Option (Int32 × gw_M) :=
  gw_gu (gw_in (((10 : Int32) * v1) + (1 : Int32)) 50) (gw_lt (M.2 (a0 + 18) ((((10 : Int32) * v1) + (1 : Int32)).toNatClampNeg)) (fun x11 => gw_bd (mo_canRun_b0 M a0 x11) (fun r14 M14 => if r14 = (0 : Int32) then (some ((1 : Int32), M14)) else (if v1 = (4 : Int32) then (mo_invoke_b32  M14 a0 v1 x11 (1 : Int32)) else (mo_invoke_b32  M14 a0 v1 x11 (0 : Int32))))))
set_option maxRecDepth 100000 in
set_option maxHeartbeats 4000000 in
theorem wb_mo_invoke_106 {p : Program} {l : Launch} {e : Env} {s : State} {m : MethodId} {args : Array Value} {below : List Frame} {meth : Method} {c : Code} {X : gw_X} {Y : gw_M} {z : (Int32 × gw_M)} (C0 : gw_C ((Cond.code yy_mo_invoke by_mo_invoke 8 (some .int)) :: gw_w) by_mo_invoke 8 (some .int) "AccountMachineModel" X p s m args meth c) {K55 : gw_M → Nat → Int32 → Int64 → Int32 → Int32 → Int32 → Option (Int32 × gw_M)} (hK55 : ∀ (M : gw_M) (a0 : Nat) (v1 : Int32) (v2 : Int64) (v4 : Int32) (v6 : Int32) (v7 : Int32) (H : Heap) (locs : List Loc) (ls : Array Slot), gr_k a0 = (11, 0) → gw_G X (gw_E X Y M) s H locs → lv_has ls 8 [(0, .ref (gr_a X a0)), (1, .int v1), (2, .long v2), (4, .int v4), (6, .int v6), (7, .int v7)] → K55 M a0 v1 v2 v4 v6 v7 = some z → W p l e rm_mo_invoke s m args below meth c H locs 0 0 (MQ below (gw_Qi X (fun M => (gw_E X Y M)) z) args s 0 0 (gw_A X)) (F0 m 55 ls [])) (M : gw_M) (a0 : Nat) (v1 : Int32) (v2 : Int64) (v4 : Int32) (v7 : Int32) (t0 : Int32) (H : Heap) (locs : List Loc) (ls : Array Slot) (ha0 : gr_k a0 = (11, 0)) (G : gw_G X (gw_E X Y M) s H locs) (hl : lv_has ls 8 [(0, .ref (gr_a X a0)), (1, .int v1), (2, .long v2), (4, .int v4), (7, .int v7)]) (hF : mo_invoke_b106 K55 M a0 v1 v2 v4 v7 t0 = some z) : W p l e rm_mo_invoke s m args below meth c H locs 0 0 (MQ below (gw_Qi X (fun M => (gw_E X Y M)) z) args s 0 0 (gw_A X)) (F0 m 106 ls [.int t0]) := by
  obtain ⟨hx, hb, hml, hown, hts, hr, hlocks, hK⟩ := id C0
  have hg : ∀ w ∈ gw_w, w.before args s = true := fun w h => hts w (List.mem_cons_of_mem _ h)
  unfold mo_invoke_b106 at hF
  refine lv_istore (i := 6) (lv' := [(6, .int t0), (0, .ref (gr_a X a0)), (1, .int v1), (2, .long v2), (4, .int v4), (7, .int v7)]) hx hb dd_mo_invoke_106 hl (by decide) rfl (fun ls hl => ?_)
  refine lv_iinc (k := 5) (v := v7 + (1 : Int32)) (lv' := [(7, .int (v7 + (1 : Int32))), (6, .int t0), (0, .ref (gr_a X a0)), (1, .int v1), (2, .long v2), (4, .int v4)]) hx hb dd_mo_invoke_108 hl rfl rfl (by decide) rfl (fun ls hl => ?_)
  refine lv_goto (tgt := 55) hx hb dd_mo_invoke_111 (by decide) ?_
  exact hK55 M a0 v1 v2 v4 t0 (v7 + (1 : Int32)) _ _ _ ha0 G (lv_sub hl [2, 3, 4, 5, 1, 0] rfl) hF
set_option maxRecDepth 100000 in
set_option maxHeartbeats 4000000 in
theorem wb_mo_invoke_105 {p : Program} {l : Launch} {e : Env} {s : State} {m : MethodId} {args : Array Value} {below : List Frame} {meth : Method} {c : Code} {X : gw_X} {Y : gw_M} {z : (Int32 × gw_M)} (C0 : gw_C ((Cond.code yy_mo_invoke by_mo_invoke 8 (some .int)) :: gw_w) by_mo_invoke 8 (some .int) "AccountMachineModel" X p s m args meth c) {K55 : gw_M → Nat → Int32 → Int64 → Int32 → Int32 → Int32 → Option (Int32 × gw_M)} (hK55 : ∀ (M : gw_M) (a0 : Nat) (v1 : Int32) (v2 : Int64) (v4 : Int32) (v6 : Int32) (v7 : Int32) (H : Heap) (locs : List Loc) (ls : Array Slot), gr_k a0 = (11, 0) → gw_G X (gw_E X Y M) s H locs → lv_has ls 8 [(0, .ref (gr_a X a0)), (1, .int v1), (2, .long v2), (4, .int v4), (6, .int v6), (7, .int v7)] → K55 M a0 v1 v2 v4 v6 v7 = some z → W p l e rm_mo_invoke s m args below meth c H locs 0 0 (MQ below (gw_Qi X (fun M => (gw_E X Y M)) z) args s 0 0 (gw_A X)) (F0 m 55 ls [])) (M : gw_M) (a0 : Nat) (v1 : Int32) (v2 : Int64) (v4 : Int32) (v7 : Int32) (H : Heap) (locs : List Loc) (ls : Array Slot) (ha0 : gr_k a0 = (11, 0)) (G : gw_G X (gw_E X Y M) s H locs) (hl : lv_has ls 8 [(0, .ref (gr_a X a0)), (1, .int v1), (2, .long v2), (4, .int v4), (7, .int v7)]) (hF : mo_invoke_b105 K55 M a0 v1 v2 v4 v7 = some z) : W p l e rm_mo_invoke s m args below meth c H locs 0 0 (MQ below (gw_Qi X (fun M => (gw_E X Y M)) z) args s 0 0 (gw_A X)) (F0 m 105 ls []) := by
  obtain ⟨hx, hb, hml, hown, hts, hr, hlocks, hK⟩ := id C0
  have hg : ∀ w ∈ gw_w, w.before args s = true := fun w h => hts w (List.mem_cons_of_mem _ h)
  unfold mo_invoke_b105 at hF
  refine lv_iconst (v := (0 : Int32)) hx hb dd_mo_invoke_105 (by decide) ?_
  exact wb_mo_invoke_106 C0 hK55 M a0 v1 v2 v4 v7 (0 : Int32) _ _ _ ha0 G (lv_sub hl [0, 1, 2, 3, 4] rfl) hF
set_option maxRecDepth 100000 in
set_option maxHeartbeats 4000000 in
theorem wb_mo_invoke_101 {p : Program} {l : Launch} {e : Env} {s : State} {m : MethodId} {args : Array Value} {below : List Frame} {meth : Method} {c : Code} {X : gw_X} {Y : gw_M} {z : (Int32 × gw_M)} (C0 : gw_C ((Cond.code yy_mo_invoke by_mo_invoke 8 (some .int)) :: gw_w) by_mo_invoke 8 (some .int) "AccountMachineModel" X p s m args meth c) {K55 : gw_M → Nat → Int32 → Int64 → Int32 → Int32 → Int32 → Option (Int32 × gw_M)} (hK55 : ∀ (M : gw_M) (a0 : Nat) (v1 : Int32) (v2 : Int64) (v4 : Int32) (v6 : Int32) (v7 : Int32) (H : Heap) (locs : List Loc) (ls : Array Slot), gr_k a0 = (11, 0) → gw_G X (gw_E X Y M) s H locs → lv_has ls 8 [(0, .ref (gr_a X a0)), (1, .int v1), (2, .long v2), (4, .int v4), (6, .int v6), (7, .int v7)] → K55 M a0 v1 v2 v4 v6 v7 = some z → W p l e rm_mo_invoke s m args below meth c H locs 0 0 (MQ below (gw_Qi X (fun M => (gw_E X Y M)) z) args s 0 0 (gw_A X)) (F0 m 55 ls [])) (M : gw_M) (a0 : Nat) (v1 : Int32) (v2 : Int64) (v4 : Int32) (v7 : Int32) (H : Heap) (locs : List Loc) (ls : Array Slot) (ha0 : gr_k a0 = (11, 0)) (G : gw_G X (gw_E X Y M) s H locs) (hl : lv_has ls 8 [(0, .ref (gr_a X a0)), (1, .int v1), (2, .long v2), (4, .int v4), (7, .int v7)]) (hF : mo_invoke_b101 K55 M a0 v1 v2 v4 v7 = some z) : W p l e rm_mo_invoke s m args below meth c H locs 0 0 (MQ below (gw_Qi X (fun M => (gw_E X Y M)) z) args s 0 0 (gw_A X)) (F0 m 101 ls []) := by
  obtain ⟨hx, hb, hml, hown, hts, hr, hlocks, hK⟩ := id C0
  have hg : ∀ w ∈ gw_w, w.before args s = true := fun w h => hts w (List.mem_cons_of_mem _ h)
  unfold mo_invoke_b101 at hF
  refine lv_iconst (v := (1 : Int32)) hx hb dd_mo_invoke_101 (by decide) ?_
  refine lv_goto (tgt := 106) hx hb dd_mo_invoke_102 (by decide) ?_
  exact wb_mo_invoke_106 C0 hK55 M a0 v1 v2 v4 v7 (1 : Int32) _ _ _ ha0 G (lv_sub hl [0, 1, 2, 3, 4] rfl) hF
set_option maxRecDepth 100000 in
set_option maxHeartbeats 4000000 in
theorem wb_mo_invoke_55 {p : Program} {l : Launch} {e : Env} {s : State} {m : MethodId} {args : Array Value} {below : List Frame} {meth : Method} {c : Code} {X : gw_X} {Y : gw_M} {z : (Int32 × gw_M)} (C0 : gw_C ((Cond.code yy_mo_invoke by_mo_invoke 8 (some .int)) :: gw_w) by_mo_invoke 8 (some .int) "AccountMachineModel" X p s m args meth c) {K55 : gw_M → Nat → Int32 → Int64 → Int32 → Int32 → Int32 → Option (Int32 × gw_M)} (hK55 : ∀ (M : gw_M) (a0 : Nat) (v1 : Int32) (v2 : Int64) (v4 : Int32) (v6 : Int32) (v7 : Int32) (H : Heap) (locs : List Loc) (ls : Array Slot), gr_k a0 = (11, 0) → gw_G X (gw_E X Y M) s H locs → lv_has ls 8 [(0, .ref (gr_a X a0)), (1, .int v1), (2, .long v2), (4, .int v4), (6, .int v6), (7, .int v7)] → K55 M a0 v1 v2 v4 v6 v7 = some z → W p l e rm_mo_invoke s m args below meth c H locs 0 0 (MQ below (gw_Qi X (fun M => (gw_E X Y M)) z) args s 0 0 (gw_A X)) (F0 m 55 ls [])) (M : gw_M) (a0 : Nat) (v1 : Int32) (v2 : Int64) (v4 : Int32) (v6 : Int32) (v7 : Int32) (H : Heap) (locs : List Loc) (ls : Array Slot) (ha0 : gr_k a0 = (11, 0)) (G : gw_G X (gw_E X Y M) s H locs) (hl : lv_has ls 8 [(0, .ref (gr_a X a0)), (1, .int v1), (2, .long v2), (4, .int v4), (6, .int v6), (7, .int v7)]) (hF : mo_invoke_b55 K55 M a0 v1 v2 v4 v6 v7 = some z) : W p l e rm_mo_invoke s m args below meth c H locs 0 0 (MQ below (gw_Qi X (fun M => (gw_E X Y M)) z) args s 0 0 (gw_A X)) (F0 m 55 ls []) := by
  obtain ⟨hx, hb, hml, hown, hts, hr, hlocks, hK⟩ := id C0
  have hg : ∀ w ∈ gw_w, w.before args s = true := fun w h => hts w (List.mem_cons_of_mem _ h)
  unfold mo_invoke_b55 at hF
  refine lv_iload hx hb dd_mo_invoke_55 (lv_at hl 5 rfl) ?_
  refine lv_iload_n hx hb dd_mo_invoke_57 rfl (lv_at hl 1 rfl) ?_
  refine lv_icmp_gt (tgt := 114) hx hb dd_mo_invoke_58 (by decide) (fun h58 => ?_) (fun h58 => ?_)
  · replace hF := gw_et h58 hF
    refine lv_iload hx hb dd_mo_invoke_114 (lv_at hl 4 rfl) ?_
    refine lv_if_eq (tgt := 122) hx hb dd_mo_invoke_116 (by decide) (fun h116 => ?_) (fun h116 => ?_)
    · replace hF := gw_et h116 hF
      refine lv_iload hx hb dd_mo_invoke_122 (lv_at hl 3 rfl) ?_
      refine lv_if_eq (tgt := 130) hx hb dd_mo_invoke_124 (by decide) (fun h124 => ?_) (fun h124 => ?_)
      · replace hF := gw_et h124 hF
        refine lv_aload_n hx hb dd_mo_invoke_130 rfl (lv_at hl 0 rfl) ?_
        refine lv_iload_n hx hb dd_mo_invoke_131 rfl (lv_at hl 1 rfl) ?_
        obtain ⟨r132, M132, hc132, hF⟩ := gw_be hF
        refine gw_ci G (va_runV (As := [.int v1]) (rest := []) ⟨hx, hb, hml, hown, hts⟩ (ct_mo_handBack l X Y M a0 v1 ha0 _ hc132) (cwV 1 hts (gw_gV kw_332 kw_333 kw_334 kw_253 kw_331) rfl rfl rfl (by decide +kernel) ⟨Nat.le_of_ble_eq_true rfl, Nat.le_of_ble_eq_true rfl⟩) ⟨gw_blind, gw_recv_mo hK G ha0, gw_pre hK G⟩ rfl rfl hl.1 rfl (Nat.le_of_ble_eq_true rfl) dd_mo_invoke_132 ⟨Nat.le_of_ble_eq_true rfl, Nat.le_of_ble_eq_true rfl⟩) (fun H locs G => ?_)
        refine lv_istore (i := 5) (lv' := [(5, .int r132), (0, .ref (gr_a X a0)), (1, .int v1), (2, .long v2), (4, .int v4), (6, .int v6), (7, .int v7)]) hx hb dd_mo_invoke_135 hl (by decide) rfl (fun ls hl => ?_)
        refine lv_iload hx hb dd_mo_invoke_137 (lv_at hl 0 rfl) ?_
        refine lv_if_le (tgt := 145) hx hb dd_mo_invoke_139 (by decide) (fun h139 => ?_) (fun h139 => ?_)
        · replace hF := gw_et h139 hF
          refine lv_aload_n hx hb dd_mo_invoke_145 rfl (lv_at hl 1 rfl) ?_
          refine gf_mo_program hx hb hg hown (hg _ kw_271) hK G ha0 dd_mo_invoke_146 ?_
          refine lv_iconst (v := (4 : Int32)) hx hb dd_mo_invoke_149 (by decide) ?_
          refine lv_iload_n hx hb dd_mo_invoke_150 rfl (lv_at hl 2 rfl) ?_
          refine lv_iadd hx hb dd_mo_invoke_151 ?_
          refine lv_lload_n hx hb dd_mo_invoke_152 rfl (lv_at hl 3 rfl) ?_
          refine lv_l2i (v := v2.toInt32) hx hb dd_mo_invoke_153 rfl ?_
          obtain ⟨h154, hF⟩ := gw_gd hF
          refine gr_iast hx hb hK G (gq_mo_program ha0) (gw_vp h154) (j := ((4 : Int32) + v1).toNatClampNeg) rfl dd_mo_invoke_154 (fun M154 H locs e154 G => ?_)
          replace hF := gw_ly e154 hF
          refine lv_aload_n hx hb dd_mo_invoke_155 rfl (lv_at hl 1 rfl) ?_
          refine W.eq (g2 := F0 m 156 _ _) rfl ?_
          refine gf_mo_argument hx hb hg hown (hg _ kw_272) hK G ha0 dd_mo_invoke_156 ?_
          refine lv_iconst (v := (4 : Int32)) hx hb dd_mo_invoke_159 (by decide) ?_
          refine lv_iload_n hx hb dd_mo_invoke_160 rfl (lv_at hl 2 rfl) ?_
          refine lv_iadd hx hb dd_mo_invoke_161 ?_
          refine lv_aload_n hx hb dd_mo_invoke_162 rfl (lv_at hl 1 rfl) ?_
          refine gf_mo_registers hx hb hg hown (hg _ kw_299) hK G ha0 dd_mo_invoke_163 ?_
          refine lv_bipush (v := (10 : Int32)) hx hb dd_mo_invoke_166 (by decide) ?_
          refine lv_iload_n hx hb dd_mo_invoke_168 rfl (lv_at hl 2 rfl) ?_
          refine lv_imul hx hb dd_mo_invoke_169 ?_
          refine lv_iconst (v := (3 : Int32)) hx hb dd_mo_invoke_170 (by decide) ?_
          refine W.eq (g2 := F0 m 171 _ _) rfl ?_
          refine lv_iadd hx hb dd_mo_invoke_171 ?_
          obtain ⟨h172, hF⟩ := gw_gd hF
          refine gr_lald hx hb hK G (gq_mo_registers ha0) (gw_vp h172) (j := (((10 : Int32) * v1) + (3 : Int32)).toNatClampNeg) rfl dd_mo_invoke_172 ?_
          refine lv_l2i (v := (M154.2 (a0 + 18) ((((10 : Int32) * v1) + (3 : Int32)).toNatClampNeg)).toInt32) hx hb dd_mo_invoke_173 rfl ?_
          obtain ⟨h174, hF⟩ := gw_gd hF
          refine gr_iast hx hb hK G (gq_mo_argument ha0) (gw_vp h174) (j := ((4 : Int32) + v1).toNatClampNeg) rfl dd_mo_invoke_174 (fun M174 H locs e174 G => ?_)
          replace hF := gw_ly e174 hF
          refine lv_lload_n hx hb dd_mo_invoke_175 rfl (lv_at hl 3 rfl) ?_
          refine lv_lconst (v := (0 : Int64)) hx hb dd_mo_invoke_176 (by decide) ?_
          refine W.lcmp hx hb dd_mo_invoke_177 ?_
          refine lv_if_le (tgt := 198) hx hb dd_mo_invoke_178 (by decide) (fun h178 => ?_) (fun h178 => ?_)
          · replace hF := gw_et h178 hF
            refine lv_aload_n hx hb dd_mo_invoke_198 rfl (lv_at hl 1 rfl) ?_
            refine lv_iconst (v := (4 : Int32)) hx hb dd_mo_invoke_199 (by decide) ?_
            refine lv_iload_n hx hb dd_mo_invoke_200 rfl (lv_at hl 2 rfl) ?_
            refine lv_iadd hx hb dd_mo_invoke_201 ?_
            obtain ⟨r202, M202, hc202, hF⟩ := gw_be hF
            refine gw_ci G (va_runV (As := [.int ((4 : Int32) + v1)]) (rest := []) ⟨hx, hb, hml, hown, hts⟩ (ct_mo_system l X Y M174 a0 ((4 : Int32) + v1) ha0 _ hc202) (cwV 1 hts (gw_gV kw_336 kw_337 kw_338 kw_253 kw_335) rfl rfl rfl (by decide +kernel) ⟨Nat.le_of_ble_eq_true rfl, Nat.le_of_ble_eq_true rfl⟩) ⟨gw_blind, gw_recv_mo hK G ha0, gw_pre hK G⟩ rfl rfl hl.1 rfl (Nat.le_of_ble_eq_true rfl) dd_mo_invoke_202 ⟨Nat.le_of_ble_eq_true rfl, Nat.le_of_ble_eq_true rfl⟩) (fun H locs G => ?_)
            refine lv_istore (i := 5) (lv' := [(5, .int r202), (0, .ref (gr_a X a0)), (1, .int v1), (2, .long v2), (4, .int v4), (6, .int v6), (7, .int v7)]) hx hb dd_mo_invoke_205 hl (by decide) rfl (fun ls hl => ?_)
            refine lv_iload hx hb dd_mo_invoke_207 (lv_at hl 0 rfl) ?_
            refine lv_if_ne (tgt := 217) hx hb dd_mo_invoke_209 (by decide) (fun h209 => ?_) (fun h209 => ?_)
            · replace hF := gw_ef h209 hF
              refine lv_iload hx hb dd_mo_invoke_217 (lv_at hl 0 rfl) ?_
              exact W.iret hx hb hr (fun t ht hW => gw_endi (EF := (fun M => (gw_E X Y M))) (M := M202) G ht hF) G.2.2.2.2 dd_mo_invoke_219 hlocks
            · replace hF := gw_et h209 hF
              refine lv_aload_n hx hb dd_mo_invoke_212 rfl (lv_at hl 1 rfl) ?_
              refine lv_iload_n hx hb dd_mo_invoke_213 rfl (lv_at hl 2 rfl) ?_
              obtain ⟨u214, M214, hc214, hF⟩ := gw_be hF
              refine gw_cv G (va_runV (As := [.int v1]) (rest := []) ⟨hx, hb, hml, hown, hts⟩ (ct_mo_comeBack l X Y M202 a0 v1 ha0 _ hc214) (cwV 1 hts (gw_gV kw_340 kw_341 kw_342 kw_253 kw_339) rfl rfl rfl (by decide +kernel) ⟨Nat.le_of_ble_eq_true rfl, Nat.le_of_ble_eq_true rfl⟩) ⟨gw_blind, gw_recv_mo hK G ha0, gw_pre hK G⟩ rfl rfl hl.1 rfl (Nat.le_of_ble_eq_true rfl) dd_mo_invoke_214 ⟨Nat.le_of_ble_eq_true rfl, Nat.le_of_ble_eq_true rfl⟩) (fun H locs G => ?_)
              refine lv_iload hx hb dd_mo_invoke_217 (lv_at hl 0 rfl) ?_
              exact W.iret hx hb hr (fun t ht hW => gw_endi (EF := (fun M => (gw_E X Y M))) (M := M214) G ht hF) G.2.2.2.2 dd_mo_invoke_219 hlocks
          · replace hF := gw_ef h178 hF
            refine lv_aload_n hx hb dd_mo_invoke_181 rfl (lv_at hl 1 rfl) ?_
            refine lv_iload_n hx hb dd_mo_invoke_182 rfl (lv_at hl 2 rfl) ?_
            refine lv_iconst (v := (1 : Int32)) hx hb dd_mo_invoke_183 (by decide) ?_
            refine lv_iadd hx hb dd_mo_invoke_184 ?_
            refine gp_mo_depth hx hb hg hown (hg _ kw_343) hK G ha0 dd_mo_invoke_185 (fun M185 H locs e185 G => ?_)
            replace hF := gw_ly e185 hF
            refine lv_aload_n hx hb dd_mo_invoke_188 rfl (lv_at hl 1 rfl) ?_
            refine lv_aload_n hx hb dd_mo_invoke_189 rfl (lv_at hl 1 rfl) ?_
            refine gf_mo_depth hx hb hg hown (hg _ kw_343) hK G ha0 dd_mo_invoke_190 ?_
            obtain ⟨u193, M193, hc193, hF⟩ := gw_be hF
            refine gw_cv G (va_runV (As := [.int (M185.1 a0 17)]) (rest := []) ⟨hx, hb, hml, hown, hts⟩ (ct_mo_begin l X Y M185 a0 (M185.1 a0 17) ha0 _ hc193) (cwV 1 hts (gw_gV kw_345 kw_346 kw_347 kw_253 kw_344) rfl rfl rfl (by decide +kernel) ⟨Nat.le_of_ble_eq_true rfl, Nat.le_of_ble_eq_true rfl⟩) ⟨gw_blind, gw_recv_mo hK G ha0, gw_pre hK G⟩ rfl rfl hl.1 rfl (Nat.le_of_ble_eq_true rfl) dd_mo_invoke_193 ⟨Nat.le_of_ble_eq_true rfl, Nat.le_of_ble_eq_true rfl⟩) (fun H locs G => ?_)
            refine W.eq (g2 := F0 m 196 _ _) rfl ?_
            refine lv_iconst (v := (0 : Int32)) hx hb dd_mo_invoke_196 (by decide) ?_
            exact W.iret hx hb hr (fun t ht hW => gw_endi (EF := (fun M => (gw_E X Y M))) (M := M193) G ht hF) G.2.2.2.2 dd_mo_invoke_197 hlocks
        · replace hF := gw_ef h139 hF
          refine lv_iload hx hb dd_mo_invoke_142 (lv_at hl 0 rfl) ?_
          exact W.iret hx hb hr (fun t ht hW => gw_endi (EF := (fun M => (gw_E X Y M))) (M := M132) G ht hF) G.2.2.2.2 dd_mo_invoke_144 hlocks
      · replace hF := gw_ef h124 hF
        refine lv_bipush (v := (12 : Int32)) hx hb dd_mo_invoke_127 (by decide) ?_
        exact W.iret hx hb hr (fun t ht hW => gw_endi (EF := (fun M => (gw_E X Y M))) (M := M) G ht hF) G.2.2.2.2 dd_mo_invoke_129 hlocks
    · replace hF := gw_ef h116 hF
      refine lv_bipush (v := (11 : Int32)) hx hb dd_mo_invoke_119 (by decide) ?_
      exact W.iret hx hb hr (fun t ht hW => gw_endi (EF := (fun M => (gw_E X Y M))) (M := M) G ht hF) G.2.2.2.2 dd_mo_invoke_121 hlocks
  · replace hF := gw_ef h58 hF
    refine lv_iload hx hb dd_mo_invoke_61 (lv_at hl 4 rfl) ?_
    refine lv_if_ne (tgt := 101) hx hb dd_mo_invoke_63 (by decide) (fun h63 => ?_) (fun h63 => ?_)
    · replace hF := gw_ef h63 hF
      exact wb_mo_invoke_101 C0 hK55 M a0 v1 v2 v4 v7 _ _ _ ha0 G (lv_sub hl [0, 1, 2, 3, 5] rfl) hF
    · replace hF := gw_et h63 hF
      refine lv_lload_n hx hb dd_mo_invoke_66 rfl (lv_at hl 2 rfl) ?_
      refine lv_lconst (v := (0 : Int64)) hx hb dd_mo_invoke_67 (by decide) ?_
      refine W.lcmp hx hb dd_mo_invoke_68 ?_
      refine lv_if_le (tgt := 105) hx hb dd_mo_invoke_69 (by decide) (fun h69 => ?_) (fun h69 => ?_)
      · replace hF := gw_et h69 hF
        exact wb_mo_invoke_105 C0 hK55 M a0 v1 v2 v4 v7 _ _ _ ha0 G (lv_sub hl [0, 1, 2, 3, 5] rfl) hF
      · replace hF := gw_ef h69 hF
        refine lv_aload_n hx hb dd_mo_invoke_72 rfl (lv_at hl 0 rfl) ?_
        refine gf_mo_program hx hb hg hown (hg _ kw_271) hK G ha0 dd_mo_invoke_73 ?_
        refine lv_iconst (v := (3 : Int32)) hx hb dd_mo_invoke_76 (by decide) ?_
        refine lv_iload hx hb dd_mo_invoke_77 (lv_at hl 5 rfl) ?_
        refine lv_iadd hx hb dd_mo_invoke_79 ?_
        obtain ⟨h80, hF⟩ := gw_gd hF
        refine gr_iald hx hb hK G (gq_mo_program ha0) (gw_vp h80) (j := ((3 : Int32) + v7).toNatClampNeg) rfl dd_mo_invoke_80 ?_
        refine lv_i2l (v := (M.1 (a0 + 12) (((3 : Int32) + v7).toNatClampNeg)).toInt64) hx hb dd_mo_invoke_81 rfl ?_
        refine lv_lload_n hx hb dd_mo_invoke_82 rfl (lv_at hl 2 rfl) ?_
        refine W.lcmp hx hb dd_mo_invoke_83 ?_
        refine W.eq (g2 := F0 m 84 _ _) rfl ?_
        refine lv_if_ne (tgt := 105) hx hb dd_mo_invoke_84 (by decide) (fun h84 => ?_) (fun h84 => ?_)
        · replace hF := gw_ef h84 hF
          exact wb_mo_invoke_105 C0 hK55 M a0 v1 v2 v4 v7 _ _ _ ha0 G (lv_sub hl [0, 1, 2, 3, 5] rfl) hF
        · replace hF := gw_et h84 hF
          refine lv_lload_n hx hb dd_mo_invoke_87 rfl (lv_at hl 2 rfl) ?_
          refine lv_aload_n hx hb dd_mo_invoke_88 rfl (lv_at hl 0 rfl) ?_
          refine gf_mo_program hx hb hg hown (hg _ kw_271) hK G ha0 dd_mo_invoke_89 ?_
          refine lv_iconst (v := (3 : Int32)) hx hb dd_mo_invoke_92 (by decide) ?_
          refine lv_iload_n hx hb dd_mo_invoke_93 rfl (lv_at hl 1 rfl) ?_
          refine lv_iadd hx hb dd_mo_invoke_94 ?_
          obtain ⟨h95, hF⟩ := gw_gd hF
          refine gr_iald hx hb hK G (gq_mo_program ha0) (gw_vp h95) (j := ((3 : Int32) + v1).toNatClampNeg) rfl dd_mo_invoke_95 ?_
          refine lv_i2l (v := (M.1 (a0 + 12) (((3 : Int32) + v1).toNatClampNeg)).toInt64) hx hb dd_mo_invoke_96 rfl ?_
          refine W.lcmp hx hb dd_mo_invoke_97 ?_
          refine W.eq (g2 := F0 m 98 _ _) rfl ?_
          refine lv_if_eq (tgt := 105) hx hb dd_mo_invoke_98 (by decide) (fun h98 => ?_) (fun h98 => ?_)
          · replace hF := gw_et h98 hF
            exact wb_mo_invoke_105 C0 hK55 M a0 v1 v2 v4 v7 _ _ _ ha0 G (lv_sub hl [0, 1, 2, 3, 5] rfl) hF
          · replace hF := gw_ef h98 hF
            exact wb_mo_invoke_101 C0 hK55 M a0 v1 v2 v4 v7 _ _ _ ha0 G (lv_sub hl [0, 1, 2, 3, 5] rfl) hF
theorem wl_mo_invoke_55 {p : Program} {l : Launch} {e : Env} {s : State} {m : MethodId} {args : Array Value} {below : List Frame} {meth : Method} {c : Code} {X : gw_X} {Y : gw_M} {z : (Int32 × gw_M)} (C0 : gw_C ((Cond.code yy_mo_invoke by_mo_invoke 8 (some .int)) :: gw_w) by_mo_invoke 8 (some .int) "AccountMachineModel" X p s m args meth c) : ∀ n : Nat, ∀ (M : gw_M) (a0 : Nat) (v1 : Int32) (v2 : Int64) (v4 : Int32) (v6 : Int32) (v7 : Int32) (H : Heap) (locs : List Loc) (ls : Array Slot), gr_k a0 = (11, 0) → gw_G X (gw_E X Y M) s H locs → lv_has ls 8 [(0, .ref (gr_a X a0)), (1, .int v1), (2, .long v2), (4, .int v4), (6, .int v6), (7, .int v7)] → mo_invoke_l55  n M a0 v1 v2 v4 v6 v7 = some z → W p l e rm_mo_invoke s m args below meth c H locs 0 0 (MQ below (gw_Qi X (fun M => (gw_E X Y M)) z) args s 0 0 (gw_A X)) (F0 m 55 ls []) := by
  intro n
  induction n with
  | zero =>
    intro M a0 v1 v2 v4 v6 v7 H locs ls ha0 G hl hF
    have hF : (none : Option (Int32 × gw_M)) = some z := hF
    cases hF
  | succ n ih =>
    intro M a0 v1 v2 v4 v6 v7 H locs ls ha0 G hl hF
    exact wb_mo_invoke_55 C0  ih M a0 v1 v2 v4 v6 v7 H locs ls ha0 G hl hF
set_option maxRecDepth 100000 in
set_option maxHeartbeats 4000000 in
theorem wb_mo_invoke_32 {p : Program} {l : Launch} {e : Env} {s : State} {m : MethodId} {args : Array Value} {below : List Frame} {meth : Method} {c : Code} {X : gw_X} {Y : gw_M} {z : (Int32 × gw_M)} (C0 : gw_C ((Cond.code yy_mo_invoke by_mo_invoke 8 (some .int)) :: gw_w) by_mo_invoke 8 (some .int) "AccountMachineModel" X p s m args meth c) (M : gw_M) (a0 : Nat) (v1 : Int32) (v2 : Int64) (t0 : Int32) (H : Heap) (locs : List Loc) (ls : Array Slot) (ha0 : gr_k a0 = (11, 0)) (G : gw_G X (gw_E X Y M) s H locs) (hl : lv_has ls 8 [(0, .ref (gr_a X a0)), (1, .int v1), (2, .long v2)]) (hF : mo_invoke_b32  M a0 v1 v2 t0 = some z) : W p l e rm_mo_invoke s m args below meth c H locs 0 0 (MQ below (gw_Qi X (fun M => (gw_E X Y M)) z) args s 0 0 (gw_A X)) (F0 m 32 ls [.int t0]) := by
  obtain ⟨hx, hb, hml, hown, hts, hr, hlocks, hK⟩ := id C0
  have hg : ∀ w ∈ gw_w, w.before args s = true := fun w h => hts w (List.mem_cons_of_mem _ h)
  unfold mo_invoke_b32 at hF
  refine lv_istore (i := 4) (lv' := [(4, .int t0), (0, .ref (gr_a X a0)), (1, .int v1), (2, .long v2)]) hx hb dd_mo_invoke_32 hl (by decide) rfl (fun ls hl => ?_)
  refine lv_aload_n hx hb dd_mo_invoke_34 rfl (lv_at hl 1 rfl) ?_
  refine lv_iload_n hx hb dd_mo_invoke_35 rfl (lv_at hl 2 rfl) ?_
  obtain ⟨r36, M36, hc36, hF⟩ := gw_be hF
  refine gw_ci G (va_runV (As := [.int v1]) (rest := []) ⟨hx, hb, hml, hown, hts⟩ (ct_mo_makeOrder l X Y M a0 v1 ha0 _ hc36) (cwV 1 hts (gw_gV kw_349 kw_350 kw_351 kw_253 kw_348) rfl rfl rfl (by decide +kernel) ⟨Nat.le_of_ble_eq_true rfl, Nat.le_of_ble_eq_true rfl⟩) ⟨gw_blind, gw_recv_mo hK G ha0, gw_pre hK G⟩ rfl rfl hl.1 rfl (Nat.le_of_ble_eq_true rfl) dd_mo_invoke_36 ⟨Nat.le_of_ble_eq_true rfl, Nat.le_of_ble_eq_true rfl⟩) (fun H locs G => ?_)
  refine lv_istore (i := 5) (lv' := [(5, .int r36), (4, .int t0), (0, .ref (gr_a X a0)), (1, .int v1), (2, .long v2)]) hx hb dd_mo_invoke_39 hl (by decide) rfl (fun ls hl => ?_)
  refine lv_iload hx hb dd_mo_invoke_41 (lv_at hl 0 rfl) ?_
  refine lv_if_le (tgt := 49) hx hb dd_mo_invoke_43 (by decide) (fun h43 => ?_) (fun h43 => ?_)
  · replace hF := gw_et h43 hF
    refine lv_iconst (v := (0 : Int32)) hx hb dd_mo_invoke_49 (by decide) ?_
    refine lv_istore (i := 6) (lv' := [(6, .int (0 : Int32)), (5, .int r36), (4, .int t0), (0, .ref (gr_a X a0)), (1, .int v1), (2, .long v2)]) hx hb dd_mo_invoke_50 hl (by decide) rfl (fun ls hl => ?_)
    refine lv_iconst (v := (1 : Int32)) hx hb dd_mo_invoke_52 (by decide) ?_
    refine lv_istore (i := 7) (lv' := [(7, .int (1 : Int32)), (6, .int (0 : Int32)), (5, .int r36), (4, .int t0), (0, .ref (gr_a X a0)), (1, .int v1), (2, .long v2)]) hx hb dd_mo_invoke_53 hl (by decide) rfl (fun ls hl => ?_)
    exact wl_mo_invoke_55 C0  2100 M36 a0 v1 v2 t0 (0 : Int32) (1 : Int32) _ _ _ ha0 G (lv_sub hl [4, 5, 6, 3, 1, 0] rfl) hF
  · replace hF := gw_ef h43 hF
    refine lv_iload hx hb dd_mo_invoke_46 (lv_at hl 0 rfl) ?_
    exact W.iret hx hb hr (fun t ht hW => gw_endi (EF := (fun M => (gw_E X Y M))) (M := M36) G ht hF) G.2.2.2.2 dd_mo_invoke_48 hlocks
set_option maxRecDepth 100000 in
set_option maxHeartbeats 4000000 in
theorem wb_mo_invoke_0 {p : Program} {l : Launch} {e : Env} {s : State} {m : MethodId} {args : Array Value} {below : List Frame} {meth : Method} {c : Code} {X : gw_X} {Y : gw_M} {z : (Int32 × gw_M)} (C0 : gw_C ((Cond.code yy_mo_invoke by_mo_invoke 8 (some .int)) :: gw_w) by_mo_invoke 8 (some .int) "AccountMachineModel" X p s m args meth c) (M : gw_M) (a0 : Nat) (v1 : Int32) (H : Heap) (locs : List Loc) (ls : Array Slot) (ha0 : gr_k a0 = (11, 0)) (G : gw_G X (gw_E X Y M) s H locs) (hl : lv_has ls 8 [(0, .ref (gr_a X a0)), (1, .int v1)]) (hF : mo_invoke_b0  M a0 v1 = some z) : W p l e rm_mo_invoke s m args below meth c H locs 0 0 (MQ below (gw_Qi X (fun M => (gw_E X Y M)) z) args s 0 0 (gw_A X)) (F0 m 0 ls []) := by
  obtain ⟨hx, hb, hml, hown, hts, hr, hlocks, hK⟩ := id C0
  have hg : ∀ w ∈ gw_w, w.before args s = true := fun w h => hts w (List.mem_cons_of_mem _ h)
  unfold mo_invoke_b0 at hF
  refine lv_aload_n hx hb dd_mo_invoke_0 rfl (lv_at hl 0 rfl) ?_
  refine gf_mo_registers hx hb hg hown (hg _ kw_299) hK G ha0 dd_mo_invoke_1 ?_
  refine lv_bipush (v := (10 : Int32)) hx hb dd_mo_invoke_4 (by decide) ?_
  refine lv_iload_n hx hb dd_mo_invoke_6 rfl (lv_at hl 1 rfl) ?_
  refine lv_imul hx hb dd_mo_invoke_7 ?_
  refine lv_iconst (v := (1 : Int32)) hx hb dd_mo_invoke_8 (by decide) ?_
  refine lv_iadd hx hb dd_mo_invoke_9 ?_
  obtain ⟨h10, hF⟩ := gw_gd hF
  refine gr_lald hx hb hK G (gq_mo_registers ha0) (gw_vp h10) (j := (((10 : Int32) * v1) + (1 : Int32)).toNatClampNeg) rfl dd_mo_invoke_10 ?_
  refine lv_topl (fun x11 e11 => ?_)
  replace hF := gw_ly e11 hF
  refine lv_lstore_n (i := 2) (lv' := [(2, .long x11), (0, .ref (gr_a X a0)), (1, .int v1)]) hx hb dd_mo_invoke_11 rfl hl (by decide) rfl (fun ls hl => ?_)
  refine W.eq (g2 := F0 m 12 _ _) rfl ?_
  refine lv_aload_n hx hb dd_mo_invoke_12 rfl (lv_at hl 1 rfl) ?_
  refine lv_lload_n hx hb dd_mo_invoke_13 rfl (lv_at hl 0 rfl) ?_
  obtain ⟨r14, M14, hc14, hF⟩ := gw_be hF
  refine gw_ci G (va_runV (As := [.long x11]) (rest := []) ⟨hx, hb, hml, hown, hts⟩ (ct_mo_canRun l X Y M a0 x11 ha0 _ hc14) (cwV 1 hts (gw_gV kw_353 kw_354 kw_355 kw_253 kw_352) rfl rfl rfl (by decide +kernel) ⟨Nat.le_of_ble_eq_true rfl, Nat.le_of_ble_eq_true rfl⟩) ⟨gw_blind, gw_recv_mo hK G ha0, gw_pre hK G⟩ rfl rfl hl.1 rfl (Nat.le_of_ble_eq_true rfl) dd_mo_invoke_14 ⟨Nat.le_of_ble_eq_true rfl, Nat.le_of_ble_eq_true rfl⟩) (fun H locs G => ?_)
  refine lv_if_ne (tgt := 22) hx hb dd_mo_invoke_17 (by decide) (fun h17 => ?_) (fun h17 => ?_)
  · replace hF := gw_ef h17 hF
    refine lv_iload_n hx hb dd_mo_invoke_22 rfl (lv_at hl 2 rfl) ?_
    refine lv_iconst (v := (4 : Int32)) hx hb dd_mo_invoke_23 (by decide) ?_
    refine lv_icmp_ne (tgt := 31) hx hb dd_mo_invoke_24 (by decide) (fun h24 => ?_) (fun h24 => ?_)
    · replace hF := gw_ef h24 hF
      refine lv_iconst (v := (0 : Int32)) hx hb dd_mo_invoke_31 (by decide) ?_
      exact wb_mo_invoke_32 C0  M14 a0 v1 x11 (0 : Int32) _ _ _ ha0 G (lv_sub hl [1, 2, 0] rfl) hF
    · replace hF := gw_et h24 hF
      refine lv_iconst (v := (1 : Int32)) hx hb dd_mo_invoke_27 (by decide) ?_
      refine lv_goto (tgt := 32) hx hb dd_mo_invoke_28 (by decide) ?_
      exact wb_mo_invoke_32 C0  M14 a0 v1 x11 (1 : Int32) _ _ _ ha0 G (lv_sub hl [1, 2, 0] rfl) hF
  · replace hF := gw_et h17 hF
    refine lv_iconst (v := (1 : Int32)) hx hb dd_mo_invoke_20 (by decide) ?_
    exact W.iret hx hb hr (fun t ht hW => gw_endi (EF := (fun M => (gw_E X Y M))) (M := M14) G ht hF) G.2.2.2.2 dd_mo_invoke_21 hlocks
set_option maxRecDepth 100000 in
set_option maxHeartbeats 4000000 in
theorem ct_mo_invoke (l : Launch) (X : gw_X) (Y : gw_M) (M : gw_M) (a0 : Nat) (v1 : Int32) (ha0 : gr_k a0 = (11, 0)) (z : (Int32 × gw_M)) (hF : mo_invoke_b0 M a0 v1 = some z) : Met l yy_mo_invoke ((Cond.code yy_mo_invoke by_mo_invoke 8 (some .int)) :: gw_w) rm_mo_invoke (va_Pc [.ref (gr_a X a0), .int v1] (gw_B X (gw_E X Y M))) (gw_Qi X (fun M => (gw_E X Y M)) z) 0 0 (gw_A X) := by
  refine Met.ofW (cc := by_mo_invoke) (maxL := 8) (ret := (some .int)) (by decide) rfl ?_
  intro p e s m args below meth c s₁ B hml hv
  obtain ⟨rfl, hB⟩ := hv
  rw [lg_entry_eq]
  have hl := lv_entry ([.ref (gr_a X a0), .int v1]) (n := 8) (Nat.le_of_ble_eq_true rfl)
  generalize (lg_sl ([.ref (gr_a X a0), .int v1]) ++ List.replicate (8 - (lg_sl ([.ref (gr_a X a0), .int v1])).length) Slot.unset).toArray = ls at hl ⊢
  have hl : lv_has ls 8 [(0, .ref (gr_a X a0)), (1, .int v1)] := hl
  exact wb_mo_invoke_0 (gw_ctx B hml rfl hB) M a0 v1 _ _ _ ha0 (gw_start hB) hl hF
/-! AccountMachineModel.serve(II)I -/
abbrev rm_mo_serve : Room := { frames := 5, cells := 0, slots := 0, locals := 131 }
theorem dd_mo_serve_0 : decode by_mo_serve 0 = .ok (.aload_n 0, 1) := by decide +kernel
theorem dd_mo_serve_1 : decode by_mo_serve 1 = .ok (.iload_n 2, 1) := by decide +kernel
theorem dd_mo_serve_2 : decode by_mo_serve 2 = .ok (.iconst 1, 1) := by decide +kernel
theorem dd_mo_serve_3 : decode by_mo_serve 3 = .ok (.if_icmp .ne 7, 3) := by decide +kernel
theorem dd_mo_serve_6 : decode by_mo_serve 6 = .ok (.iconst 5, 1) := by decide +kernel
theorem dd_mo_serve_7 : decode by_mo_serve 7 = .ok (.goto 13, 3) := by decide +kernel
theorem dd_mo_serve_10 : decode by_mo_serve 10 = .ok (.iload_n 2, 1) := by decide +kernel
theorem dd_mo_serve_11 : decode by_mo_serve 11 = .ok (.iconst 3, 1) := by decide +kernel
theorem dd_mo_serve_12 : decode by_mo_serve 12 = .ok (.if_icmp .ne 7, 3) := by decide +kernel
theorem dd_mo_serve_15 : decode by_mo_serve 15 = .ok (.iconst 3, 1) := by decide +kernel
theorem dd_mo_serve_16 : decode by_mo_serve 16 = .ok (.goto 4, 3) := by decide +kernel
theorem dd_mo_serve_19 : decode by_mo_serve 19 = .ok (.iconst 1, 1) := by decide +kernel
theorem dd_mo_serve_20 : decode by_mo_serve 20 = .ok (.invokevirtual 143, 3) := by decide +kernel
theorem dd_mo_serve_23 : decode by_mo_serve 23 = .ok (.ifCond .ne 5, 3) := by decide +kernel
theorem dd_mo_serve_26 : decode by_mo_serve 26 = .ok (.iconst 3, 1) := by decide +kernel
theorem dd_mo_serve_27 : decode by_mo_serve 27 = .ok (.ireturn, 1) := by decide +kernel
theorem dd_mo_serve_28 : decode by_mo_serve 28 = .ok (.iload_n 2, 1) := by decide +kernel
theorem dd_mo_serve_29 : decode by_mo_serve 29 = .ok (.iconst 1, 1) := by decide +kernel
theorem dd_mo_serve_30 : decode by_mo_serve 30 = .ok (.if_icmp .ne 9, 3) := by decide +kernel
theorem dd_mo_serve_33 : decode by_mo_serve 33 = .ok (.aload_n 0, 1) := by decide +kernel
theorem dd_mo_serve_34 : decode by_mo_serve 34 = .ok (.iload_n 1, 1) := by decide +kernel
theorem dd_mo_serve_35 : decode by_mo_serve 35 = .ok (.invokevirtual 179, 3) := by decide +kernel
theorem dd_mo_serve_38 : decode by_mo_serve 38 = .ok (.ireturn, 1) := by decide +kernel
theorem dd_mo_serve_39 : decode by_mo_serve 39 = .ok (.aload_n 0, 1) := by decide +kernel
theorem dd_mo_serve_40 : decode by_mo_serve 40 = .ok (.getfield 62, 3) := by decide +kernel
theorem dd_mo_serve_43 : decode by_mo_serve 43 = .ok (.bipush 10, 2) := by decide +kernel
theorem dd_mo_serve_45 : decode by_mo_serve 45 = .ok (.iload_n 1, 1) := by decide +kernel
theorem dd_mo_serve_46 : decode by_mo_serve 46 = .ok (.imul, 1) := by decide +kernel
theorem dd_mo_serve_47 : decode by_mo_serve 47 = .ok (.iconst 1, 1) := by decide +kernel
theorem dd_mo_serve_48 : decode by_mo_serve 48 = .ok (.iadd, 1) := by decide +kernel
theorem dd_mo_serve_49 : decode by_mo_serve 49 = .ok (.laload, 1) := by decide +kernel
theorem dd_mo_serve_50 : decode by_mo_serve 50 = .ok (.lstore_n 3, 1) := by decide +kernel
theorem dd_mo_serve_51 : decode by_mo_serve 51 = .ok (.iload_n 2, 1) := by decide +kernel
theorem dd_mo_serve_52 : decode by_mo_serve 52 = .ok (.ifCond .ne 35, 3) := by decide +kernel
theorem dd_mo_serve_55 : decode by_mo_serve 55 = .ok (.aload_n 0, 1) := by decide +kernel
theorem dd_mo_serve_56 : decode by_mo_serve 56 = .ok (.getfield 182, 3) := by decide +kernel
theorem dd_mo_serve_59 : decode by_mo_serve 59 = .ok (.bipush 30, 2) := by decide +kernel
theorem dd_mo_serve_61 : decode by_mo_serve 61 = .ok (.if_icmp .ge 55, 3) := by decide +kernel
theorem dd_mo_serve_64 : decode by_mo_serve 64 = .ok (.aload_n 0, 1) := by decide +kernel
theorem dd_mo_serve_65 : decode by_mo_serve 65 = .ok (.getfield 78, 3) := by decide +kernel
theorem dd_mo_serve_68 : decode by_mo_serve 68 = .ok (.aload_n 0, 1) := by decide +kernel
theorem dd_mo_serve_69 : decode by_mo_serve 69 = .ok (.getfield 182, 3) := by decide +kernel
theorem dd_mo_serve_72 : decode by_mo_serve 72 = .ok (.lload_n 3, 1) := by decide +kernel
theorem dd_mo_serve_73 : decode by_mo_serve 73 = .ok (.lastore, 1) := by decide +kernel
theorem dd_mo_serve_74 : decode by_mo_serve 74 = .ok (.aload_n 0, 1) := by decide +kernel
theorem dd_mo_serve_75 : decode by_mo_serve 75 = .ok (.dup, 1) := by decide +kernel
theorem dd_mo_serve_76 : decode by_mo_serve 76 = .ok (.getfield 182, 3) := by decide +kernel
theorem dd_mo_serve_79 : decode by_mo_serve 79 = .ok (.iconst 1, 1) := by decide +kernel
theorem dd_mo_serve_80 : decode by_mo_serve 80 = .ok (.iadd, 1) := by decide +kernel
theorem dd_mo_serve_81 : decode by_mo_serve 81 = .ok (.putfield 182, 3) := by decide +kernel
theorem dd_mo_serve_84 : decode by_mo_serve 84 = .ok (.goto 32, 3) := by decide +kernel
theorem dd_mo_serve_87 : decode by_mo_serve 87 = .ok (.iload_n 2, 1) := by decide +kernel
theorem dd_mo_serve_88 : decode by_mo_serve 88 = .ok (.iconst 2, 1) := by decide +kernel
theorem dd_mo_serve_89 : decode by_mo_serve 89 = .ok (.if_icmp .ne 11, 3) := by decide +kernel
theorem dd_mo_serve_92 : decode by_mo_serve 92 = .ok (.aload_n 0, 1) := by decide +kernel
theorem dd_mo_serve_93 : decode by_mo_serve 93 = .ok (.lload_n 3, 1) := by decide +kernel
theorem dd_mo_serve_94 : decode by_mo_serve 94 = .ok (.putfield 185, 3) := by decide +kernel
theorem dd_mo_serve_97 : decode by_mo_serve 97 = .ok (.goto 19, 3) := by decide +kernel
theorem dd_mo_serve_100 : decode by_mo_serve 100 = .ok (.aload_n 0, 1) := by decide +kernel
theorem dd_mo_serve_101 : decode by_mo_serve 101 = .ok (.getfield 62, 3) := by decide +kernel
theorem dd_mo_serve_104 : decode by_mo_serve 104 = .ok (.bipush 10, 2) := by decide +kernel
theorem dd_mo_serve_106 : decode by_mo_serve 106 = .ok (.iload_n 1, 1) := by decide +kernel
theorem dd_mo_serve_107 : decode by_mo_serve 107 = .ok (.imul, 1) := by decide +kernel
theorem dd_mo_serve_108 : decode by_mo_serve 108 = .ok (.aload_n 0, 1) := by decide +kernel
theorem dd_mo_serve_109 : decode by_mo_serve 109 = .ok (.iload_n 1, 1) := by decide +kernel
theorem dd_mo_serve_110 : decode by_mo_serve 110 = .ok (.lload_n 3, 1) := by decide +kernel
theorem dd_mo_serve_111 : decode by_mo_serve 111 = .ok (.invokevirtual 189, 3) := by decide +kernel
theorem dd_mo_serve_114 : decode by_mo_serve 114 = .ok (.i2l, 1) := by decide +kernel
theorem dd_mo_serve_115 : decode by_mo_serve 115 = .ok (.lastore, 1) := by decide +kernel
theorem dd_mo_serve_116 : decode by_mo_serve 116 = .ok (.aload_n 0, 1) := by decide +kernel
theorem dd_mo_serve_117 : decode by_mo_serve 117 = .ok (.getfield 59, 3) := by decide +kernel
theorem dd_mo_serve_120 : decode by_mo_serve 120 = .ok (.iload_n 1, 1) := by decide +kernel
theorem dd_mo_serve_121 : decode by_mo_serve 121 = .ok (.dup2, 1) := by decide +kernel
theorem dd_mo_serve_122 : decode by_mo_serve 122 = .ok (.iaload, 1) := by decide +kernel
theorem dd_mo_serve_123 : decode by_mo_serve 123 = .ok (.iconst 1, 1) := by decide +kernel
theorem dd_mo_serve_124 : decode by_mo_serve 124 = .ok (.iadd, 1) := by decide +kernel
theorem dd_mo_serve_125 : decode by_mo_serve 125 = .ok (.iastore, 1) := by decide +kernel
theorem dd_mo_serve_126 : decode by_mo_serve 126 = .ok (.iconst 0, 1) := by decide +kernel
theorem dd_mo_serve_127 : decode by_mo_serve 127 = .ok (.ireturn, 1) := by decide +kernel
def mo_serve_b116 (M : gw_M) (a0 : Nat) (v1 : Int32) : Option (Int32 × gw_M) :=
  gw_gu (gw_in v1 5) (gw_gu (gw_in v1 5) (gw_lt (gw_sI M (a0 + 17) v1.toNatClampNeg ((M.1 (a0 + 17) v1.toNatClampNeg) + (1 : Int32))) (fun M125 => some ((0 : Int32), M125))))
def mo_serve_b20 (M : gw_M) (a0 : Nat) (v1 : Int32) (v2 : Int32) (t0 : Int32) (b1 : Nat) : Option (Int32 × gw_M) :=
  gw_bd (mo_pay_b0 M b1 t0) (fun r20 M20 => if r20 = (0 : Int32) then (some ((3 : Int32), M20)) else (if v2 = (1 : Int32) then (gw_bd (mo_invoke_b0 M20 a0 v1) (fun r35 M35 => some (r35, M35))) else (gw_gu (gw_in (((10 : Int32) * v1) + (1 : Int32)) 50) (gw_lt (M20.2 (a0 + 18) ((((10 : Int32) * v1) + (1 : Int32)).toNatClampNeg)) (fun x50 => if v2 = (0 : Int32) then (if (30 : Int32) ≤ (M20.1 a0 27) then (mo_serve_b116  M20 a0 v1) else (gw_gu (gw_in (M20.1 a0 27) 30) (gw_lt (gw_sL M20 (a0 + 23) ((M20.1 a0 27).toNatClampNeg) x50) (fun M73 => gw_lt (gw_sI M73 a0 27 ((M73.1 a0 27) + (1 : Int32))) (fun M81 => mo_serve_b116  M81 a0 v1))))) else (if v2 = (2 : Int32) then (gw_lt (gw_sL M20 a0 25 x50) (fun M94 => mo_serve_b116  M94 a0 v1)) else (gw_bd (mo_seat_b0 M20 a0 v1 x50) (fun r111 M111 => gw_gu (gw_in ((10 : Int32) * v1) 50) (gw_lt (gw_sL M111 (a0 + 18) (((10 : Int32) * v1).toNatClampNeg) r111.toInt64) (fun M115 => mo_serve_b116  M115 a0 v1))))))))))
def mo_serve_b0 (M : gw_M) (a0 : Nat) (v1 : Int32) (v2 : Int32) : Option (Int32 × gw_M) :=
  if v2 = (1 : Int32) then (mo_serve_b20  M a0 v1 v2 (5 : Int32) a0) else (if v2 = (3 : Int32) then (mo_serve_b20  M a0 v1 v2 (3 : Int32) a0) else (mo_serve_b20  M a0 v1 v2 (1 : Int32) a0))
set_option maxRecDepth 100000 in
set_option maxHeartbeats 4000000 in
theorem wb_mo_serve_116 {p : Program} {l : Launch} {e : Env} {s : State} {m : MethodId} {args : Array Value} {below : List Frame} {meth : Method} {c : Code} {X : gw_X} {Y : gw_M} {z : (Int32 × gw_M)} (C0 : gw_C ((Cond.code yy_mo_serve by_mo_serve 5 (some .int)) :: gw_w) by_mo_serve 5 (some .int) "AccountMachineModel" X p s m args meth c) (M : gw_M) (a0 : Nat) (v1 : Int32) (H : Heap) (locs : List Loc) (ls : Array Slot) (ha0 : gr_k a0 = (11, 0)) (G : gw_G X (gw_E X Y M) s H locs) (hl : lv_has ls 5 [(0, .ref (gr_a X a0)), (1, .int v1)]) (hF : mo_serve_b116  M a0 v1 = some z) : W p l e rm_mo_serve s m args below meth c H locs 0 0 (MQ below (gw_Qi X (fun M => (gw_E X Y M)) z) args s 0 0 (gw_A X)) (F0 m 116 ls []) := by
  obtain ⟨hx, hb, hml, hown, hts, hr, hlocks, hK⟩ := id C0
  have hg : ∀ w ∈ gw_w, w.before args s = true := fun w h => hts w (List.mem_cons_of_mem _ h)
  unfold mo_serve_b116 at hF
  refine lv_aload_n hx hb dd_mo_serve_116 rfl (lv_at hl 0 rfl) ?_
  refine gf_mo_place hx hb hg hown (hg _ kw_301) hK G ha0 dd_mo_serve_117 ?_
  refine lv_iload_n hx hb dd_mo_serve_120 rfl (lv_at hl 1 rfl) ?_
  refine lv_dup2_11 hx hb dd_mo_serve_121 rfl rfl ?_
  obtain ⟨h122, hF⟩ := gw_gd hF
  refine gr_iald hx hb hK G (gq_mo_place ha0) (gw_vp h122) (j := v1.toNatClampNeg) rfl dd_mo_serve_122 ?_
  refine lv_iconst (v := (1 : Int32)) hx hb dd_mo_serve_123 (by decide) ?_
  refine lv_iadd hx hb dd_mo_serve_124 ?_
  obtain ⟨h125, hF⟩ := gw_gd hF
  refine gr_iast hx hb hK G (gq_mo_place ha0) (gw_vp h125) (j := v1.toNatClampNeg) rfl dd_mo_serve_125 (fun M125 H locs e125 G => ?_)
  replace hF := gw_ly e125 hF
  refine lv_iconst (v := (0 : Int32)) hx hb dd_mo_serve_126 (by decide) ?_
  refine W.eq (g2 := F0 m 127 _ _) rfl ?_
  exact W.iret hx hb hr (fun t ht hW => gw_endi (EF := (fun M => (gw_E X Y M))) (M := M125) G ht hF) G.2.2.2.2 dd_mo_serve_127 hlocks
set_option maxRecDepth 100000 in
set_option maxHeartbeats 4000000 in
theorem wb_mo_serve_20 {p : Program} {l : Launch} {e : Env} {s : State} {m : MethodId} {args : Array Value} {below : List Frame} {meth : Method} {c : Code} {X : gw_X} {Y : gw_M} {z : (Int32 × gw_M)} (C0 : gw_C ((Cond.code yy_mo_serve by_mo_serve 5 (some .int)) :: gw_w) by_mo_serve 5 (some .int) "AccountMachineModel" X p s m args meth c) (M : gw_M) (a0 : Nat) (v1 : Int32) (v2 : Int32) (t0 : Int32) (b1 : Nat) (H : Heap) (locs : List Loc) (ls : Array Slot) (ha0 : gr_k a0 = (11, 0)) (hb1 : gr_k b1 = (11, 0)) (G : gw_G X (gw_E X Y M) s H locs) (hl : lv_has ls 5 [(0, .ref (gr_a X a0)), (1, .int v1), (2, .int v2)]) (hF : mo_serve_b20  M a0 v1 v2 t0 b1 = some z) : W p l e rm_mo_serve s m args below meth c H locs 0 0 (MQ below (gw_Qi X (fun M => (gw_E X Y M)) z) args s 0 0 (gw_A X)) (F0 m 20 ls [.int t0, .ref (gr_a X b1)]) := by
  obtain ⟨hx, hb, hml, hown, hts, hr, hlocks, hK⟩ := id C0
  have hg : ∀ w ∈ gw_w, w.before args s = true := fun w h => hts w (List.mem_cons_of_mem _ h)
  unfold mo_serve_b20 at hF
  obtain ⟨r20, M20, hc20, hF⟩ := gw_be hF
  refine gw_ci G (va_runV (As := [.int t0]) (rest := []) ⟨hx, hb, hml, hown, hts⟩ (ct_mo_pay l X Y M b1 t0 hb1 _ hc20) (cwV 1 hts (gw_gV kw_324 kw_325 kw_326 kw_253 kw_323) rfl rfl rfl (by decide +kernel) ⟨Nat.le_of_ble_eq_true rfl, Nat.le_of_ble_eq_true rfl⟩) ⟨gw_blind, gw_recv_mo hK G hb1, gw_pre hK G⟩ rfl rfl hl.1 rfl (Nat.le_of_ble_eq_true rfl) dd_mo_serve_20 ⟨Nat.le_of_ble_eq_true rfl, Nat.le_of_ble_eq_true rfl⟩) (fun H locs G => ?_)
  refine lv_if_ne (tgt := 28) hx hb dd_mo_serve_23 (by decide) (fun h23 => ?_) (fun h23 => ?_)
  · replace hF := gw_ef h23 hF
    refine lv_iload_n hx hb dd_mo_serve_28 rfl (lv_at hl 2 rfl) ?_
    refine lv_iconst (v := (1 : Int32)) hx hb dd_mo_serve_29 (by decide) ?_
    refine lv_icmp_ne (tgt := 39) hx hb dd_mo_serve_30 (by decide) (fun h30 => ?_) (fun h30 => ?_)
    · replace hF := gw_ef h30 hF
      refine lv_aload_n hx hb dd_mo_serve_39 rfl (lv_at hl 0 rfl) ?_
      refine gf_mo_registers hx hb hg hown (hg _ kw_299) hK G ha0 dd_mo_serve_40 ?_
      refine lv_bipush (v := (10 : Int32)) hx hb dd_mo_serve_43 (by decide) ?_
      refine lv_iload_n hx hb dd_mo_serve_45 rfl (lv_at hl 1 rfl) ?_
      refine lv_imul hx hb dd_mo_serve_46 ?_
      refine lv_iconst (v := (1 : Int32)) hx hb dd_mo_serve_47 (by decide) ?_
      refine lv_iadd hx hb dd_mo_serve_48 ?_
      obtain ⟨h49, hF⟩ := gw_gd hF
      refine gr_lald hx hb hK G (gq_mo_registers ha0) (gw_vp h49) (j := (((10 : Int32) * v1) + (1 : Int32)).toNatClampNeg) rfl dd_mo_serve_49 ?_
      refine lv_topl (fun x50 e50 => ?_)
      replace hF := gw_ly e50 hF
      refine lv_lstore_n (i := 3) (lv' := [(3, .long x50), (0, .ref (gr_a X a0)), (1, .int v1), (2, .int v2)]) hx hb dd_mo_serve_50 rfl hl (by decide) rfl (fun ls hl => ?_)
      refine W.eq (g2 := F0 m 51 _ _) rfl ?_
      refine lv_iload_n hx hb dd_mo_serve_51 rfl (lv_at hl 3 rfl) ?_
      refine lv_if_ne (tgt := 87) hx hb dd_mo_serve_52 (by decide) (fun h52 => ?_) (fun h52 => ?_)
      · replace hF := gw_ef h52 hF
        refine lv_iload_n hx hb dd_mo_serve_87 rfl (lv_at hl 3 rfl) ?_
        refine lv_iconst (v := (2 : Int32)) hx hb dd_mo_serve_88 (by decide) ?_
        refine lv_icmp_ne (tgt := 100) hx hb dd_mo_serve_89 (by decide) (fun h89 => ?_) (fun h89 => ?_)
        · replace hF := gw_ef h89 hF
          refine lv_aload_n hx hb dd_mo_serve_100 rfl (lv_at hl 1 rfl) ?_
          refine gf_mo_registers hx hb hg hown (hg _ kw_299) hK G ha0 dd_mo_serve_101 ?_
          refine lv_bipush (v := (10 : Int32)) hx hb dd_mo_serve_104 (by decide) ?_
          refine lv_iload_n hx hb dd_mo_serve_106 rfl (lv_at hl 2 rfl) ?_
          refine lv_imul hx hb dd_mo_serve_107 ?_
          refine lv_aload_n hx hb dd_mo_serve_108 rfl (lv_at hl 1 rfl) ?_
          refine lv_iload_n hx hb dd_mo_serve_109 rfl (lv_at hl 2 rfl) ?_
          refine lv_lload_n hx hb dd_mo_serve_110 rfl (lv_at hl 0 rfl) ?_
          obtain ⟨r111, M111, hc111, hF⟩ := gw_be hF
          refine gw_ci G (va_runV (As := [.int v1, .long x50]) (rest := [.int ((10 : Int32) * v1), .ref (gr_a X (a0 + 18))]) ⟨hx, hb, hml, hown, hts⟩ (ct_mo_seat l X Y M20 a0 v1 x50 ha0 _ hc111) (cwV 2 hts (gw_gV kw_320 kw_321 kw_322 kw_253 kw_319) rfl rfl rfl (by decide +kernel) ⟨Nat.le_of_ble_eq_true rfl, Nat.le_of_ble_eq_true rfl⟩) ⟨gw_blind, gw_recv_mo hK G ha0, gw_pre hK G⟩ rfl rfl hl.1 rfl (Nat.le_of_ble_eq_true rfl) dd_mo_serve_111 ⟨Nat.le_of_ble_eq_true rfl, Nat.le_of_ble_eq_true rfl⟩) (fun H locs G => ?_)
          refine W.eq (g2 := F0 m 114 _ _) rfl ?_
          refine lv_i2l (v := r111.toInt64) hx hb dd_mo_serve_114 rfl ?_
          obtain ⟨h115, hF⟩ := gw_gd hF
          refine gr_last hx hb hK G (gq_mo_registers ha0) (gw_vp h115) (j := ((10 : Int32) * v1).toNatClampNeg) rfl dd_mo_serve_115 (fun M115 H locs e115 G => ?_)
          replace hF := gw_ly e115 hF
          exact wb_mo_serve_116 C0  M115 a0 v1 _ _ _ ha0 G (lv_sub hl [1, 2] rfl) hF
        · replace hF := gw_et h89 hF
          refine lv_aload_n hx hb dd_mo_serve_92 rfl (lv_at hl 1 rfl) ?_
          refine lv_lload_n hx hb dd_mo_serve_93 rfl (lv_at hl 0 rfl) ?_
          refine gp_mo_given hx hb hg hown (hg _ kw_356) hK G ha0 dd_mo_serve_94 (fun M94 H locs e94 G => ?_)
          replace hF := gw_ly e94 hF
          refine lv_goto (tgt := 116) hx hb dd_mo_serve_97 (by decide) ?_
          exact wb_mo_serve_116 C0  M94 a0 v1 _ _ _ ha0 G (lv_sub hl [1, 2] rfl) hF
      · replace hF := gw_et h52 hF
        refine lv_aload_n hx hb dd_mo_serve_55 rfl (lv_at hl 1 rfl) ?_
        refine gf_mo_written hx hb hg hown (hg _ kw_357) hK G ha0 dd_mo_serve_56 ?_
        refine lv_bipush (v := (30 : Int32)) hx hb dd_mo_serve_59 (by decide) ?_
        refine lv_icmp_ge (tgt := 116) hx hb dd_mo_serve_61 (by decide) (fun h61 => ?_) (fun h61 => ?_)
        · replace hF := gw_et h61 hF
          exact wb_mo_serve_116 C0  M20 a0 v1 _ _ _ ha0 G (lv_sub hl [1, 2] rfl) hF
        · replace hF := gw_ef h61 hF
          refine lv_aload_n hx hb dd_mo_serve_64 rfl (lv_at hl 1 rfl) ?_
          refine gf_mo_log hx hb hg hown (hg _ kw_358) hK G ha0 dd_mo_serve_65 ?_
          refine lv_aload_n hx hb dd_mo_serve_68 rfl (lv_at hl 1 rfl) ?_
          refine gf_mo_written hx hb hg hown (hg _ kw_357) hK G ha0 dd_mo_serve_69 ?_
          refine lv_lload_n hx hb dd_mo_serve_72 rfl (lv_at hl 0 rfl) ?_
          obtain ⟨h73, hF⟩ := gw_gd hF
          refine gr_last hx hb hK G (gq_mo_log ha0) (gw_vp h73) (j := (M20.1 a0 27).toNatClampNeg) rfl dd_mo_serve_73 (fun M73 H locs e73 G => ?_)
          replace hF := gw_ly e73 hF
          refine lv_aload_n hx hb dd_mo_serve_74 rfl (lv_at hl 1 rfl) ?_
          refine lv_dup hx hb dd_mo_serve_75 rfl ?_
          refine gf_mo_written hx hb hg hown (hg _ kw_357) hK G ha0 dd_mo_serve_76 ?_
          refine W.eq (g2 := F0 m 79 _ _) rfl ?_
          refine lv_iconst (v := (1 : Int32)) hx hb dd_mo_serve_79 (by decide) ?_
          refine lv_iadd hx hb dd_mo_serve_80 ?_
          refine gp_mo_written hx hb hg hown (hg _ kw_357) hK G ha0 dd_mo_serve_81 (fun M81 H locs e81 G => ?_)
          replace hF := gw_ly e81 hF
          refine lv_goto (tgt := 116) hx hb dd_mo_serve_84 (by decide) ?_
          exact wb_mo_serve_116 C0  M81 a0 v1 _ _ _ ha0 G (lv_sub hl [1, 2] rfl) hF
    · replace hF := gw_et h30 hF
      refine lv_aload_n hx hb dd_mo_serve_33 rfl (lv_at hl 0 rfl) ?_
      refine lv_iload_n hx hb dd_mo_serve_34 rfl (lv_at hl 1 rfl) ?_
      obtain ⟨r35, M35, hc35, hF⟩ := gw_be hF
      refine gw_ci G (va_runV (As := [.int v1]) (rest := []) ⟨hx, hb, hml, hown, hts⟩ (ct_mo_invoke l X Y M20 a0 v1 ha0 _ hc35) (cwV 1 hts (gw_gV kw_360 kw_361 kw_362 kw_253 kw_359) rfl rfl rfl (by decide +kernel) ⟨Nat.le_of_ble_eq_true rfl, Nat.le_of_ble_eq_true rfl⟩) ⟨gw_blind, gw_recv_mo hK G ha0, gw_pre hK G⟩ rfl rfl hl.1 rfl (Nat.le_of_ble_eq_true rfl) dd_mo_serve_35 ⟨Nat.le_of_ble_eq_true rfl, Nat.le_of_ble_eq_true rfl⟩) (fun H locs G => ?_)
      exact W.iret hx hb hr (fun t ht hW => gw_endi (EF := (fun M => (gw_E X Y M))) (M := M35) G ht hF) G.2.2.2.2 dd_mo_serve_38 hlocks
  · replace hF := gw_et h23 hF
    refine lv_iconst (v := (3 : Int32)) hx hb dd_mo_serve_26 (by decide) ?_
    exact W.iret hx hb hr (fun t ht hW => gw_endi (EF := (fun M => (gw_E X Y M))) (M := M20) G ht hF) G.2.2.2.2 dd_mo_serve_27 hlocks
set_option maxRecDepth 100000 in
set_option maxHeartbeats 4000000 in
theorem wb_mo_serve_0 {p : Program} {l : Launch} {e : Env} {s : State} {m : MethodId} {args : Array Value} {below : List Frame} {meth : Method} {c : Code} {X : gw_X} {Y : gw_M} {z : (Int32 × gw_M)} (C0 : gw_C ((Cond.code yy_mo_serve by_mo_serve 5 (some .int)) :: gw_w) by_mo_serve 5 (some .int) "AccountMachineModel" X p s m args meth c) (M : gw_M) (a0 : Nat) (v1 : Int32) (v2 : Int32) (H : Heap) (locs : List Loc) (ls : Array Slot) (ha0 : gr_k a0 = (11, 0)) (G : gw_G X (gw_E X Y M) s H locs) (hl : lv_has ls 5 [(0, .ref (gr_a X a0)), (1, .int v1), (2, .int v2)]) (hF : mo_serve_b0  M a0 v1 v2 = some z) : W p l e rm_mo_serve s m args below meth c H locs 0 0 (MQ below (gw_Qi X (fun M => (gw_E X Y M)) z) args s 0 0 (gw_A X)) (F0 m 0 ls []) := by
  obtain ⟨hx, hb, hml, hown, hts, hr, hlocks, hK⟩ := id C0
  have hg : ∀ w ∈ gw_w, w.before args s = true := fun w h => hts w (List.mem_cons_of_mem _ h)
  unfold mo_serve_b0 at hF
  refine lv_aload_n hx hb dd_mo_serve_0 rfl (lv_at hl 0 rfl) ?_
  refine lv_iload_n hx hb dd_mo_serve_1 rfl (lv_at hl 2 rfl) ?_
  refine lv_iconst (v := (1 : Int32)) hx hb dd_mo_serve_2 (by decide) ?_
  refine lv_icmp_ne (tgt := 10) hx hb dd_mo_serve_3 (by decide) (fun h3 => ?_) (fun h3 => ?_)
  · replace hF := gw_ef h3 hF
    refine lv_iload_n hx hb dd_mo_serve_10 rfl (lv_at hl 2 rfl) ?_
    refine lv_iconst (v := (3 : Int32)) hx hb dd_mo_serve_11 (by decide) ?_
    refine lv_icmp_ne (tgt := 19) hx hb dd_mo_serve_12 (by decide) (fun h12 => ?_) (fun h12 => ?_)
    · replace hF := gw_ef h12 hF
      refine lv_iconst (v := (1 : Int32)) hx hb dd_mo_serve_19 (by decide) ?_
      exact wb_mo_serve_20 C0  M a0 v1 v2 (1 : Int32) a0 _ _ _ ha0 ha0 G (lv_sub hl [0, 1, 2] rfl) hF
    · replace hF := gw_et h12 hF
      refine lv_iconst (v := (3 : Int32)) hx hb dd_mo_serve_15 (by decide) ?_
      refine lv_goto (tgt := 20) hx hb dd_mo_serve_16 (by decide) ?_
      exact wb_mo_serve_20 C0  M a0 v1 v2 (3 : Int32) a0 _ _ _ ha0 ha0 G (lv_sub hl [0, 1, 2] rfl) hF
  · replace hF := gw_et h3 hF
    refine lv_iconst (v := (5 : Int32)) hx hb dd_mo_serve_6 (by decide) ?_
    refine lv_goto (tgt := 20) hx hb dd_mo_serve_7 (by decide) ?_
    exact wb_mo_serve_20 C0  M a0 v1 v2 (5 : Int32) a0 _ _ _ ha0 ha0 G (lv_sub hl [0, 1, 2] rfl) hF
set_option maxRecDepth 100000 in
set_option maxHeartbeats 4000000 in
theorem ct_mo_serve (l : Launch) (X : gw_X) (Y : gw_M) (M : gw_M) (a0 : Nat) (v1 : Int32) (v2 : Int32) (ha0 : gr_k a0 = (11, 0)) (z : (Int32 × gw_M)) (hF : mo_serve_b0 M a0 v1 v2 = some z) : Met l yy_mo_serve ((Cond.code yy_mo_serve by_mo_serve 5 (some .int)) :: gw_w) rm_mo_serve (va_Pc [.ref (gr_a X a0), .int v1, .int v2] (gw_B X (gw_E X Y M))) (gw_Qi X (fun M => (gw_E X Y M)) z) 0 0 (gw_A X) := by
  refine Met.ofW (cc := by_mo_serve) (maxL := 5) (ret := (some .int)) (by decide) rfl ?_
  intro p e s m args below meth c s₁ B hml hv
  obtain ⟨rfl, hB⟩ := hv
  rw [lg_entry_eq]
  have hl := lv_entry ([.ref (gr_a X a0), .int v1, .int v2]) (n := 5) (Nat.le_of_ble_eq_true rfl)
  generalize (lg_sl ([.ref (gr_a X a0), .int v1, .int v2]) ++ List.replicate (5 - (lg_sl ([.ref (gr_a X a0), .int v1, .int v2])).length) Slot.unset).toArray = ls at hl ⊢
  have hl : lv_has ls 5 [(0, .ref (gr_a X a0)), (1, .int v1), (2, .int v2)] := hl
  exact wb_mo_serve_0 (gw_ctx B hml rfl hB) M a0 v1 v2 _ _ _ ha0 (gw_start hB) hl hF
/-! AccountMachineModel.end(I)I -/
abbrev rm_mo_end : Room := { frames := 4, cells := 0, slots := 0, locals := 104 }
theorem dd_mo_end_0 : decode by_mo_end 0 = .ok (.aload_n 0, 1) := by decide +kernel
theorem dd_mo_end_1 : decode by_mo_end 1 = .ok (.getfield 69, 3) := by decide +kernel
theorem dd_mo_end_4 : decode by_mo_end 4 = .ok (.iload_n 1, 1) := by decide +kernel
theorem dd_mo_end_5 : decode by_mo_end 5 = .ok (.iaload, 1) := by decide +kernel
theorem dd_mo_end_6 : decode by_mo_end 6 = .ok (.ifCond .le 36, 3) := by decide +kernel
theorem dd_mo_end_9 : decode by_mo_end 9 = .ok (.aload_n 0, 1) := by decide +kernel
theorem dd_mo_end_10 : decode by_mo_end 10 = .ok (.getfield 69, 3) := by decide +kernel
theorem dd_mo_end_13 : decode by_mo_end 13 = .ok (.iload_n 1, 1) := by decide +kernel
theorem dd_mo_end_14 : decode by_mo_end 14 = .ok (.dup2, 1) := by decide +kernel
theorem dd_mo_end_15 : decode by_mo_end 15 = .ok (.iaload, 1) := by decide +kernel
theorem dd_mo_end_16 : decode by_mo_end 16 = .ok (.iconst 1, 1) := by decide +kernel
theorem dd_mo_end_17 : decode by_mo_end 17 = .ok (.isub, 1) := by decide +kernel
theorem dd_mo_end_18 : decode by_mo_end 18 = .ok (.iastore, 1) := by decide +kernel
theorem dd_mo_end_19 : decode by_mo_end 19 = .ok (.aload_n 0, 1) := by decide +kernel
theorem dd_mo_end_20 : decode by_mo_end 20 = .ok (.getfield 59, 3) := by decide +kernel
theorem dd_mo_end_23 : decode by_mo_end 23 = .ok (.iload_n 1, 1) := by decide +kernel
theorem dd_mo_end_24 : decode by_mo_end 24 = .ok (.aload_n 0, 1) := by decide +kernel
theorem dd_mo_end_25 : decode by_mo_end 25 = .ok (.getfield 66, 3) := by decide +kernel
theorem dd_mo_end_28 : decode by_mo_end 28 = .ok (.iconst 4, 1) := by decide +kernel
theorem dd_mo_end_29 : decode by_mo_end 29 = .ok (.iload_n 1, 1) := by decide +kernel
theorem dd_mo_end_30 : decode by_mo_end 30 = .ok (.imul, 1) := by decide +kernel
theorem dd_mo_end_31 : decode by_mo_end 31 = .ok (.aload_n 0, 1) := by decide +kernel
theorem dd_mo_end_32 : decode by_mo_end 32 = .ok (.getfield 69, 3) := by decide +kernel
theorem dd_mo_end_35 : decode by_mo_end 35 = .ok (.iload_n 1, 1) := by decide +kernel
theorem dd_mo_end_36 : decode by_mo_end 36 = .ok (.iaload, 1) := by decide +kernel
theorem dd_mo_end_37 : decode by_mo_end 37 = .ok (.iadd, 1) := by decide +kernel
theorem dd_mo_end_38 : decode by_mo_end 38 = .ok (.iaload, 1) := by decide +kernel
theorem dd_mo_end_39 : decode by_mo_end 39 = .ok (.iastore, 1) := by decide +kernel
theorem dd_mo_end_40 : decode by_mo_end 40 = .ok (.iconst 0, 1) := by decide +kernel
theorem dd_mo_end_41 : decode by_mo_end 41 = .ok (.ireturn, 1) := by decide +kernel
theorem dd_mo_end_42 : decode by_mo_end 42 = .ok (.aload_n 0, 1) := by decide +kernel
theorem dd_mo_end_43 : decode by_mo_end 43 = .ok (.getfield 62, 3) := by decide +kernel
theorem dd_mo_end_46 : decode by_mo_end 46 = .ok (.bipush 10, 2) := by decide +kernel
theorem dd_mo_end_48 : decode by_mo_end 48 = .ok (.iload_n 1, 1) := by decide +kernel
theorem dd_mo_end_49 : decode by_mo_end 49 = .ok (.imul, 1) := by decide +kernel
theorem dd_mo_end_50 : decode by_mo_end 50 = .ok (.laload, 1) := by decide +kernel
theorem dd_mo_end_51 : decode by_mo_end 51 = .ok (.lconst 0, 1) := by decide +kernel
theorem dd_mo_end_52 : decode by_mo_end 52 = .ok (.lcmp, 1) := by decide +kernel
theorem dd_mo_end_53 : decode by_mo_end 53 = .ok (.ifCond .eq 5, 3) := by decide +kernel
theorem dd_mo_end_56 : decode by_mo_end 56 = .ok (.iconst 5, 1) := by decide +kernel
theorem dd_mo_end_57 : decode by_mo_end 57 = .ok (.ireturn, 1) := by decide +kernel
theorem dd_mo_end_58 : decode by_mo_end 58 = .ok (.aload_n 0, 1) := by decide +kernel
theorem dd_mo_end_59 : decode by_mo_end 59 = .ok (.iload_n 1, 1) := by decide +kernel
theorem dd_mo_end_60 : decode by_mo_end 60 = .ok (.invokevirtual 173, 3) := by decide +kernel
theorem dd_mo_end_63 : decode by_mo_end 63 = .ok (.istore_n 2, 1) := by decide +kernel
theorem dd_mo_end_64 : decode by_mo_end 64 = .ok (.iload_n 2, 1) := by decide +kernel
theorem dd_mo_end_65 : decode by_mo_end 65 = .ok (.ifCond .le 5, 3) := by decide +kernel
theorem dd_mo_end_68 : decode by_mo_end 68 = .ok (.iload_n 2, 1) := by decide +kernel
theorem dd_mo_end_69 : decode by_mo_end 69 = .ok (.ireturn, 1) := by decide +kernel
theorem dd_mo_end_70 : decode by_mo_end 70 = .ok (.aload_n 0, 1) := by decide +kernel
theorem dd_mo_end_71 : decode by_mo_end 71 = .ok (.dup, 1) := by decide +kernel
theorem dd_mo_end_72 : decode by_mo_end 72 = .ok (.getfield 140, 3) := by decide +kernel
theorem dd_mo_end_75 : decode by_mo_end 75 = .ok (.iconst 1, 1) := by decide +kernel
theorem dd_mo_end_76 : decode by_mo_end 76 = .ok (.isub, 1) := by decide +kernel
theorem dd_mo_end_77 : decode by_mo_end 77 = .ok (.putfield 140, 3) := by decide +kernel
theorem dd_mo_end_80 : decode by_mo_end 80 = .ok (.aload_n 0, 1) := by decide +kernel
theorem dd_mo_end_81 : decode by_mo_end 81 = .ok (.getfield 140, 3) := by decide +kernel
theorem dd_mo_end_84 : decode by_mo_end 84 = .ok (.ifCond .le 11, 3) := by decide +kernel
theorem dd_mo_end_87 : decode by_mo_end 87 = .ok (.aload_n 0, 1) := by decide +kernel
theorem dd_mo_end_88 : decode by_mo_end 88 = .ok (.aload_n 0, 1) := by decide +kernel
theorem dd_mo_end_89 : decode by_mo_end 89 = .ok (.getfield 140, 3) := by decide +kernel
theorem dd_mo_end_92 : decode by_mo_end 92 = .ok (.invokevirtual 176, 3) := by decide +kernel
theorem dd_mo_end_95 : decode by_mo_end 95 = .ok (.iconst 0, 1) := by decide +kernel
theorem dd_mo_end_96 : decode by_mo_end 96 = .ok (.ireturn, 1) := by decide +kernel
def mo_end_b0 (M : gw_M) (a0 : Nat) (v1 : Int32) : Option (Int32 × gw_M) :=
  gw_gu (gw_in v1 5) (if (M.1 (a0 + 20) v1.toNatClampNeg) ≤ (0 : Int32) then (gw_gu (gw_in ((10 : Int32) * v1) 50) (if (lg_cmp (M.2 (a0 + 18) (((10 : Int32) * v1).toNatClampNeg)) (0 : Int64)) = (0 : Int32) then (gw_bd (mo_handBack_b0 M a0 v1) (fun r60 M60 => if r60 ≤ (0 : Int32) then (gw_lt (gw_sI M60 a0 17 ((M60.1 a0 17) - (1 : Int32))) (fun M77 => if (M77.1 a0 17) ≤ (0 : Int32) then (some ((0 : Int32), M77)) else (gw_bd (mo_comeBack_b0 M77 a0 (M77.1 a0 17)) (fun _ M92 => some ((0 : Int32), M92))))) else (some (r60, M60)))) else (some ((5 : Int32), M)))) else (gw_gu (gw_in v1 5) (gw_gu (gw_in v1 5) (gw_lt (gw_sI M (a0 + 20) v1.toNatClampNeg ((M.1 (a0 + 20) v1.toNatClampNeg) - (1 : Int32))) (fun M18 => gw_gu (gw_in v1 5) (gw_gu (gw_in (((4 : Int32) * v1) + (M18.1 (a0 + 20) v1.toNatClampNeg)) 20) (gw_gu (gw_in v1 5) (gw_lt (gw_sI M18 (a0 + 17) v1.toNatClampNeg (M18.1 (a0 + 19) ((((4 : Int32) * v1) + (M18.1 (a0 + 20) v1.toNatClampNeg)).toNatClampNeg))) (fun M39 => some ((0 : Int32), M39))))))))))
set_option maxRecDepth 100000 in
set_option maxHeartbeats 4000000 in
theorem wb_mo_end_0 {p : Program} {l : Launch} {e : Env} {s : State} {m : MethodId} {args : Array Value} {below : List Frame} {meth : Method} {c : Code} {X : gw_X} {Y : gw_M} {z : (Int32 × gw_M)} (C0 : gw_C ((Cond.code yy_mo_end by_mo_end 3 (some .int)) :: gw_w) by_mo_end 3 (some .int) "AccountMachineModel" X p s m args meth c) (M : gw_M) (a0 : Nat) (v1 : Int32) (H : Heap) (locs : List Loc) (ls : Array Slot) (ha0 : gr_k a0 = (11, 0)) (G : gw_G X (gw_E X Y M) s H locs) (hl : lv_has ls 3 [(0, .ref (gr_a X a0)), (1, .int v1)]) (hF : mo_end_b0  M a0 v1 = some z) : W p l e rm_mo_end s m args below meth c H locs 0 0 (MQ below (gw_Qi X (fun M => (gw_E X Y M)) z) args s 0 0 (gw_A X)) (F0 m 0 ls []) := by
  obtain ⟨hx, hb, hml, hown, hts, hr, hlocks, hK⟩ := id C0
  have hg : ∀ w ∈ gw_w, w.before args s = true := fun w h => hts w (List.mem_cons_of_mem _ h)
  unfold mo_end_b0 at hF
  refine lv_aload_n hx hb dd_mo_end_0 rfl (lv_at hl 0 rfl) ?_
  refine gf_mo_calls hx hb hg hown (hg _ kw_302) hK G ha0 dd_mo_end_1 ?_
  refine lv_iload_n hx hb dd_mo_end_4 rfl (lv_at hl 1 rfl) ?_
  obtain ⟨h5, hF⟩ := gw_gd hF
  refine gr_iald hx hb hK G (gq_mo_calls ha0) (gw_vp h5) (j := v1.toNatClampNeg) rfl dd_mo_end_5 ?_
  refine lv_if_le (tgt := 42) hx hb dd_mo_end_6 (by decide) (fun h6 => ?_) (fun h6 => ?_)
  · replace hF := gw_et h6 hF
    refine lv_aload_n hx hb dd_mo_end_42 rfl (lv_at hl 0 rfl) ?_
    refine gf_mo_registers hx hb hg hown (hg _ kw_299) hK G ha0 dd_mo_end_43 ?_
    refine lv_bipush (v := (10 : Int32)) hx hb dd_mo_end_46 (by decide) ?_
    refine lv_iload_n hx hb dd_mo_end_48 rfl (lv_at hl 1 rfl) ?_
    refine lv_imul hx hb dd_mo_end_49 ?_
    obtain ⟨h50, hF⟩ := gw_gd hF
    refine gr_lald hx hb hK G (gq_mo_registers ha0) (gw_vp h50) (j := ((10 : Int32) * v1).toNatClampNeg) rfl dd_mo_end_50 ?_
    refine lv_lconst (v := (0 : Int64)) hx hb dd_mo_end_51 (by decide) ?_
    refine W.lcmp hx hb dd_mo_end_52 ?_
    refine lv_if_eq (tgt := 58) hx hb dd_mo_end_53 (by decide) (fun h53 => ?_) (fun h53 => ?_)
    · replace hF := gw_et h53 hF
      refine lv_aload_n hx hb dd_mo_end_58 rfl (lv_at hl 0 rfl) ?_
      refine lv_iload_n hx hb dd_mo_end_59 rfl (lv_at hl 1 rfl) ?_
      obtain ⟨r60, M60, hc60, hF⟩ := gw_be hF
      refine gw_ci G (va_runV (As := [.int v1]) (rest := []) ⟨hx, hb, hml, hown, hts⟩ (ct_mo_handBack l X Y M a0 v1 ha0 _ hc60) (cwV 1 hts (gw_gV kw_332 kw_333 kw_334 kw_253 kw_331) rfl rfl rfl (by decide +kernel) ⟨Nat.le_of_ble_eq_true rfl, Nat.le_of_ble_eq_true rfl⟩) ⟨gw_blind, gw_recv_mo hK G ha0, gw_pre hK G⟩ rfl rfl hl.1 rfl (Nat.le_of_ble_eq_true rfl) dd_mo_end_60 ⟨Nat.le_of_ble_eq_true rfl, Nat.le_of_ble_eq_true rfl⟩) (fun H locs G => ?_)
      refine lv_istore_n (i := 2) (lv' := [(2, .int r60), (0, .ref (gr_a X a0)), (1, .int v1)]) hx hb dd_mo_end_63 rfl hl (by decide) rfl (fun ls hl => ?_)
      refine lv_iload_n hx hb dd_mo_end_64 rfl (lv_at hl 0 rfl) ?_
      refine lv_if_le (tgt := 70) hx hb dd_mo_end_65 (by decide) (fun h65 => ?_) (fun h65 => ?_)
      · replace hF := gw_et h65 hF
        refine lv_aload_n hx hb dd_mo_end_70 rfl (lv_at hl 1 rfl) ?_
        refine lv_dup hx hb dd_mo_end_71 rfl ?_
        refine gf_mo_depth hx hb hg hown (hg _ kw_343) hK G ha0 dd_mo_end_72 ?_
        refine lv_iconst (v := (1 : Int32)) hx hb dd_mo_end_75 (by decide) ?_
        refine lv_isub hx hb dd_mo_end_76 ?_
        refine gp_mo_depth hx hb hg hown (hg _ kw_343) hK G ha0 dd_mo_end_77 (fun M77 H locs e77 G => ?_)
        replace hF := gw_ly e77 hF
        refine lv_aload_n hx hb dd_mo_end_80 rfl (lv_at hl 1 rfl) ?_
        refine gf_mo_depth hx hb hg hown (hg _ kw_343) hK G ha0 dd_mo_end_81 ?_
        refine lv_if_le (tgt := 95) hx hb dd_mo_end_84 (by decide) (fun h84 => ?_) (fun h84 => ?_)
        · replace hF := gw_et h84 hF
          refine lv_iconst (v := (0 : Int32)) hx hb dd_mo_end_95 (by decide) ?_
          exact W.iret hx hb hr (fun t ht hW => gw_endi (EF := (fun M => (gw_E X Y M))) (M := M77) G ht hF) G.2.2.2.2 dd_mo_end_96 hlocks
        · replace hF := gw_ef h84 hF
          refine lv_aload_n hx hb dd_mo_end_87 rfl (lv_at hl 1 rfl) ?_
          refine lv_aload_n hx hb dd_mo_end_88 rfl (lv_at hl 1 rfl) ?_
          refine gf_mo_depth hx hb hg hown (hg _ kw_343) hK G ha0 dd_mo_end_89 ?_
          obtain ⟨u92, M92, hc92, hF⟩ := gw_be hF
          refine gw_cv G (va_runV (As := [.int (M77.1 a0 17)]) (rest := []) ⟨hx, hb, hml, hown, hts⟩ (ct_mo_comeBack l X Y M77 a0 (M77.1 a0 17) ha0 _ hc92) (cwV 1 hts (gw_gV kw_340 kw_341 kw_342 kw_253 kw_339) rfl rfl rfl (by decide +kernel) ⟨Nat.le_of_ble_eq_true rfl, Nat.le_of_ble_eq_true rfl⟩) ⟨gw_blind, gw_recv_mo hK G ha0, gw_pre hK G⟩ rfl rfl hl.1 rfl (Nat.le_of_ble_eq_true rfl) dd_mo_end_92 ⟨Nat.le_of_ble_eq_true rfl, Nat.le_of_ble_eq_true rfl⟩) (fun H locs G => ?_)
          refine lv_iconst (v := (0 : Int32)) hx hb dd_mo_end_95 (by decide) ?_
          exact W.iret hx hb hr (fun t ht hW => gw_endi (EF := (fun M => (gw_E X Y M))) (M := M92) G ht hF) G.2.2.2.2 dd_mo_end_96 hlocks
      · replace hF := gw_ef h65 hF
        refine lv_iload_n hx hb dd_mo_end_68 rfl (lv_at hl 0 rfl) ?_
        exact W.iret hx hb hr (fun t ht hW => gw_endi (EF := (fun M => (gw_E X Y M))) (M := M60) G ht hF) G.2.2.2.2 dd_mo_end_69 hlocks
    · replace hF := gw_ef h53 hF
      refine lv_iconst (v := (5 : Int32)) hx hb dd_mo_end_56 (by decide) ?_
      exact W.iret hx hb hr (fun t ht hW => gw_endi (EF := (fun M => (gw_E X Y M))) (M := M) G ht hF) G.2.2.2.2 dd_mo_end_57 hlocks
  · replace hF := gw_ef h6 hF
    refine lv_aload_n hx hb dd_mo_end_9 rfl (lv_at hl 0 rfl) ?_
    refine gf_mo_calls hx hb hg hown (hg _ kw_302) hK G ha0 dd_mo_end_10 ?_
    refine lv_iload_n hx hb dd_mo_end_13 rfl (lv_at hl 1 rfl) ?_
    refine lv_dup2_11 hx hb dd_mo_end_14 rfl rfl ?_
    obtain ⟨h15, hF⟩ := gw_gd hF
    refine gr_iald hx hb hK G (gq_mo_calls ha0) (gw_vp h15) (j := v1.toNatClampNeg) rfl dd_mo_end_15 ?_
    refine lv_iconst (v := (1 : Int32)) hx hb dd_mo_end_16 (by decide) ?_
    refine lv_isub hx hb dd_mo_end_17 ?_
    obtain ⟨h18, hF⟩ := gw_gd hF
    refine gr_iast hx hb hK G (gq_mo_calls ha0) (gw_vp h18) (j := v1.toNatClampNeg) rfl dd_mo_end_18 (fun M18 H locs e18 G => ?_)
    replace hF := gw_ly e18 hF
    refine lv_aload_n hx hb dd_mo_end_19 rfl (lv_at hl 0 rfl) ?_
    refine W.eq (g2 := F0 m 20 _ _) rfl ?_
    refine gf_mo_place hx hb hg hown (hg _ kw_301) hK G ha0 dd_mo_end_20 ?_
    refine lv_iload_n hx hb dd_mo_end_23 rfl (lv_at hl 1 rfl) ?_
    refine lv_aload_n hx hb dd_mo_end_24 rfl (lv_at hl 0 rfl) ?_
    refine gf_mo_remembered hx hb hg hown (hg _ kw_363) hK G ha0 dd_mo_end_25 ?_
    refine lv_iconst (v := (4 : Int32)) hx hb dd_mo_end_28 (by decide) ?_
    refine lv_iload_n hx hb dd_mo_end_29 rfl (lv_at hl 1 rfl) ?_
    refine lv_imul hx hb dd_mo_end_30 ?_
    refine lv_aload_n hx hb dd_mo_end_31 rfl (lv_at hl 0 rfl) ?_
    refine gf_mo_calls hx hb hg hown (hg _ kw_302) hK G ha0 dd_mo_end_32 ?_
    refine lv_iload_n hx hb dd_mo_end_35 rfl (lv_at hl 1 rfl) ?_
    refine W.eq (g2 := F0 m 36 _ _) rfl ?_
    obtain ⟨h36, hF⟩ := gw_gd hF
    refine gr_iald hx hb hK G (gq_mo_calls ha0) (gw_vp h36) (j := v1.toNatClampNeg) rfl dd_mo_end_36 ?_
    refine lv_iadd hx hb dd_mo_end_37 ?_
    obtain ⟨h38, hF⟩ := gw_gd hF
    refine gr_iald hx hb hK G (gq_mo_remembered ha0) (gw_vp h38) (j := (((4 : Int32) * v1) + (M18.1 (a0 + 20) v1.toNatClampNeg)).toNatClampNeg) rfl dd_mo_end_38 ?_
    obtain ⟨h39, hF⟩ := gw_gd hF
    refine gr_iast hx hb hK G (gq_mo_place ha0) (gw_vp h39) (j := v1.toNatClampNeg) rfl dd_mo_end_39 (fun M39 H locs e39 G => ?_)
    replace hF := gw_ly e39 hF
    refine lv_iconst (v := (0 : Int32)) hx hb dd_mo_end_40 (by decide) ?_
    exact W.iret hx hb hr (fun t ht hW => gw_endi (EF := (fun M => (gw_E X Y M))) (M := M39) G ht hF) G.2.2.2.2 dd_mo_end_41 hlocks
set_option maxRecDepth 100000 in
set_option maxHeartbeats 4000000 in
theorem ct_mo_end (l : Launch) (X : gw_X) (Y : gw_M) (M : gw_M) (a0 : Nat) (v1 : Int32) (ha0 : gr_k a0 = (11, 0)) (z : (Int32 × gw_M)) (hF : mo_end_b0 M a0 v1 = some z) : Met l yy_mo_end ((Cond.code yy_mo_end by_mo_end 3 (some .int)) :: gw_w) rm_mo_end (va_Pc [.ref (gr_a X a0), .int v1] (gw_B X (gw_E X Y M))) (gw_Qi X (fun M => (gw_E X Y M)) z) 0 0 (gw_A X) := by
  refine Met.ofW (cc := by_mo_end) (maxL := 3) (ret := (some .int)) (by decide) rfl ?_
  intro p e s m args below meth c s₁ B hml hv
  obtain ⟨rfl, hB⟩ := hv
  rw [lg_entry_eq]
  have hl := lv_entry ([.ref (gr_a X a0), .int v1]) (n := 3) (Nat.le_of_ble_eq_true rfl)
  generalize (lg_sl ([.ref (gr_a X a0), .int v1]) ++ List.replicate (3 - (lg_sl ([.ref (gr_a X a0), .int v1])).length) Slot.unset).toArray = ls at hl ⊢
  have hl : lv_has ls 3 [(0, .ref (gr_a X a0)), (1, .int v1)] := hl
  exact wb_mo_end_0 (gw_ctx B hml rfl hB) M a0 v1 _ _ _ ha0 (gw_start hB) hl hF
/-! AccountMachineModel.access(IZIIJ)I -/
abbrev rm_mo_access : Room := { frames := 2, cells := 0, slots := 0, locals := 49 }
theorem dd_mo_access_0 : decode by_mo_access 0 = .ok (.aload_n 0, 1) := by decide +kernel
theorem dd_mo_access_1 : decode by_mo_access 1 = .ok (.getfield 62, 3) := by decide +kernel
theorem dd_mo_access_4 : decode by_mo_access 4 = .ok (.iload_n 2, 1) := by decide +kernel
theorem dd_mo_access_5 : decode by_mo_access 5 = .ok (.ifCond .eq 8, 3) := by decide +kernel
theorem dd_mo_access_8 : decode by_mo_access 8 = .ok (.iload 4, 2) := by decide +kernel
theorem dd_mo_access_10 : decode by_mo_access 10 = .ok (.goto 4, 3) := by decide +kernel
theorem dd_mo_access_13 : decode by_mo_access 13 = .ok (.iload_n 3, 1) := by decide +kernel
theorem dd_mo_access_14 : decode by_mo_access 14 = .ok (.laload, 1) := by decide +kernel
theorem dd_mo_access_15 : decode by_mo_access 15 = .ok (.lload 5, 2) := by decide +kernel
theorem dd_mo_access_17 : decode by_mo_access 17 = .ok (.ladd, 1) := by decide +kernel
theorem dd_mo_access_18 : decode by_mo_access 18 = .ok (.lstore 7, 2) := by decide +kernel
theorem dd_mo_access_20 : decode by_mo_access 20 = .ok (.aload_n 0, 1) := by decide +kernel
theorem dd_mo_access_21 : decode by_mo_access 21 = .ok (.iload_n 1, 1) := by decide +kernel
theorem dd_mo_access_22 : decode by_mo_access 22 = .ok (.lload 7, 2) := by decide +kernel
theorem dd_mo_access_24 : decode by_mo_access 24 = .ok (.invokevirtual 162, 3) := by decide +kernel
theorem dd_mo_access_27 : decode by_mo_access 27 = .ok (.istore 9, 2) := by decide +kernel
theorem dd_mo_access_29 : decode by_mo_access 29 = .ok (.lload 7, 2) := by decide +kernel
theorem dd_mo_access_31 : decode by_mo_access 31 = .ok (.ldc2_w 166, 3) := by decide +kernel
theorem dd_mo_access_34 : decode by_mo_access 34 = .ok (.ldc2_w 168, 3) := by decide +kernel
theorem dd_mo_access_37 : decode by_mo_access 37 = .ok (.invokestatic 83, 3) := by decide +kernel
theorem dd_mo_access_40 : decode by_mo_access 40 = .ok (.istore 10, 2) := by decide +kernel
theorem dd_mo_access_42 : decode by_mo_access 42 = .ok (.iload 10, 2) := by decide +kernel
theorem dd_mo_access_44 : decode by_mo_access 44 = .ok (.ifCond .ne 10, 3) := by decide +kernel
theorem dd_mo_access_47 : decode by_mo_access 47 = .ok (.iload 9, 2) := by decide +kernel
theorem dd_mo_access_49 : decode by_mo_access 49 = .ok (.ifCond .ge 5, 3) := by decide +kernel
theorem dd_mo_access_52 : decode by_mo_access 52 = .ok (.iconst 2, 1) := by decide +kernel
theorem dd_mo_access_53 : decode by_mo_access 53 = .ok (.ireturn, 1) := by decide +kernel
theorem dd_mo_access_54 : decode by_mo_access 54 = .ok (.iload 10, 2) := by decide +kernel
theorem dd_mo_access_56 : decode by_mo_access 56 = .ok (.ifCond .eq 18, 3) := by decide +kernel
theorem dd_mo_access_59 : decode by_mo_access 59 = .ok (.bipush 16, 2) := by decide +kernel
theorem dd_mo_access_61 : decode by_mo_access 61 = .ok (.iload_n 1, 1) := by decide +kernel
theorem dd_mo_access_62 : decode by_mo_access 62 = .ok (.imul, 1) := by decide +kernel
theorem dd_mo_access_63 : decode by_mo_access 63 = .ok (.lload 7, 2) := by decide +kernel
theorem dd_mo_access_65 : decode by_mo_access 65 = .ok (.l2i, 1) := by decide +kernel
theorem dd_mo_access_66 : decode by_mo_access 66 = .ok (.iadd, 1) := by decide +kernel
theorem dd_mo_access_67 : decode by_mo_access 67 = .ok (.sipush 1000, 3) := by decide +kernel
theorem dd_mo_access_70 : decode by_mo_access 70 = .ok (.isub, 1) := by decide +kernel
theorem dd_mo_access_71 : decode by_mo_access 71 = .ok (.goto 4, 3) := by decide +kernel
theorem dd_mo_access_74 : decode by_mo_access 74 = .ok (.iconst 0, 1) := by decide +kernel
theorem dd_mo_access_75 : decode by_mo_access 75 = .ok (.istore 11, 2) := by decide +kernel
theorem dd_mo_access_77 : decode by_mo_access 77 = .ok (.iload_n 2, 1) := by decide +kernel
theorem dd_mo_access_78 : decode by_mo_access 78 = .ok (.ifCond .eq 34, 3) := by decide +kernel
theorem dd_mo_access_81 : decode by_mo_access 81 = .ok (.aload_n 0, 1) := by decide +kernel
theorem dd_mo_access_82 : decode by_mo_access 82 = .ok (.getfield 62, 3) := by decide +kernel
theorem dd_mo_access_85 : decode by_mo_access 85 = .ok (.iload_n 3, 1) := by decide +kernel
theorem dd_mo_access_86 : decode by_mo_access 86 = .ok (.iload 10, 2) := by decide +kernel
theorem dd_mo_access_88 : decode by_mo_access 88 = .ok (.ifCond .eq 13, 3) := by decide +kernel
theorem dd_mo_access_91 : decode by_mo_access 91 = .ok (.aload_n 0, 1) := by decide +kernel
theorem dd_mo_access_92 : decode by_mo_access 92 = .ok (.getfield 72, 3) := by decide +kernel
theorem dd_mo_access_95 : decode by_mo_access 95 = .ok (.iload 11, 2) := by decide +kernel
theorem dd_mo_access_97 : decode by_mo_access 97 = .ok (.laload, 1) := by decide +kernel
theorem dd_mo_access_98 : decode by_mo_access 98 = .ok (.goto 10, 3) := by decide +kernel
theorem dd_mo_access_101 : decode by_mo_access 101 = .ok (.aload_n 0, 1) := by decide +kernel
theorem dd_mo_access_102 : decode by_mo_access 102 = .ok (.getfield 75, 3) := by decide +kernel
theorem dd_mo_access_105 : decode by_mo_access 105 = .ok (.iload 9, 2) := by decide +kernel
theorem dd_mo_access_107 : decode by_mo_access 107 = .ok (.laload, 1) := by decide +kernel
theorem dd_mo_access_108 : decode by_mo_access 108 = .ok (.lastore, 1) := by decide +kernel
theorem dd_mo_access_109 : decode by_mo_access 109 = .ok (.goto 51, 3) := by decide +kernel
theorem dd_mo_access_112 : decode by_mo_access 112 = .ok (.iload 10, 2) := by decide +kernel
theorem dd_mo_access_114 : decode by_mo_access 114 = .ok (.ifCond .eq 20, 3) := by decide +kernel
theorem dd_mo_access_117 : decode by_mo_access 117 = .ok (.aload_n 0, 1) := by decide +kernel
theorem dd_mo_access_118 : decode by_mo_access 118 = .ok (.getfield 72, 3) := by decide +kernel
theorem dd_mo_access_121 : decode by_mo_access 121 = .ok (.iload 11, 2) := by decide +kernel
theorem dd_mo_access_123 : decode by_mo_access 123 = .ok (.aload_n 0, 1) := by decide +kernel
theorem dd_mo_access_124 : decode by_mo_access 124 = .ok (.getfield 62, 3) := by decide +kernel
theorem dd_mo_access_127 : decode by_mo_access 127 = .ok (.iload 4, 2) := by decide +kernel
theorem dd_mo_access_129 : decode by_mo_access 129 = .ok (.laload, 1) := by decide +kernel
theorem dd_mo_access_130 : decode by_mo_access 130 = .ok (.lastore, 1) := by decide +kernel
theorem dd_mo_access_131 : decode by_mo_access 131 = .ok (.goto 29, 3) := by decide +kernel
theorem dd_mo_access_134 : decode by_mo_access 134 = .ok (.aload_n 0, 1) := by decide +kernel
theorem dd_mo_access_135 : decode by_mo_access 135 = .ok (.iload_n 1, 1) := by decide +kernel
theorem dd_mo_access_136 : decode by_mo_access 136 = .ok (.iload 9, 2) := by decide +kernel
theorem dd_mo_access_138 : decode by_mo_access 138 = .ok (.invokevirtual 170, 3) := by decide +kernel
theorem dd_mo_access_141 : decode by_mo_access 141 = .ok (.ifCond .ne 5, 3) := by decide +kernel
theorem dd_mo_access_144 : decode by_mo_access 144 = .ok (.iconst 2, 1) := by decide +kernel
theorem dd_mo_access_145 : decode by_mo_access 145 = .ok (.ireturn, 1) := by decide +kernel
theorem dd_mo_access_146 : decode by_mo_access 146 = .ok (.aload_n 0, 1) := by decide +kernel
theorem dd_mo_access_147 : decode by_mo_access 147 = .ok (.getfield 75, 3) := by decide +kernel
theorem dd_mo_access_150 : decode by_mo_access 150 = .ok (.iload 9, 2) := by decide +kernel
theorem dd_mo_access_152 : decode by_mo_access 152 = .ok (.aload_n 0, 1) := by decide +kernel
theorem dd_mo_access_153 : decode by_mo_access 153 = .ok (.getfield 62, 3) := by decide +kernel
theorem dd_mo_access_156 : decode by_mo_access 156 = .ok (.iload 4, 2) := by decide +kernel
theorem dd_mo_access_158 : decode by_mo_access 158 = .ok (.laload, 1) := by decide +kernel
theorem dd_mo_access_159 : decode by_mo_access 159 = .ok (.lastore, 1) := by decide +kernel
theorem dd_mo_access_160 : decode by_mo_access 160 = .ok (.aload_n 0, 1) := by decide +kernel
theorem dd_mo_access_161 : decode by_mo_access 161 = .ok (.getfield 59, 3) := by decide +kernel
theorem dd_mo_access_164 : decode by_mo_access 164 = .ok (.iload_n 1, 1) := by decide +kernel
theorem dd_mo_access_165 : decode by_mo_access 165 = .ok (.dup2, 1) := by decide +kernel
theorem dd_mo_access_166 : decode by_mo_access 166 = .ok (.iaload, 1) := by decide +kernel
theorem dd_mo_access_167 : decode by_mo_access 167 = .ok (.iconst 1, 1) := by decide +kernel
theorem dd_mo_access_168 : decode by_mo_access 168 = .ok (.iadd, 1) := by decide +kernel
theorem dd_mo_access_169 : decode by_mo_access 169 = .ok (.iastore, 1) := by decide +kernel
theorem dd_mo_access_170 : decode by_mo_access 170 = .ok (.iconst 0, 1) := by decide +kernel
theorem dd_mo_access_171 : decode by_mo_access 171 = .ok (.ireturn, 1) := by decide +kernel
def mo_access_b160 (M : gw_M) (a0 : Nat) (v1 : Int32) : Option (Int32 × gw_M) :=
  gw_gu (gw_in v1 5) (gw_gu (gw_in v1 5) (gw_lt (gw_sI M (a0 + 17) v1.toNatClampNeg ((M.1 (a0 + 17) v1.toNatClampNeg) + (1 : Int32))) (fun M169 => some ((0 : Int32), M169))))
def mo_access_b108 (M : gw_M) (a0 : Nat) (v1 : Int32) (t0 : Int64) (t1 : Int32) (b2 : Nat) : Option (Int32 × gw_M) :=
  gw_gu (gw_in t1 50) (gw_lt (gw_sL M b2 t1.toNatClampNeg t0) (fun M108 => mo_access_b160  M108 a0 v1))
def mo_access_b75 (M : gw_M) (a0 : Nat) (v1 : Int32) (v2 : Int32) (v3 : Int32) (v4 : Int32) (v9 : Int32) (v10 : Int32) (t0 : Int32) : Option (Int32 × gw_M) :=
  if v2 = (0 : Int32) then (if v10 = (0 : Int32) then (gw_bd (mo_mayStore_b0 M a0 v1 v9) (fun r138 M138 => if r138 = (0 : Int32) then (some ((2 : Int32), M138)) else (gw_gu (gw_in v4 50) (gw_gu (gw_in v9 200) (gw_lt (gw_sL M138 (a0 + 22) v9.toNatClampNeg (M138.2 (a0 + 18) v4.toNatClampNeg)) (fun M159 => mo_access_b160  M159 a0 v1)))))) else (gw_gu (gw_in v4 50) (gw_gu (gw_in t0 80) (gw_lt (gw_sL M (a0 + 21) t0.toNatClampNeg (M.2 (a0 + 18) v4.toNatClampNeg)) (fun M130 => mo_access_b160  M130 a0 v1))))) else (if v10 = (0 : Int32) then (gw_gu (gw_in v9 200) (mo_access_b108  M a0 v1 (M.2 (a0 + 22) v9.toNatClampNeg) v3 (a0 + 18))) else (gw_gu (gw_in t0 80) (mo_access_b108  M a0 v1 (M.2 (a0 + 21) t0.toNatClampNeg) v3 (a0 + 18))))
def mo_access_b54 (M : gw_M) (a0 : Nat) (v1 : Int32) (v2 : Int32) (v3 : Int32) (v4 : Int32) (v7 : Int64) (v9 : Int32) (v10 : Int32) : Option (Int32 × gw_M) :=
  if v10 = (0 : Int32) then (mo_access_b75  M a0 v1 v2 v3 v4 v9 v10 (0 : Int32)) else (mo_access_b75  M a0 v1 v2 v3 v4 v9 v10 ((((16 : Int32) * v1) + v7.toInt32) - (1000 : Int32)))
def mo_access_b14 (M : gw_M) (a0 : Nat) (v1 : Int32) (v2 : Int32) (v3 : Int32) (v4 : Int32) (v5 : Int64) (t0 : Int32) (b1 : Nat) : Option (Int32 × gw_M) :=
  gw_gu (gw_in t0 50) (gw_lt ((M.2 b1 t0.toNatClampNeg) + v5) (fun x18 => gw_bd (mo_wordAt_b0 M a0 v1 x18) (fun r24 M24 => gw_bd (mo_in_b0 M24 x18 (1000 : Int64) (1015 : Int64)) (fun r37 M37 => if r37 = (0 : Int32) then (if (0 : Int32) ≤ r24 then (mo_access_b54  M37 a0 v1 v2 v3 v4 x18 r24 r37) else (some ((2 : Int32), M37))) else (mo_access_b54  M37 a0 v1 v2 v3 v4 x18 r24 r37)))))
def mo_access_b0 (M : gw_M) (a0 : Nat) (v1 : Int32) (v2 : Int32) (v3 : Int32) (v4 : Int32) (v5 : Int64) : Option (Int32 × gw_M) :=
  if v2 = (0 : Int32) then (mo_access_b14  M a0 v1 v2 v3 v4 v5 v3 (a0 + 18)) else (mo_access_b14  M a0 v1 v2 v3 v4 v5 v4 (a0 + 18))
set_option maxRecDepth 100000 in
set_option maxHeartbeats 4000000 in
theorem wb_mo_access_160 {p : Program} {l : Launch} {e : Env} {s : State} {m : MethodId} {args : Array Value} {below : List Frame} {meth : Method} {c : Code} {X : gw_X} {Y : gw_M} {z : (Int32 × gw_M)} (C0 : gw_C ((Cond.code yy_mo_access by_mo_access 12 (some .int)) :: gw_w) by_mo_access 12 (some .int) "AccountMachineModel" X p s m args meth c) (M : gw_M) (a0 : Nat) (v1 : Int32) (H : Heap) (locs : List Loc) (ls : Array Slot) (ha0 : gr_k a0 = (11, 0)) (G : gw_G X (gw_E X Y M) s H locs) (hl : lv_has ls 12 [(0, .ref (gr_a X a0)), (1, .int v1)]) (hF : mo_access_b160  M a0 v1 = some z) : W p l e rm_mo_access s m args below meth c H locs 0 0 (MQ below (gw_Qi X (fun M => (gw_E X Y M)) z) args s 0 0 (gw_A X)) (F0 m 160 ls []) := by
  obtain ⟨hx, hb, hml, hown, hts, hr, hlocks, hK⟩ := id C0
  have hg : ∀ w ∈ gw_w, w.before args s = true := fun w h => hts w (List.mem_cons_of_mem _ h)
  unfold mo_access_b160 at hF
  refine lv_aload_n hx hb dd_mo_access_160 rfl (lv_at hl 0 rfl) ?_
  refine gf_mo_place hx hb hg hown (hg _ kw_301) hK G ha0 dd_mo_access_161 ?_
  refine lv_iload_n hx hb dd_mo_access_164 rfl (lv_at hl 1 rfl) ?_
  refine lv_dup2_11 hx hb dd_mo_access_165 rfl rfl ?_
  obtain ⟨h166, hF⟩ := gw_gd hF
  refine gr_iald hx hb hK G (gq_mo_place ha0) (gw_vp h166) (j := v1.toNatClampNeg) rfl dd_mo_access_166 ?_
  refine lv_iconst (v := (1 : Int32)) hx hb dd_mo_access_167 (by decide) ?_
  refine lv_iadd hx hb dd_mo_access_168 ?_
  obtain ⟨h169, hF⟩ := gw_gd hF
  refine gr_iast hx hb hK G (gq_mo_place ha0) (gw_vp h169) (j := v1.toNatClampNeg) rfl dd_mo_access_169 (fun M169 H locs e169 G => ?_)
  replace hF := gw_ly e169 hF
  refine lv_iconst (v := (0 : Int32)) hx hb dd_mo_access_170 (by decide) ?_
  refine W.eq (g2 := F0 m 171 _ _) rfl ?_
  exact W.iret hx hb hr (fun t ht hW => gw_endi (EF := (fun M => (gw_E X Y M))) (M := M169) G ht hF) G.2.2.2.2 dd_mo_access_171 hlocks
set_option maxRecDepth 100000 in
set_option maxHeartbeats 4000000 in
theorem wb_mo_access_108 {p : Program} {l : Launch} {e : Env} {s : State} {m : MethodId} {args : Array Value} {below : List Frame} {meth : Method} {c : Code} {X : gw_X} {Y : gw_M} {z : (Int32 × gw_M)} (C0 : gw_C ((Cond.code yy_mo_access by_mo_access 12 (some .int)) :: gw_w) by_mo_access 12 (some .int) "AccountMachineModel" X p s m args meth c) (M : gw_M) (a0 : Nat) (v1 : Int32) (t0 : Int64) (t1 : Int32) (b2 : Nat) (H : Heap) (locs : List Loc) (ls : Array Slot) (ha0 : gr_k a0 = (11, 0)) (hb2 : gr_k b2 = (1, 50)) (G : gw_G X (gw_E X Y M) s H locs) (hl : lv_has ls 12 [(0, .ref (gr_a X a0)), (1, .int v1)]) (hF : mo_access_b108  M a0 v1 t0 t1 b2 = some z) : W p l e rm_mo_access s m args below meth c H locs 0 0 (MQ below (gw_Qi X (fun M => (gw_E X Y M)) z) args s 0 0 (gw_A X)) (F0 m 108 ls [.long t0, .int t1, .ref (gr_a X b2)]) := by
  obtain ⟨hx, hb, hml, hown, hts, hr, hlocks, hK⟩ := id C0
  have hg : ∀ w ∈ gw_w, w.before args s = true := fun w h => hts w (List.mem_cons_of_mem _ h)
  unfold mo_access_b108 at hF
  obtain ⟨h108, hF⟩ := gw_gd hF
  refine gr_last hx hb hK G hb2 (gw_vp h108) (j := t1.toNatClampNeg) rfl dd_mo_access_108 (fun M108 H locs e108 G => ?_)
  replace hF := gw_ly e108 hF
  refine lv_goto (tgt := 160) hx hb dd_mo_access_109 (by decide) ?_
  exact wb_mo_access_160 C0  M108 a0 v1 _ _ _ ha0 G (lv_sub hl [0, 1] rfl) hF
set_option maxRecDepth 100000 in
set_option maxHeartbeats 4000000 in
theorem wb_mo_access_75 {p : Program} {l : Launch} {e : Env} {s : State} {m : MethodId} {args : Array Value} {below : List Frame} {meth : Method} {c : Code} {X : gw_X} {Y : gw_M} {z : (Int32 × gw_M)} (C0 : gw_C ((Cond.code yy_mo_access by_mo_access 12 (some .int)) :: gw_w) by_mo_access 12 (some .int) "AccountMachineModel" X p s m args meth c) (M : gw_M) (a0 : Nat) (v1 : Int32) (v2 : Int32) (v3 : Int32) (v4 : Int32) (v9 : Int32) (v10 : Int32) (t0 : Int32) (H : Heap) (locs : List Loc) (ls : Array Slot) (ha0 : gr_k a0 = (11, 0)) (G : gw_G X (gw_E X Y M) s H locs) (hl : lv_has ls 12 [(0, .ref (gr_a X a0)), (1, .int v1), (2, .int v2), (3, .int v3), (4, .int v4), (9, .int v9), (10, .int v10)]) (hF : mo_access_b75  M a0 v1 v2 v3 v4 v9 v10 t0 = some z) : W p l e rm_mo_access s m args below meth c H locs 0 0 (MQ below (gw_Qi X (fun M => (gw_E X Y M)) z) args s 0 0 (gw_A X)) (F0 m 75 ls [.int t0]) := by
  obtain ⟨hx, hb, hml, hown, hts, hr, hlocks, hK⟩ := id C0
  have hg : ∀ w ∈ gw_w, w.before args s = true := fun w h => hts w (List.mem_cons_of_mem _ h)
  unfold mo_access_b75 at hF
  refine lv_istore (i := 11) (lv' := [(11, .int t0), (0, .ref (gr_a X a0)), (1, .int v1), (2, .int v2), (3, .int v3), (4, .int v4), (9, .int v9), (10, .int v10)]) hx hb dd_mo_access_75 hl (by decide) rfl (fun ls hl => ?_)
  refine lv_iload_n hx hb dd_mo_access_77 rfl (lv_at hl 3 rfl) ?_
  refine lv_if_eq (tgt := 112) hx hb dd_mo_access_78 (by decide) (fun h78 => ?_) (fun h78 => ?_)
  · replace hF := gw_et h78 hF
    refine lv_iload hx hb dd_mo_access_112 (lv_at hl 7 rfl) ?_
    refine lv_if_eq (tgt := 134) hx hb dd_mo_access_114 (by decide) (fun h114 => ?_) (fun h114 => ?_)
    · replace hF := gw_et h114 hF
      refine lv_aload_n hx hb dd_mo_access_134 rfl (lv_at hl 1 rfl) ?_
      refine lv_iload_n hx hb dd_mo_access_135 rfl (lv_at hl 2 rfl) ?_
      refine lv_iload hx hb dd_mo_access_136 (lv_at hl 6 rfl) ?_
      obtain ⟨r138, M138, hc138, hF⟩ := gw_be hF
      refine gw_ci G (va_runV (As := [.int v1, .int v9]) (rest := []) ⟨hx, hb, hml, hown, hts⟩ (ct_mo_mayStore l X Y M a0 v1 v9 ha0 _ hc138) (cwV 2 hts (gw_gV kw_365 kw_366 kw_367 kw_253 kw_364) rfl rfl rfl (by decide +kernel) ⟨Nat.le_of_ble_eq_true rfl, Nat.le_of_ble_eq_true rfl⟩) ⟨gw_blind, gw_recv_mo hK G ha0, gw_pre hK G⟩ rfl rfl hl.1 rfl (Nat.le_of_ble_eq_true rfl) dd_mo_access_138 ⟨Nat.le_of_ble_eq_true rfl, Nat.le_of_ble_eq_true rfl⟩) (fun H locs G => ?_)
      refine lv_if_ne (tgt := 146) hx hb dd_mo_access_141 (by decide) (fun h141 => ?_) (fun h141 => ?_)
      · replace hF := gw_ef h141 hF
        refine lv_aload_n hx hb dd_mo_access_146 rfl (lv_at hl 1 rfl) ?_
        refine gf_mo_seen hx hb hg hown (hg _ kw_285) hK G ha0 dd_mo_access_147 ?_
        refine lv_iload hx hb dd_mo_access_150 (lv_at hl 6 rfl) ?_
        refine lv_aload_n hx hb dd_mo_access_152 rfl (lv_at hl 1 rfl) ?_
        refine gf_mo_registers hx hb hg hown (hg _ kw_299) hK G ha0 dd_mo_access_153 ?_
        refine lv_iload hx hb dd_mo_access_156 (lv_at hl 5 rfl) ?_
        obtain ⟨h158, hF⟩ := gw_gd hF
        refine gr_lald hx hb hK G (gq_mo_registers ha0) (gw_vp h158) (j := v4.toNatClampNeg) rfl dd_mo_access_158 ?_
        obtain ⟨h159, hF⟩ := gw_gd hF
        refine gr_last hx hb hK G (gq_mo_seen ha0) (gw_vp h159) (j := v9.toNatClampNeg) rfl dd_mo_access_159 (fun M159 H locs e159 G => ?_)
        replace hF := gw_ly e159 hF
        exact wb_mo_access_160 C0  M159 a0 v1 _ _ _ ha0 G (lv_sub hl [1, 2] rfl) hF
      · replace hF := gw_et h141 hF
        refine lv_iconst (v := (2 : Int32)) hx hb dd_mo_access_144 (by decide) ?_
        exact W.iret hx hb hr (fun t ht hW => gw_endi (EF := (fun M => (gw_E X Y M))) (M := M138) G ht hF) G.2.2.2.2 dd_mo_access_145 hlocks
    · replace hF := gw_ef h114 hF
      refine lv_aload_n hx hb dd_mo_access_117 rfl (lv_at hl 1 rfl) ?_
      refine gf_mo_stack hx hb hg hown (hg _ kw_298) hK G ha0 dd_mo_access_118 ?_
      refine lv_iload hx hb dd_mo_access_121 (lv_at hl 0 rfl) ?_
      refine lv_aload_n hx hb dd_mo_access_123 rfl (lv_at hl 1 rfl) ?_
      refine gf_mo_registers hx hb hg hown (hg _ kw_299) hK G ha0 dd_mo_access_124 ?_
      refine lv_iload hx hb dd_mo_access_127 (lv_at hl 5 rfl) ?_
      obtain ⟨h129, hF⟩ := gw_gd hF
      refine gr_lald hx hb hK G (gq_mo_registers ha0) (gw_vp h129) (j := v4.toNatClampNeg) rfl dd_mo_access_129 ?_
      obtain ⟨h130, hF⟩ := gw_gd hF
      refine gr_last hx hb hK G (gq_mo_stack ha0) (gw_vp h130) (j := t0.toNatClampNeg) rfl dd_mo_access_130 (fun M130 H locs e130 G => ?_)
      replace hF := gw_ly e130 hF
      refine lv_goto (tgt := 160) hx hb dd_mo_access_131 (by decide) ?_
      exact wb_mo_access_160 C0  M130 a0 v1 _ _ _ ha0 G (lv_sub hl [1, 2] rfl) hF
  · replace hF := gw_ef h78 hF
    refine lv_aload_n hx hb dd_mo_access_81 rfl (lv_at hl 1 rfl) ?_
    refine gf_mo_registers hx hb hg hown (hg _ kw_299) hK G ha0 dd_mo_access_82 ?_
    refine lv_iload_n hx hb dd_mo_access_85 rfl (lv_at hl 4 rfl) ?_
    refine lv_iload hx hb dd_mo_access_86 (lv_at hl 7 rfl) ?_
    refine lv_if_eq (tgt := 101) hx hb dd_mo_access_88 (by decide) (fun h88 => ?_) (fun h88 => ?_)
    · replace hF := gw_et h88 hF
      refine lv_aload_n hx hb dd_mo_access_101 rfl (lv_at hl 1 rfl) ?_
      refine gf_mo_seen hx hb hg hown (hg _ kw_285) hK G ha0 dd_mo_access_102 ?_
      refine lv_iload hx hb dd_mo_access_105 (lv_at hl 6 rfl) ?_
      obtain ⟨h107, hF⟩ := gw_gd hF
      refine gr_lald hx hb hK G (gq_mo_seen ha0) (gw_vp h107) (j := v9.toNatClampNeg) rfl dd_mo_access_107 ?_
      exact wb_mo_access_108 C0  M a0 v1 (M.2 (a0 + 22) v9.toNatClampNeg) v3 (a0 + 18) _ _ _ ha0 (gq_mo_registers ha0) G (lv_sub hl [1, 2] rfl) hF
    · replace hF := gw_ef h88 hF
      refine lv_aload_n hx hb dd_mo_access_91 rfl (lv_at hl 1 rfl) ?_
      refine gf_mo_stack hx hb hg hown (hg _ kw_298) hK G ha0 dd_mo_access_92 ?_
      refine lv_iload hx hb dd_mo_access_95 (lv_at hl 0 rfl) ?_
      obtain ⟨h97, hF⟩ := gw_gd hF
      refine gr_lald hx hb hK G (gq_mo_stack ha0) (gw_vp h97) (j := t0.toNatClampNeg) rfl dd_mo_access_97 ?_
      refine lv_goto (tgt := 108) hx hb dd_mo_access_98 (by decide) ?_
      exact wb_mo_access_108 C0  M a0 v1 (M.2 (a0 + 21) t0.toNatClampNeg) v3 (a0 + 18) _ _ _ ha0 (gq_mo_registers ha0) G (lv_sub hl [1, 2] rfl) hF
set_option maxRecDepth 100000 in
set_option maxHeartbeats 4000000 in
theorem wb_mo_access_54 {p : Program} {l : Launch} {e : Env} {s : State} {m : MethodId} {args : Array Value} {below : List Frame} {meth : Method} {c : Code} {X : gw_X} {Y : gw_M} {z : (Int32 × gw_M)} (C0 : gw_C ((Cond.code yy_mo_access by_mo_access 12 (some .int)) :: gw_w) by_mo_access 12 (some .int) "AccountMachineModel" X p s m args meth c) (M : gw_M) (a0 : Nat) (v1 : Int32) (v2 : Int32) (v3 : Int32) (v4 : Int32) (v7 : Int64) (v9 : Int32) (v10 : Int32) (H : Heap) (locs : List Loc) (ls : Array Slot) (ha0 : gr_k a0 = (11, 0)) (G : gw_G X (gw_E X Y M) s H locs) (hl : lv_has ls 12 [(0, .ref (gr_a X a0)), (1, .int v1), (2, .int v2), (3, .int v3), (4, .int v4), (7, .long v7), (9, .int v9), (10, .int v10)]) (hF : mo_access_b54  M a0 v1 v2 v3 v4 v7 v9 v10 = some z) : W p l e rm_mo_access s m args below meth c H locs 0 0 (MQ below (gw_Qi X (fun M => (gw_E X Y M)) z) args s 0 0 (gw_A X)) (F0 m 54 ls []) := by
  obtain ⟨hx, hb, hml, hown, hts, hr, hlocks, hK⟩ := id C0
  have hg : ∀ w ∈ gw_w, w.before args s = true := fun w h => hts w (List.mem_cons_of_mem _ h)
  unfold mo_access_b54 at hF
  refine lv_iload hx hb dd_mo_access_54 (lv_at hl 7 rfl) ?_
  refine lv_if_eq (tgt := 74) hx hb dd_mo_access_56 (by decide) (fun h56 => ?_) (fun h56 => ?_)
  · replace hF := gw_et h56 hF
    refine lv_iconst (v := (0 : Int32)) hx hb dd_mo_access_74 (by decide) ?_
    exact wb_mo_access_75 C0  M a0 v1 v2 v3 v4 v9 v10 (0 : Int32) _ _ _ ha0 G (lv_sub hl [0, 1, 2, 3, 4, 6, 7] rfl) hF
  · replace hF := gw_ef h56 hF
    refine lv_bipush (v := (16 : Int32)) hx hb dd_mo_access_59 (by decide) ?_
    refine lv_iload_n hx hb dd_mo_access_61 rfl (lv_at hl 1 rfl) ?_
    refine lv_imul hx hb dd_mo_access_62 ?_
    refine lv_lload hx hb dd_mo_access_63 (lv_at hl 5 rfl) ?_
    refine lv_l2i (v := v7.toInt32) hx hb dd_mo_access_65 rfl ?_
    refine lv_iadd hx hb dd_mo_access_66 ?_
    refine lv_sipush (v := (1000 : Int32)) hx hb dd_mo_access_67 (by decide) ?_
    refine lv_isub hx hb dd_mo_access_70 ?_
    refine lv_goto (tgt := 75) hx hb dd_mo_access_71 (by decide) ?_
    exact wb_mo_access_75 C0  M a0 v1 v2 v3 v4 v9 v10 ((((16 : Int32) * v1) + v7.toInt32) - (1000 : Int32)) _ _ _ ha0 G (lv_sub hl [0, 1, 2, 3, 4, 6, 7] rfl) hF
set_option maxRecDepth 100000 in
set_option maxHeartbeats 4000000 in
theorem wb_mo_access_14 {p : Program} {l : Launch} {e : Env} {s : State} {m : MethodId} {args : Array Value} {below : List Frame} {meth : Method} {c : Code} {X : gw_X} {Y : gw_M} {z : (Int32 × gw_M)} (C0 : gw_C ((Cond.code yy_mo_access by_mo_access 12 (some .int)) :: gw_w) by_mo_access 12 (some .int) "AccountMachineModel" X p s m args meth c) (M : gw_M) (a0 : Nat) (v1 : Int32) (v2 : Int32) (v3 : Int32) (v4 : Int32) (v5 : Int64) (t0 : Int32) (b1 : Nat) (H : Heap) (locs : List Loc) (ls : Array Slot) (ha0 : gr_k a0 = (11, 0)) (hb1 : gr_k b1 = (1, 50)) (G : gw_G X (gw_E X Y M) s H locs) (hl : lv_has ls 12 [(0, .ref (gr_a X a0)), (1, .int v1), (2, .int v2), (3, .int v3), (4, .int v4), (5, .long v5)]) (hF : mo_access_b14  M a0 v1 v2 v3 v4 v5 t0 b1 = some z) : W p l e rm_mo_access s m args below meth c H locs 0 0 (MQ below (gw_Qi X (fun M => (gw_E X Y M)) z) args s 0 0 (gw_A X)) (F0 m 14 ls [.int t0, .ref (gr_a X b1)]) := by
  obtain ⟨hx, hb, hml, hown, hts, hr, hlocks, hK⟩ := id C0
  have hg : ∀ w ∈ gw_w, w.before args s = true := fun w h => hts w (List.mem_cons_of_mem _ h)
  unfold mo_access_b14 at hF
  obtain ⟨h14, hF⟩ := gw_gd hF
  refine gr_lald hx hb hK G hb1 (gw_vp h14) (j := t0.toNatClampNeg) rfl dd_mo_access_14 ?_
  refine lv_lload hx hb dd_mo_access_15 (lv_at hl 5 rfl) ?_
  refine lv_ladd hx hb dd_mo_access_17 ?_
  refine lv_topl (fun x18 e18 => ?_)
  replace hF := gw_ly e18 hF
  refine lv_lstore (i := 7) (lv' := [(7, .long x18), (0, .ref (gr_a X a0)), (1, .int v1), (2, .int v2), (3, .int v3), (4, .int v4), (5, .long v5)]) hx hb dd_mo_access_18 hl (by decide) rfl (fun ls hl => ?_)
  refine lv_aload_n hx hb dd_mo_access_20 rfl (lv_at hl 1 rfl) ?_
  refine lv_iload_n hx hb dd_mo_access_21 rfl (lv_at hl 2 rfl) ?_
  refine lv_lload hx hb dd_mo_access_22 (lv_at hl 0 rfl) ?_
  obtain ⟨r24, M24, hc24, hF⟩ := gw_be hF
  refine gw_ci G (va_runV (As := [.int v1, .long x18]) (rest := []) ⟨hx, hb, hml, hown, hts⟩ (ct_mo_wordAt l X Y M a0 v1 x18 ha0 _ hc24) (cwV 2 hts (gw_gV kw_369 kw_370 kw_371 kw_253 kw_368) rfl rfl rfl (by decide +kernel) ⟨Nat.le_of_ble_eq_true rfl, Nat.le_of_ble_eq_true rfl⟩) ⟨gw_blind, gw_recv_mo hK G ha0, gw_pre hK G⟩ rfl rfl hl.1 rfl (Nat.le_of_ble_eq_true rfl) dd_mo_access_24 ⟨Nat.le_of_ble_eq_true rfl, Nat.le_of_ble_eq_true rfl⟩) (fun H locs G => ?_)
  refine lv_istore (i := 9) (lv' := [(9, .int r24), (7, .long x18), (0, .ref (gr_a X a0)), (1, .int v1), (2, .int v2), (3, .int v3), (4, .int v4), (5, .long v5)]) hx hb dd_mo_access_27 hl (by decide) rfl (fun ls hl => ?_)
  refine W.eq (g2 := F0 m 29 _ _) rfl ?_
  refine lv_lload hx hb dd_mo_access_29 (lv_at hl 1 rfl) ?_
  refine lv_ldc2 (v := (1000 : Int64)) hx hb hown (hg _ kw_372) dd_mo_access_31 ?_
  refine lv_ldc2 (v := (1015 : Int64)) hx hb hown (hg _ kw_373) dd_mo_access_34 ?_
  obtain ⟨r37, M37, hc37, hF⟩ := gw_be hF
  refine gw_ci G (va_runS (As := [.long x18, .long (1000 : Int64), .long (1015 : Int64)]) (rest := []) ⟨hx, hb, hml, hown, hts⟩ (ct_mo_in l X Y M24 x18 (1000 : Int64) (1015 : Int64)  _ hc37) (cwS 3 hts (gw_gS kw_251 kw_252 kw_253 kw_250) rfl rfl rfl (by decide +kernel) ⟨Nat.le_of_ble_eq_true rfl, Nat.le_of_ble_eq_true rfl⟩) ⟨gw_blind, gw_pre hK G⟩ rfl rfl hl.1 rfl (Nat.le_of_ble_eq_true rfl) dd_mo_access_37 ⟨Nat.le_of_ble_eq_true rfl, Nat.le_of_ble_eq_true rfl⟩) (fun H locs G => ?_)
  refine lv_istore (i := 10) (lv' := [(10, .int r37), (9, .int r24), (7, .long x18), (0, .ref (gr_a X a0)), (1, .int v1), (2, .int v2), (3, .int v3), (4, .int v4), (5, .long v5)]) hx hb dd_mo_access_40 hl (by decide) rfl (fun ls hl => ?_)
  refine lv_iload hx hb dd_mo_access_42 (lv_at hl 0 rfl) ?_
  refine lv_if_ne (tgt := 54) hx hb dd_mo_access_44 (by decide) (fun h44 => ?_) (fun h44 => ?_)
  · replace hF := gw_ef h44 hF
    exact wb_mo_access_54 C0  M37 a0 v1 v2 v3 v4 x18 r24 r37 _ _ _ ha0 G (lv_sub hl [3, 4, 5, 6, 7, 2, 1, 0] rfl) hF
  · replace hF := gw_et h44 hF
    refine lv_iload hx hb dd_mo_access_47 (lv_at hl 1 rfl) ?_
    refine lv_if_ge (tgt := 54) hx hb dd_mo_access_49 (by decide) (fun h49 => ?_) (fun h49 => ?_)
    · replace hF := gw_et h49 hF
      exact wb_mo_access_54 C0  M37 a0 v1 v2 v3 v4 x18 r24 r37 _ _ _ ha0 G (lv_sub hl [3, 4, 5, 6, 7, 2, 1, 0] rfl) hF
    · replace hF := gw_ef h49 hF
      refine lv_iconst (v := (2 : Int32)) hx hb dd_mo_access_52 (by decide) ?_
      exact W.iret hx hb hr (fun t ht hW => gw_endi (EF := (fun M => (gw_E X Y M))) (M := M37) G ht hF) G.2.2.2.2 dd_mo_access_53 hlocks
set_option maxRecDepth 100000 in
set_option maxHeartbeats 4000000 in
theorem wb_mo_access_0 {p : Program} {l : Launch} {e : Env} {s : State} {m : MethodId} {args : Array Value} {below : List Frame} {meth : Method} {c : Code} {X : gw_X} {Y : gw_M} {z : (Int32 × gw_M)} (C0 : gw_C ((Cond.code yy_mo_access by_mo_access 12 (some .int)) :: gw_w) by_mo_access 12 (some .int) "AccountMachineModel" X p s m args meth c) (M : gw_M) (a0 : Nat) (v1 : Int32) (v2 : Int32) (v3 : Int32) (v4 : Int32) (v5 : Int64) (H : Heap) (locs : List Loc) (ls : Array Slot) (ha0 : gr_k a0 = (11, 0)) (G : gw_G X (gw_E X Y M) s H locs) (hl : lv_has ls 12 [(0, .ref (gr_a X a0)), (1, .int v1), (2, .int v2), (3, .int v3), (4, .int v4), (5, .long v5)]) (hF : mo_access_b0  M a0 v1 v2 v3 v4 v5 = some z) : W p l e rm_mo_access s m args below meth c H locs 0 0 (MQ below (gw_Qi X (fun M => (gw_E X Y M)) z) args s 0 0 (gw_A X)) (F0 m 0 ls []) := by
  obtain ⟨hx, hb, hml, hown, hts, hr, hlocks, hK⟩ := id C0
  have hg : ∀ w ∈ gw_w, w.before args s = true := fun w h => hts w (List.mem_cons_of_mem _ h)
  unfold mo_access_b0 at hF
  refine lv_aload_n hx hb dd_mo_access_0 rfl (lv_at hl 0 rfl) ?_
  refine gf_mo_registers hx hb hg hown (hg _ kw_299) hK G ha0 dd_mo_access_1 ?_
  refine lv_iload_n hx hb dd_mo_access_4 rfl (lv_at hl 2 rfl) ?_
  refine lv_if_eq (tgt := 13) hx hb dd_mo_access_5 (by decide) (fun h5 => ?_) (fun h5 => ?_)
  · replace hF := gw_et h5 hF
    refine lv_iload_n hx hb dd_mo_access_13 rfl (lv_at hl 3 rfl) ?_
    exact wb_mo_access_14 C0  M a0 v1 v2 v3 v4 v5 v3 (a0 + 18) _ _ _ ha0 (gq_mo_registers ha0) G (lv_sub hl [0, 1, 2, 3, 4, 5] rfl) hF
  · replace hF := gw_ef h5 hF
    refine lv_iload hx hb dd_mo_access_8 (lv_at hl 4 rfl) ?_
    refine lv_goto (tgt := 14) hx hb dd_mo_access_10 (by decide) ?_
    exact wb_mo_access_14 C0  M a0 v1 v2 v3 v4 v5 v4 (a0 + 18) _ _ _ ha0 (gq_mo_registers ha0) G (lv_sub hl [0, 1, 2, 3, 4, 5] rfl) hF
set_option maxRecDepth 100000 in
set_option maxHeartbeats 4000000 in
theorem ct_mo_access (l : Launch) (X : gw_X) (Y : gw_M) (M : gw_M) (a0 : Nat) (v1 : Int32) (v2 : Int32) (v3 : Int32) (v4 : Int32) (v5 : Int64) (ha0 : gr_k a0 = (11, 0)) (z : (Int32 × gw_M)) (hF : mo_access_b0 M a0 v1 v2 v3 v4 v5 = some z) : Met l yy_mo_access ((Cond.code yy_mo_access by_mo_access 12 (some .int)) :: gw_w) rm_mo_access (va_Pc [.ref (gr_a X a0), .int v1, .int v2, .int v3, .int v4, .long v5] (gw_B X (gw_E X Y M))) (gw_Qi X (fun M => (gw_E X Y M)) z) 0 0 (gw_A X) := by
  refine Met.ofW (cc := by_mo_access) (maxL := 12) (ret := (some .int)) (by decide) rfl ?_
  intro p e s m args below meth c s₁ B hml hv
  obtain ⟨rfl, hB⟩ := hv
  rw [lg_entry_eq]
  have hl := lv_entry ([.ref (gr_a X a0), .int v1, .int v2, .int v3, .int v4, .long v5]) (n := 12) (Nat.le_of_ble_eq_true rfl)
  generalize (lg_sl ([.ref (gr_a X a0), .int v1, .int v2, .int v3, .int v4, .long v5]) ++ List.replicate (12 - (lg_sl ([.ref (gr_a X a0), .int v1, .int v2, .int v3, .int v4, .long v5])).length) Slot.unset).toArray = ls at hl ⊢
  have hl : lv_has ls 12 [(0, .ref (gr_a X a0)), (1, .int v1), (2, .int v2), (3, .int v3), (4, .int v4), (5, .long v5)] := hl
  exact wb_mo_access_0 (gw_ctx B hml rfl hB) M a0 v1 v2 v3 v4 v5 _ _ _ ha0 (gw_start hB) hl hF
/-! AccountMachineModel.step()I -/
abbrev rm_mo_step : Room := { frames := 6, cells := 0, slots := 0, locals := 155 }
theorem dd_mo_step_0 : decode by_mo_step 0 = .ok (.aload_n 0, 1) := by decide +kernel
theorem dd_mo_step_1 : decode by_mo_step 1 = .ok (.getfield 140, 3) := by decide +kernel
theorem dd_mo_step_4 : decode by_mo_step 4 = .ok (.istore_n 1, 1) := by decide +kernel
theorem dd_mo_step_5 : decode by_mo_step 5 = .ok (.bipush 32, 2) := by decide +kernel
theorem dd_mo_step_7 : decode by_mo_step 7 = .ok (.aload_n 0, 1) := by decide +kernel
theorem dd_mo_step_8 : decode by_mo_step 8 = .ok (.getfield 44, 3) := by decide +kernel
theorem dd_mo_step_11 : decode by_mo_step 11 = .ok (.iconst 3, 1) := by decide +kernel
theorem dd_mo_step_12 : decode by_mo_step 12 = .ok (.iload_n 1, 1) := by decide +kernel
theorem dd_mo_step_13 : decode by_mo_step 13 = .ok (.iadd, 1) := by decide +kernel
theorem dd_mo_step_14 : decode by_mo_step 14 = .ok (.iaload, 1) := by decide +kernel
theorem dd_mo_step_15 : decode by_mo_step 15 = .ok (.iconst 1, 1) := by decide +kernel
theorem dd_mo_step_16 : decode by_mo_step 16 = .ok (.isub, 1) := by decide +kernel
theorem dd_mo_step_17 : decode by_mo_step 17 = .ok (.imul, 1) := by decide +kernel
theorem dd_mo_step_18 : decode by_mo_step 18 = .ok (.aload_n 0, 1) := by decide +kernel
theorem dd_mo_step_19 : decode by_mo_step 19 = .ok (.getfield 59, 3) := by decide +kernel
theorem dd_mo_step_22 : decode by_mo_step 22 = .ok (.iload_n 1, 1) := by decide +kernel
theorem dd_mo_step_23 : decode by_mo_step 23 = .ok (.iaload, 1) := by decide +kernel
theorem dd_mo_step_24 : decode by_mo_step 24 = .ok (.iadd, 1) := by decide +kernel
theorem dd_mo_step_25 : decode by_mo_step 25 = .ok (.istore_n 2, 1) := by decide +kernel
theorem dd_mo_step_26 : decode by_mo_step 26 = .ok (.aload_n 0, 1) := by decide +kernel
theorem dd_mo_step_27 : decode by_mo_step 27 = .ok (.iconst 1, 1) := by decide +kernel
theorem dd_mo_step_28 : decode by_mo_step 28 = .ok (.invokevirtual 143, 3) := by decide +kernel
theorem dd_mo_step_31 : decode by_mo_step 31 = .ok (.ifCond .ne 5, 3) := by decide +kernel
theorem dd_mo_step_34 : decode by_mo_step 34 = .ok (.iconst 3, 1) := by decide +kernel
theorem dd_mo_step_35 : decode by_mo_step 35 = .ok (.ireturn, 1) := by decide +kernel
theorem dd_mo_step_36 : decode by_mo_step 36 = .ok (.aload_n 0, 1) := by decide +kernel
theorem dd_mo_step_37 : decode by_mo_step 37 = .ok (.getfield 29, 3) := by decide +kernel
theorem dd_mo_step_40 : decode by_mo_step 40 = .ok (.iload_n 2, 1) := by decide +kernel
theorem dd_mo_step_41 : decode by_mo_step 41 = .ok (.iaload, 1) := by decide +kernel
theorem dd_mo_step_42 : decode by_mo_step 42 = .ok (.istore_n 3, 1) := by decide +kernel
theorem dd_mo_step_43 : decode by_mo_step 43 = .ok (.bipush 10, 2) := by decide +kernel
theorem dd_mo_step_45 : decode by_mo_step 45 = .ok (.iload_n 1, 1) := by decide +kernel
theorem dd_mo_step_46 : decode by_mo_step 46 = .ok (.imul, 1) := by decide +kernel
theorem dd_mo_step_47 : decode by_mo_step 47 = .ok (.aload_n 0, 1) := by decide +kernel
theorem dd_mo_step_48 : decode by_mo_step 48 = .ok (.getfield 32, 3) := by decide +kernel
theorem dd_mo_step_51 : decode by_mo_step 51 = .ok (.iload_n 2, 1) := by decide +kernel
theorem dd_mo_step_52 : decode by_mo_step 52 = .ok (.iaload, 1) := by decide +kernel
theorem dd_mo_step_53 : decode by_mo_step 53 = .ok (.iadd, 1) := by decide +kernel
theorem dd_mo_step_54 : decode by_mo_step 54 = .ok (.istore 4, 2) := by decide +kernel
theorem dd_mo_step_56 : decode by_mo_step 56 = .ok (.bipush 10, 2) := by decide +kernel
theorem dd_mo_step_58 : decode by_mo_step 58 = .ok (.iload_n 1, 1) := by decide +kernel
theorem dd_mo_step_59 : decode by_mo_step 59 = .ok (.imul, 1) := by decide +kernel
theorem dd_mo_step_60 : decode by_mo_step 60 = .ok (.aload_n 0, 1) := by decide +kernel
theorem dd_mo_step_61 : decode by_mo_step 61 = .ok (.getfield 35, 3) := by decide +kernel
theorem dd_mo_step_64 : decode by_mo_step 64 = .ok (.iload_n 2, 1) := by decide +kernel
theorem dd_mo_step_65 : decode by_mo_step 65 = .ok (.iaload, 1) := by decide +kernel
theorem dd_mo_step_66 : decode by_mo_step 66 = .ok (.iadd, 1) := by decide +kernel
theorem dd_mo_step_67 : decode by_mo_step 67 = .ok (.istore 5, 2) := by decide +kernel
theorem dd_mo_step_69 : decode by_mo_step 69 = .ok (.aload_n 0, 1) := by decide +kernel
theorem dd_mo_step_70 : decode by_mo_step 70 = .ok (.getfield 38, 3) := by decide +kernel
theorem dd_mo_step_73 : decode by_mo_step 73 = .ok (.iload_n 2, 1) := by decide +kernel
theorem dd_mo_step_74 : decode by_mo_step 74 = .ok (.iaload, 1) := by decide +kernel
theorem dd_mo_step_75 : decode by_mo_step 75 = .ok (.i2l, 1) := by decide +kernel
theorem dd_mo_step_76 : decode by_mo_step 76 = .ok (.lstore 6, 2) := by decide +kernel
theorem dd_mo_step_78 : decode by_mo_step 78 = .ok (.aload_n 0, 1) := by decide +kernel
theorem dd_mo_step_79 : decode by_mo_step 79 = .ok (.getfield 59, 3) := by decide +kernel
theorem dd_mo_step_82 : decode by_mo_step 82 = .ok (.iload_n 1, 1) := by decide +kernel
theorem dd_mo_step_83 : decode by_mo_step 83 = .ok (.iaload, 1) := by decide +kernel
theorem dd_mo_step_84 : decode by_mo_step 84 = .ok (.iconst 1, 1) := by decide +kernel
theorem dd_mo_step_85 : decode by_mo_step 85 = .ok (.iadd, 1) := by decide +kernel
theorem dd_mo_step_86 : decode by_mo_step 86 = .ok (.aload_n 0, 1) := by decide +kernel
theorem dd_mo_step_87 : decode by_mo_step 87 = .ok (.getfield 38, 3) := by decide +kernel
theorem dd_mo_step_90 : decode by_mo_step 90 = .ok (.iload_n 2, 1) := by decide +kernel
theorem dd_mo_step_91 : decode by_mo_step 91 = .ok (.iaload, 1) := by decide +kernel
theorem dd_mo_step_92 : decode by_mo_step 92 = .ok (.iadd, 1) := by decide +kernel
theorem dd_mo_step_93 : decode by_mo_step 93 = .ok (.istore 8, 2) := by decide +kernel
theorem dd_mo_step_95 : decode by_mo_step 95 = .ok (.iload_n 3, 1) := by decide +kernel
theorem dd_mo_step_96 : decode by_mo_step 96 = .ok (.bipush 14, 2) := by decide +kernel
theorem dd_mo_step_98 : decode by_mo_step 98 = .ok (.if_icmp .ne 15, 3) := by decide +kernel
theorem dd_mo_step_101 : decode by_mo_step 101 = .ok (.aload_n 0, 1) := by decide +kernel
theorem dd_mo_step_102 : decode by_mo_step 102 = .ok (.iload_n 1, 1) := by decide +kernel
theorem dd_mo_step_103 : decode by_mo_step 103 = .ok (.aload_n 0, 1) := by decide +kernel
theorem dd_mo_step_104 : decode by_mo_step 104 = .ok (.getfield 41, 3) := by decide +kernel
theorem dd_mo_step_107 : decode by_mo_step 107 = .ok (.iload_n 2, 1) := by decide +kernel
theorem dd_mo_step_108 : decode by_mo_step 108 = .ok (.iaload, 1) := by decide +kernel
theorem dd_mo_step_109 : decode by_mo_step 109 = .ok (.invokevirtual 147, 3) := by decide +kernel
theorem dd_mo_step_112 : decode by_mo_step 112 = .ok (.ireturn, 1) := by decide +kernel
theorem dd_mo_step_113 : decode by_mo_step 113 = .ok (.iload_n 3, 1) := by decide +kernel
theorem dd_mo_step_114 : decode by_mo_step 114 = .ok (.bipush 15, 2) := by decide +kernel
theorem dd_mo_step_116 : decode by_mo_step 116 = .ok (.if_icmp .ne 9, 3) := by decide +kernel
theorem dd_mo_step_119 : decode by_mo_step 119 = .ok (.aload_n 0, 1) := by decide +kernel
theorem dd_mo_step_120 : decode by_mo_step 120 = .ok (.iload_n 1, 1) := by decide +kernel
theorem dd_mo_step_121 : decode by_mo_step 121 = .ok (.invokevirtual 150, 3) := by decide +kernel
theorem dd_mo_step_124 : decode by_mo_step 124 = .ok (.ireturn, 1) := by decide +kernel
theorem dd_mo_step_125 : decode by_mo_step 125 = .ok (.iload_n 3, 1) := by decide +kernel
theorem dd_mo_step_126 : decode by_mo_step 126 = .ok (.bipush 8, 2) := by decide +kernel
theorem dd_mo_step_128 : decode by_mo_step 128 = .ok (.if_icmp .eq 9, 3) := by decide +kernel
theorem dd_mo_step_131 : decode by_mo_step 131 = .ok (.iload_n 3, 1) := by decide +kernel
theorem dd_mo_step_132 : decode by_mo_step 132 = .ok (.bipush 9, 2) := by decide +kernel
theorem dd_mo_step_134 : decode by_mo_step 134 = .ok (.if_icmp .ne 26, 3) := by decide +kernel
theorem dd_mo_step_137 : decode by_mo_step 137 = .ok (.aload_n 0, 1) := by decide +kernel
theorem dd_mo_step_138 : decode by_mo_step 138 = .ok (.iload_n 1, 1) := by decide +kernel
theorem dd_mo_step_139 : decode by_mo_step 139 = .ok (.iload_n 3, 1) := by decide +kernel
theorem dd_mo_step_140 : decode by_mo_step 140 = .ok (.bipush 8, 2) := by decide +kernel
theorem dd_mo_step_142 : decode by_mo_step 142 = .ok (.if_icmp .ne 7, 3) := by decide +kernel
theorem dd_mo_step_145 : decode by_mo_step 145 = .ok (.iconst 1, 1) := by decide +kernel
theorem dd_mo_step_146 : decode by_mo_step 146 = .ok (.goto 4, 3) := by decide +kernel
theorem dd_mo_step_149 : decode by_mo_step 149 = .ok (.iconst 0, 1) := by decide +kernel
theorem dd_mo_step_150 : decode by_mo_step 150 = .ok (.iload 4, 2) := by decide +kernel
theorem dd_mo_step_152 : decode by_mo_step 152 = .ok (.iload 5, 2) := by decide +kernel
theorem dd_mo_step_154 : decode by_mo_step 154 = .ok (.lload 6, 2) := by decide +kernel
theorem dd_mo_step_156 : decode by_mo_step 156 = .ok (.invokevirtual 154, 3) := by decide +kernel
theorem dd_mo_step_159 : decode by_mo_step 159 = .ok (.ireturn, 1) := by decide +kernel
theorem dd_mo_step_160 : decode by_mo_step 160 = .ok (.iload_n 3, 1) := by decide +kernel
theorem dd_mo_step_161 : decode by_mo_step 161 = .ok (.bipush 13, 2) := by decide +kernel
theorem dd_mo_step_163 : decode by_mo_step 163 = .ok (.if_icmp .ne 48, 3) := by decide +kernel
theorem dd_mo_step_166 : decode by_mo_step 166 = .ok (.aload_n 0, 1) := by decide +kernel
theorem dd_mo_step_167 : decode by_mo_step 167 = .ok (.getfield 69, 3) := by decide +kernel
theorem dd_mo_step_170 : decode by_mo_step 170 = .ok (.iload_n 1, 1) := by decide +kernel
theorem dd_mo_step_171 : decode by_mo_step 171 = .ok (.iaload, 1) := by decide +kernel
theorem dd_mo_step_172 : decode by_mo_step 172 = .ok (.iconst 4, 1) := by decide +kernel
theorem dd_mo_step_173 : decode by_mo_step 173 = .ok (.if_icmp .ne 5, 3) := by decide +kernel
theorem dd_mo_step_176 : decode by_mo_step 176 = .ok (.iconst 4, 1) := by decide +kernel
theorem dd_mo_step_177 : decode by_mo_step 177 = .ok (.ireturn, 1) := by decide +kernel
theorem dd_mo_step_178 : decode by_mo_step 178 = .ok (.aload_n 0, 1) := by decide +kernel
theorem dd_mo_step_179 : decode by_mo_step 179 = .ok (.getfield 66, 3) := by decide +kernel
theorem dd_mo_step_182 : decode by_mo_step 182 = .ok (.iconst 4, 1) := by decide +kernel
theorem dd_mo_step_183 : decode by_mo_step 183 = .ok (.iload_n 1, 1) := by decide +kernel
theorem dd_mo_step_184 : decode by_mo_step 184 = .ok (.imul, 1) := by decide +kernel
theorem dd_mo_step_185 : decode by_mo_step 185 = .ok (.aload_n 0, 1) := by decide +kernel
theorem dd_mo_step_186 : decode by_mo_step 186 = .ok (.getfield 69, 3) := by decide +kernel
theorem dd_mo_step_189 : decode by_mo_step 189 = .ok (.iload_n 1, 1) := by decide +kernel
theorem dd_mo_step_190 : decode by_mo_step 190 = .ok (.iaload, 1) := by decide +kernel
theorem dd_mo_step_191 : decode by_mo_step 191 = .ok (.iadd, 1) := by decide +kernel
theorem dd_mo_step_192 : decode by_mo_step 192 = .ok (.aload_n 0, 1) := by decide +kernel
theorem dd_mo_step_193 : decode by_mo_step 193 = .ok (.getfield 59, 3) := by decide +kernel
theorem dd_mo_step_196 : decode by_mo_step 196 = .ok (.iload_n 1, 1) := by decide +kernel
theorem dd_mo_step_197 : decode by_mo_step 197 = .ok (.iaload, 1) := by decide +kernel
theorem dd_mo_step_198 : decode by_mo_step 198 = .ok (.iconst 1, 1) := by decide +kernel
theorem dd_mo_step_199 : decode by_mo_step 199 = .ok (.iadd, 1) := by decide +kernel
theorem dd_mo_step_200 : decode by_mo_step 200 = .ok (.iastore, 1) := by decide +kernel
theorem dd_mo_step_201 : decode by_mo_step 201 = .ok (.aload_n 0, 1) := by decide +kernel
theorem dd_mo_step_202 : decode by_mo_step 202 = .ok (.getfield 69, 3) := by decide +kernel
theorem dd_mo_step_205 : decode by_mo_step 205 = .ok (.iload_n 1, 1) := by decide +kernel
theorem dd_mo_step_206 : decode by_mo_step 206 = .ok (.dup2, 1) := by decide +kernel
theorem dd_mo_step_207 : decode by_mo_step 207 = .ok (.iaload, 1) := by decide +kernel
theorem dd_mo_step_208 : decode by_mo_step 208 = .ok (.iconst 1, 1) := by decide +kernel
theorem dd_mo_step_209 : decode by_mo_step 209 = .ok (.iadd, 1) := by decide +kernel
theorem dd_mo_step_210 : decode by_mo_step 210 = .ok (.iastore, 1) := by decide +kernel
theorem dd_mo_step_211 : decode by_mo_step 211 = .ok (.iload_n 3, 1) := by decide +kernel
theorem dd_mo_step_212 : decode by_mo_step 212 = .ok (.bipush 10, 2) := by decide +kernel
theorem dd_mo_step_214 : decode by_mo_step 214 = .ok (.if_icmp .eq 57, 3) := by decide +kernel
theorem dd_mo_step_217 : decode by_mo_step 217 = .ok (.iload_n 3, 1) := by decide +kernel
theorem dd_mo_step_218 : decode by_mo_step 218 = .ok (.bipush 13, 2) := by decide +kernel
theorem dd_mo_step_220 : decode by_mo_step 220 = .ok (.if_icmp .eq 51, 3) := by decide +kernel
theorem dd_mo_step_223 : decode by_mo_step 223 = .ok (.iload_n 3, 1) := by decide +kernel
theorem dd_mo_step_224 : decode by_mo_step 224 = .ok (.bipush 11, 2) := by decide +kernel
theorem dd_mo_step_226 : decode by_mo_step 226 = .ok (.if_icmp .ne 21, 3) := by decide +kernel
theorem dd_mo_step_229 : decode by_mo_step 229 = .ok (.aload_n 0, 1) := by decide +kernel
theorem dd_mo_step_230 : decode by_mo_step 230 = .ok (.getfield 62, 3) := by decide +kernel
theorem dd_mo_step_233 : decode by_mo_step 233 = .ok (.iload 4, 2) := by decide +kernel
theorem dd_mo_step_235 : decode by_mo_step 235 = .ok (.laload, 1) := by decide +kernel
theorem dd_mo_step_236 : decode by_mo_step 236 = .ok (.aload_n 0, 1) := by decide +kernel
theorem dd_mo_step_237 : decode by_mo_step 237 = .ok (.getfield 41, 3) := by decide +kernel
theorem dd_mo_step_240 : decode by_mo_step 240 = .ok (.iload_n 2, 1) := by decide +kernel
theorem dd_mo_step_241 : decode by_mo_step 241 = .ok (.iaload, 1) := by decide +kernel
theorem dd_mo_step_242 : decode by_mo_step 242 = .ok (.i2l, 1) := by decide +kernel
theorem dd_mo_step_243 : decode by_mo_step 243 = .ok (.lcmp, 1) := by decide +kernel
theorem dd_mo_step_244 : decode by_mo_step 244 = .ok (.ifCond .eq 27, 3) := by decide +kernel
theorem dd_mo_step_247 : decode by_mo_step 247 = .ok (.iload_n 3, 1) := by decide +kernel
theorem dd_mo_step_248 : decode by_mo_step 248 = .ok (.bipush 12, 2) := by decide +kernel
theorem dd_mo_step_250 : decode by_mo_step 250 = .ok (.if_icmp .ne 25, 3) := by decide +kernel
theorem dd_mo_step_253 : decode by_mo_step 253 = .ok (.aload_n 0, 1) := by decide +kernel
theorem dd_mo_step_254 : decode by_mo_step 254 = .ok (.getfield 62, 3) := by decide +kernel
theorem dd_mo_step_257 : decode by_mo_step 257 = .ok (.iload 4, 2) := by decide +kernel
theorem dd_mo_step_259 : decode by_mo_step 259 = .ok (.laload, 1) := by decide +kernel
theorem dd_mo_step_260 : decode by_mo_step 260 = .ok (.aload_n 0, 1) := by decide +kernel
theorem dd_mo_step_261 : decode by_mo_step 261 = .ok (.getfield 62, 3) := by decide +kernel
theorem dd_mo_step_264 : decode by_mo_step 264 = .ok (.iload 5, 2) := by decide +kernel
theorem dd_mo_step_266 : decode by_mo_step 266 = .ok (.laload, 1) := by decide +kernel
theorem dd_mo_step_267 : decode by_mo_step 267 = .ok (.lcmp, 1) := by decide +kernel
theorem dd_mo_step_268 : decode by_mo_step 268 = .ok (.ifCond .ge 7, 3) := by decide +kernel
theorem dd_mo_step_271 : decode by_mo_step 271 = .ok (.iconst 1, 1) := by decide +kernel
theorem dd_mo_step_272 : decode by_mo_step 272 = .ok (.goto 4, 3) := by decide +kernel
theorem dd_mo_step_275 : decode by_mo_step 275 = .ok (.iconst 0, 1) := by decide +kernel
theorem dd_mo_step_276 : decode by_mo_step 276 = .ok (.istore 9, 2) := by decide +kernel
theorem dd_mo_step_278 : decode by_mo_step 278 = .ok (.iload_n 3, 1) := by decide +kernel
theorem dd_mo_step_279 : decode by_mo_step 279 = .ok (.bipush 8, 2) := by decide +kernel
theorem dd_mo_step_281 : decode by_mo_step 281 = .ok (.if_icmp .ge 34, 3) := by decide +kernel
theorem dd_mo_step_284 : decode by_mo_step 284 = .ok (.aload_n 0, 1) := by decide +kernel
theorem dd_mo_step_285 : decode by_mo_step 285 = .ok (.getfield 62, 3) := by decide +kernel
theorem dd_mo_step_288 : decode by_mo_step 288 = .ok (.iload 4, 2) := by decide +kernel
theorem dd_mo_step_290 : decode by_mo_step 290 = .ok (.iload_n 3, 1) := by decide +kernel
theorem dd_mo_step_291 : decode by_mo_step 291 = .ok (.aload_n 0, 1) := by decide +kernel
theorem dd_mo_step_292 : decode by_mo_step 292 = .ok (.getfield 62, 3) := by decide +kernel
theorem dd_mo_step_295 : decode by_mo_step 295 = .ok (.iload 4, 2) := by decide +kernel
theorem dd_mo_step_297 : decode by_mo_step 297 = .ok (.laload, 1) := by decide +kernel
theorem dd_mo_step_298 : decode by_mo_step 298 = .ok (.aload_n 0, 1) := by decide +kernel
theorem dd_mo_step_299 : decode by_mo_step 299 = .ok (.getfield 62, 3) := by decide +kernel
theorem dd_mo_step_302 : decode by_mo_step 302 = .ok (.iload 5, 2) := by decide +kernel
theorem dd_mo_step_304 : decode by_mo_step 304 = .ok (.laload, 1) := by decide +kernel
theorem dd_mo_step_305 : decode by_mo_step 305 = .ok (.aload_n 0, 1) := by decide +kernel
theorem dd_mo_step_306 : decode by_mo_step 306 = .ok (.getfield 41, 3) := by decide +kernel
theorem dd_mo_step_309 : decode by_mo_step 309 = .ok (.iload_n 2, 1) := by decide +kernel
theorem dd_mo_step_310 : decode by_mo_step 310 = .ok (.iaload, 1) := by decide +kernel
theorem dd_mo_step_311 : decode by_mo_step 311 = .ok (.invokestatic 158, 3) := by decide +kernel
theorem dd_mo_step_314 : decode by_mo_step 314 = .ok (.lastore, 1) := by decide +kernel
theorem dd_mo_step_315 : decode by_mo_step 315 = .ok (.aload_n 0, 1) := by decide +kernel
theorem dd_mo_step_316 : decode by_mo_step 316 = .ok (.getfield 59, 3) := by decide +kernel
theorem dd_mo_step_319 : decode by_mo_step 319 = .ok (.iload_n 1, 1) := by decide +kernel
theorem dd_mo_step_320 : decode by_mo_step 320 = .ok (.iload 9, 2) := by decide +kernel
theorem dd_mo_step_322 : decode by_mo_step 322 = .ok (.ifCond .eq 8, 3) := by decide +kernel
theorem dd_mo_step_325 : decode by_mo_step 325 = .ok (.iload 8, 2) := by decide +kernel
theorem dd_mo_step_327 : decode by_mo_step 327 = .ok (.goto 11, 3) := by decide +kernel
theorem dd_mo_step_330 : decode by_mo_step 330 = .ok (.aload_n 0, 1) := by decide +kernel
theorem dd_mo_step_331 : decode by_mo_step 331 = .ok (.getfield 59, 3) := by decide +kernel
theorem dd_mo_step_334 : decode by_mo_step 334 = .ok (.iload_n 1, 1) := by decide +kernel
theorem dd_mo_step_335 : decode by_mo_step 335 = .ok (.iaload, 1) := by decide +kernel
theorem dd_mo_step_336 : decode by_mo_step 336 = .ok (.iconst 1, 1) := by decide +kernel
theorem dd_mo_step_337 : decode by_mo_step 337 = .ok (.iadd, 1) := by decide +kernel
theorem dd_mo_step_338 : decode by_mo_step 338 = .ok (.iastore, 1) := by decide +kernel
theorem dd_mo_step_339 : decode by_mo_step 339 = .ok (.iconst 0, 1) := by decide +kernel
theorem dd_mo_step_340 : decode by_mo_step 340 = .ok (.ireturn, 1) := by decide +kernel
def mo_step_b338 (M : gw_M) (t0 : Int32) (t1 : Int32) (b2 : Nat) : Option (Int32 × gw_M) :=
  gw_gu (gw_in t1 5) (gw_lt (gw_sI M b2 t1.toNatClampNeg t0) (fun M338 => some ((0 : Int32), M338)))
def mo_step_b315 (M : gw_M) (a0 : Nat) (v1 : Int32) (v8 : Int32) (v9 : Int32) : Option (Int32 × gw_M) :=
  if v9 = (0 : Int32) then (gw_gu (gw_in v1 5) (mo_step_b338  M ((M.1 (a0 + 17) v1.toNatClampNeg) + (1 : Int32)) v1 (a0 + 17))) else (mo_step_b338  M v8 v1 (a0 + 17))
def mo_step_b276 (M : gw_M) (a0 : Nat) (v1 : Int32) (v2 : Int32) (v3 : Int32) (v4 : Int32) (v5 : Int32) (v8 : Int32) (t0 : Int32) : Option (Int32 × gw_M) :=
  if (8 : Int32) ≤ v3 then (mo_step_b315  M a0 v1 v8 t0) else (gw_gu (gw_in v4 50) (gw_gu (gw_in v5 50) (gw_gu (gw_in v2 96) (gw_bd (mo_reckon_b0 M v3 (M.2 (a0 + 18) v4.toNatClampNeg) (M.2 (a0 + 18) v5.toNatClampNeg) (M.1 (a0 + 11) v2.toNatClampNeg)) (fun r311 M311 => gw_gu (gw_in v4 50) (gw_lt (gw_sL M311 (a0 + 18) v4.toNatClampNeg r311) (fun M314 => mo_step_b315  M314 a0 v1 v8 t0)))))))
def mo_step_b275 (M : gw_M) (a0 : Nat) (v1 : Int32) (v2 : Int32) (v3 : Int32) (v4 : Int32) (v5 : Int32) (v8 : Int32) : Option (Int32 × gw_M) :=
  mo_step_b276  M a0 v1 v2 v3 v4 v5 v8 (0 : Int32)
def mo_step_b271 (M : gw_M) (a0 : Nat) (v1 : Int32) (v2 : Int32) (v3 : Int32) (v4 : Int32) (v5 : Int32) (v8 : Int32) : Option (Int32 × gw_M) :=
  mo_step_b276  M a0 v1 v2 v3 v4 v5 v8 (1 : Int32)
def mo_step_b247 (M : gw_M) (a0 : Nat) (v1 : Int32) (v2 : Int32) (v3 : Int32) (v4 : Int32) (v5 : Int32) (v8 : Int32) : Option (Int32 × gw_M) :=
  if v3 = (12 : Int32) then (gw_gu (gw_in v4 50) (gw_gu (gw_in v5 50) (if (0 : Int32) ≤ (lg_cmp (M.2 (a0 + 18) v4.toNatClampNeg) (M.2 (a0 + 18) v5.toNatClampNeg)) then (mo_step_b275  M a0 v1 v2 v3 v4 v5 v8) else (mo_step_b271  M a0 v1 v2 v3 v4 v5 v8)))) else (mo_step_b275  M a0 v1 v2 v3 v4 v5 v8)
def mo_step_b211 (M : gw_M) (a0 : Nat) (v1 : Int32) (v2 : Int32) (v3 : Int32) (v4 : Int32) (v5 : Int32) (v8 : Int32) : Option (Int32 × gw_M) :=
  if v3 = (10 : Int32) then (mo_step_b271  M a0 v1 v2 v3 v4 v5 v8) else (if v3 = (13 : Int32) then (mo_step_b271  M a0 v1 v2 v3 v4 v5 v8) else (if v3 = (11 : Int32) then (gw_gu (gw_in v4 50) (gw_gu (gw_in v2 96) (if (lg_cmp (M.2 (a0 + 18) v4.toNatClampNeg) ((M.1 (a0 + 11) v2.toNatClampNeg).toInt64)) = (0 : Int32) then (mo_step_b271  M a0 v1 v2 v3 v4 v5 v8) else (mo_step_b247  M a0 v1 v2 v3 v4 v5 v8)))) else (mo_step_b247  M a0 v1 v2 v3 v4 v5 v8)))
def mo_step_b150 (M : gw_M) (v4 : Int32) (v5 : Int32) (v6 : Int64) (t0 : Int32) (t1 : Int32) (b2 : Nat) : Option (Int32 × gw_M) :=
  gw_bd (mo_access_b0 M b2 t1 t0 v4 v5 v6) (fun r156 M156 => some (r156, M156))
def mo_step_b137 (M : gw_M) (a0 : Nat) (v1 : Int32) (v3 : Int32) (v4 : Int32) (v5 : Int32) (v6 : Int64) : Option (Int32 × gw_M) :=
  if v3 = (8 : Int32) then (mo_step_b150  M v4 v5 v6 (1 : Int32) v1 a0) else (mo_step_b150  M v4 v5 v6 (0 : Int32) v1 a0)
def mo_step_b0 (M : gw_M) (a0 : Nat) : Option (Int32 × gw_M) :=
  gw_lt (M.1 a0 17) (fun x4 => gw_gu (gw_in ((3 : Int32) + x4) 9) (gw_gu (gw_in x4 5) (gw_lt (((32 : Int32) * ((M.1 (a0 + 12) (((3 : Int32) + x4).toNatClampNeg)) - (1 : Int32))) + (M.1 (a0 + 17) x4.toNatClampNeg)) (fun x25 => gw_bd (mo_pay_b0 M a0 (1 : Int32)) (fun r28 M28 => if r28 = (0 : Int32) then (some ((3 : Int32), M28)) else (gw_gu (gw_in x25 96) (gw_lt (M28.1 (a0 + 7) x25.toNatClampNeg) (fun x42 => gw_gu (gw_in x25 96) (gw_lt (((10 : Int32) * x4) + (M28.1 (a0 + 8) x25.toNatClampNeg)) (fun x54 => gw_gu (gw_in x25 96) (gw_lt (((10 : Int32) * x4) + (M28.1 (a0 + 9) x25.toNatClampNeg)) (fun x67 => gw_gu (gw_in x25 96) (gw_lt ((M28.1 (a0 + 10) x25.toNatClampNeg).toInt64) (fun x76 => gw_gu (gw_in x4 5) (gw_gu (gw_in x25 96) (gw_lt (((M28.1 (a0 + 17) x4.toNatClampNeg) + (1 : Int32)) + (M28.1 (a0 + 10) x25.toNatClampNeg)) (fun x93 => if x42 = (14 : Int32) then (gw_gu (gw_in x25 96) (gw_bd (mo_serve_b0 M28 a0 x4 (M28.1 (a0 + 11) x25.toNatClampNeg)) (fun r109 M109 => some (r109, M109)))) else (if x42 = (15 : Int32) then (gw_bd (mo_end_b0 M28 a0 x4) (fun r121 M121 => some (r121, M121))) else (if x42 = (8 : Int32) then (mo_step_b137  M28 a0 x4 x42 x54 x67 x76) else (if x42 = (9 : Int32) then (mo_step_b137  M28 a0 x4 x42 x54 x67 x76) else (if x42 = (13 : Int32) then (gw_gu (gw_in x4 5) (if (M28.1 (a0 + 20) x4.toNatClampNeg) = (4 : Int32) then (some ((4 : Int32), M28)) else (gw_gu (gw_in x4 5) (gw_gu (gw_in x4 5) (gw_gu (gw_in (((4 : Int32) * x4) + (M28.1 (a0 + 20) x4.toNatClampNeg)) 20) (gw_lt (gw_sI M28 (a0 + 19) ((((4 : Int32) * x4) + (M28.1 (a0 + 20) x4.toNatClampNeg)).toNatClampNeg) ((M28.1 (a0 + 17) x4.toNatClampNeg) + (1 : Int32))) (fun M200 => gw_gu (gw_in x4 5) (gw_gu (gw_in x4 5) (gw_lt (gw_sI M200 (a0 + 20) x4.toNatClampNeg ((M200.1 (a0 + 20) x4.toNatClampNeg) + (1 : Int32))) (fun M210 => mo_step_b211  M210 a0 x4 x25 x42 x54 x67 x93)))))))))) else (mo_step_b211  M28 a0 x4 x25 x42 x54 x67 x93))))))))))))))))))))))
set_option maxRecDepth 100000 in
set_option maxHeartbeats 4000000 in
theorem wb_mo_step_338 {p : Program} {l : Launch} {e : Env} {s : State} {m : MethodId} {args : Array Value} {below : List Frame} {meth : Method} {c : Code} {X : gw_X} {Y : gw_M} {z : (Int32 × gw_M)} (C0 : gw_C ((Cond.code yy_mo_step by_mo_step 10 (some .int)) :: gw_w) by_mo_step 10 (some .int) "AccountMachineModel" X p s m args meth c) (M : gw_M) (t0 : Int32) (t1 : Int32) (b2 : Nat) (H : Heap) (locs : List Loc) (ls : Array Slot) (hb2 : gr_k b2 = (0, 5)) (G : gw_G X (gw_E X Y M) s H locs) (hl : lv_has ls 10 []) (hF : mo_step_b338  M t0 t1 b2 = some z) : W p l e rm_mo_step s m args below meth c H locs 0 0 (MQ below (gw_Qi X (fun M => (gw_E X Y M)) z) args s 0 0 (gw_A X)) (F0 m 338 ls [.int t0, .int t1, .ref (gr_a X b2)]) := by
  obtain ⟨hx, hb, hml, hown, hts, hr, hlocks, hK⟩ := id C0
  have hg : ∀ w ∈ gw_w, w.before args s = true := fun w h => hts w (List.mem_cons_of_mem _ h)
  unfold mo_step_b338 at hF
  obtain ⟨h338, hF⟩ := gw_gd hF
  refine gr_iast hx hb hK G hb2 (gw_vp h338) (j := t1.toNatClampNeg) rfl dd_mo_step_338 (fun M338 H locs e338 G => ?_)
  replace hF := gw_ly e338 hF
  refine lv_iconst (v := (0 : Int32)) hx hb dd_mo_step_339 (by decide) ?_
  exact W.iret hx hb hr (fun t ht hW => gw_endi (EF := (fun M => (gw_E X Y M))) (M := M338) G ht hF) G.2.2.2.2 dd_mo_step_340 hlocks
set_option maxRecDepth 100000 in
set_option maxHeartbeats 4000000 in
theorem wb_mo_step_315 {p : Program} {l : Launch} {e : Env} {s : State} {m : MethodId} {args : Array Value} {below : List Frame} {meth : Method} {c : Code} {X : gw_X} {Y : gw_M} {z : (Int32 × gw_M)} (C0 : gw_C ((Cond.code yy_mo_step by_mo_step 10 (some .int)) :: gw_w) by_mo_step 10 (some .int) "AccountMachineModel" X p s m args meth c) (M : gw_M) (a0 : Nat) (v1 : Int32) (v8 : Int32) (v9 : Int32) (H : Heap) (locs : List Loc) (ls : Array Slot) (ha0 : gr_k a0 = (11, 0)) (G : gw_G X (gw_E X Y M) s H locs) (hl : lv_has ls 10 [(0, .ref (gr_a X a0)), (1, .int v1), (8, .int v8), (9, .int v9)]) (hF : mo_step_b315  M a0 v1 v8 v9 = some z) : W p l e rm_mo_step s m args below meth c H locs 0 0 (MQ below (gw_Qi X (fun M => (gw_E X Y M)) z) args s 0 0 (gw_A X)) (F0 m 315 ls []) := by
  obtain ⟨hx, hb, hml, hown, hts, hr, hlocks, hK⟩ := id C0
  have hg : ∀ w ∈ gw_w, w.before args s = true := fun w h => hts w (List.mem_cons_of_mem _ h)
  unfold mo_step_b315 at hF
  refine lv_aload_n hx hb dd_mo_step_315 rfl (lv_at hl 0 rfl) ?_
  refine gf_mo_place hx hb hg hown (hg _ kw_301) hK G ha0 dd_mo_step_316 ?_
  refine lv_iload_n hx hb dd_mo_step_319 rfl (lv_at hl 1 rfl) ?_
  refine lv_iload hx hb dd_mo_step_320 (lv_at hl 3 rfl) ?_
  refine lv_if_eq (tgt := 330) hx hb dd_mo_step_322 (by decide) (fun h322 => ?_) (fun h322 => ?_)
  · replace hF := gw_et h322 hF
    refine lv_aload_n hx hb dd_mo_step_330 rfl (lv_at hl 0 rfl) ?_
    refine gf_mo_place hx hb hg hown (hg _ kw_301) hK G ha0 dd_mo_step_331 ?_
    refine lv_iload_n hx hb dd_mo_step_334 rfl (lv_at hl 1 rfl) ?_
    obtain ⟨h335, hF⟩ := gw_gd hF
    refine gr_iald hx hb hK G (gq_mo_place ha0) (gw_vp h335) (j := v1.toNatClampNeg) rfl dd_mo_step_335 ?_
    refine lv_iconst (v := (1 : Int32)) hx hb dd_mo_step_336 (by decide) ?_
    refine lv_iadd hx hb dd_mo_step_337 ?_
    exact wb_mo_step_338 C0  M ((M.1 (a0 + 17) v1.toNatClampNeg) + (1 : Int32)) v1 (a0 + 17) _ _ _ (gq_mo_place ha0) G (lv_sub hl [] rfl) hF
  · replace hF := gw_ef h322 hF
    refine lv_iload hx hb dd_mo_step_325 (lv_at hl 2 rfl) ?_
    refine lv_goto (tgt := 338) hx hb dd_mo_step_327 (by decide) ?_
    exact wb_mo_step_338 C0  M v8 v1 (a0 + 17) _ _ _ (gq_mo_place ha0) G (lv_sub hl [] rfl) hF
set_option maxRecDepth 100000 in
set_option maxHeartbeats 4000000 in
theorem wb_mo_step_276 {p : Program} {l : Launch} {e : Env} {s : State} {m : MethodId} {args : Array Value} {below : List Frame} {meth : Method} {c : Code} {X : gw_X} {Y : gw_M} {z : (Int32 × gw_M)} (C0 : gw_C ((Cond.code yy_mo_step by_mo_step 10 (some .int)) :: gw_w) by_mo_step 10 (some .int) "AccountMachineModel" X p s m args meth c) (M : gw_M) (a0 : Nat) (v1 : Int32) (v2 : Int32) (v3 : Int32) (v4 : Int32) (v5 : Int32) (v8 : Int32) (t0 : Int32) (H : Heap) (locs : List Loc) (ls : Array Slot) (ha0 : gr_k a0 = (11, 0)) (G : gw_G X (gw_E X Y M) s H locs) (hl : lv_has ls 10 [(0, .ref (gr_a X a0)), (1, .int v1), (2, .int v2), (3, .int v3), (4, .int v4), (5, .int v5), (8, .int v8)]) (hF : mo_step_b276  M a0 v1 v2 v3 v4 v5 v8 t0 = some z) : W p l e rm_mo_step s m args below meth c H locs 0 0 (MQ below (gw_Qi X (fun M => (gw_E X Y M)) z) args s 0 0 (gw_A X)) (F0 m 276 ls [.int t0]) := by
  obtain ⟨hx, hb, hml, hown, hts, hr, hlocks, hK⟩ := id C0
  have hg : ∀ w ∈ gw_w, w.before args s = true := fun w h => hts w (List.mem_cons_of_mem _ h)
  unfold mo_step_b276 at hF
  refine lv_istore (i := 9) (lv' := [(9, .int t0), (0, .ref (gr_a X a0)), (1, .int v1), (2, .int v2), (3, .int v3), (4, .int v4), (5, .int v5), (8, .int v8)]) hx hb dd_mo_step_276 hl (by decide) rfl (fun ls hl => ?_)
  refine lv_iload_n hx hb dd_mo_step_278 rfl (lv_at hl 4 rfl) ?_
  refine lv_bipush (v := (8 : Int32)) hx hb dd_mo_step_279 (by decide) ?_
  refine lv_icmp_ge (tgt := 315) hx hb dd_mo_step_281 (by decide) (fun h281 => ?_) (fun h281 => ?_)
  · replace hF := gw_et h281 hF
    exact wb_mo_step_315 C0  M a0 v1 v8 t0 _ _ _ ha0 G (lv_sub hl [1, 2, 7, 0] rfl) hF
  · replace hF := gw_ef h281 hF
    refine lv_aload_n hx hb dd_mo_step_284 rfl (lv_at hl 1 rfl) ?_
    refine gf_mo_registers hx hb hg hown (hg _ kw_299) hK G ha0 dd_mo_step_285 ?_
    refine lv_iload hx hb dd_mo_step_288 (lv_at hl 5 rfl) ?_
    refine lv_iload_n hx hb dd_mo_step_290 rfl (lv_at hl 4 rfl) ?_
    refine lv_aload_n hx hb dd_mo_step_291 rfl (lv_at hl 1 rfl) ?_
    refine gf_mo_registers hx hb hg hown (hg _ kw_299) hK G ha0 dd_mo_step_292 ?_
    refine lv_iload hx hb dd_mo_step_295 (lv_at hl 5 rfl) ?_
    obtain ⟨h297, hF⟩ := gw_gd hF
    refine gr_lald hx hb hK G (gq_mo_registers ha0) (gw_vp h297) (j := v4.toNatClampNeg) rfl dd_mo_step_297 ?_
    refine lv_aload_n hx hb dd_mo_step_298 rfl (lv_at hl 1 rfl) ?_
    refine W.eq (g2 := F0 m 299 _ _) rfl ?_
    refine gf_mo_registers hx hb hg hown (hg _ kw_299) hK G ha0 dd_mo_step_299 ?_
    refine lv_iload hx hb dd_mo_step_302 (lv_at hl 6 rfl) ?_
    obtain ⟨h304, hF⟩ := gw_gd hF
    refine gr_lald hx hb hK G (gq_mo_registers ha0) (gw_vp h304) (j := v5.toNatClampNeg) rfl dd_mo_step_304 ?_
    refine lv_aload_n hx hb dd_mo_step_305 rfl (lv_at hl 1 rfl) ?_
    refine gf_mo_numbers hx hb hg hown (hg _ kw_259) hK G ha0 dd_mo_step_306 ?_
    refine lv_iload_n hx hb dd_mo_step_309 rfl (lv_at hl 3 rfl) ?_
    obtain ⟨h310, hF⟩ := gw_gd hF
    refine gr_iald hx hb hK G (gq_mo_numbers ha0) (gw_vp h310) (j := v2.toNatClampNeg) rfl dd_mo_step_310 ?_
    obtain ⟨r311, M311, hc311, hF⟩ := gw_be hF
    refine gw_cl_ G (va_runS (As := [.int v3, .long (M.2 (a0 + 18) v4.toNatClampNeg), .long (M.2 (a0 + 18) v5.toNatClampNeg), .int (M.1 (a0 + 11) v2.toNatClampNeg)]) (rest := [.int v4, .ref (gr_a X (a0 + 18))]) ⟨hx, hb, hml, hown, hts⟩ (ct_mo_reckon l X Y M v3 (M.2 (a0 + 18) v4.toNatClampNeg) (M.2 (a0 + 18) v5.toNatClampNeg) (M.1 (a0 + 11) v2.toNatClampNeg)  _ hc311) (cwS 4 hts (gw_gS kw_375 kw_376 kw_253 kw_374) rfl rfl rfl (by decide +kernel) ⟨Nat.le_of_ble_eq_true rfl, Nat.le_of_ble_eq_true rfl⟩) ⟨gw_blind, gw_pre hK G⟩ rfl rfl hl.1 rfl (Nat.le_of_ble_eq_true rfl) dd_mo_step_311 ⟨Nat.le_of_ble_eq_true rfl, Nat.le_of_ble_eq_true rfl⟩) (fun H locs G => ?_)
    obtain ⟨h314, hF⟩ := gw_gd hF
    refine gr_last hx hb hK G (gq_mo_registers ha0) (gw_vp h314) (j := v4.toNatClampNeg) rfl dd_mo_step_314 (fun M314 H locs e314 G => ?_)
    replace hF := gw_ly e314 hF
    exact wb_mo_step_315 C0  M314 a0 v1 v8 t0 _ _ _ ha0 G (lv_sub hl [1, 2, 7, 0] rfl) hF
set_option maxRecDepth 100000 in
set_option maxHeartbeats 4000000 in
theorem wb_mo_step_275 {p : Program} {l : Launch} {e : Env} {s : State} {m : MethodId} {args : Array Value} {below : List Frame} {meth : Method} {c : Code} {X : gw_X} {Y : gw_M} {z : (Int32 × gw_M)} (C0 : gw_C ((Cond.code yy_mo_step by_mo_step 10 (some .int)) :: gw_w) by_mo_step 10 (some .int) "AccountMachineModel" X p s m args meth c) (M : gw_M) (a0 : Nat) (v1 : Int32) (v2 : Int32) (v3 : Int32) (v4 : Int32) (v5 : Int32) (v8 : Int32) (H : Heap) (locs : List Loc) (ls : Array Slot) (ha0 : gr_k a0 = (11, 0)) (G : gw_G X (gw_E X Y M) s H locs) (hl : lv_has ls 10 [(0, .ref (gr_a X a0)), (1, .int v1), (2, .int v2), (3, .int v3), (4, .int v4), (5, .int v5), (8, .int v8)]) (hF : mo_step_b275  M a0 v1 v2 v3 v4 v5 v8 = some z) : W p l e rm_mo_step s m args below meth c H locs 0 0 (MQ below (gw_Qi X (fun M => (gw_E X Y M)) z) args s 0 0 (gw_A X)) (F0 m 275 ls []) := by
  obtain ⟨hx, hb, hml, hown, hts, hr, hlocks, hK⟩ := id C0
  have hg : ∀ w ∈ gw_w, w.before args s = true := fun w h => hts w (List.mem_cons_of_mem _ h)
  unfold mo_step_b275 at hF
  refine lv_iconst (v := (0 : Int32)) hx hb dd_mo_step_275 (by decide) ?_
  exact wb_mo_step_276 C0  M a0 v1 v2 v3 v4 v5 v8 (0 : Int32) _ _ _ ha0 G (lv_sub hl [0, 1, 2, 3, 4, 5, 6] rfl) hF
set_option maxRecDepth 100000 in
set_option maxHeartbeats 4000000 in
theorem wb_mo_step_271 {p : Program} {l : Launch} {e : Env} {s : State} {m : MethodId} {args : Array Value} {below : List Frame} {meth : Method} {c : Code} {X : gw_X} {Y : gw_M} {z : (Int32 × gw_M)} (C0 : gw_C ((Cond.code yy_mo_step by_mo_step 10 (some .int)) :: gw_w) by_mo_step 10 (some .int) "AccountMachineModel" X p s m args meth c) (M : gw_M) (a0 : Nat) (v1 : Int32) (v2 : Int32) (v3 : Int32) (v4 : Int32) (v5 : Int32) (v8 : Int32) (H : Heap) (locs : List Loc) (ls : Array Slot) (ha0 : gr_k a0 = (11, 0)) (G : gw_G X (gw_E X Y M) s H locs) (hl : lv_has ls 10 [(0, .ref (gr_a X a0)), (1, .int v1), (2, .int v2), (3, .int v3), (4, .int v4), (5, .int v5), (8, .int v8)]) (hF : mo_step_b271  M a0 v1 v2 v3 v4 v5 v8 = some z) : W p l e rm_mo_step s m args below meth c H locs 0 0 (MQ below (gw_Qi X (fun M => (gw_E X Y M)) z) args s 0 0 (gw_A X)) (F0 m 271 ls []) := by
  obtain ⟨hx, hb, hml, hown, hts, hr, hlocks, hK⟩ := id C0
  have hg : ∀ w ∈ gw_w, w.before args s = true := fun w h => hts w (List.mem_cons_of_mem _ h)
  unfold mo_step_b271 at hF
  refine lv_iconst (v := (1 : Int32)) hx hb dd_mo_step_271 (by decide) ?_
  refine lv_goto (tgt := 276) hx hb dd_mo_step_272 (by decide) ?_
  exact wb_mo_step_276 C0  M a0 v1 v2 v3 v4 v5 v8 (1 : Int32) _ _ _ ha0 G (lv_sub hl [0, 1, 2, 3, 4, 5, 6] rfl) hF
set_option maxRecDepth 100000 in
set_option maxHeartbeats 4000000 in
theorem wb_mo_step_247 {p : Program} {l : Launch} {e : Env} {s : State} {m : MethodId} {args : Array Value} {below : List Frame} {meth : Method} {c : Code} {X : gw_X} {Y : gw_M} {z : (Int32 × gw_M)} (C0 : gw_C ((Cond.code yy_mo_step by_mo_step 10 (some .int)) :: gw_w) by_mo_step 10 (some .int) "AccountMachineModel" X p s m args meth c) (M : gw_M) (a0 : Nat) (v1 : Int32) (v2 : Int32) (v3 : Int32) (v4 : Int32) (v5 : Int32) (v8 : Int32) (H : Heap) (locs : List Loc) (ls : Array Slot) (ha0 : gr_k a0 = (11, 0)) (G : gw_G X (gw_E X Y M) s H locs) (hl : lv_has ls 10 [(0, .ref (gr_a X a0)), (1, .int v1), (2, .int v2), (3, .int v3), (4, .int v4), (5, .int v5), (8, .int v8)]) (hF : mo_step_b247  M a0 v1 v2 v3 v4 v5 v8 = some z) : W p l e rm_mo_step s m args below meth c H locs 0 0 (MQ below (gw_Qi X (fun M => (gw_E X Y M)) z) args s 0 0 (gw_A X)) (F0 m 247 ls []) := by
  obtain ⟨hx, hb, hml, hown, hts, hr, hlocks, hK⟩ := id C0
  have hg : ∀ w ∈ gw_w, w.before args s = true := fun w h => hts w (List.mem_cons_of_mem _ h)
  unfold mo_step_b247 at hF
  refine lv_iload_n hx hb dd_mo_step_247 rfl (lv_at hl 3 rfl) ?_
  refine lv_bipush (v := (12 : Int32)) hx hb dd_mo_step_248 (by decide) ?_
  refine lv_icmp_ne (tgt := 275) hx hb dd_mo_step_250 (by decide) (fun h250 => ?_) (fun h250 => ?_)
  · replace hF := gw_ef h250 hF
    exact wb_mo_step_275 C0  M a0 v1 v2 v3 v4 v5 v8 _ _ _ ha0 G (lv_sub hl [0, 1, 2, 3, 4, 5, 6] rfl) hF
  · replace hF := gw_et h250 hF
    refine lv_aload_n hx hb dd_mo_step_253 rfl (lv_at hl 0 rfl) ?_
    refine gf_mo_registers hx hb hg hown (hg _ kw_299) hK G ha0 dd_mo_step_254 ?_
    refine lv_iload hx hb dd_mo_step_257 (lv_at hl 4 rfl) ?_
    obtain ⟨h259, hF⟩ := gw_gd hF
    refine gr_lald hx hb hK G (gq_mo_registers ha0) (gw_vp h259) (j := v4.toNatClampNeg) rfl dd_mo_step_259 ?_
    refine lv_aload_n hx hb dd_mo_step_260 rfl (lv_at hl 0 rfl) ?_
    refine gf_mo_registers hx hb hg hown (hg _ kw_299) hK G ha0 dd_mo_step_261 ?_
    refine lv_iload hx hb dd_mo_step_264 (lv_at hl 5 rfl) ?_
    obtain ⟨h266, hF⟩ := gw_gd hF
    refine gr_lald hx hb hK G (gq_mo_registers ha0) (gw_vp h266) (j := v5.toNatClampNeg) rfl dd_mo_step_266 ?_
    refine W.lcmp hx hb dd_mo_step_267 ?_
    refine W.eq (g2 := F0 m 268 _ _) rfl ?_
    refine lv_if_ge (tgt := 275) hx hb dd_mo_step_268 (by decide) (fun h268 => ?_) (fun h268 => ?_)
    · replace hF := gw_et h268 hF
      exact wb_mo_step_275 C0  M a0 v1 v2 v3 v4 v5 v8 _ _ _ ha0 G (lv_sub hl [0, 1, 2, 3, 4, 5, 6] rfl) hF
    · replace hF := gw_ef h268 hF
      exact wb_mo_step_271 C0  M a0 v1 v2 v3 v4 v5 v8 _ _ _ ha0 G (lv_sub hl [0, 1, 2, 3, 4, 5, 6] rfl) hF
set_option maxRecDepth 100000 in
set_option maxHeartbeats 4000000 in
theorem wb_mo_step_211 {p : Program} {l : Launch} {e : Env} {s : State} {m : MethodId} {args : Array Value} {below : List Frame} {meth : Method} {c : Code} {X : gw_X} {Y : gw_M} {z : (Int32 × gw_M)} (C0 : gw_C ((Cond.code yy_mo_step by_mo_step 10 (some .int)) :: gw_w) by_mo_step 10 (some .int) "AccountMachineModel" X p s m args meth c) (M : gw_M) (a0 : Nat) (v1 : Int32) (v2 : Int32) (v3 : Int32) (v4 : Int32) (v5 : Int32) (v8 : Int32) (H : Heap) (locs : List Loc) (ls : Array Slot) (ha0 : gr_k a0 = (11, 0)) (G : gw_G X (gw_E X Y M) s H locs) (hl : lv_has ls 10 [(0, .ref (gr_a X a0)), (1, .int v1), (2, .int v2), (3, .int v3), (4, .int v4), (5, .int v5), (8, .int v8)]) (hF : mo_step_b211  M a0 v1 v2 v3 v4 v5 v8 = some z) : W p l e rm_mo_step s m args below meth c H locs 0 0 (MQ below (gw_Qi X (fun M => (gw_E X Y M)) z) args s 0 0 (gw_A X)) (F0 m 211 ls []) := by
  obtain ⟨hx, hb, hml, hown, hts, hr, hlocks, hK⟩ := id C0
  have hg : ∀ w ∈ gw_w, w.before args s = true := fun w h => hts w (List.mem_cons_of_mem _ h)
  unfold mo_step_b211 at hF
  refine lv_iload_n hx hb dd_mo_step_211 rfl (lv_at hl 3 rfl) ?_
  refine lv_bipush (v := (10 : Int32)) hx hb dd_mo_step_212 (by decide) ?_
  refine lv_icmp_eq (tgt := 271) hx hb dd_mo_step_214 (by decide) (fun h214 => ?_) (fun h214 => ?_)
  · replace hF := gw_et h214 hF
    exact wb_mo_step_271 C0  M a0 v1 v2 v3 v4 v5 v8 _ _ _ ha0 G (lv_sub hl [0, 1, 2, 3, 4, 5, 6] rfl) hF
  · replace hF := gw_ef h214 hF
    refine lv_iload_n hx hb dd_mo_step_217 rfl (lv_at hl 3 rfl) ?_
    refine lv_bipush (v := (13 : Int32)) hx hb dd_mo_step_218 (by decide) ?_
    refine lv_icmp_eq (tgt := 271) hx hb dd_mo_step_220 (by decide) (fun h220 => ?_) (fun h220 => ?_)
    · replace hF := gw_et h220 hF
      exact wb_mo_step_271 C0  M a0 v1 v2 v3 v4 v5 v8 _ _ _ ha0 G (lv_sub hl [0, 1, 2, 3, 4, 5, 6] rfl) hF
    · replace hF := gw_ef h220 hF
      refine lv_iload_n hx hb dd_mo_step_223 rfl (lv_at hl 3 rfl) ?_
      refine lv_bipush (v := (11 : Int32)) hx hb dd_mo_step_224 (by decide) ?_
      refine lv_icmp_ne (tgt := 247) hx hb dd_mo_step_226 (by decide) (fun h226 => ?_) (fun h226 => ?_)
      · replace hF := gw_ef h226 hF
        exact wb_mo_step_247 C0  M a0 v1 v2 v3 v4 v5 v8 _ _ _ ha0 G (lv_sub hl [0, 1, 2, 3, 4, 5, 6] rfl) hF
      · replace hF := gw_et h226 hF
        refine lv_aload_n hx hb dd_mo_step_229 rfl (lv_at hl 0 rfl) ?_
        refine gf_mo_registers hx hb hg hown (hg _ kw_299) hK G ha0 dd_mo_step_230 ?_
        refine lv_iload hx hb dd_mo_step_233 (lv_at hl 4 rfl) ?_
        obtain ⟨h235, hF⟩ := gw_gd hF
        refine gr_lald hx hb hK G (gq_mo_registers ha0) (gw_vp h235) (j := v4.toNatClampNeg) rfl dd_mo_step_235 ?_
        refine lv_aload_n hx hb dd_mo_step_236 rfl (lv_at hl 0 rfl) ?_
        refine gf_mo_numbers hx hb hg hown (hg _ kw_259) hK G ha0 dd_mo_step_237 ?_
        refine lv_iload_n hx hb dd_mo_step_240 rfl (lv_at hl 2 rfl) ?_
        obtain ⟨h241, hF⟩ := gw_gd hF
        refine gr_iald hx hb hK G (gq_mo_numbers ha0) (gw_vp h241) (j := v2.toNatClampNeg) rfl dd_mo_step_241 ?_
        refine lv_i2l (v := (M.1 (a0 + 11) v2.toNatClampNeg).toInt64) hx hb dd_mo_step_242 rfl ?_
        refine W.eq (g2 := F0 m 243 _ _) rfl ?_
        refine W.lcmp hx hb dd_mo_step_243 ?_
        refine lv_if_eq (tgt := 271) hx hb dd_mo_step_244 (by decide) (fun h244 => ?_) (fun h244 => ?_)
        · replace hF := gw_et h244 hF
          exact wb_mo_step_271 C0  M a0 v1 v2 v3 v4 v5 v8 _ _ _ ha0 G (lv_sub hl [0, 1, 2, 3, 4, 5, 6] rfl) hF
        · replace hF := gw_ef h244 hF
          exact wb_mo_step_247 C0  M a0 v1 v2 v3 v4 v5 v8 _ _ _ ha0 G (lv_sub hl [0, 1, 2, 3, 4, 5, 6] rfl) hF
set_option maxRecDepth 100000 in
set_option maxHeartbeats 4000000 in
theorem wb_mo_step_150 {p : Program} {l : Launch} {e : Env} {s : State} {m : MethodId} {args : Array Value} {below : List Frame} {meth : Method} {c : Code} {X : gw_X} {Y : gw_M} {z : (Int32 × gw_M)} (C0 : gw_C ((Cond.code yy_mo_step by_mo_step 10 (some .int)) :: gw_w) by_mo_step 10 (some .int) "AccountMachineModel" X p s m args meth c) (M : gw_M) (v4 : Int32) (v5 : Int32) (v6 : Int64) (t0 : Int32) (t1 : Int32) (b2 : Nat) (H : Heap) (locs : List Loc) (ls : Array Slot) (hb2 : gr_k b2 = (11, 0)) (G : gw_G X (gw_E X Y M) s H locs) (hl : lv_has ls 10 [(4, .int v4), (5, .int v5), (6, .long v6)]) (hF : mo_step_b150  M v4 v5 v6 t0 t1 b2 = some z) : W p l e rm_mo_step s m args below meth c H locs 0 0 (MQ below (gw_Qi X (fun M => (gw_E X Y M)) z) args s 0 0 (gw_A X)) (F0 m 150 ls [.int t0, .int t1, .ref (gr_a X b2)]) := by
  obtain ⟨hx, hb, hml, hown, hts, hr, hlocks, hK⟩ := id C0
  have hg : ∀ w ∈ gw_w, w.before args s = true := fun w h => hts w (List.mem_cons_of_mem _ h)
  unfold mo_step_b150 at hF
  refine lv_iload hx hb dd_mo_step_150 (lv_at hl 0 rfl) ?_
  refine lv_iload hx hb dd_mo_step_152 (lv_at hl 1 rfl) ?_
  refine lv_lload hx hb dd_mo_step_154 (lv_at hl 2 rfl) ?_
  obtain ⟨r156, M156, hc156, hF⟩ := gw_be hF
  refine gw_ci G (va_runV (As := [.int t1, .int t0, .int v4, .int v5, .long v6]) (rest := []) ⟨hx, hb, hml, hown, hts⟩ (ct_mo_access l X Y M b2 t1 t0 v4 v5 v6 hb2 _ hc156) (cwV 5 hts (gw_gV kw_378 kw_379 kw_380 kw_253 kw_377) rfl rfl rfl (by decide +kernel) ⟨Nat.le_of_ble_eq_true rfl, Nat.le_of_ble_eq_true rfl⟩) ⟨gw_blind, gw_recv_mo hK G hb2, gw_pre hK G⟩ rfl rfl hl.1 rfl (Nat.le_of_ble_eq_true rfl) dd_mo_step_156 ⟨Nat.le_of_ble_eq_true rfl, Nat.le_of_ble_eq_true rfl⟩) (fun H locs G => ?_)
  exact W.iret hx hb hr (fun t ht hW => gw_endi (EF := (fun M => (gw_E X Y M))) (M := M156) G ht hF) G.2.2.2.2 dd_mo_step_159 hlocks
set_option maxRecDepth 100000 in
set_option maxHeartbeats 4000000 in
theorem wb_mo_step_137 {p : Program} {l : Launch} {e : Env} {s : State} {m : MethodId} {args : Array Value} {below : List Frame} {meth : Method} {c : Code} {X : gw_X} {Y : gw_M} {z : (Int32 × gw_M)} (C0 : gw_C ((Cond.code yy_mo_step by_mo_step 10 (some .int)) :: gw_w) by_mo_step 10 (some .int) "AccountMachineModel" X p s m args meth c) (M : gw_M) (a0 : Nat) (v1 : Int32) (v3 : Int32) (v4 : Int32) (v5 : Int32) (v6 : Int64) (H : Heap) (locs : List Loc) (ls : Array Slot) (ha0 : gr_k a0 = (11, 0)) (G : gw_G X (gw_E X Y M) s H locs) (hl : lv_has ls 10 [(0, .ref (gr_a X a0)), (1, .int v1), (3, .int v3), (4, .int v4), (5, .int v5), (6, .long v6)]) (hF : mo_step_b137  M a0 v1 v3 v4 v5 v6 = some z) : W p l e rm_mo_step s m args below meth c H locs 0 0 (MQ below (gw_Qi X (fun M => (gw_E X Y M)) z) args s 0 0 (gw_A X)) (F0 m 137 ls []) := by
  obtain ⟨hx, hb, hml, hown, hts, hr, hlocks, hK⟩ := id C0
  have hg : ∀ w ∈ gw_w, w.before args s = true := fun w h => hts w (List.mem_cons_of_mem _ h)
  unfold mo_step_b137 at hF
  refine lv_aload_n hx hb dd_mo_step_137 rfl (lv_at hl 0 rfl) ?_
  refine lv_iload_n hx hb dd_mo_step_138 rfl (lv_at hl 1 rfl) ?_
  refine lv_iload_n hx hb dd_mo_step_139 rfl (lv_at hl 2 rfl) ?_
  refine lv_bipush (v := (8 : Int32)) hx hb dd_mo_step_140 (by decide) ?_
  refine lv_icmp_ne (tgt := 149) hx hb dd_mo_step_142 (by decide) (fun h142 => ?_) (fun h142 => ?_)
  · replace hF := gw_ef h142 hF
    refine lv_iconst (v := (0 : Int32)) hx hb dd_mo_step_149 (by decide) ?_
    exact wb_mo_step_150 C0  M v4 v5 v6 (0 : Int32) v1 a0 _ _ _ ha0 G (lv_sub hl [3, 4, 5] rfl) hF
  · replace hF := gw_et h142 hF
    refine lv_iconst (v := (1 : Int32)) hx hb dd_mo_step_145 (by decide) ?_
    refine lv_goto (tgt := 150) hx hb dd_mo_step_146 (by decide) ?_
    exact wb_mo_step_150 C0  M v4 v5 v6 (1 : Int32) v1 a0 _ _ _ ha0 G (lv_sub hl [3, 4, 5] rfl) hF
set_option maxRecDepth 100000 in
set_option maxHeartbeats 4000000 in
theorem wb_mo_step_0 {p : Program} {l : Launch} {e : Env} {s : State} {m : MethodId} {args : Array Value} {below : List Frame} {meth : Method} {c : Code} {X : gw_X} {Y : gw_M} {z : (Int32 × gw_M)} (C0 : gw_C ((Cond.code yy_mo_step by_mo_step 10 (some .int)) :: gw_w) by_mo_step 10 (some .int) "AccountMachineModel" X p s m args meth c) (M : gw_M) (a0 : Nat) (H : Heap) (locs : List Loc) (ls : Array Slot) (ha0 : gr_k a0 = (11, 0)) (G : gw_G X (gw_E X Y M) s H locs) (hl : lv_has ls 10 [(0, .ref (gr_a X a0))]) (hF : mo_step_b0  M a0 = some z) : W p l e rm_mo_step s m args below meth c H locs 0 0 (MQ below (gw_Qi X (fun M => (gw_E X Y M)) z) args s 0 0 (gw_A X)) (F0 m 0 ls []) := by
  obtain ⟨hx, hb, hml, hown, hts, hr, hlocks, hK⟩ := id C0
  have hg : ∀ w ∈ gw_w, w.before args s = true := fun w h => hts w (List.mem_cons_of_mem _ h)
  unfold mo_step_b0 at hF
  refine lv_aload_n hx hb dd_mo_step_0 rfl (lv_at hl 0 rfl) ?_
  refine gf_mo_depth hx hb hg hown (hg _ kw_343) hK G ha0 dd_mo_step_1 ?_
  refine lv_topi (fun x4 e4 => ?_)
  replace hF := gw_ly e4 hF
  refine lv_istore_n (i := 1) (lv' := [(1, .int x4), (0, .ref (gr_a X a0))]) hx hb dd_mo_step_4 rfl hl (by decide) rfl (fun ls hl => ?_)
  refine lv_bipush (v := (32 : Int32)) hx hb dd_mo_step_5 (by decide) ?_
  refine lv_aload_n hx hb dd_mo_step_7 rfl (lv_at hl 1 rfl) ?_
  refine gf_mo_program hx hb hg hown (hg _ kw_271) hK G ha0 dd_mo_step_8 ?_
  refine lv_iconst (v := (3 : Int32)) hx hb dd_mo_step_11 (by decide) ?_
  refine lv_iload_n hx hb dd_mo_step_12 rfl (lv_at hl 0 rfl) ?_
  refine lv_iadd hx hb dd_mo_step_13 ?_
  refine W.eq (g2 := F0 m 14 _ _) rfl ?_
  obtain ⟨h14, hF⟩ := gw_gd hF
  refine gr_iald hx hb hK G (gq_mo_program ha0) (gw_vp h14) (j := ((3 : Int32) + x4).toNatClampNeg) rfl dd_mo_step_14 ?_
  refine lv_iconst (v := (1 : Int32)) hx hb dd_mo_step_15 (by decide) ?_
  refine lv_isub hx hb dd_mo_step_16 ?_
  refine lv_imul hx hb dd_mo_step_17 ?_
  refine lv_aload_n hx hb dd_mo_step_18 rfl (lv_at hl 1 rfl) ?_
  refine gf_mo_place hx hb hg hown (hg _ kw_301) hK G ha0 dd_mo_step_19 ?_
  refine lv_iload_n hx hb dd_mo_step_22 rfl (lv_at hl 0 rfl) ?_
  obtain ⟨h23, hF⟩ := gw_gd hF
  refine gr_iald hx hb hK G (gq_mo_place ha0) (gw_vp h23) (j := x4.toNatClampNeg) rfl dd_mo_step_23 ?_
  refine lv_iadd hx hb dd_mo_step_24 ?_
  refine lv_topi (fun x25 e25 => ?_)
  replace hF := gw_ly e25 hF
  refine lv_istore_n (i := 2) (lv' := [(2, .int x25), (1, .int x4), (0, .ref (gr_a X a0))]) hx hb dd_mo_step_25 rfl hl (by decide) rfl (fun ls hl => ?_)
  refine W.eq (g2 := F0 m 26 _ _) rfl ?_
  refine lv_aload_n hx hb dd_mo_step_26 rfl (lv_at hl 2 rfl) ?_
  refine lv_iconst (v := (1 : Int32)) hx hb dd_mo_step_27 (by decide) ?_
  obtain ⟨r28, M28, hc28, hF⟩ := gw_be hF
  refine gw_ci G (va_runV (As := [.int (1 : Int32)]) (rest := []) ⟨hx, hb, hml, hown, hts⟩ (ct_mo_pay l X Y M a0 (1 : Int32) ha0 _ hc28) (cwV 1 hts (gw_gV kw_324 kw_325 kw_326 kw_253 kw_323) rfl rfl rfl (by decide +kernel) ⟨Nat.le_of_ble_eq_true rfl, Nat.le_of_ble_eq_true rfl⟩) ⟨gw_blind, gw_recv_mo hK G ha0, gw_pre hK G⟩ rfl rfl hl.1 rfl (Nat.le_of_ble_eq_true rfl) dd_mo_step_28 ⟨Nat.le_of_ble_eq_true rfl, Nat.le_of_ble_eq_true rfl⟩) (fun H locs G => ?_)
  refine lv_if_ne (tgt := 36) hx hb dd_mo_step_31 (by decide) (fun h31 => ?_) (fun h31 => ?_)
  · replace hF := gw_ef h31 hF
    refine lv_aload_n hx hb dd_mo_step_36 rfl (lv_at hl 2 rfl) ?_
    refine gf_mo_kinds hx hb hg hown (hg _ kw_255) hK G ha0 dd_mo_step_37 ?_
    refine lv_iload_n hx hb dd_mo_step_40 rfl (lv_at hl 0 rfl) ?_
    obtain ⟨h41, hF⟩ := gw_gd hF
    refine gr_iald hx hb hK G (gq_mo_kinds ha0) (gw_vp h41) (j := x25.toNatClampNeg) rfl dd_mo_step_41 ?_
    refine lv_topi (fun x42 e42 => ?_)
    replace hF := gw_ly e42 hF
    refine lv_istore_n (i := 3) (lv' := [(3, .int x42), (2, .int x25), (1, .int x4), (0, .ref (gr_a X a0))]) hx hb dd_mo_step_42 rfl hl (by decide) rfl (fun ls hl => ?_)
    refine lv_bipush (v := (10 : Int32)) hx hb dd_mo_step_43 (by decide) ?_
    refine lv_iload_n hx hb dd_mo_step_45 rfl (lv_at hl 2 rfl) ?_
    refine lv_imul hx hb dd_mo_step_46 ?_
    refine lv_aload_n hx hb dd_mo_step_47 rfl (lv_at hl 3 rfl) ?_
    refine W.eq (g2 := F0 m 48 _ _) rfl ?_
    refine gf_mo_lefts hx hb hg hown (hg _ kw_256) hK G ha0 dd_mo_step_48 ?_
    refine lv_iload_n hx hb dd_mo_step_51 rfl (lv_at hl 1 rfl) ?_
    obtain ⟨h52, hF⟩ := gw_gd hF
    refine gr_iald hx hb hK G (gq_mo_lefts ha0) (gw_vp h52) (j := x25.toNatClampNeg) rfl dd_mo_step_52 ?_
    refine lv_iadd hx hb dd_mo_step_53 ?_
    refine lv_topi (fun x54 e54 => ?_)
    replace hF := gw_ly e54 hF
    refine lv_istore (i := 4) (lv' := [(4, .int x54), (3, .int x42), (2, .int x25), (1, .int x4), (0, .ref (gr_a X a0))]) hx hb dd_mo_step_54 hl (by decide) rfl (fun ls hl => ?_)
    refine lv_bipush (v := (10 : Int32)) hx hb dd_mo_step_56 (by decide) ?_
    refine lv_iload_n hx hb dd_mo_step_58 rfl (lv_at hl 3 rfl) ?_
    refine lv_imul hx hb dd_mo_step_59 ?_
    refine lv_aload_n hx hb dd_mo_step_60 rfl (lv_at hl 4 rfl) ?_
    refine gf_mo_rights hx hb hg hown (hg _ kw_257) hK G ha0 dd_mo_step_61 ?_
    refine W.eq (g2 := F0 m 64 _ _) rfl ?_
    refine lv_iload_n hx hb dd_mo_step_64 rfl (lv_at hl 2 rfl) ?_
    obtain ⟨h65, hF⟩ := gw_gd hF
    refine gr_iald hx hb hK G (gq_mo_rights ha0) (gw_vp h65) (j := x25.toNatClampNeg) rfl dd_mo_step_65 ?_
    refine lv_iadd hx hb dd_mo_step_66 ?_
    refine lv_topi (fun x67 e67 => ?_)
    replace hF := gw_ly e67 hF
    refine lv_istore (i := 5) (lv' := [(5, .int x67), (4, .int x54), (3, .int x42), (2, .int x25), (1, .int x4), (0, .ref (gr_a X a0))]) hx hb dd_mo_step_67 hl (by decide) rfl (fun ls hl => ?_)
    refine lv_aload_n hx hb dd_mo_step_69 rfl (lv_at hl 5 rfl) ?_
    refine gf_mo_offsets hx hb hg hown (hg _ kw_258) hK G ha0 dd_mo_step_70 ?_
    refine lv_iload_n hx hb dd_mo_step_73 rfl (lv_at hl 3 rfl) ?_
    obtain ⟨h74, hF⟩ := gw_gd hF
    refine gr_iald hx hb hK G (gq_mo_offsets ha0) (gw_vp h74) (j := x25.toNatClampNeg) rfl dd_mo_step_74 ?_
    refine lv_i2l (v := (M28.1 (a0 + 10) x25.toNatClampNeg).toInt64) hx hb dd_mo_step_75 rfl ?_
    refine lv_topl (fun x76 e76 => ?_)
    replace hF := gw_ly e76 hF
    refine lv_lstore (i := 6) (lv' := [(6, .long x76), (5, .int x67), (4, .int x54), (3, .int x42), (2, .int x25), (1, .int x4), (0, .ref (gr_a X a0))]) hx hb dd_mo_step_76 hl (by decide) rfl (fun ls hl => ?_)
    refine W.eq (g2 := F0 m 78 _ _) rfl ?_
    refine lv_aload_n hx hb dd_mo_step_78 rfl (lv_at hl 6 rfl) ?_
    refine gf_mo_place hx hb hg hown (hg _ kw_301) hK G ha0 dd_mo_step_79 ?_
    refine lv_iload_n hx hb dd_mo_step_82 rfl (lv_at hl 5 rfl) ?_
    obtain ⟨h83, hF⟩ := gw_gd hF
    refine gr_iald hx hb hK G (gq_mo_place ha0) (gw_vp h83) (j := x4.toNatClampNeg) rfl dd_mo_step_83 ?_
    refine lv_iconst (v := (1 : Int32)) hx hb dd_mo_step_84 (by decide) ?_
    refine lv_iadd hx hb dd_mo_step_85 ?_
    refine lv_aload_n hx hb dd_mo_step_86 rfl (lv_at hl 6 rfl) ?_
    refine gf_mo_offsets hx hb hg hown (hg _ kw_258) hK G ha0 dd_mo_step_87 ?_
    refine lv_iload_n hx hb dd_mo_step_90 rfl (lv_at hl 4 rfl) ?_
    obtain ⟨h91, hF⟩ := gw_gd hF
    refine gr_iald hx hb hK G (gq_mo_offsets ha0) (gw_vp h91) (j := x25.toNatClampNeg) rfl dd_mo_step_91 ?_
    refine W.eq (g2 := F0 m 92 _ _) rfl ?_
    refine lv_iadd hx hb dd_mo_step_92 ?_
    refine lv_topi (fun x93 e93 => ?_)
    replace hF := gw_ly e93 hF
    refine lv_istore (i := 8) (lv' := [(8, .int x93), (6, .long x76), (5, .int x67), (4, .int x54), (3, .int x42), (2, .int x25), (1, .int x4), (0, .ref (gr_a X a0))]) hx hb dd_mo_step_93 hl (by decide) rfl (fun ls hl => ?_)
    refine lv_iload_n hx hb dd_mo_step_95 rfl (lv_at hl 4 rfl) ?_
    refine lv_bipush (v := (14 : Int32)) hx hb dd_mo_step_96 (by decide) ?_
    refine lv_icmp_ne (tgt := 113) hx hb dd_mo_step_98 (by decide) (fun h98 => ?_) (fun h98 => ?_)
    · replace hF := gw_ef h98 hF
      refine lv_iload_n hx hb dd_mo_step_113 rfl (lv_at hl 4 rfl) ?_
      refine lv_bipush (v := (15 : Int32)) hx hb dd_mo_step_114 (by decide) ?_
      refine lv_icmp_ne (tgt := 125) hx hb dd_mo_step_116 (by decide) (fun h116 => ?_) (fun h116 => ?_)
      · replace hF := gw_ef h116 hF
        refine lv_iload_n hx hb dd_mo_step_125 rfl (lv_at hl 4 rfl) ?_
        refine lv_bipush (v := (8 : Int32)) hx hb dd_mo_step_126 (by decide) ?_
        refine lv_icmp_eq (tgt := 137) hx hb dd_mo_step_128 (by decide) (fun h128 => ?_) (fun h128 => ?_)
        · replace hF := gw_et h128 hF
          exact wb_mo_step_137 C0  M28 a0 x4 x42 x54 x67 x76 _ _ _ ha0 G (lv_sub hl [7, 6, 4, 3, 2, 1] rfl) hF
        · replace hF := gw_ef h128 hF
          refine lv_iload_n hx hb dd_mo_step_131 rfl (lv_at hl 4 rfl) ?_
          refine lv_bipush (v := (9 : Int32)) hx hb dd_mo_step_132 (by decide) ?_
          refine lv_icmp_ne (tgt := 160) hx hb dd_mo_step_134 (by decide) (fun h134 => ?_) (fun h134 => ?_)
          · replace hF := gw_ef h134 hF
            refine lv_iload_n hx hb dd_mo_step_160 rfl (lv_at hl 4 rfl) ?_
            refine lv_bipush (v := (13 : Int32)) hx hb dd_mo_step_161 (by decide) ?_
            refine lv_icmp_ne (tgt := 211) hx hb dd_mo_step_163 (by decide) (fun h163 => ?_) (fun h163 => ?_)
            · replace hF := gw_ef h163 hF
              exact wb_mo_step_211 C0  M28 a0 x4 x25 x42 x54 x67 x93 _ _ _ ha0 G (lv_sub hl [7, 6, 5, 4, 3, 2, 0] rfl) hF
            · replace hF := gw_et h163 hF
              refine lv_aload_n hx hb dd_mo_step_166 rfl (lv_at hl 7 rfl) ?_
              refine gf_mo_calls hx hb hg hown (hg _ kw_302) hK G ha0 dd_mo_step_167 ?_
              refine lv_iload_n hx hb dd_mo_step_170 rfl (lv_at hl 6 rfl) ?_
              obtain ⟨h171, hF⟩ := gw_gd hF
              refine gr_iald hx hb hK G (gq_mo_calls ha0) (gw_vp h171) (j := x4.toNatClampNeg) rfl dd_mo_step_171 ?_
              refine lv_iconst (v := (4 : Int32)) hx hb dd_mo_step_172 (by decide) ?_
              refine lv_icmp_ne (tgt := 178) hx hb dd_mo_step_173 (by decide) (fun h173 => ?_) (fun h173 => ?_)
              · replace hF := gw_ef h173 hF
                refine lv_aload_n hx hb dd_mo_step_178 rfl (lv_at hl 7 rfl) ?_
                refine gf_mo_remembered hx hb hg hown (hg _ kw_363) hK G ha0 dd_mo_step_179 ?_
                refine lv_iconst (v := (4 : Int32)) hx hb dd_mo_step_182 (by decide) ?_
                refine lv_iload_n hx hb dd_mo_step_183 rfl (lv_at hl 6 rfl) ?_
                refine lv_imul hx hb dd_mo_step_184 ?_
                refine lv_aload_n hx hb dd_mo_step_185 rfl (lv_at hl 7 rfl) ?_
                refine gf_mo_calls hx hb hg hown (hg _ kw_302) hK G ha0 dd_mo_step_186 ?_
                refine lv_iload_n hx hb dd_mo_step_189 rfl (lv_at hl 6 rfl) ?_
                obtain ⟨h190, hF⟩ := gw_gd hF
                refine gr_iald hx hb hK G (gq_mo_calls ha0) (gw_vp h190) (j := x4.toNatClampNeg) rfl dd_mo_step_190 ?_
                refine W.eq (g2 := F0 m 191 _ _) rfl ?_
                refine lv_iadd hx hb dd_mo_step_191 ?_
                refine lv_aload_n hx hb dd_mo_step_192 rfl (lv_at hl 7 rfl) ?_
                refine gf_mo_place hx hb hg hown (hg _ kw_301) hK G ha0 dd_mo_step_193 ?_
                refine lv_iload_n hx hb dd_mo_step_196 rfl (lv_at hl 6 rfl) ?_
                obtain ⟨h197, hF⟩ := gw_gd hF
                refine gr_iald hx hb hK G (gq_mo_place ha0) (gw_vp h197) (j := x4.toNatClampNeg) rfl dd_mo_step_197 ?_
                refine lv_iconst (v := (1 : Int32)) hx hb dd_mo_step_198 (by decide) ?_
                refine lv_iadd hx hb dd_mo_step_199 ?_
                obtain ⟨h200, hF⟩ := gw_gd hF
                refine gr_iast hx hb hK G (gq_mo_remembered ha0) (gw_vp h200) (j := (((4 : Int32) * x4) + (M28.1 (a0 + 20) x4.toNatClampNeg)).toNatClampNeg) rfl dd_mo_step_200 (fun M200 H locs e200 G => ?_)
                replace hF := gw_ly e200 hF
                refine lv_aload_n hx hb dd_mo_step_201 rfl (lv_at hl 7 rfl) ?_
                refine gf_mo_calls hx hb hg hown (hg _ kw_302) hK G ha0 dd_mo_step_202 ?_
                refine W.eq (g2 := F0 m 205 _ _) rfl ?_
                refine lv_iload_n hx hb dd_mo_step_205 rfl (lv_at hl 6 rfl) ?_
                refine lv_dup2_11 hx hb dd_mo_step_206 rfl rfl ?_
                obtain ⟨h207, hF⟩ := gw_gd hF
                refine gr_iald hx hb hK G (gq_mo_calls ha0) (gw_vp h207) (j := x4.toNatClampNeg) rfl dd_mo_step_207 ?_
                refine lv_iconst (v := (1 : Int32)) hx hb dd_mo_step_208 (by decide) ?_
                refine lv_iadd hx hb dd_mo_step_209 ?_
                obtain ⟨h210, hF⟩ := gw_gd hF
                refine gr_iast hx hb hK G (gq_mo_calls ha0) (gw_vp h210) (j := x4.toNatClampNeg) rfl dd_mo_step_210 (fun M210 H locs e210 G => ?_)
                replace hF := gw_ly e210 hF
                exact wb_mo_step_211 C0  M210 a0 x4 x25 x42 x54 x67 x93 _ _ _ ha0 G (lv_sub hl [7, 6, 5, 4, 3, 2, 0] rfl) hF
              · replace hF := gw_et h173 hF
                refine lv_iconst (v := (4 : Int32)) hx hb dd_mo_step_176 (by decide) ?_
                exact W.iret hx hb hr (fun t ht hW => gw_endi (EF := (fun M => (gw_E X Y M))) (M := M28) G ht hF) G.2.2.2.2 dd_mo_step_177 hlocks
          · replace hF := gw_et h134 hF
            exact wb_mo_step_137 C0  M28 a0 x4 x42 x54 x67 x76 _ _ _ ha0 G (lv_sub hl [7, 6, 4, 3, 2, 1] rfl) hF
      · replace hF := gw_et h116 hF
        refine lv_aload_n hx hb dd_mo_step_119 rfl (lv_at hl 7 rfl) ?_
        refine lv_iload_n hx hb dd_mo_step_120 rfl (lv_at hl 6 rfl) ?_
        obtain ⟨r121, M121, hc121, hF⟩ := gw_be hF
        refine gw_ci G (va_runV (As := [.int x4]) (rest := []) ⟨hx, hb, hml, hown, hts⟩ (ct_mo_end l X Y M28 a0 x4 ha0 _ hc121) (cwV 1 hts (gw_gV kw_382 kw_383 kw_384 kw_253 kw_381) rfl rfl rfl (by decide +kernel) ⟨Nat.le_of_ble_eq_true rfl, Nat.le_of_ble_eq_true rfl⟩) ⟨gw_blind, gw_recv_mo hK G ha0, gw_pre hK G⟩ rfl rfl hl.1 rfl (Nat.le_of_ble_eq_true rfl) dd_mo_step_121 ⟨Nat.le_of_ble_eq_true rfl, Nat.le_of_ble_eq_true rfl⟩) (fun H locs G => ?_)
        exact W.iret hx hb hr (fun t ht hW => gw_endi (EF := (fun M => (gw_E X Y M))) (M := M121) G ht hF) G.2.2.2.2 dd_mo_step_124 hlocks
    · replace hF := gw_et h98 hF
      refine lv_aload_n hx hb dd_mo_step_101 rfl (lv_at hl 7 rfl) ?_
      refine lv_iload_n hx hb dd_mo_step_102 rfl (lv_at hl 6 rfl) ?_
      refine lv_aload_n hx hb dd_mo_step_103 rfl (lv_at hl 7 rfl) ?_
      refine gf_mo_numbers hx hb hg hown (hg _ kw_259) hK G ha0 dd_mo_step_104 ?_
      refine lv_iload_n hx hb dd_mo_step_107 rfl (lv_at hl 5 rfl) ?_
      obtain ⟨h108, hF⟩ := gw_gd hF
      refine gr_iald hx hb hK G (gq_mo_numbers ha0) (gw_vp h108) (j := x25.toNatClampNeg) rfl dd_mo_step_108 ?_
      obtain ⟨r109, M109, hc109, hF⟩ := gw_be hF
      refine gw_ci G (va_runV (As := [.int x4, .int (M28.1 (a0 + 11) x25.toNatClampNeg)]) (rest := []) ⟨hx, hb, hml, hown, hts⟩ (ct_mo_serve l X Y M28 a0 x4 (M28.1 (a0 + 11) x25.toNatClampNeg) ha0 _ hc109) (cwV 2 hts (gw_gV kw_386 kw_387 kw_388 kw_253 kw_385) rfl rfl rfl (by decide +kernel) ⟨Nat.le_of_ble_eq_true rfl, Nat.le_of_ble_eq_true rfl⟩) ⟨gw_blind, gw_recv_mo hK G ha0, gw_pre hK G⟩ rfl rfl hl.1 rfl (Nat.le_of_ble_eq_true rfl) dd_mo_step_109 ⟨Nat.le_of_ble_eq_true rfl, Nat.le_of_ble_eq_true rfl⟩) (fun H locs G => ?_)
      exact W.iret hx hb hr (fun t ht hW => gw_endi (EF := (fun M => (gw_E X Y M))) (M := M109) G ht hF) G.2.2.2.2 dd_mo_step_112 hlocks
  · replace hF := gw_et h31 hF
    refine lv_iconst (v := (3 : Int32)) hx hb dd_mo_step_34 (by decide) ?_
    exact W.iret hx hb hr (fun t ht hW => gw_endi (EF := (fun M => (gw_E X Y M))) (M := M28) G ht hF) G.2.2.2.2 dd_mo_step_35 hlocks
set_option maxRecDepth 100000 in
set_option maxHeartbeats 4000000 in
theorem ct_mo_step (l : Launch) (X : gw_X) (Y : gw_M) (M : gw_M) (a0 : Nat) (ha0 : gr_k a0 = (11, 0)) (z : (Int32 × gw_M)) (hF : mo_step_b0 M a0 = some z) : Met l yy_mo_step ((Cond.code yy_mo_step by_mo_step 10 (some .int)) :: gw_w) rm_mo_step (va_Pc [.ref (gr_a X a0)] (gw_B X (gw_E X Y M))) (gw_Qi X (fun M => (gw_E X Y M)) z) 0 0 (gw_A X) := by
  refine Met.ofW (cc := by_mo_step) (maxL := 10) (ret := (some .int)) (by decide) rfl ?_
  intro p e s m args below meth c s₁ B hml hv
  obtain ⟨rfl, hB⟩ := hv
  rw [lg_entry_eq]
  have hl := lv_entry ([.ref (gr_a X a0)]) (n := 10) (Nat.le_of_ble_eq_true rfl)
  generalize (lg_sl ([.ref (gr_a X a0)]) ++ List.replicate (10 - (lg_sl ([.ref (gr_a X a0)])).length) Slot.unset).toArray = ls at hl ⊢
  have hl : lv_has ls 10 [(0, .ref (gr_a X a0))] := hl
  exact wb_mo_step_0 (gw_ctx B hml rfl hB) M a0 _ _ _ ha0 (gw_start hB) hl hF
/-! AccountMachineModel.copyAccounts(II)V -/
abbrev rm_mo_copyAccounts : Room := { frames := 0, cells := 0, slots := 0, locals := 0 }
theorem dd_mo_copyAccounts_0 : decode by_mo_copyAccounts 0 = .ok (.iconst 0, 1) := by decide +kernel
theorem dd_mo_copyAccounts_1 : decode by_mo_copyAccounts 1 = .ok (.istore_n 3, 1) := by decide +kernel
theorem dd_mo_copyAccounts_2 : decode by_mo_copyAccounts 2 = .ok (.iload_n 3, 1) := by decide +kernel
theorem dd_mo_copyAccounts_3 : decode by_mo_copyAccounts 3 = .ok (.bipush 8, 2) := by decide +kernel
theorem dd_mo_copyAccounts_5 : decode by_mo_copyAccounts 5 = .ok (.if_icmp .ge 98, 3) := by decide +kernel
theorem dd_mo_copyAccounts_8 : decode by_mo_copyAccounts 8 = .ok (.aload_n 0, 1) := by decide +kernel
theorem dd_mo_copyAccounts_9 : decode by_mo_copyAccounts 9 = .ok (.getfield 7, 3) := by decide +kernel
theorem dd_mo_copyAccounts_12 : decode by_mo_copyAccounts 12 = .ok (.iload_n 2, 1) := by decide +kernel
theorem dd_mo_copyAccounts_13 : decode by_mo_copyAccounts 13 = .ok (.iload_n 3, 1) := by decide +kernel
theorem dd_mo_copyAccounts_14 : decode by_mo_copyAccounts 14 = .ok (.iadd, 1) := by decide +kernel
theorem dd_mo_copyAccounts_15 : decode by_mo_copyAccounts 15 = .ok (.aload_n 0, 1) := by decide +kernel
theorem dd_mo_copyAccounts_16 : decode by_mo_copyAccounts 16 = .ok (.getfield 7, 3) := by decide +kernel
theorem dd_mo_copyAccounts_19 : decode by_mo_copyAccounts 19 = .ok (.iload_n 1, 1) := by decide +kernel
theorem dd_mo_copyAccounts_20 : decode by_mo_copyAccounts 20 = .ok (.iload_n 3, 1) := by decide +kernel
theorem dd_mo_copyAccounts_21 : decode by_mo_copyAccounts 21 = .ok (.iadd, 1) := by decide +kernel
theorem dd_mo_copyAccounts_22 : decode by_mo_copyAccounts 22 = .ok (.iaload, 1) := by decide +kernel
theorem dd_mo_copyAccounts_23 : decode by_mo_copyAccounts 23 = .ok (.iastore, 1) := by decide +kernel
theorem dd_mo_copyAccounts_24 : decode by_mo_copyAccounts 24 = .ok (.aload_n 0, 1) := by decide +kernel
theorem dd_mo_copyAccounts_25 : decode by_mo_copyAccounts 25 = .ok (.getfield 13, 3) := by decide +kernel
theorem dd_mo_copyAccounts_28 : decode by_mo_copyAccounts 28 = .ok (.iload_n 2, 1) := by decide +kernel
theorem dd_mo_copyAccounts_29 : decode by_mo_copyAccounts 29 = .ok (.iload_n 3, 1) := by decide +kernel
theorem dd_mo_copyAccounts_30 : decode by_mo_copyAccounts 30 = .ok (.iadd, 1) := by decide +kernel
theorem dd_mo_copyAccounts_31 : decode by_mo_copyAccounts 31 = .ok (.aload_n 0, 1) := by decide +kernel
theorem dd_mo_copyAccounts_32 : decode by_mo_copyAccounts 32 = .ok (.getfield 13, 3) := by decide +kernel
theorem dd_mo_copyAccounts_35 : decode by_mo_copyAccounts 35 = .ok (.iload_n 1, 1) := by decide +kernel
theorem dd_mo_copyAccounts_36 : decode by_mo_copyAccounts 36 = .ok (.iload_n 3, 1) := by decide +kernel
theorem dd_mo_copyAccounts_37 : decode by_mo_copyAccounts 37 = .ok (.iadd, 1) := by decide +kernel
theorem dd_mo_copyAccounts_38 : decode by_mo_copyAccounts 38 = .ok (.iaload, 1) := by decide +kernel
theorem dd_mo_copyAccounts_39 : decode by_mo_copyAccounts 39 = .ok (.iastore, 1) := by decide +kernel
theorem dd_mo_copyAccounts_40 : decode by_mo_copyAccounts 40 = .ok (.aload_n 0, 1) := by decide +kernel
theorem dd_mo_copyAccounts_41 : decode by_mo_copyAccounts 41 = .ok (.getfield 16, 3) := by decide +kernel
theorem dd_mo_copyAccounts_44 : decode by_mo_copyAccounts 44 = .ok (.iload_n 2, 1) := by decide +kernel
theorem dd_mo_copyAccounts_45 : decode by_mo_copyAccounts 45 = .ok (.iload_n 3, 1) := by decide +kernel
theorem dd_mo_copyAccounts_46 : decode by_mo_copyAccounts 46 = .ok (.iadd, 1) := by decide +kernel
theorem dd_mo_copyAccounts_47 : decode by_mo_copyAccounts 47 = .ok (.aload_n 0, 1) := by decide +kernel
theorem dd_mo_copyAccounts_48 : decode by_mo_copyAccounts 48 = .ok (.getfield 16, 3) := by decide +kernel
theorem dd_mo_copyAccounts_51 : decode by_mo_copyAccounts 51 = .ok (.iload_n 1, 1) := by decide +kernel
theorem dd_mo_copyAccounts_52 : decode by_mo_copyAccounts 52 = .ok (.iload_n 3, 1) := by decide +kernel
theorem dd_mo_copyAccounts_53 : decode by_mo_copyAccounts 53 = .ok (.iadd, 1) := by decide +kernel
theorem dd_mo_copyAccounts_54 : decode by_mo_copyAccounts 54 = .ok (.iaload, 1) := by decide +kernel
theorem dd_mo_copyAccounts_55 : decode by_mo_copyAccounts 55 = .ok (.iastore, 1) := by decide +kernel
theorem dd_mo_copyAccounts_56 : decode by_mo_copyAccounts 56 = .ok (.iconst 0, 1) := by decide +kernel
theorem dd_mo_copyAccounts_57 : decode by_mo_copyAccounts 57 = .ok (.istore 4, 2) := by decide +kernel
theorem dd_mo_copyAccounts_59 : decode by_mo_copyAccounts 59 = .ok (.iload 4, 2) := by decide +kernel
theorem dd_mo_copyAccounts_61 : decode by_mo_copyAccounts 61 = .ok (.iconst 4, 1) := by decide +kernel
theorem dd_mo_copyAccounts_62 : decode by_mo_copyAccounts 62 = .ok (.if_icmp .ge 35, 3) := by decide +kernel
theorem dd_mo_copyAccounts_65 : decode by_mo_copyAccounts 65 = .ok (.aload_n 0, 1) := by decide +kernel
theorem dd_mo_copyAccounts_66 : decode by_mo_copyAccounts 66 = .ok (.getfield 19, 3) := by decide +kernel
theorem dd_mo_copyAccounts_69 : decode by_mo_copyAccounts 69 = .ok (.iconst 4, 1) := by decide +kernel
theorem dd_mo_copyAccounts_70 : decode by_mo_copyAccounts 70 = .ok (.iload_n 2, 1) := by decide +kernel
theorem dd_mo_copyAccounts_71 : decode by_mo_copyAccounts 71 = .ok (.iload_n 3, 1) := by decide +kernel
theorem dd_mo_copyAccounts_72 : decode by_mo_copyAccounts 72 = .ok (.iadd, 1) := by decide +kernel
theorem dd_mo_copyAccounts_73 : decode by_mo_copyAccounts 73 = .ok (.imul, 1) := by decide +kernel
theorem dd_mo_copyAccounts_74 : decode by_mo_copyAccounts 74 = .ok (.iload 4, 2) := by decide +kernel
theorem dd_mo_copyAccounts_76 : decode by_mo_copyAccounts 76 = .ok (.iadd, 1) := by decide +kernel
theorem dd_mo_copyAccounts_77 : decode by_mo_copyAccounts 77 = .ok (.aload_n 0, 1) := by decide +kernel
theorem dd_mo_copyAccounts_78 : decode by_mo_copyAccounts 78 = .ok (.getfield 19, 3) := by decide +kernel
theorem dd_mo_copyAccounts_81 : decode by_mo_copyAccounts 81 = .ok (.iconst 4, 1) := by decide +kernel
theorem dd_mo_copyAccounts_82 : decode by_mo_copyAccounts 82 = .ok (.iload_n 1, 1) := by decide +kernel
theorem dd_mo_copyAccounts_83 : decode by_mo_copyAccounts 83 = .ok (.iload_n 3, 1) := by decide +kernel
theorem dd_mo_copyAccounts_84 : decode by_mo_copyAccounts 84 = .ok (.iadd, 1) := by decide +kernel
theorem dd_mo_copyAccounts_85 : decode by_mo_copyAccounts 85 = .ok (.imul, 1) := by decide +kernel
theorem dd_mo_copyAccounts_86 : decode by_mo_copyAccounts 86 = .ok (.iload 4, 2) := by decide +kernel
theorem dd_mo_copyAccounts_88 : decode by_mo_copyAccounts 88 = .ok (.iadd, 1) := by decide +kernel
theorem dd_mo_copyAccounts_89 : decode by_mo_copyAccounts 89 = .ok (.iaload, 1) := by decide +kernel
theorem dd_mo_copyAccounts_90 : decode by_mo_copyAccounts 90 = .ok (.iastore, 1) := by decide +kernel
theorem dd_mo_copyAccounts_91 : decode by_mo_copyAccounts 91 = .ok (.iinc 4 1, 3) := by decide +kernel
theorem dd_mo_copyAccounts_94 : decode by_mo_copyAccounts 94 = .ok (.goto (-35), 3) := by decide +kernel
theorem dd_mo_copyAccounts_97 : decode by_mo_copyAccounts 97 = .ok (.iinc 3 1, 3) := by decide +kernel
theorem dd_mo_copyAccounts_100 : decode by_mo_copyAccounts 100 = .ok (.goto (-98), 3) := by decide +kernel
theorem dd_mo_copyAccounts_103 : decode by_mo_copyAccounts 103 = .ok (.return_, 1) := by decide +kernel
def mo_copyAccounts_b59 (K2 : gw_M → Nat → Int32 → Int32 → Int32 → Option (Unit × gw_M)) (K59 : gw_M → Nat → Int32 → Int32 → Int32 → Int32 → Option (Unit × gw_M)) (M : gw_M) (a0 : Nat) (v1 : Int32) (v2 : Int32) (v3 : Int32) (v4 : Int32) : Option (Unit × gw_M) :=
  if (4 : Int32) ≤ v4 then (K2 M a0 v1 v2 (v3 + (1 : Int32))) else (gw_gu (gw_in (((4 : Int32) * (v1 + v3)) + v4) 64) (gw_gu (gw_in (((4 : Int32) * (v2 + v3)) + v4) 64) (gw_lt (gw_sI M (a0 + 4) ((((4 : Int32) * (v2 + v3)) + v4).toNatClampNeg) (M.1 (a0 + 4) ((((4 : Int32) * (v1 + v3)) + v4).toNatClampNeg))) (fun M90 => K59 M90 a0 v1 v2 v3 (v4 + (1 : Int32))))))
def mo_copyAccounts_l59 (K2 : gw_M → Nat → Int32 → Int32 → Int32 → Option (Unit × gw_M)) : Nat → gw_M → Nat → Int32 → Int32 → Int32 → Int32 → Option (Unit × gw_M)
  | 0 => fun _ _ _ _ _ _ => none
  | n + 1 => mo_copyAccounts_b59 K2 (mo_copyAccounts_l59 K2 n)
def mo_copyAccounts_b2 (K2 : gw_M → Nat → Int32 → Int32 → Int32 → Option (Unit × gw_M)) (M : gw_M) (a0 : Nat) (v1 : Int32) (v2 : Int32) (v3 : Int32) : Option (Unit × gw_M) :=
  if (8 : Int32) ≤ v3 then (some ((), M)) else (gw_gu (gw_in (v1 + v3) 16) (gw_gu (gw_in (v2 + v3) 16) (gw_lt (gw_sI M (a0 + 1) ((v2 + v3).toNatClampNeg) (M.1 (a0 + 1) ((v1 + v3).toNatClampNeg))) (fun M23 => gw_gu (gw_in (v1 + v3) 16) (gw_gu (gw_in (v2 + v3) 16) (gw_lt (gw_sI M23 (a0 + 2) ((v2 + v3).toNatClampNeg) (M23.1 (a0 + 2) ((v1 + v3).toNatClampNeg))) (fun M39 => gw_gu (gw_in (v1 + v3) 16) (gw_gu (gw_in (v2 + v3) 16) (gw_lt (gw_sI M39 (a0 + 3) ((v2 + v3).toNatClampNeg) (M39.1 (a0 + 3) ((v1 + v3).toNatClampNeg))) (fun M55 => mo_copyAccounts_l59 K2 2100 M55 a0 v1 v2 v3 (0 : Int32)))))))))))
def mo_copyAccounts_l2 : Nat → gw_M → Nat → Int32 → Int32 → Int32 → Option (Unit × gw_M)
  | 0 => fun _ _ _ _ _ => none
  | n + 1 => mo_copyAccounts_b2  (mo_copyAccounts_l2  n)
def mo_copyAccounts_b0 (M : gw_M) (a0 : Nat) (v1 : Int32) (v2 : Int32) : Option (Unit × gw_M) :=
  mo_copyAccounts_l2  2100 M a0 v1 v2 (0 : Int32)
set_option maxRecDepth 100000 in
set_option maxHeartbeats 4000000 in
theorem wb_mo_copyAccounts_59 {p : Program} {l : Launch} {e : Env} {s : State} {m : MethodId} {args : Array Value} {below : List Frame} {meth : Method} {c : Code} {X : gw_X} {Y : gw_M} {z : (Unit × gw_M)} (C0 : gw_C ((Cond.code yy_mo_copyAccounts by_mo_copyAccounts 5 none) :: gw_w) by_mo_copyAccounts 5 none "AccountMachineModel" X p s m args meth c) {K2 : gw_M → Nat → Int32 → Int32 → Int32 → Option (Unit × gw_M)} {K59 : gw_M → Nat → Int32 → Int32 → Int32 → Int32 → Option (Unit × gw_M)} (hK2 : ∀ (M : gw_M) (a0 : Nat) (v1 : Int32) (v2 : Int32) (v3 : Int32) (H : Heap) (locs : List Loc) (ls : Array Slot), gr_k a0 = (11, 0) → gw_G X (gw_E X Y M) s H locs → lv_has ls 5 [(0, .ref (gr_a X a0)), (1, .int v1), (2, .int v2), (3, .int v3)] → K2 M a0 v1 v2 v3 = some z → W p l e rm_mo_copyAccounts s m args below meth c H locs 0 0 (MQ below (gw_Qv X (fun M => (gw_E X Y M)) z) args s 0 0 (gw_A X)) (F0 m 2 ls [])) (hK59 : ∀ (M : gw_M) (a0 : Nat) (v1 : Int32) (v2 : Int32) (v3 : Int32) (v4 : Int32) (H : Heap) (locs : List Loc) (ls : Array Slot), gr_k a0 = (11, 0) → gw_G X (gw_E X Y M) s H locs → lv_has ls 5 [(0, .ref (gr_a X a0)), (1, .int v1), (2, .int v2), (3, .int v3), (4, .int v4)] → K59 M a0 v1 v2 v3 v4 = some z → W p l e rm_mo_copyAccounts s m args below meth c H locs 0 0 (MQ below (gw_Qv X (fun M => (gw_E X Y M)) z) args s 0 0 (gw_A X)) (F0 m 59 ls [])) (M : gw_M) (a0 : Nat) (v1 : Int32) (v2 : Int32) (v3 : Int32) (v4 : Int32) (H : Heap) (locs : List Loc) (ls : Array Slot) (ha0 : gr_k a0 = (11, 0)) (G : gw_G X (gw_E X Y M) s H locs) (hl : lv_has ls 5 [(0, .ref (gr_a X a0)), (1, .int v1), (2, .int v2), (3, .int v3), (4, .int v4)]) (hF : mo_copyAccounts_b59 K2 K59 M a0 v1 v2 v3 v4 = some z) : W p l e rm_mo_copyAccounts s m args below meth c H locs 0 0 (MQ below (gw_Qv X (fun M => (gw_E X Y M)) z) args s 0 0 (gw_A X)) (F0 m 59 ls []) := by
  obtain ⟨hx, hb, hml, hown, hts, hr, hlocks, hK⟩ := id C0
  have hg : ∀ w ∈ gw_w, w.before args s = true := fun w h => hts w (List.mem_cons_of_mem _ h)
  unfold mo_copyAccounts_b59 at hF
  refine lv_iload hx hb dd_mo_copyAccounts_59 (lv_at hl 4 rfl) ?_
  refine lv_iconst (v := (4 : Int32)) hx hb dd_mo_copyAccounts_61 (by decide) ?_
  refine lv_icmp_ge (tgt := 97) hx hb dd_mo_copyAccounts_62 (by decide) (fun h62 => ?_) (fun h62 => ?_)
  · replace hF := gw_et h62 hF
    refine lv_iinc (k := 3) (v := v3 + (1 : Int32)) (lv' := [(3, .int (v3 + (1 : Int32))), (0, .ref (gr_a X a0)), (1, .int v1), (2, .int v2), (4, .int v4)]) hx hb dd_mo_copyAccounts_97 hl rfl rfl (by decide) rfl (fun ls hl => ?_)
    refine lv_goto (tgt := 2) hx hb dd_mo_copyAccounts_100 (by decide) ?_
    exact hK2 M a0 v1 v2 (v3 + (1 : Int32)) _ _ _ ha0 G (lv_sub hl [1, 2, 3, 0] rfl) hF
  · replace hF := gw_ef h62 hF
    refine lv_aload_n hx hb dd_mo_copyAccounts_65 rfl (lv_at hl 0 rfl) ?_
    refine gf_mo_words hx hb hg hown (hg _ kw_287) hK G ha0 dd_mo_copyAccounts_66 ?_
    refine lv_iconst (v := (4 : Int32)) hx hb dd_mo_copyAccounts_69 (by decide) ?_
    refine lv_iload_n hx hb dd_mo_copyAccounts_70 rfl (lv_at hl 2 rfl) ?_
    refine lv_iload_n hx hb dd_mo_copyAccounts_71 rfl (lv_at hl 3 rfl) ?_
    refine lv_iadd hx hb dd_mo_copyAccounts_72 ?_
    refine lv_imul hx hb dd_mo_copyAccounts_73 ?_
    refine lv_iload hx hb dd_mo_copyAccounts_74 (lv_at hl 4 rfl) ?_
    refine lv_iadd hx hb dd_mo_copyAccounts_76 ?_
    refine W.eq (g2 := F0 m 77 _ _) rfl ?_
    refine lv_aload_n hx hb dd_mo_copyAccounts_77 rfl (lv_at hl 0 rfl) ?_
    refine gf_mo_words hx hb hg hown (hg _ kw_287) hK G ha0 dd_mo_copyAccounts_78 ?_
    refine lv_iconst (v := (4 : Int32)) hx hb dd_mo_copyAccounts_81 (by decide) ?_
    refine lv_iload_n hx hb dd_mo_copyAccounts_82 rfl (lv_at hl 1 rfl) ?_
    refine lv_iload_n hx hb dd_mo_copyAccounts_83 rfl (lv_at hl 3 rfl) ?_
    refine lv_iadd hx hb dd_mo_copyAccounts_84 ?_
    refine lv_imul hx hb dd_mo_copyAccounts_85 ?_
    refine lv_iload hx hb dd_mo_copyAccounts_86 (lv_at hl 4 rfl) ?_
    refine lv_iadd hx hb dd_mo_copyAccounts_88 ?_
    obtain ⟨h89, hF⟩ := gw_gd hF
    refine gr_iald hx hb hK G (gq_mo_words ha0) (gw_vp h89) (j := (((4 : Int32) * (v1 + v3)) + v4).toNatClampNeg) rfl dd_mo_copyAccounts_89 ?_
    refine W.eq (g2 := F0 m 90 _ _) rfl ?_
    obtain ⟨h90, hF⟩ := gw_gd hF
    refine gr_iast hx hb hK G (gq_mo_words ha0) (gw_vp h90) (j := (((4 : Int32) * (v2 + v3)) + v4).toNatClampNeg) rfl dd_mo_copyAccounts_90 (fun M90 H locs e90 G => ?_)
    replace hF := gw_ly e90 hF
    refine lv_iinc (k := 4) (v := v4 + (1 : Int32)) (lv' := [(4, .int (v4 + (1 : Int32))), (0, .ref (gr_a X a0)), (1, .int v1), (2, .int v2), (3, .int v3)]) hx hb dd_mo_copyAccounts_91 hl rfl rfl (by decide) rfl (fun ls hl => ?_)
    refine lv_goto (tgt := 59) hx hb dd_mo_copyAccounts_94 (by decide) ?_
    exact hK59 M90 a0 v1 v2 v3 (v4 + (1 : Int32)) _ _ _ ha0 G (lv_sub hl [1, 2, 3, 4, 0] rfl) hF
theorem wl_mo_copyAccounts_59 {p : Program} {l : Launch} {e : Env} {s : State} {m : MethodId} {args : Array Value} {below : List Frame} {meth : Method} {c : Code} {X : gw_X} {Y : gw_M} {z : (Unit × gw_M)} (C0 : gw_C ((Cond.code yy_mo_copyAccounts by_mo_copyAccounts 5 none) :: gw_w) by_mo_copyAccounts 5 none "AccountMachineModel" X p s m args meth c) {K2 : gw_M → Nat → Int32 → Int32 → Int32 → Option (Unit × gw_M)} (hK2 : ∀ (M : gw_M) (a0 : Nat) (v1 : Int32) (v2 : Int32) (v3 : Int32) (H : Heap) (locs : List Loc) (ls : Array Slot), gr_k a0 = (11, 0) → gw_G X (gw_E X Y M) s H locs → lv_has ls 5 [(0, .ref (gr_a X a0)), (1, .int v1), (2, .int v2), (3, .int v3)] → K2 M a0 v1 v2 v3 = some z → W p l e rm_mo_copyAccounts s m args below meth c H locs 0 0 (MQ below (gw_Qv X (fun M => (gw_E X Y M)) z) args s 0 0 (gw_A X)) (F0 m 2 ls [])) : ∀ n : Nat, ∀ (M : gw_M) (a0 : Nat) (v1 : Int32) (v2 : Int32) (v3 : Int32) (v4 : Int32) (H : Heap) (locs : List Loc) (ls : Array Slot), gr_k a0 = (11, 0) → gw_G X (gw_E X Y M) s H locs → lv_has ls 5 [(0, .ref (gr_a X a0)), (1, .int v1), (2, .int v2), (3, .int v3), (4, .int v4)] → mo_copyAccounts_l59 K2 n M a0 v1 v2 v3 v4 = some z → W p l e rm_mo_copyAccounts s m args below meth c H locs 0 0 (MQ below (gw_Qv X (fun M => (gw_E X Y M)) z) args s 0 0 (gw_A X)) (F0 m 59 ls []) := by
  intro n
  induction n with
  | zero =>
    intro M a0 v1 v2 v3 v4 H locs ls ha0 G hl hF
    have hF : (none : Option (Unit × gw_M)) = some z := hF
    cases hF
  | succ n ih =>
    intro M a0 v1 v2 v3 v4 H locs ls ha0 G hl hF
    exact wb_mo_copyAccounts_59 C0 hK2 ih M a0 v1 v2 v3 v4 H locs ls ha0 G hl hF
set_option maxRecDepth 100000 in
set_option maxHeartbeats 4000000 in
theorem wb_mo_copyAccounts_2 {p : Program} {l : Launch} {e : Env} {s : State} {m : MethodId} {args : Array Value} {below : List Frame} {meth : Method} {c : Code} {X : gw_X} {Y : gw_M} {z : (Unit × gw_M)} (C0 : gw_C ((Cond.code yy_mo_copyAccounts by_mo_copyAccounts 5 none) :: gw_w) by_mo_copyAccounts 5 none "AccountMachineModel" X p s m args meth c) {K2 : gw_M → Nat → Int32 → Int32 → Int32 → Option (Unit × gw_M)} (hK2 : ∀ (M : gw_M) (a0 : Nat) (v1 : Int32) (v2 : Int32) (v3 : Int32) (H : Heap) (locs : List Loc) (ls : Array Slot), gr_k a0 = (11, 0) → gw_G X (gw_E X Y M) s H locs → lv_has ls 5 [(0, .ref (gr_a X a0)), (1, .int v1), (2, .int v2), (3, .int v3)] → K2 M a0 v1 v2 v3 = some z → W p l e rm_mo_copyAccounts s m args below meth c H locs 0 0 (MQ below (gw_Qv X (fun M => (gw_E X Y M)) z) args s 0 0 (gw_A X)) (F0 m 2 ls [])) (M : gw_M) (a0 : Nat) (v1 : Int32) (v2 : Int32) (v3 : Int32) (H : Heap) (locs : List Loc) (ls : Array Slot) (ha0 : gr_k a0 = (11, 0)) (G : gw_G X (gw_E X Y M) s H locs) (hl : lv_has ls 5 [(0, .ref (gr_a X a0)), (1, .int v1), (2, .int v2), (3, .int v3)]) (hF : mo_copyAccounts_b2 K2 M a0 v1 v2 v3 = some z) : W p l e rm_mo_copyAccounts s m args below meth c H locs 0 0 (MQ below (gw_Qv X (fun M => (gw_E X Y M)) z) args s 0 0 (gw_A X)) (F0 m 2 ls []) := by
  obtain ⟨hx, hb, hml, hown, hts, hr, hlocks, hK⟩ := id C0
  have hg : ∀ w ∈ gw_w, w.before args s = true := fun w h => hts w (List.mem_cons_of_mem _ h)
  unfold mo_copyAccounts_b2 at hF
  refine lv_iload_n hx hb dd_mo_copyAccounts_2 rfl (lv_at hl 3 rfl) ?_
  refine lv_bipush (v := (8 : Int32)) hx hb dd_mo_copyAccounts_3 (by decide) ?_
  refine lv_icmp_ge (tgt := 103) hx hb dd_mo_copyAccounts_5 (by decide) (fun h5 => ?_) (fun h5 => ?_)
  · replace hF := gw_et h5 hF
    exact W.vret hx hb hr (fun t ht hW => gw_endv (EF := (fun M => (gw_E X Y M))) (M := M) G ht hF) G.2.2.2.2 dd_mo_copyAccounts_103 hlocks
  · replace hF := gw_ef h5 hF
    refine lv_aload_n hx hb dd_mo_copyAccounts_8 rfl (lv_at hl 0 rfl) ?_
    refine gf_mo_balances hx hb hg hown (hg _ kw_293) hK G ha0 dd_mo_copyAccounts_9 ?_
    refine lv_iload_n hx hb dd_mo_copyAccounts_12 rfl (lv_at hl 2 rfl) ?_
    refine lv_iload_n hx hb dd_mo_copyAccounts_13 rfl (lv_at hl 3 rfl) ?_
    refine lv_iadd hx hb dd_mo_copyAccounts_14 ?_
    refine lv_aload_n hx hb dd_mo_copyAccounts_15 rfl (lv_at hl 0 rfl) ?_
    refine gf_mo_balances hx hb hg hown (hg _ kw_293) hK G ha0 dd_mo_copyAccounts_16 ?_
    refine lv_iload_n hx hb dd_mo_copyAccounts_19 rfl (lv_at hl 1 rfl) ?_
    refine lv_iload_n hx hb dd_mo_copyAccounts_20 rfl (lv_at hl 3 rfl) ?_
    refine W.eq (g2 := F0 m 21 _ _) rfl ?_
    refine lv_iadd hx hb dd_mo_copyAccounts_21 ?_
    obtain ⟨h22, hF⟩ := gw_gd hF
    refine gr_iald hx hb hK G (gq_mo_balances ha0) (gw_vp h22) (j := (v1 + v3).toNatClampNeg) rfl dd_mo_copyAccounts_22 ?_
    obtain ⟨h23, hF⟩ := gw_gd hF
    refine gr_iast hx hb hK G (gq_mo_balances ha0) (gw_vp h23) (j := (v2 + v3).toNatClampNeg) rfl dd_mo_copyAccounts_23 (fun M23 H locs e23 G => ?_)
    replace hF := gw_ly e23 hF
    refine lv_aload_n hx hb dd_mo_copyAccounts_24 rfl (lv_at hl 0 rfl) ?_
    refine gf_mo_owners hx hb hg hown (hg _ kw_292) hK G ha0 dd_mo_copyAccounts_25 ?_
    refine lv_iload_n hx hb dd_mo_copyAccounts_28 rfl (lv_at hl 2 rfl) ?_
    refine lv_iload_n hx hb dd_mo_copyAccounts_29 rfl (lv_at hl 3 rfl) ?_
    refine lv_iadd hx hb dd_mo_copyAccounts_30 ?_
    refine lv_aload_n hx hb dd_mo_copyAccounts_31 rfl (lv_at hl 0 rfl) ?_
    refine gf_mo_owners hx hb hg hown (hg _ kw_292) hK G ha0 dd_mo_copyAccounts_32 ?_
    refine W.eq (g2 := F0 m 35 _ _) rfl ?_
    refine lv_iload_n hx hb dd_mo_copyAccounts_35 rfl (lv_at hl 1 rfl) ?_
    refine lv_iload_n hx hb dd_mo_copyAccounts_36 rfl (lv_at hl 3 rfl) ?_
    refine lv_iadd hx hb dd_mo_copyAccounts_37 ?_
    obtain ⟨h38, hF⟩ := gw_gd hF
    refine gr_iald hx hb hK G (gq_mo_owners ha0) (gw_vp h38) (j := (v1 + v3).toNatClampNeg) rfl dd_mo_copyAccounts_38 ?_
    obtain ⟨h39, hF⟩ := gw_gd hF
    refine gr_iast hx hb hK G (gq_mo_owners ha0) (gw_vp h39) (j := (v2 + v3).toNatClampNeg) rfl dd_mo_copyAccounts_39 (fun M39 H locs e39 G => ?_)
    replace hF := gw_ly e39 hF
    refine lv_aload_n hx hb dd_mo_copyAccounts_40 rfl (lv_at hl 0 rfl) ?_
    refine gf_mo_sizes hx hb hg hown (hg _ kw_286) hK G ha0 dd_mo_copyAccounts_41 ?_
    refine lv_iload_n hx hb dd_mo_copyAccounts_44 rfl (lv_at hl 2 rfl) ?_
    refine lv_iload_n hx hb dd_mo_copyAccounts_45 rfl (lv_at hl 3 rfl) ?_
    refine lv_iadd hx hb dd_mo_copyAccounts_46 ?_
    refine W.eq (g2 := F0 m 47 _ _) rfl ?_
    refine lv_aload_n hx hb dd_mo_copyAccounts_47 rfl (lv_at hl 0 rfl) ?_
    refine gf_mo_sizes hx hb hg hown (hg _ kw_286) hK G ha0 dd_mo_copyAccounts_48 ?_
    refine lv_iload_n hx hb dd_mo_copyAccounts_51 rfl (lv_at hl 1 rfl) ?_
    refine lv_iload_n hx hb dd_mo_copyAccounts_52 rfl (lv_at hl 3 rfl) ?_
    refine lv_iadd hx hb dd_mo_copyAccounts_53 ?_
    obtain ⟨h54, hF⟩ := gw_gd hF
    refine gr_iald hx hb hK G (gq_mo_sizes ha0) (gw_vp h54) (j := (v1 + v3).toNatClampNeg) rfl dd_mo_copyAccounts_54 ?_
    obtain ⟨h55, hF⟩ := gw_gd hF
    refine gr_iast hx hb hK G (gq_mo_sizes ha0) (gw_vp h55) (j := (v2 + v3).toNatClampNeg) rfl dd_mo_copyAccounts_55 (fun M55 H locs e55 G => ?_)
    replace hF := gw_ly e55 hF
    refine lv_iconst (v := (0 : Int32)) hx hb dd_mo_copyAccounts_56 (by decide) ?_
    refine lv_istore (i := 4) (lv' := [(4, .int (0 : Int32)), (0, .ref (gr_a X a0)), (1, .int v1), (2, .int v2), (3, .int v3)]) hx hb dd_mo_copyAccounts_57 hl (by decide) rfl (fun ls hl => ?_)
    exact wl_mo_copyAccounts_59 C0 hK2 2100 M55 a0 v1 v2 v3 (0 : Int32) _ _ _ ha0 G (lv_sub hl [1, 2, 3, 4, 0] rfl) hF
theorem wl_mo_copyAccounts_2 {p : Program} {l : Launch} {e : Env} {s : State} {m : MethodId} {args : Array Value} {below : List Frame} {meth : Method} {c : Code} {X : gw_X} {Y : gw_M} {z : (Unit × gw_M)} (C0 : gw_C ((Cond.code yy_mo_copyAccounts by_mo_copyAccounts 5 none) :: gw_w) by_mo_copyAccounts 5 none "AccountMachineModel" X p s m args meth c) : ∀ n : Nat, ∀ (M : gw_M) (a0 : Nat) (v1 : Int32) (v2 : Int32) (v3 : Int32) (H : Heap) (locs : List Loc) (ls : Array Slot), gr_k a0 = (11, 0) → gw_G X (gw_E X Y M) s H locs → lv_has ls 5 [(0, .ref (gr_a X a0)), (1, .int v1), (2, .int v2), (3, .int v3)] → mo_copyAccounts_l2  n M a0 v1 v2 v3 = some z → W p l e rm_mo_copyAccounts s m args below meth c H locs 0 0 (MQ below (gw_Qv X (fun M => (gw_E X Y M)) z) args s 0 0 (gw_A X)) (F0 m 2 ls []) := by
  intro n
  induction n with
  | zero =>
    intro M a0 v1 v2 v3 H locs ls ha0 G hl hF
    have hF : (none : Option (Unit × gw_M)) = some z := hF
    cases hF
  | succ n ih =>
    intro M a0 v1 v2 v3 H locs ls ha0 G hl hF
    exact wb_mo_copyAccounts_2 C0  ih M a0 v1 v2 v3 H locs ls ha0 G hl hF
set_option maxRecDepth 100000 in
set_option maxHeartbeats 4000000 in
theorem wb_mo_copyAccounts_0 {p : Program} {l : Launch} {e : Env} {s : State} {m : MethodId} {args : Array Value} {below : List Frame} {meth : Method} {c : Code} {X : gw_X} {Y : gw_M} {z : (Unit × gw_M)} (C0 : gw_C ((Cond.code yy_mo_copyAccounts by_mo_copyAccounts 5 none) :: gw_w) by_mo_copyAccounts 5 none "AccountMachineModel" X p s m args meth c) (M : gw_M) (a0 : Nat) (v1 : Int32) (v2 : Int32) (H : Heap) (locs : List Loc) (ls : Array Slot) (ha0 : gr_k a0 = (11, 0)) (G : gw_G X (gw_E X Y M) s H locs) (hl : lv_has ls 5 [(0, .ref (gr_a X a0)), (1, .int v1), (2, .int v2)]) (hF : mo_copyAccounts_b0  M a0 v1 v2 = some z) : W p l e rm_mo_copyAccounts s m args below meth c H locs 0 0 (MQ below (gw_Qv X (fun M => (gw_E X Y M)) z) args s 0 0 (gw_A X)) (F0 m 0 ls []) := by
  obtain ⟨hx, hb, hml, hown, hts, hr, hlocks, hK⟩ := id C0
  have hg : ∀ w ∈ gw_w, w.before args s = true := fun w h => hts w (List.mem_cons_of_mem _ h)
  unfold mo_copyAccounts_b0 at hF
  refine lv_iconst (v := (0 : Int32)) hx hb dd_mo_copyAccounts_0 (by decide) ?_
  refine lv_istore_n (i := 3) (lv' := [(3, .int (0 : Int32)), (0, .ref (gr_a X a0)), (1, .int v1), (2, .int v2)]) hx hb dd_mo_copyAccounts_1 rfl hl (by decide) rfl (fun ls hl => ?_)
  exact wl_mo_copyAccounts_2 C0  2100 M a0 v1 v2 (0 : Int32) _ _ _ ha0 G (lv_sub hl [1, 2, 3, 0] rfl) hF
set_option maxRecDepth 100000 in
set_option maxHeartbeats 4000000 in
theorem ct_mo_copyAccounts (l : Launch) (X : gw_X) (Y : gw_M) (M : gw_M) (a0 : Nat) (v1 : Int32) (v2 : Int32) (ha0 : gr_k a0 = (11, 0)) (z : (Unit × gw_M)) (hF : mo_copyAccounts_b0 M a0 v1 v2 = some z) : Met l yy_mo_copyAccounts ((Cond.code yy_mo_copyAccounts by_mo_copyAccounts 5 none) :: gw_w) rm_mo_copyAccounts (va_Pc [.ref (gr_a X a0), .int v1, .int v2] (gw_B X (gw_E X Y M))) (gw_Qv X (fun M => (gw_E X Y M)) z) 0 0 (gw_A X) := by
  refine Met.ofW (cc := by_mo_copyAccounts) (maxL := 5) (ret := none) (by decide) rfl ?_
  intro p e s m args below meth c s₁ B hml hv
  obtain ⟨rfl, hB⟩ := hv
  rw [lg_entry_eq]
  have hl := lv_entry ([.ref (gr_a X a0), .int v1, .int v2]) (n := 5) (Nat.le_of_ble_eq_true rfl)
  generalize (lg_sl ([.ref (gr_a X a0), .int v1, .int v2]) ++ List.replicate (5 - (lg_sl ([.ref (gr_a X a0), .int v1, .int v2])).length) Slot.unset).toArray = ls at hl ⊢
  have hl : lv_has ls 5 [(0, .ref (gr_a X a0)), (1, .int v1), (2, .int v2)] := hl
  exact wb_mo_copyAccounts_0 (gw_ctx B hml rfl hB) M a0 v1 v2 _ _ _ ha0 (gw_start hB) hl hF
/-! AccountMachineModel.carryOut(I)I -/
abbrev rm_mo_carryOut : Room := { frames := 7, cells := 0, slots := 0, locals := 184 }
theorem dd_mo_carryOut_0 : decode by_mo_carryOut 0 = .ok (.aload_n 0, 1) := by decide +kernel
theorem dd_mo_carryOut_1 : decode by_mo_carryOut 1 = .ok (.aload_n 0, 1) := by decide +kernel
theorem dd_mo_carryOut_2 : decode by_mo_carryOut 2 = .ok (.getfield 44, 3) := by decide +kernel
theorem dd_mo_carryOut_5 : decode by_mo_carryOut 5 = .ok (.iload_n 1, 1) := by decide +kernel
theorem dd_mo_carryOut_6 : decode by_mo_carryOut 6 = .ok (.iaload, 1) := by decide +kernel
theorem dd_mo_carryOut_7 : decode by_mo_carryOut 7 = .ok (.i2l, 1) := by decide +kernel
theorem dd_mo_carryOut_8 : decode by_mo_carryOut 8 = .ok (.invokevirtual 195, 3) := by decide +kernel
theorem dd_mo_carryOut_11 : decode by_mo_carryOut 11 = .ok (.ifCond .ne 5, 3) := by decide +kernel
theorem dd_mo_carryOut_14 : decode by_mo_carryOut 14 = .ok (.iconst 1, 1) := by decide +kernel
theorem dd_mo_carryOut_15 : decode by_mo_carryOut 15 = .ok (.ireturn, 1) := by decide +kernel
theorem dd_mo_carryOut_16 : decode by_mo_carryOut 16 = .ok (.aload_n 0, 1) := by decide +kernel
theorem dd_mo_carryOut_17 : decode by_mo_carryOut 17 = .ok (.getfield 44, 3) := by decide +kernel
theorem dd_mo_carryOut_20 : decode by_mo_carryOut 20 = .ok (.iload_n 1, 1) := by decide +kernel
theorem dd_mo_carryOut_21 : decode by_mo_carryOut 21 = .ok (.iaload, 1) := by decide +kernel
theorem dd_mo_carryOut_22 : decode by_mo_carryOut 22 = .ok (.ifCond .ne 9, 3) := by decide +kernel
theorem dd_mo_carryOut_25 : decode by_mo_carryOut 25 = .ok (.aload_n 0, 1) := by decide +kernel
theorem dd_mo_carryOut_26 : decode by_mo_carryOut 26 = .ok (.iload_n 1, 1) := by decide +kernel
theorem dd_mo_carryOut_27 : decode by_mo_carryOut 27 = .ok (.invokevirtual 205, 3) := by decide +kernel
theorem dd_mo_carryOut_30 : decode by_mo_carryOut 30 = .ok (.ireturn, 1) := by decide +kernel
theorem dd_mo_carryOut_31 : decode by_mo_carryOut 31 = .ok (.aload_n 0, 1) := by decide +kernel
theorem dd_mo_carryOut_32 : decode by_mo_carryOut 32 = .ok (.getfield 44, 3) := by decide +kernel
theorem dd_mo_carryOut_35 : decode by_mo_carryOut 35 = .ok (.iconst 4, 1) := by decide +kernel
theorem dd_mo_carryOut_36 : decode by_mo_carryOut 36 = .ok (.aload_n 0, 1) := by decide +kernel
theorem dd_mo_carryOut_37 : decode by_mo_carryOut 37 = .ok (.getfield 44, 3) := by decide +kernel
theorem dd_mo_carryOut_40 : decode by_mo_carryOut 40 = .ok (.iload_n 1, 1) := by decide +kernel
theorem dd_mo_carryOut_41 : decode by_mo_carryOut 41 = .ok (.iaload, 1) := by decide +kernel
theorem dd_mo_carryOut_42 : decode by_mo_carryOut 42 = .ok (.iastore, 1) := by decide +kernel
theorem dd_mo_carryOut_43 : decode by_mo_carryOut 43 = .ok (.aload_n 0, 1) := by decide +kernel
theorem dd_mo_carryOut_44 : decode by_mo_carryOut 44 = .ok (.getfield 47, 3) := by decide +kernel
theorem dd_mo_carryOut_47 : decode by_mo_carryOut 47 = .ok (.iconst 4, 1) := by decide +kernel
theorem dd_mo_carryOut_48 : decode by_mo_carryOut 48 = .ok (.aload_n 0, 1) := by decide +kernel
theorem dd_mo_carryOut_49 : decode by_mo_carryOut 49 = .ok (.getfield 47, 3) := by decide +kernel
theorem dd_mo_carryOut_52 : decode by_mo_carryOut 52 = .ok (.iload_n 1, 1) := by decide +kernel
theorem dd_mo_carryOut_53 : decode by_mo_carryOut 53 = .ok (.iaload, 1) := by decide +kernel
theorem dd_mo_carryOut_54 : decode by_mo_carryOut 54 = .ok (.iastore, 1) := by decide +kernel
theorem dd_mo_carryOut_55 : decode by_mo_carryOut 55 = .ok (.aload_n 0, 1) := by decide +kernel
theorem dd_mo_carryOut_56 : decode by_mo_carryOut 56 = .ok (.getfield 50, 3) := by decide +kernel
theorem dd_mo_carryOut_59 : decode by_mo_carryOut 59 = .ok (.iconst 4, 1) := by decide +kernel
theorem dd_mo_carryOut_60 : decode by_mo_carryOut 60 = .ok (.iconst 0, 1) := by decide +kernel
theorem dd_mo_carryOut_61 : decode by_mo_carryOut 61 = .ok (.iastore, 1) := by decide +kernel
theorem dd_mo_carryOut_62 : decode by_mo_carryOut 62 = .ok (.iconst 0, 1) := by decide +kernel
theorem dd_mo_carryOut_63 : decode by_mo_carryOut 63 = .ok (.istore_n 2, 1) := by decide +kernel
theorem dd_mo_carryOut_64 : decode by_mo_carryOut 64 = .ok (.iload_n 2, 1) := by decide +kernel
theorem dd_mo_carryOut_65 : decode by_mo_carryOut 65 = .ok (.aload_n 0, 1) := by decide +kernel
theorem dd_mo_carryOut_66 : decode by_mo_carryOut 66 = .ok (.getfield 50, 3) := by decide +kernel
theorem dd_mo_carryOut_69 : decode by_mo_carryOut 69 = .ok (.iload_n 1, 1) := by decide +kernel
theorem dd_mo_carryOut_70 : decode by_mo_carryOut 70 = .ok (.iaload, 1) := by decide +kernel
theorem dd_mo_carryOut_71 : decode by_mo_carryOut 71 = .ok (.if_icmp .ge 34, 3) := by decide +kernel
theorem dd_mo_carryOut_74 : decode by_mo_carryOut 74 = .ok (.aload_n 0, 1) := by decide +kernel
theorem dd_mo_carryOut_75 : decode by_mo_carryOut 75 = .ok (.iconst 4, 1) := by decide +kernel
theorem dd_mo_carryOut_76 : decode by_mo_carryOut 76 = .ok (.aload_n 0, 1) := by decide +kernel
theorem dd_mo_carryOut_77 : decode by_mo_carryOut 77 = .ok (.getfield 53, 3) := by decide +kernel
theorem dd_mo_carryOut_80 : decode by_mo_carryOut 80 = .ok (.iconst 4, 1) := by decide +kernel
theorem dd_mo_carryOut_81 : decode by_mo_carryOut 81 = .ok (.iload_n 1, 1) := by decide +kernel
theorem dd_mo_carryOut_82 : decode by_mo_carryOut 82 = .ok (.imul, 1) := by decide +kernel
theorem dd_mo_carryOut_83 : decode by_mo_carryOut 83 = .ok (.iload_n 2, 1) := by decide +kernel
theorem dd_mo_carryOut_84 : decode by_mo_carryOut 84 = .ok (.iadd, 1) := by decide +kernel
theorem dd_mo_carryOut_85 : decode by_mo_carryOut 85 = .ok (.iaload, 1) := by decide +kernel
theorem dd_mo_carryOut_86 : decode by_mo_carryOut 86 = .ok (.aload_n 0, 1) := by decide +kernel
theorem dd_mo_carryOut_87 : decode by_mo_carryOut 87 = .ok (.getfield 56, 3) := by decide +kernel
theorem dd_mo_carryOut_90 : decode by_mo_carryOut 90 = .ok (.iconst 4, 1) := by decide +kernel
theorem dd_mo_carryOut_91 : decode by_mo_carryOut 91 = .ok (.iload_n 1, 1) := by decide +kernel
theorem dd_mo_carryOut_92 : decode by_mo_carryOut 92 = .ok (.imul, 1) := by decide +kernel
theorem dd_mo_carryOut_93 : decode by_mo_carryOut 93 = .ok (.iload_n 2, 1) := by decide +kernel
theorem dd_mo_carryOut_94 : decode by_mo_carryOut 94 = .ok (.iadd, 1) := by decide +kernel
theorem dd_mo_carryOut_95 : decode by_mo_carryOut 95 = .ok (.iaload, 1) := by decide +kernel
theorem dd_mo_carryOut_96 : decode by_mo_carryOut 96 = .ok (.invokevirtual 107, 3) := by decide +kernel
theorem dd_mo_carryOut_99 : decode by_mo_carryOut 99 = .ok (.iinc 2 1, 3) := by decide +kernel
theorem dd_mo_carryOut_102 : decode by_mo_carryOut 102 = .ok (.goto (-38), 3) := by decide +kernel
theorem dd_mo_carryOut_105 : decode by_mo_carryOut 105 = .ok (.aload_n 0, 1) := by decide +kernel
theorem dd_mo_carryOut_106 : decode by_mo_carryOut 106 = .ok (.iconst 1, 1) := by decide +kernel
theorem dd_mo_carryOut_107 : decode by_mo_carryOut 107 = .ok (.putfield 140, 3) := by decide +kernel
theorem dd_mo_carryOut_110 : decode by_mo_carryOut 110 = .ok (.aload_n 0, 1) := by decide +kernel
theorem dd_mo_carryOut_111 : decode by_mo_carryOut 111 = .ok (.iconst 1, 1) := by decide +kernel
theorem dd_mo_carryOut_112 : decode by_mo_carryOut 112 = .ok (.invokevirtual 202, 3) := by decide +kernel
theorem dd_mo_carryOut_115 : decode by_mo_carryOut 115 = .ok (.iconst 0, 1) := by decide +kernel
theorem dd_mo_carryOut_116 : decode by_mo_carryOut 116 = .ok (.istore_n 2, 1) := by decide +kernel
theorem dd_mo_carryOut_117 : decode by_mo_carryOut 117 = .ok (.aload_n 0, 1) := by decide +kernel
theorem dd_mo_carryOut_118 : decode by_mo_carryOut 118 = .ok (.getfield 140, 3) := by decide +kernel
theorem dd_mo_carryOut_121 : decode by_mo_carryOut 121 = .ok (.ifCond .le 15, 3) := by decide +kernel
theorem dd_mo_carryOut_124 : decode by_mo_carryOut 124 = .ok (.iload_n 2, 1) := by decide +kernel
theorem dd_mo_carryOut_125 : decode by_mo_carryOut 125 = .ok (.ifCond .ne 11, 3) := by decide +kernel
theorem dd_mo_carryOut_128 : decode by_mo_carryOut 128 = .ok (.aload_n 0, 1) := by decide +kernel
theorem dd_mo_carryOut_129 : decode by_mo_carryOut 129 = .ok (.invokevirtual 212, 3) := by decide +kernel
theorem dd_mo_carryOut_132 : decode by_mo_carryOut 132 = .ok (.istore_n 2, 1) := by decide +kernel
theorem dd_mo_carryOut_133 : decode by_mo_carryOut 133 = .ok (.goto (-16), 3) := by decide +kernel
theorem dd_mo_carryOut_136 : decode by_mo_carryOut 136 = .ok (.iload_n 2, 1) := by decide +kernel
theorem dd_mo_carryOut_137 : decode by_mo_carryOut 137 = .ok (.ireturn, 1) := by decide +kernel
def mo_carryOut_b117 (K117 : gw_M → Nat → Int32 → Option (Int32 × gw_M)) (M : gw_M) (a0 : Nat) (v2 : Int32) : Option (Int32 × gw_M) :=
  if (M.1 a0 17) ≤ (0 : Int32) then (some (v2, M)) else (if v2 = (0 : Int32) then (gw_bd (mo_step_b0 M a0) (fun r129 M129 => K117 M129 a0 r129)) else (some (v2, M)))
def mo_carryOut_l117 : Nat → gw_M → Nat → Int32 → Option (Int32 × gw_M)
  | 0 => fun _ _ _ => none
  | n + 1 => mo_carryOut_b117  (mo_carryOut_l117  n)
def mo_carryOut_b64 (K64 : gw_M → Nat → Int32 → Int32 → Option (Int32 × gw_M)) (M : gw_M) (a0 : Nat) (v1 : Int32) (v2 : Int32) : Option (Int32 × gw_M) :=
  gw_gu (gw_in v1 9) (if (M.1 (a0 + 14) v1.toNatClampNeg) ≤ v2 then (gw_lt (gw_sI M a0 17 (1 : Int32)) (fun M107 => gw_bd (mo_begin_b0 M107 a0 (1 : Int32)) (fun _ M112 => mo_carryOut_l117  2100 M112 a0 (0 : Int32)))) else (gw_gu (gw_in (((4 : Int32) * v1) + v2) 36) (gw_gu (gw_in (((4 : Int32) * v1) + v2) 36) (gw_bd (mo_add_b0 M a0 (4 : Int32) (M.1 (a0 + 15) ((((4 : Int32) * v1) + v2).toNatClampNeg)) (M.1 (a0 + 16) ((((4 : Int32) * v1) + v2).toNatClampNeg))) (fun _ M96 => K64 M96 a0 v1 (v2 + (1 : Int32)))))))
def mo_carryOut_l64 : Nat → gw_M → Nat → Int32 → Int32 → Option (Int32 × gw_M)
  | 0 => fun _ _ _ _ => none
  | n + 1 => mo_carryOut_b64  (mo_carryOut_l64  n)
def mo_carryOut_b0 (M : gw_M) (a0 : Nat) (v1 : Int32) : Option (Int32 × gw_M) :=
  gw_gu (gw_in v1 9) (gw_bd (mo_canRun_b0 M a0 ((M.1 (a0 + 12) v1.toNatClampNeg).toInt64)) (fun r8 M8 => if r8 = (0 : Int32) then (some ((1 : Int32), M8)) else (gw_gu (gw_in v1 9) (if (M8.1 (a0 + 12) v1.toNatClampNeg) = (0 : Int32) then (gw_bd (mo_system_b0 M8 a0 v1) (fun r27 M27 => some (r27, M27))) else (gw_gu (gw_in v1 9) (gw_lt (gw_sI M8 (a0 + 12) 4 (M8.1 (a0 + 12) v1.toNatClampNeg)) (fun M42 => gw_gu (gw_in v1 9) (gw_lt (gw_sI M42 (a0 + 13) 4 (M42.1 (a0 + 13) v1.toNatClampNeg)) (fun M54 => gw_lt (gw_sI M54 (a0 + 14) 4 (0 : Int32)) (fun M61 => mo_carryOut_l64  2100 M61 a0 v1 (0 : Int32)))))))))))
set_option maxRecDepth 100000 in
set_option maxHeartbeats 4000000 in
theorem wb_mo_carryOut_117 {p : Program} {l : Launch} {e : Env} {s : State} {m : MethodId} {args : Array Value} {below : List Frame} {meth : Method} {c : Code} {X : gw_X} {Y : gw_M} {z : (Int32 × gw_M)} (C0 : gw_C ((Cond.code yy_mo_carryOut by_mo_carryOut 3 (some .int)) :: gw_w) by_mo_carryOut 3 (some .int) "AccountMachineModel" X p s m args meth c) {K117 : gw_M → Nat → Int32 → Option (Int32 × gw_M)} (hK117 : ∀ (M : gw_M) (a0 : Nat) (v2 : Int32) (H : Heap) (locs : List Loc) (ls : Array Slot), gr_k a0 = (11, 0) → gw_G X (gw_E X Y M) s H locs → lv_has ls 3 [(0, .ref (gr_a X a0)), (2, .int v2)] → K117 M a0 v2 = some z → W p l e rm_mo_carryOut s m args below meth c H locs 0 0 (MQ below (gw_Qi X (fun M => (gw_E X Y M)) z) args s 0 0 (gw_A X)) (F0 m 117 ls [])) (M : gw_M) (a0 : Nat) (v2 : Int32) (H : Heap) (locs : List Loc) (ls : Array Slot) (ha0 : gr_k a0 = (11, 0)) (G : gw_G X (gw_E X Y M) s H locs) (hl : lv_has ls 3 [(0, .ref (gr_a X a0)), (2, .int v2)]) (hF : mo_carryOut_b117 K117 M a0 v2 = some z) : W p l e rm_mo_carryOut s m args below meth c H locs 0 0 (MQ below (gw_Qi X (fun M => (gw_E X Y M)) z) args s 0 0 (gw_A X)) (F0 m 117 ls []) := by
  obtain ⟨hx, hb, hml, hown, hts, hr, hlocks, hK⟩ := id C0
  have hg : ∀ w ∈ gw_w, w.before args s = true := fun w h => hts w (List.mem_cons_of_mem _ h)
  unfold mo_carryOut_b117 at hF
  refine lv_aload_n hx hb dd_mo_carryOut_117 rfl (lv_at hl 0 rfl) ?_
  refine gf_mo_depth hx hb hg hown (hg _ kw_343) hK G ha0 dd_mo_carryOut_118 ?_
  refine lv_if_le (tgt := 136) hx hb dd_mo_carryOut_121 (by decide) (fun h121 => ?_) (fun h121 => ?_)
  · replace hF := gw_et h121 hF
    refine lv_iload_n hx hb dd_mo_carryOut_136 rfl (lv_at hl 1 rfl) ?_
    exact W.iret hx hb hr (fun t ht hW => gw_endi (EF := (fun M => (gw_E X Y M))) (M := M) G ht hF) G.2.2.2.2 dd_mo_carryOut_137 hlocks
  · replace hF := gw_ef h121 hF
    refine lv_iload_n hx hb dd_mo_carryOut_124 rfl (lv_at hl 1 rfl) ?_
    refine lv_if_ne (tgt := 136) hx hb dd_mo_carryOut_125 (by decide) (fun h125 => ?_) (fun h125 => ?_)
    · replace hF := gw_ef h125 hF
      refine lv_iload_n hx hb dd_mo_carryOut_136 rfl (lv_at hl 1 rfl) ?_
      exact W.iret hx hb hr (fun t ht hW => gw_endi (EF := (fun M => (gw_E X Y M))) (M := M) G ht hF) G.2.2.2.2 dd_mo_carryOut_137 hlocks
    · replace hF := gw_et h125 hF
      refine lv_aload_n hx hb dd_mo_carryOut_128 rfl (lv_at hl 0 rfl) ?_
      obtain ⟨r129, M129, hc129, hF⟩ := gw_be hF
      refine gw_ci G (va_runV (As := []) (rest := []) ⟨hx, hb, hml, hown, hts⟩ (ct_mo_step l X Y M a0 ha0 _ hc129) (cwV 0 hts (gw_gV kw_390 kw_391 kw_392 kw_253 kw_389) rfl rfl rfl (by decide +kernel) ⟨Nat.le_of_ble_eq_true rfl, Nat.le_of_ble_eq_true rfl⟩) ⟨gw_blind, gw_recv_mo hK G ha0, gw_pre hK G⟩ rfl rfl hl.1 rfl (Nat.le_of_ble_eq_true rfl) dd_mo_carryOut_129 ⟨Nat.le_of_ble_eq_true rfl, Nat.le_of_ble_eq_true rfl⟩) (fun H locs G => ?_)
      refine lv_istore_n (i := 2) (lv' := [(2, .int r129), (0, .ref (gr_a X a0))]) hx hb dd_mo_carryOut_132 rfl hl (by decide) rfl (fun ls hl => ?_)
      refine lv_goto (tgt := 117) hx hb dd_mo_carryOut_133 (by decide) ?_
      exact hK117 M129 a0 r129 _ _ _ ha0 G (lv_sub hl [1, 0] rfl) hF
theorem wl_mo_carryOut_117 {p : Program} {l : Launch} {e : Env} {s : State} {m : MethodId} {args : Array Value} {below : List Frame} {meth : Method} {c : Code} {X : gw_X} {Y : gw_M} {z : (Int32 × gw_M)} (C0 : gw_C ((Cond.code yy_mo_carryOut by_mo_carryOut 3 (some .int)) :: gw_w) by_mo_carryOut 3 (some .int) "AccountMachineModel" X p s m args meth c) : ∀ n : Nat, ∀ (M : gw_M) (a0 : Nat) (v2 : Int32) (H : Heap) (locs : List Loc) (ls : Array Slot), gr_k a0 = (11, 0) → gw_G X (gw_E X Y M) s H locs → lv_has ls 3 [(0, .ref (gr_a X a0)), (2, .int v2)] → mo_carryOut_l117  n M a0 v2 = some z → W p l e rm_mo_carryOut s m args below meth c H locs 0 0 (MQ below (gw_Qi X (fun M => (gw_E X Y M)) z) args s 0 0 (gw_A X)) (F0 m 117 ls []) := by
  intro n
  induction n with
  | zero =>
    intro M a0 v2 H locs ls ha0 G hl hF
    have hF : (none : Option (Int32 × gw_M)) = some z := hF
    cases hF
  | succ n ih =>
    intro M a0 v2 H locs ls ha0 G hl hF
    exact wb_mo_carryOut_117 C0  ih M a0 v2 H locs ls ha0 G hl hF
set_option maxRecDepth 100000 in
set_option maxHeartbeats 4000000 in
theorem wb_mo_carryOut_64 {p : Program} {l : Launch} {e : Env} {s : State} {m : MethodId} {args : Array Value} {below : List Frame} {meth : Method} {c : Code} {X : gw_X} {Y : gw_M} {z : (Int32 × gw_M)} (C0 : gw_C ((Cond.code yy_mo_carryOut by_mo_carryOut 3 (some .int)) :: gw_w) by_mo_carryOut 3 (some .int) "AccountMachineModel" X p s m args meth c) {K64 : gw_M → Nat → Int32 → Int32 → Option (Int32 × gw_M)} (hK64 : ∀ (M : gw_M) (a0 : Nat) (v1 : Int32) (v2 : Int32) (H : Heap) (locs : List Loc) (ls : Array Slot), gr_k a0 = (11, 0) → gw_G X (gw_E X Y M) s H locs → lv_has ls 3 [(0, .ref (gr_a X a0)), (1, .int v1), (2, .int v2)] → K64 M a0 v1 v2 = some z → W p l e rm_mo_carryOut s m args below meth c H locs 0 0 (MQ below (gw_Qi X (fun M => (gw_E X Y M)) z) args s 0 0 (gw_A X)) (F0 m 64 ls [])) (M : gw_M) (a0 : Nat) (v1 : Int32) (v2 : Int32) (H : Heap) (locs : List Loc) (ls : Array Slot) (ha0 : gr_k a0 = (11, 0)) (G : gw_G X (gw_E X Y M) s H locs) (hl : lv_has ls 3 [(0, .ref (gr_a X a0)), (1, .int v1), (2, .int v2)]) (hF : mo_carryOut_b64 K64 M a0 v1 v2 = some z) : W p l e rm_mo_carryOut s m args below meth c H locs 0 0 (MQ below (gw_Qi X (fun M => (gw_E X Y M)) z) args s 0 0 (gw_A X)) (F0 m 64 ls []) := by
  obtain ⟨hx, hb, hml, hown, hts, hr, hlocks, hK⟩ := id C0
  have hg : ∀ w ∈ gw_w, w.before args s = true := fun w h => hts w (List.mem_cons_of_mem _ h)
  unfold mo_carryOut_b64 at hF
  refine lv_iload_n hx hb dd_mo_carryOut_64 rfl (lv_at hl 2 rfl) ?_
  refine lv_aload_n hx hb dd_mo_carryOut_65 rfl (lv_at hl 0 rfl) ?_
  refine gf_mo_slots hx hb hg hown (hg _ kw_273) hK G ha0 dd_mo_carryOut_66 ?_
  refine lv_iload_n hx hb dd_mo_carryOut_69 rfl (lv_at hl 1 rfl) ?_
  obtain ⟨h70, hF⟩ := gw_gd hF
  refine gr_iald hx hb hK G (gq_mo_slots ha0) (gw_vp h70) (j := v1.toNatClampNeg) rfl dd_mo_carryOut_70 ?_
  refine lv_icmp_ge (tgt := 105) hx hb dd_mo_carryOut_71 (by decide) (fun h71 => ?_) (fun h71 => ?_)
  · replace hF := gw_et h71 hF
    refine lv_aload_n hx hb dd_mo_carryOut_105 rfl (lv_at hl 0 rfl) ?_
    refine lv_iconst (v := (1 : Int32)) hx hb dd_mo_carryOut_106 (by decide) ?_
    refine gp_mo_depth hx hb hg hown (hg _ kw_343) hK G ha0 dd_mo_carryOut_107 (fun M107 H locs e107 G => ?_)
    replace hF := gw_ly e107 hF
    refine lv_aload_n hx hb dd_mo_carryOut_110 rfl (lv_at hl 0 rfl) ?_
    refine lv_iconst (v := (1 : Int32)) hx hb dd_mo_carryOut_111 (by decide) ?_
    obtain ⟨u112, M112, hc112, hF⟩ := gw_be hF
    refine gw_cv G (va_runV (As := [.int (1 : Int32)]) (rest := []) ⟨hx, hb, hml, hown, hts⟩ (ct_mo_begin l X Y M107 a0 (1 : Int32) ha0 _ hc112) (cwV 1 hts (gw_gV kw_345 kw_346 kw_347 kw_253 kw_344) rfl rfl rfl (by decide +kernel) ⟨Nat.le_of_ble_eq_true rfl, Nat.le_of_ble_eq_true rfl⟩) ⟨gw_blind, gw_recv_mo hK G ha0, gw_pre hK G⟩ rfl rfl hl.1 rfl (Nat.le_of_ble_eq_true rfl) dd_mo_carryOut_112 ⟨Nat.le_of_ble_eq_true rfl, Nat.le_of_ble_eq_true rfl⟩) (fun H locs G => ?_)
    refine lv_iconst (v := (0 : Int32)) hx hb dd_mo_carryOut_115 (by decide) ?_
    refine lv_istore_n (i := 2) (lv' := [(2, .int (0 : Int32)), (0, .ref (gr_a X a0)), (1, .int v1)]) hx hb dd_mo_carryOut_116 rfl hl (by decide) rfl (fun ls hl => ?_)
    exact wl_mo_carryOut_117 C0  2100 M112 a0 (0 : Int32) _ _ _ ha0 G (lv_sub hl [1, 0] rfl) hF
  · replace hF := gw_ef h71 hF
    refine lv_aload_n hx hb dd_mo_carryOut_74 rfl (lv_at hl 0 rfl) ?_
    refine lv_iconst (v := (4 : Int32)) hx hb dd_mo_carryOut_75 (by decide) ?_
    refine lv_aload_n hx hb dd_mo_carryOut_76 rfl (lv_at hl 0 rfl) ?_
    refine gf_mo_slotAccount hx hb hg hown (hg _ kw_274) hK G ha0 dd_mo_carryOut_77 ?_
    refine lv_iconst (v := (4 : Int32)) hx hb dd_mo_carryOut_80 (by decide) ?_
    refine lv_iload_n hx hb dd_mo_carryOut_81 rfl (lv_at hl 1 rfl) ?_
    refine lv_imul hx hb dd_mo_carryOut_82 ?_
    refine lv_iload_n hx hb dd_mo_carryOut_83 rfl (lv_at hl 2 rfl) ?_
    refine lv_iadd hx hb dd_mo_carryOut_84 ?_
    refine W.eq (g2 := F0 m 85 _ _) rfl ?_
    obtain ⟨h85, hF⟩ := gw_gd hF
    refine gr_iald hx hb hK G (gq_mo_slotAccount ha0) (gw_vp h85) (j := (((4 : Int32) * v1) + v2).toNatClampNeg) rfl dd_mo_carryOut_85 ?_
    refine lv_aload_n hx hb dd_mo_carryOut_86 rfl (lv_at hl 0 rfl) ?_
    refine gf_mo_slotMarks hx hb hg hown (hg _ kw_275) hK G ha0 dd_mo_carryOut_87 ?_
    refine lv_iconst (v := (4 : Int32)) hx hb dd_mo_carryOut_90 (by decide) ?_
    refine lv_iload_n hx hb dd_mo_carryOut_91 rfl (lv_at hl 1 rfl) ?_
    refine lv_imul hx hb dd_mo_carryOut_92 ?_
    refine lv_iload_n hx hb dd_mo_carryOut_93 rfl (lv_at hl 2 rfl) ?_
    refine lv_iadd hx hb dd_mo_carryOut_94 ?_
    obtain ⟨h95, hF⟩ := gw_gd hF
    refine gr_iald hx hb hK G (gq_mo_slotMarks ha0) (gw_vp h95) (j := (((4 : Int32) * v1) + v2).toNatClampNeg) rfl dd_mo_carryOut_95 ?_
    obtain ⟨u96, M96, hc96, hF⟩ := gw_be hF
    refine gw_cv G (va_runV (As := [.int (4 : Int32), .int (M.1 (a0 + 15) ((((4 : Int32) * v1) + v2).toNatClampNeg)), .int (M.1 (a0 + 16) ((((4 : Int32) * v1) + v2).toNatClampNeg))]) (rest := []) ⟨hx, hb, hml, hown, hts⟩ (ct_mo_add l X Y M a0 (4 : Int32) (M.1 (a0 + 15) ((((4 : Int32) * v1) + v2).toNatClampNeg)) (M.1 (a0 + 16) ((((4 : Int32) * v1) + v2).toNatClampNeg)) ha0 _ hc96) (cwV 3 hts (gw_gV kw_278 kw_279 kw_280 kw_253 kw_277) rfl rfl rfl (by decide +kernel) ⟨Nat.le_of_ble_eq_true rfl, Nat.le_of_ble_eq_true rfl⟩) ⟨gw_blind, gw_recv_mo hK G ha0, gw_pre hK G⟩ rfl rfl hl.1 rfl (Nat.le_of_ble_eq_true rfl) dd_mo_carryOut_96 ⟨Nat.le_of_ble_eq_true rfl, Nat.le_of_ble_eq_true rfl⟩) (fun H locs G => ?_)
    refine W.eq (g2 := F0 m 99 _ _) rfl ?_
    refine lv_iinc (k := 2) (v := v2 + (1 : Int32)) (lv' := [(2, .int (v2 + (1 : Int32))), (0, .ref (gr_a X a0)), (1, .int v1)]) hx hb dd_mo_carryOut_99 hl rfl rfl (by decide) rfl (fun ls hl => ?_)
    refine lv_goto (tgt := 64) hx hb dd_mo_carryOut_102 (by decide) ?_
    exact hK64 M96 a0 v1 (v2 + (1 : Int32)) _ _ _ ha0 G (lv_sub hl [1, 2, 0] rfl) hF
theorem wl_mo_carryOut_64 {p : Program} {l : Launch} {e : Env} {s : State} {m : MethodId} {args : Array Value} {below : List Frame} {meth : Method} {c : Code} {X : gw_X} {Y : gw_M} {z : (Int32 × gw_M)} (C0 : gw_C ((Cond.code yy_mo_carryOut by_mo_carryOut 3 (some .int)) :: gw_w) by_mo_carryOut 3 (some .int) "AccountMachineModel" X p s m args meth c) : ∀ n : Nat, ∀ (M : gw_M) (a0 : Nat) (v1 : Int32) (v2 : Int32) (H : Heap) (locs : List Loc) (ls : Array Slot), gr_k a0 = (11, 0) → gw_G X (gw_E X Y M) s H locs → lv_has ls 3 [(0, .ref (gr_a X a0)), (1, .int v1), (2, .int v2)] → mo_carryOut_l64  n M a0 v1 v2 = some z → W p l e rm_mo_carryOut s m args below meth c H locs 0 0 (MQ below (gw_Qi X (fun M => (gw_E X Y M)) z) args s 0 0 (gw_A X)) (F0 m 64 ls []) := by
  intro n
  induction n with
  | zero =>
    intro M a0 v1 v2 H locs ls ha0 G hl hF
    have hF : (none : Option (Int32 × gw_M)) = some z := hF
    cases hF
  | succ n ih =>
    intro M a0 v1 v2 H locs ls ha0 G hl hF
    exact wb_mo_carryOut_64 C0  ih M a0 v1 v2 H locs ls ha0 G hl hF
set_option maxRecDepth 100000 in
set_option maxHeartbeats 4000000 in
theorem wb_mo_carryOut_0 {p : Program} {l : Launch} {e : Env} {s : State} {m : MethodId} {args : Array Value} {below : List Frame} {meth : Method} {c : Code} {X : gw_X} {Y : gw_M} {z : (Int32 × gw_M)} (C0 : gw_C ((Cond.code yy_mo_carryOut by_mo_carryOut 3 (some .int)) :: gw_w) by_mo_carryOut 3 (some .int) "AccountMachineModel" X p s m args meth c) (M : gw_M) (a0 : Nat) (v1 : Int32) (H : Heap) (locs : List Loc) (ls : Array Slot) (ha0 : gr_k a0 = (11, 0)) (G : gw_G X (gw_E X Y M) s H locs) (hl : lv_has ls 3 [(0, .ref (gr_a X a0)), (1, .int v1)]) (hF : mo_carryOut_b0  M a0 v1 = some z) : W p l e rm_mo_carryOut s m args below meth c H locs 0 0 (MQ below (gw_Qi X (fun M => (gw_E X Y M)) z) args s 0 0 (gw_A X)) (F0 m 0 ls []) := by
  obtain ⟨hx, hb, hml, hown, hts, hr, hlocks, hK⟩ := id C0
  have hg : ∀ w ∈ gw_w, w.before args s = true := fun w h => hts w (List.mem_cons_of_mem _ h)
  unfold mo_carryOut_b0 at hF
  refine lv_aload_n hx hb dd_mo_carryOut_0 rfl (lv_at hl 0 rfl) ?_
  refine lv_aload_n hx hb dd_mo_carryOut_1 rfl (lv_at hl 0 rfl) ?_
  refine gf_mo_program hx hb hg hown (hg _ kw_271) hK G ha0 dd_mo_carryOut_2 ?_
  refine lv_iload_n hx hb dd_mo_carryOut_5 rfl (lv_at hl 1 rfl) ?_
  obtain ⟨h6, hF⟩ := gw_gd hF
  refine gr_iald hx hb hK G (gq_mo_program ha0) (gw_vp h6) (j := v1.toNatClampNeg) rfl dd_mo_carryOut_6 ?_
  refine lv_i2l (v := (M.1 (a0 + 12) v1.toNatClampNeg).toInt64) hx hb dd_mo_carryOut_7 rfl ?_
  obtain ⟨r8, M8, hc8, hF⟩ := gw_be hF
  refine gw_ci G (va_runV (As := [.long ((M.1 (a0 + 12) v1.toNatClampNeg).toInt64)]) (rest := []) ⟨hx, hb, hml, hown, hts⟩ (ct_mo_canRun l X Y M a0 ((M.1 (a0 + 12) v1.toNatClampNeg).toInt64) ha0 _ hc8) (cwV 1 hts (gw_gV kw_353 kw_354 kw_355 kw_253 kw_352) rfl rfl rfl (by decide +kernel) ⟨Nat.le_of_ble_eq_true rfl, Nat.le_of_ble_eq_true rfl⟩) ⟨gw_blind, gw_recv_mo hK G ha0, gw_pre hK G⟩ rfl rfl hl.1 rfl (Nat.le_of_ble_eq_true rfl) dd_mo_carryOut_8 ⟨Nat.le_of_ble_eq_true rfl, Nat.le_of_ble_eq_true rfl⟩) (fun H locs G => ?_)
  refine lv_if_ne (tgt := 16) hx hb dd_mo_carryOut_11 (by decide) (fun h11 => ?_) (fun h11 => ?_)
  · replace hF := gw_ef h11 hF
    refine lv_aload_n hx hb dd_mo_carryOut_16 rfl (lv_at hl 0 rfl) ?_
    refine gf_mo_program hx hb hg hown (hg _ kw_271) hK G ha0 dd_mo_carryOut_17 ?_
    refine lv_iload_n hx hb dd_mo_carryOut_20 rfl (lv_at hl 1 rfl) ?_
    obtain ⟨h21, hF⟩ := gw_gd hF
    refine gr_iald hx hb hK G (gq_mo_program ha0) (gw_vp h21) (j := v1.toNatClampNeg) rfl dd_mo_carryOut_21 ?_
    refine lv_if_ne (tgt := 31) hx hb dd_mo_carryOut_22 (by decide) (fun h22 => ?_) (fun h22 => ?_)
    · replace hF := gw_ef h22 hF
      refine lv_aload_n hx hb dd_mo_carryOut_31 rfl (lv_at hl 0 rfl) ?_
      refine gf_mo_program hx hb hg hown (hg _ kw_271) hK G ha0 dd_mo_carryOut_32 ?_
      refine lv_iconst (v := (4 : Int32)) hx hb dd_mo_carryOut_35 (by decide) ?_
      refine lv_aload_n hx hb dd_mo_carryOut_36 rfl (lv_at hl 0 rfl) ?_
      refine gf_mo_program hx hb hg hown (hg _ kw_271) hK G ha0 dd_mo_carryOut_37 ?_
      refine lv_iload_n hx hb dd_mo_carryOut_40 rfl (lv_at hl 1 rfl) ?_
      obtain ⟨h41, hF⟩ := gw_gd hF
      refine gr_iald hx hb hK G (gq_mo_program ha0) (gw_vp h41) (j := v1.toNatClampNeg) rfl dd_mo_carryOut_41 ?_
      refine gr_iast hx hb hK G (gq_mo_program ha0) (gw_vp (by decide)) (j := 4) (by decide) dd_mo_carryOut_42 (fun M42 H locs e42 G => ?_)
      replace hF := gw_ly e42 hF
      refine lv_aload_n hx hb dd_mo_carryOut_43 rfl (lv_at hl 0 rfl) ?_
      refine W.eq (g2 := F0 m 44 _ _) rfl ?_
      refine gf_mo_argument hx hb hg hown (hg _ kw_272) hK G ha0 dd_mo_carryOut_44 ?_
      refine lv_iconst (v := (4 : Int32)) hx hb dd_mo_carryOut_47 (by decide) ?_
      refine lv_aload_n hx hb dd_mo_carryOut_48 rfl (lv_at hl 0 rfl) ?_
      refine gf_mo_argument hx hb hg hown (hg _ kw_272) hK G ha0 dd_mo_carryOut_49 ?_
      refine lv_iload_n hx hb dd_mo_carryOut_52 rfl (lv_at hl 1 rfl) ?_
      obtain ⟨h53, hF⟩ := gw_gd hF
      refine gr_iald hx hb hK G (gq_mo_argument ha0) (gw_vp h53) (j := v1.toNatClampNeg) rfl dd_mo_carryOut_53 ?_
      refine gr_iast hx hb hK G (gq_mo_argument ha0) (gw_vp (by decide)) (j := 4) (by decide) dd_mo_carryOut_54 (fun M54 H locs e54 G => ?_)
      replace hF := gw_ly e54 hF
      refine lv_aload_n hx hb dd_mo_carryOut_55 rfl (lv_at hl 0 rfl) ?_
      refine gf_mo_slots hx hb hg hown (hg _ kw_273) hK G ha0 dd_mo_carryOut_56 ?_
      refine lv_iconst (v := (4 : Int32)) hx hb dd_mo_carryOut_59 (by decide) ?_
      refine W.eq (g2 := F0 m 60 _ _) rfl ?_
      refine lv_iconst (v := (0 : Int32)) hx hb dd_mo_carryOut_60 (by decide) ?_
      refine gr_iast hx hb hK G (gq_mo_slots ha0) (gw_vp (by decide)) (j := 4) (by decide) dd_mo_carryOut_61 (fun M61 H locs e61 G => ?_)
      replace hF := gw_ly e61 hF
      refine lv_iconst (v := (0 : Int32)) hx hb dd_mo_carryOut_62 (by decide) ?_
      refine lv_istore_n (i := 2) (lv' := [(2, .int (0 : Int32)), (0, .ref (gr_a X a0)), (1, .int v1)]) hx hb dd_mo_carryOut_63 rfl hl (by decide) rfl (fun ls hl => ?_)
      exact wl_mo_carryOut_64 C0  2100 M61 a0 v1 (0 : Int32) _ _ _ ha0 G (lv_sub hl [1, 2, 0] rfl) hF
    · replace hF := gw_et h22 hF
      refine lv_aload_n hx hb dd_mo_carryOut_25 rfl (lv_at hl 0 rfl) ?_
      refine lv_iload_n hx hb dd_mo_carryOut_26 rfl (lv_at hl 1 rfl) ?_
      obtain ⟨r27, M27, hc27, hF⟩ := gw_be hF
      refine gw_ci G (va_runV (As := [.int v1]) (rest := []) ⟨hx, hb, hml, hown, hts⟩ (ct_mo_system l X Y M8 a0 v1 ha0 _ hc27) (cwV 1 hts (gw_gV kw_336 kw_337 kw_338 kw_253 kw_335) rfl rfl rfl (by decide +kernel) ⟨Nat.le_of_ble_eq_true rfl, Nat.le_of_ble_eq_true rfl⟩) ⟨gw_blind, gw_recv_mo hK G ha0, gw_pre hK G⟩ rfl rfl hl.1 rfl (Nat.le_of_ble_eq_true rfl) dd_mo_carryOut_27 ⟨Nat.le_of_ble_eq_true rfl, Nat.le_of_ble_eq_true rfl⟩) (fun H locs G => ?_)
      exact W.iret hx hb hr (fun t ht hW => gw_endi (EF := (fun M => (gw_E X Y M))) (M := M27) G ht hF) G.2.2.2.2 dd_mo_carryOut_30 hlocks
  · replace hF := gw_et h11 hF
    refine lv_iconst (v := (1 : Int32)) hx hb dd_mo_carryOut_14 (by decide) ?_
    exact W.iret hx hb hr (fun t ht hW => gw_endi (EF := (fun M => (gw_E X Y M))) (M := M8) G ht hF) G.2.2.2.2 dd_mo_carryOut_15 hlocks
set_option maxRecDepth 100000 in
set_option maxHeartbeats 4000000 in
theorem ct_mo_carryOut (l : Launch) (X : gw_X) (Y : gw_M) (M : gw_M) (a0 : Nat) (v1 : Int32) (ha0 : gr_k a0 = (11, 0)) (z : (Int32 × gw_M)) (hF : mo_carryOut_b0 M a0 v1 = some z) : Met l yy_mo_carryOut ((Cond.code yy_mo_carryOut by_mo_carryOut 3 (some .int)) :: gw_w) rm_mo_carryOut (va_Pc [.ref (gr_a X a0), .int v1] (gw_B X (gw_E X Y M))) (gw_Qi X (fun M => (gw_E X Y M)) z) 0 0 (gw_A X) := by
  refine Met.ofW (cc := by_mo_carryOut) (maxL := 3) (ret := (some .int)) (by decide) rfl ?_
  intro p e s m args below meth c s₁ B hml hv
  obtain ⟨rfl, hB⟩ := hv
  rw [lg_entry_eq]
  have hl := lv_entry ([.ref (gr_a X a0), .int v1]) (n := 3) (Nat.le_of_ble_eq_true rfl)
  generalize (lg_sl ([.ref (gr_a X a0), .int v1]) ++ List.replicate (3 - (lg_sl ([.ref (gr_a X a0), .int v1])).length) Slot.unset).toArray = ls at hl ⊢
  have hl : lv_has ls 3 [(0, .ref (gr_a X a0)), (1, .int v1)] := hl
  exact wb_mo_carryOut_0 (gw_ctx B hml rfl hB) M a0 v1 _ _ _ ha0 (gw_start hB) hl hF
/-! AccountMachineModel.owesRent()Z -/
abbrev rm_mo_owesRent : Room := { frames := 2, cells := 0, slots := 0, locals := 46 }
theorem dd_mo_owesRent_0 : decode by_mo_owesRent 0 = .ok (.iconst 0, 1) := by decide +kernel
theorem dd_mo_owesRent_1 : decode by_mo_owesRent 1 = .ok (.istore_n 1, 1) := by decide +kernel
theorem dd_mo_owesRent_2 : decode by_mo_owesRent 2 = .ok (.iconst 0, 1) := by decide +kernel
theorem dd_mo_owesRent_3 : decode by_mo_owesRent 3 = .ok (.istore_n 2, 1) := by decide +kernel
theorem dd_mo_owesRent_4 : decode by_mo_owesRent 4 = .ok (.iload_n 2, 1) := by decide +kernel
theorem dd_mo_owesRent_5 : decode by_mo_owesRent 5 = .ok (.aload_n 0, 1) := by decide +kernel
theorem dd_mo_owesRent_6 : decode by_mo_owesRent 6 = .ok (.getfield 101, 3) := by decide +kernel
theorem dd_mo_owesRent_9 : decode by_mo_owesRent 9 = .ok (.if_icmp .ge 90, 3) := by decide +kernel
theorem dd_mo_owesRent_12 : decode by_mo_owesRent 12 = .ok (.iconst 0, 1) := by decide +kernel
theorem dd_mo_owesRent_13 : decode by_mo_owesRent 13 = .ok (.istore_n 3, 1) := by decide +kernel
theorem dd_mo_owesRent_14 : decode by_mo_owesRent 14 = .ok (.iload_n 3, 1) := by decide +kernel
theorem dd_mo_owesRent_15 : decode by_mo_owesRent 15 = .ok (.aload_n 0, 1) := by decide +kernel
theorem dd_mo_owesRent_16 : decode by_mo_owesRent 16 = .ok (.getfield 50, 3) := by decide +kernel
theorem dd_mo_owesRent_19 : decode by_mo_owesRent 19 = .ok (.iload_n 2, 1) := by decide +kernel
theorem dd_mo_owesRent_20 : decode by_mo_owesRent 20 = .ok (.iaload, 1) := by decide +kernel
theorem dd_mo_owesRent_21 : decode by_mo_owesRent 21 = .ok (.if_icmp .ge 72, 3) := by decide +kernel
theorem dd_mo_owesRent_24 : decode by_mo_owesRent 24 = .ok (.aload_n 0, 1) := by decide +kernel
theorem dd_mo_owesRent_25 : decode by_mo_owesRent 25 = .ok (.getfield 53, 3) := by decide +kernel
theorem dd_mo_owesRent_28 : decode by_mo_owesRent 28 = .ok (.iconst 4, 1) := by decide +kernel
theorem dd_mo_owesRent_29 : decode by_mo_owesRent 29 = .ok (.iload_n 2, 1) := by decide +kernel
theorem dd_mo_owesRent_30 : decode by_mo_owesRent 30 = .ok (.imul, 1) := by decide +kernel
theorem dd_mo_owesRent_31 : decode by_mo_owesRent 31 = .ok (.iload_n 3, 1) := by decide +kernel
theorem dd_mo_owesRent_32 : decode by_mo_owesRent 32 = .ok (.iadd, 1) := by decide +kernel
theorem dd_mo_owesRent_33 : decode by_mo_owesRent 33 = .ok (.iaload, 1) := by decide +kernel
theorem dd_mo_owesRent_34 : decode by_mo_owesRent 34 = .ok (.istore 4, 2) := by decide +kernel
theorem dd_mo_owesRent_36 : decode by_mo_owesRent 36 = .ok (.iload_n 1, 1) := by decide +kernel
theorem dd_mo_owesRent_37 : decode by_mo_owesRent 37 = .ok (.ifCond .ne 44, 3) := by decide +kernel
theorem dd_mo_owesRent_40 : decode by_mo_owesRent 40 = .ok (.aload_n 0, 1) := by decide +kernel
theorem dd_mo_owesRent_41 : decode by_mo_owesRent 41 = .ok (.iload_n 2, 1) := by decide +kernel
theorem dd_mo_owesRent_42 : decode by_mo_owesRent 42 = .ok (.iload 4, 2) := by decide +kernel
theorem dd_mo_owesRent_44 : decode by_mo_owesRent 44 = .ok (.invokevirtual 131, 3) := by decide +kernel
theorem dd_mo_owesRent_47 : decode by_mo_owesRent 47 = .ok (.ifCond .eq 38, 3) := by decide +kernel
theorem dd_mo_owesRent_50 : decode by_mo_owesRent 50 = .ok (.aload_n 0, 1) := by decide +kernel
theorem dd_mo_owesRent_51 : decode by_mo_owesRent 51 = .ok (.getfield 7, 3) := by decide +kernel
theorem dd_mo_owesRent_54 : decode by_mo_owesRent 54 = .ok (.iload 4, 2) := by decide +kernel
theorem dd_mo_owesRent_56 : decode by_mo_owesRent 56 = .ok (.iaload, 1) := by decide +kernel
theorem dd_mo_owesRent_57 : decode by_mo_owesRent 57 = .ok (.ifCond .eq 28, 3) := by decide +kernel
theorem dd_mo_owesRent_60 : decode by_mo_owesRent 60 = .ok (.aload_n 0, 1) := by decide +kernel
theorem dd_mo_owesRent_61 : decode by_mo_owesRent 61 = .ok (.getfield 7, 3) := by decide +kernel
theorem dd_mo_owesRent_64 : decode by_mo_owesRent 64 = .ok (.iload 4, 2) := by decide +kernel
theorem dd_mo_owesRent_66 : decode by_mo_owesRent 66 = .ok (.iaload, 1) := by decide +kernel
theorem dd_mo_owesRent_67 : decode by_mo_owesRent 67 = .ok (.iconst 5, 1) := by decide +kernel
theorem dd_mo_owesRent_68 : decode by_mo_owesRent 68 = .ok (.iconst 2, 1) := by decide +kernel
theorem dd_mo_owesRent_69 : decode by_mo_owesRent 69 = .ok (.aload_n 0, 1) := by decide +kernel
theorem dd_mo_owesRent_70 : decode by_mo_owesRent 70 = .ok (.getfield 16, 3) := by decide +kernel
theorem dd_mo_owesRent_73 : decode by_mo_owesRent 73 = .ok (.iload 4, 2) := by decide +kernel
theorem dd_mo_owesRent_75 : decode by_mo_owesRent 75 = .ok (.iaload, 1) := by decide +kernel
theorem dd_mo_owesRent_76 : decode by_mo_owesRent 76 = .ok (.imul, 1) := by decide +kernel
theorem dd_mo_owesRent_77 : decode by_mo_owesRent 77 = .ok (.iadd, 1) := by decide +kernel
theorem dd_mo_owesRent_78 : decode by_mo_owesRent 78 = .ok (.if_icmp .ge 7, 3) := by decide +kernel
theorem dd_mo_owesRent_81 : decode by_mo_owesRent 81 = .ok (.iconst 1, 1) := by decide +kernel
theorem dd_mo_owesRent_82 : decode by_mo_owesRent 82 = .ok (.goto 4, 3) := by decide +kernel
theorem dd_mo_owesRent_85 : decode by_mo_owesRent 85 = .ok (.iconst 0, 1) := by decide +kernel
theorem dd_mo_owesRent_86 : decode by_mo_owesRent 86 = .ok (.istore_n 1, 1) := by decide +kernel
theorem dd_mo_owesRent_87 : decode by_mo_owesRent 87 = .ok (.iinc 3 1, 3) := by decide +kernel
theorem dd_mo_owesRent_90 : decode by_mo_owesRent 90 = .ok (.goto (-76), 3) := by decide +kernel
theorem dd_mo_owesRent_93 : decode by_mo_owesRent 93 = .ok (.iinc 2 1, 3) := by decide +kernel
theorem dd_mo_owesRent_96 : decode by_mo_owesRent 96 = .ok (.goto (-92), 3) := by decide +kernel
theorem dd_mo_owesRent_99 : decode by_mo_owesRent 99 = .ok (.iload_n 1, 1) := by decide +kernel
theorem dd_mo_owesRent_100 : decode by_mo_owesRent 100 = .ok (.ireturn, 1) := by decide +kernel
def mo_owesRent_b86 (K4 : gw_M → Nat → Int32 → Int32 → Option (Int32 × gw_M)) (K14 : gw_M → Nat → Int32 → Int32 → Int32 → Option (Int32 × gw_M)) (M : gw_M) (a0 : Nat) (v2 : Int32) (v3 : Int32) (t0 : Int32) : Option (Int32 × gw_M) :=
  K14 M a0 t0 v2 (v3 + (1 : Int32))
def mo_owesRent_b85 (K4 : gw_M → Nat → Int32 → Int32 → Option (Int32 × gw_M)) (K14 : gw_M → Nat → Int32 → Int32 → Int32 → Option (Int32 × gw_M)) (M : gw_M) (a0 : Nat) (v2 : Int32) (v3 : Int32) : Option (Int32 × gw_M) :=
  mo_owesRent_b86 K4 K14 M a0 v2 v3 (0 : Int32)
def mo_owesRent_b81 (K4 : gw_M → Nat → Int32 → Int32 → Option (Int32 × gw_M)) (K14 : gw_M → Nat → Int32 → Int32 → Int32 → Option (Int32 × gw_M)) (M : gw_M) (a0 : Nat) (v2 : Int32) (v3 : Int32) : Option (Int32 × gw_M) :=
  mo_owesRent_b86 K4 K14 M a0 v2 v3 (1 : Int32)
def mo_owesRent_b14 (K4 : gw_M → Nat → Int32 → Int32 → Option (Int32 × gw_M)) (K14 : gw_M → Nat → Int32 → Int32 → Int32 → Option (Int32 × gw_M)) (M : gw_M) (a0 : Nat) (v1 : Int32) (v2 : Int32) (v3 : Int32) : Option (Int32 × gw_M) :=
  gw_gu (gw_in v2 9) (if (M.1 (a0 + 14) v2.toNatClampNeg) ≤ v3 then (K4 M a0 v1 (v2 + (1 : Int32))) else (gw_gu (gw_in (((4 : Int32) * v2) + v3) 36) (gw_lt (M.1 (a0 + 15) ((((4 : Int32) * v2) + v3).toNatClampNeg)) (fun x34 => if v1 = (0 : Int32) then (gw_bd (mo_writable_b0 M a0 v2 x34) (fun r44 M44 => if r44 = (0 : Int32) then (mo_owesRent_b85 K4 K14 M44 a0 v2 v3) else (gw_gu (gw_in x34 16) (if (M44.1 (a0 + 1) x34.toNatClampNeg) = (0 : Int32) then (mo_owesRent_b85 K4 K14 M44 a0 v2 v3) else (gw_gu (gw_in x34 16) (gw_gu (gw_in x34 16) (if ((5 : Int32) + ((2 : Int32) * (M44.1 (a0 + 3) x34.toNatClampNeg))) ≤ (M44.1 (a0 + 1) x34.toNatClampNeg) then (mo_owesRent_b85 K4 K14 M44 a0 v2 v3) else (mo_owesRent_b81 K4 K14 M44 a0 v2 v3)))))))) else (mo_owesRent_b81 K4 K14 M a0 v2 v3)))))
def mo_owesRent_l14 (K4 : gw_M → Nat → Int32 → Int32 → Option (Int32 × gw_M)) : Nat → gw_M → Nat → Int32 → Int32 → Int32 → Option (Int32 × gw_M)
  | 0 => fun _ _ _ _ _ => none
  | n + 1 => mo_owesRent_b14 K4 (mo_owesRent_l14 K4 n)
def mo_owesRent_b4 (K4 : gw_M → Nat → Int32 → Int32 → Option (Int32 × gw_M)) (M : gw_M) (a0 : Nat) (v1 : Int32) (v2 : Int32) : Option (Int32 × gw_M) :=
  if (M.1 a0 11) ≤ v2 then (gw_gu (gw_bz v1) (some (v1, M))) else (mo_owesRent_l14 K4 2100 M a0 v1 v2 (0 : Int32))
def mo_owesRent_l4 : Nat → gw_M → Nat → Int32 → Int32 → Option (Int32 × gw_M)
  | 0 => fun _ _ _ _ => none
  | n + 1 => mo_owesRent_b4  (mo_owesRent_l4  n)
def mo_owesRent_b0 (M : gw_M) (a0 : Nat) : Option (Int32 × gw_M) :=
  mo_owesRent_l4  2100 M a0 (0 : Int32) (0 : Int32)
set_option maxRecDepth 100000 in
set_option maxHeartbeats 4000000 in
theorem wb_mo_owesRent_86 {p : Program} {l : Launch} {e : Env} {s : State} {m : MethodId} {args : Array Value} {below : List Frame} {meth : Method} {c : Code} {X : gw_X} {Y : gw_M} {z : (Int32 × gw_M)} (C0 : gw_C ((Cond.code yy_mo_owesRent by_mo_owesRent 5 (some .boolean)) :: gw_w) by_mo_owesRent 5 (some .boolean) "AccountMachineModel" X p s m args meth c) {K4 : gw_M → Nat → Int32 → Int32 → Option (Int32 × gw_M)} {K14 : gw_M → Nat → Int32 → Int32 → Int32 → Option (Int32 × gw_M)} (hK4 : ∀ (M : gw_M) (a0 : Nat) (v1 : Int32) (v2 : Int32) (H : Heap) (locs : List Loc) (ls : Array Slot), gr_k a0 = (11, 0) → gw_G X (gw_E X Y M) s H locs → lv_has ls 5 [(0, .ref (gr_a X a0)), (1, .int v1), (2, .int v2)] → K4 M a0 v1 v2 = some z → W p l e rm_mo_owesRent s m args below meth c H locs 0 0 (MQ below (gw_Qi X (fun M => (gw_E X Y M)) z) args s 0 0 (gw_A X)) (F0 m 4 ls [])) (hK14 : ∀ (M : gw_M) (a0 : Nat) (v1 : Int32) (v2 : Int32) (v3 : Int32) (H : Heap) (locs : List Loc) (ls : Array Slot), gr_k a0 = (11, 0) → gw_G X (gw_E X Y M) s H locs → lv_has ls 5 [(0, .ref (gr_a X a0)), (1, .int v1), (2, .int v2), (3, .int v3)] → K14 M a0 v1 v2 v3 = some z → W p l e rm_mo_owesRent s m args below meth c H locs 0 0 (MQ below (gw_Qi X (fun M => (gw_E X Y M)) z) args s 0 0 (gw_A X)) (F0 m 14 ls [])) (M : gw_M) (a0 : Nat) (v2 : Int32) (v3 : Int32) (t0 : Int32) (H : Heap) (locs : List Loc) (ls : Array Slot) (ha0 : gr_k a0 = (11, 0)) (G : gw_G X (gw_E X Y M) s H locs) (hl : lv_has ls 5 [(0, .ref (gr_a X a0)), (2, .int v2), (3, .int v3)]) (hF : mo_owesRent_b86 K4 K14 M a0 v2 v3 t0 = some z) : W p l e rm_mo_owesRent s m args below meth c H locs 0 0 (MQ below (gw_Qi X (fun M => (gw_E X Y M)) z) args s 0 0 (gw_A X)) (F0 m 86 ls [.int t0]) := by
  obtain ⟨hx, hb, hml, hown, hts, hr, hlocks, hK⟩ := id C0
  have hg : ∀ w ∈ gw_w, w.before args s = true := fun w h => hts w (List.mem_cons_of_mem _ h)
  unfold mo_owesRent_b86 at hF
  refine lv_istore_n (i := 1) (lv' := [(1, .int t0), (0, .ref (gr_a X a0)), (2, .int v2), (3, .int v3)]) hx hb dd_mo_owesRent_86 rfl hl (by decide) rfl (fun ls hl => ?_)
  refine lv_iinc (k := 3) (v := v3 + (1 : Int32)) (lv' := [(3, .int (v3 + (1 : Int32))), (1, .int t0), (0, .ref (gr_a X a0)), (2, .int v2)]) hx hb dd_mo_owesRent_87 hl rfl rfl (by decide) rfl (fun ls hl => ?_)
  refine lv_goto (tgt := 14) hx hb dd_mo_owesRent_90 (by decide) ?_
  exact hK14 M a0 t0 v2 (v3 + (1 : Int32)) _ _ _ ha0 G (lv_sub hl [2, 1, 3, 0] rfl) hF
set_option maxRecDepth 100000 in
set_option maxHeartbeats 4000000 in
theorem wb_mo_owesRent_85 {p : Program} {l : Launch} {e : Env} {s : State} {m : MethodId} {args : Array Value} {below : List Frame} {meth : Method} {c : Code} {X : gw_X} {Y : gw_M} {z : (Int32 × gw_M)} (C0 : gw_C ((Cond.code yy_mo_owesRent by_mo_owesRent 5 (some .boolean)) :: gw_w) by_mo_owesRent 5 (some .boolean) "AccountMachineModel" X p s m args meth c) {K4 : gw_M → Nat → Int32 → Int32 → Option (Int32 × gw_M)} {K14 : gw_M → Nat → Int32 → Int32 → Int32 → Option (Int32 × gw_M)} (hK4 : ∀ (M : gw_M) (a0 : Nat) (v1 : Int32) (v2 : Int32) (H : Heap) (locs : List Loc) (ls : Array Slot), gr_k a0 = (11, 0) → gw_G X (gw_E X Y M) s H locs → lv_has ls 5 [(0, .ref (gr_a X a0)), (1, .int v1), (2, .int v2)] → K4 M a0 v1 v2 = some z → W p l e rm_mo_owesRent s m args below meth c H locs 0 0 (MQ below (gw_Qi X (fun M => (gw_E X Y M)) z) args s 0 0 (gw_A X)) (F0 m 4 ls [])) (hK14 : ∀ (M : gw_M) (a0 : Nat) (v1 : Int32) (v2 : Int32) (v3 : Int32) (H : Heap) (locs : List Loc) (ls : Array Slot), gr_k a0 = (11, 0) → gw_G X (gw_E X Y M) s H locs → lv_has ls 5 [(0, .ref (gr_a X a0)), (1, .int v1), (2, .int v2), (3, .int v3)] → K14 M a0 v1 v2 v3 = some z → W p l e rm_mo_owesRent s m args below meth c H locs 0 0 (MQ below (gw_Qi X (fun M => (gw_E X Y M)) z) args s 0 0 (gw_A X)) (F0 m 14 ls [])) (M : gw_M) (a0 : Nat) (v2 : Int32) (v3 : Int32) (H : Heap) (locs : List Loc) (ls : Array Slot) (ha0 : gr_k a0 = (11, 0)) (G : gw_G X (gw_E X Y M) s H locs) (hl : lv_has ls 5 [(0, .ref (gr_a X a0)), (2, .int v2), (3, .int v3)]) (hF : mo_owesRent_b85 K4 K14 M a0 v2 v3 = some z) : W p l e rm_mo_owesRent s m args below meth c H locs 0 0 (MQ below (gw_Qi X (fun M => (gw_E X Y M)) z) args s 0 0 (gw_A X)) (F0 m 85 ls []) := by
  obtain ⟨hx, hb, hml, hown, hts, hr, hlocks, hK⟩ := id C0
  have hg : ∀ w ∈ gw_w, w.before args s = true := fun w h => hts w (List.mem_cons_of_mem _ h)
  unfold mo_owesRent_b85 at hF
  refine lv_iconst (v := (0 : Int32)) hx hb dd_mo_owesRent_85 (by decide) ?_
  exact wb_mo_owesRent_86 C0 hK4 hK14 M a0 v2 v3 (0 : Int32) _ _ _ ha0 G (lv_sub hl [0, 1, 2] rfl) hF
set_option maxRecDepth 100000 in
set_option maxHeartbeats 4000000 in
theorem wb_mo_owesRent_81 {p : Program} {l : Launch} {e : Env} {s : State} {m : MethodId} {args : Array Value} {below : List Frame} {meth : Method} {c : Code} {X : gw_X} {Y : gw_M} {z : (Int32 × gw_M)} (C0 : gw_C ((Cond.code yy_mo_owesRent by_mo_owesRent 5 (some .boolean)) :: gw_w) by_mo_owesRent 5 (some .boolean) "AccountMachineModel" X p s m args meth c) {K4 : gw_M → Nat → Int32 → Int32 → Option (Int32 × gw_M)} {K14 : gw_M → Nat → Int32 → Int32 → Int32 → Option (Int32 × gw_M)} (hK4 : ∀ (M : gw_M) (a0 : Nat) (v1 : Int32) (v2 : Int32) (H : Heap) (locs : List Loc) (ls : Array Slot), gr_k a0 = (11, 0) → gw_G X (gw_E X Y M) s H locs → lv_has ls 5 [(0, .ref (gr_a X a0)), (1, .int v1), (2, .int v2)] → K4 M a0 v1 v2 = some z → W p l e rm_mo_owesRent s m args below meth c H locs 0 0 (MQ below (gw_Qi X (fun M => (gw_E X Y M)) z) args s 0 0 (gw_A X)) (F0 m 4 ls [])) (hK14 : ∀ (M : gw_M) (a0 : Nat) (v1 : Int32) (v2 : Int32) (v3 : Int32) (H : Heap) (locs : List Loc) (ls : Array Slot), gr_k a0 = (11, 0) → gw_G X (gw_E X Y M) s H locs → lv_has ls 5 [(0, .ref (gr_a X a0)), (1, .int v1), (2, .int v2), (3, .int v3)] → K14 M a0 v1 v2 v3 = some z → W p l e rm_mo_owesRent s m args below meth c H locs 0 0 (MQ below (gw_Qi X (fun M => (gw_E X Y M)) z) args s 0 0 (gw_A X)) (F0 m 14 ls [])) (M : gw_M) (a0 : Nat) (v2 : Int32) (v3 : Int32) (H : Heap) (locs : List Loc) (ls : Array Slot) (ha0 : gr_k a0 = (11, 0)) (G : gw_G X (gw_E X Y M) s H locs) (hl : lv_has ls 5 [(0, .ref (gr_a X a0)), (2, .int v2), (3, .int v3)]) (hF : mo_owesRent_b81 K4 K14 M a0 v2 v3 = some z) : W p l e rm_mo_owesRent s m args below meth c H locs 0 0 (MQ below (gw_Qi X (fun M => (gw_E X Y M)) z) args s 0 0 (gw_A X)) (F0 m 81 ls []) := by
  obtain ⟨hx, hb, hml, hown, hts, hr, hlocks, hK⟩ := id C0
  have hg : ∀ w ∈ gw_w, w.before args s = true := fun w h => hts w (List.mem_cons_of_mem _ h)
  unfold mo_owesRent_b81 at hF
  refine lv_iconst (v := (1 : Int32)) hx hb dd_mo_owesRent_81 (by decide) ?_
  refine lv_goto (tgt := 86) hx hb dd_mo_owesRent_82 (by decide) ?_
  exact wb_mo_owesRent_86 C0 hK4 hK14 M a0 v2 v3 (1 : Int32) _ _ _ ha0 G (lv_sub hl [0, 1, 2] rfl) hF
set_option maxRecDepth 100000 in
set_option maxHeartbeats 4000000 in
theorem wb_mo_owesRent_14 {p : Program} {l : Launch} {e : Env} {s : State} {m : MethodId} {args : Array Value} {below : List Frame} {meth : Method} {c : Code} {X : gw_X} {Y : gw_M} {z : (Int32 × gw_M)} (C0 : gw_C ((Cond.code yy_mo_owesRent by_mo_owesRent 5 (some .boolean)) :: gw_w) by_mo_owesRent 5 (some .boolean) "AccountMachineModel" X p s m args meth c) {K4 : gw_M → Nat → Int32 → Int32 → Option (Int32 × gw_M)} {K14 : gw_M → Nat → Int32 → Int32 → Int32 → Option (Int32 × gw_M)} (hK4 : ∀ (M : gw_M) (a0 : Nat) (v1 : Int32) (v2 : Int32) (H : Heap) (locs : List Loc) (ls : Array Slot), gr_k a0 = (11, 0) → gw_G X (gw_E X Y M) s H locs → lv_has ls 5 [(0, .ref (gr_a X a0)), (1, .int v1), (2, .int v2)] → K4 M a0 v1 v2 = some z → W p l e rm_mo_owesRent s m args below meth c H locs 0 0 (MQ below (gw_Qi X (fun M => (gw_E X Y M)) z) args s 0 0 (gw_A X)) (F0 m 4 ls [])) (hK14 : ∀ (M : gw_M) (a0 : Nat) (v1 : Int32) (v2 : Int32) (v3 : Int32) (H : Heap) (locs : List Loc) (ls : Array Slot), gr_k a0 = (11, 0) → gw_G X (gw_E X Y M) s H locs → lv_has ls 5 [(0, .ref (gr_a X a0)), (1, .int v1), (2, .int v2), (3, .int v3)] → K14 M a0 v1 v2 v3 = some z → W p l e rm_mo_owesRent s m args below meth c H locs 0 0 (MQ below (gw_Qi X (fun M => (gw_E X Y M)) z) args s 0 0 (gw_A X)) (F0 m 14 ls [])) (M : gw_M) (a0 : Nat) (v1 : Int32) (v2 : Int32) (v3 : Int32) (H : Heap) (locs : List Loc) (ls : Array Slot) (ha0 : gr_k a0 = (11, 0)) (G : gw_G X (gw_E X Y M) s H locs) (hl : lv_has ls 5 [(0, .ref (gr_a X a0)), (1, .int v1), (2, .int v2), (3, .int v3)]) (hF : mo_owesRent_b14 K4 K14 M a0 v1 v2 v3 = some z) : W p l e rm_mo_owesRent s m args below meth c H locs 0 0 (MQ below (gw_Qi X (fun M => (gw_E X Y M)) z) args s 0 0 (gw_A X)) (F0 m 14 ls []) := by
  obtain ⟨hx, hb, hml, hown, hts, hr, hlocks, hK⟩ := id C0
  have hg : ∀ w ∈ gw_w, w.before args s = true := fun w h => hts w (List.mem_cons_of_mem _ h)
  unfold mo_owesRent_b14 at hF
  refine lv_iload_n hx hb dd_mo_owesRent_14 rfl (lv_at hl 3 rfl) ?_
  refine lv_aload_n hx hb dd_mo_owesRent_15 rfl (lv_at hl 0 rfl) ?_
  refine gf_mo_slots hx hb hg hown (hg _ kw_273) hK G ha0 dd_mo_owesRent_16 ?_
  refine lv_iload_n hx hb dd_mo_owesRent_19 rfl (lv_at hl 2 rfl) ?_
  obtain ⟨h20, hF⟩ := gw_gd hF
  refine gr_iald hx hb hK G (gq_mo_slots ha0) (gw_vp h20) (j := v2.toNatClampNeg) rfl dd_mo_owesRent_20 ?_
  refine lv_icmp_ge (tgt := 93) hx hb dd_mo_owesRent_21 (by decide) (fun h21 => ?_) (fun h21 => ?_)
  · replace hF := gw_et h21 hF
    refine lv_iinc (k := 2) (v := v2 + (1 : Int32)) (lv' := [(2, .int (v2 + (1 : Int32))), (0, .ref (gr_a X a0)), (1, .int v1), (3, .int v3)]) hx hb dd_mo_owesRent_93 hl rfl rfl (by decide) rfl (fun ls hl => ?_)
    refine lv_goto (tgt := 4) hx hb dd_mo_owesRent_96 (by decide) ?_
    exact hK4 M a0 v1 (v2 + (1 : Int32)) _ _ _ ha0 G (lv_sub hl [1, 2, 0] rfl) hF
  · replace hF := gw_ef h21 hF
    refine lv_aload_n hx hb dd_mo_owesRent_24 rfl (lv_at hl 0 rfl) ?_
    refine gf_mo_slotAccount hx hb hg hown (hg _ kw_274) hK G ha0 dd_mo_owesRent_25 ?_
    refine lv_iconst (v := (4 : Int32)) hx hb dd_mo_owesRent_28 (by decide) ?_
    refine lv_iload_n hx hb dd_mo_owesRent_29 rfl (lv_at hl 2 rfl) ?_
    refine lv_imul hx hb dd_mo_owesRent_30 ?_
    refine lv_iload_n hx hb dd_mo_owesRent_31 rfl (lv_at hl 3 rfl) ?_
    refine lv_iadd hx hb dd_mo_owesRent_32 ?_
    obtain ⟨h33, hF⟩ := gw_gd hF
    refine gr_iald hx hb hK G (gq_mo_slotAccount ha0) (gw_vp h33) (j := (((4 : Int32) * v2) + v3).toNatClampNeg) rfl dd_mo_owesRent_33 ?_
    refine lv_topi (fun x34 e34 => ?_)
    replace hF := gw_ly e34 hF
    refine lv_istore (i := 4) (lv' := [(4, .int x34), (0, .ref (gr_a X a0)), (1, .int v1), (2, .int v2), (3, .int v3)]) hx hb dd_mo_owesRent_34 hl (by decide) rfl (fun ls hl => ?_)
    refine W.eq (g2 := F0 m 36 _ _) rfl ?_
    refine lv_iload_n hx hb dd_mo_owesRent_36 rfl (lv_at hl 2 rfl) ?_
    refine lv_if_ne (tgt := 81) hx hb dd_mo_owesRent_37 (by decide) (fun h37 => ?_) (fun h37 => ?_)
    · replace hF := gw_ef h37 hF
      exact wb_mo_owesRent_81 C0 hK4 hK14 M a0 v2 v3 _ _ _ ha0 G (lv_sub hl [1, 3, 4] rfl) hF
    · replace hF := gw_et h37 hF
      refine lv_aload_n hx hb dd_mo_owesRent_40 rfl (lv_at hl 1 rfl) ?_
      refine lv_iload_n hx hb dd_mo_owesRent_41 rfl (lv_at hl 3 rfl) ?_
      refine lv_iload hx hb dd_mo_owesRent_42 (lv_at hl 0 rfl) ?_
      obtain ⟨r44, M44, hc44, hF⟩ := gw_be hF
      refine gw_ci G (va_runV (As := [.int v2, .int x34]) (rest := []) ⟨hx, hb, hml, hown, hts⟩ (ct_mo_writable l X Y M a0 v2 x34 ha0 _ hc44) (cwV 2 hts (gw_gV kw_307 kw_308 kw_309 kw_253 kw_306) rfl rfl rfl (by decide +kernel) ⟨Nat.le_of_ble_eq_true rfl, Nat.le_of_ble_eq_true rfl⟩) ⟨gw_blind, gw_recv_mo hK G ha0, gw_pre hK G⟩ rfl rfl hl.1 rfl (Nat.le_of_ble_eq_true rfl) dd_mo_owesRent_44 ⟨Nat.le_of_ble_eq_true rfl, Nat.le_of_ble_eq_true rfl⟩) (fun H locs G => ?_)
      refine lv_if_eq (tgt := 85) hx hb dd_mo_owesRent_47 (by decide) (fun h47 => ?_) (fun h47 => ?_)
      · replace hF := gw_et h47 hF
        exact wb_mo_owesRent_85 C0 hK4 hK14 M44 a0 v2 v3 _ _ _ ha0 G (lv_sub hl [1, 3, 4] rfl) hF
      · replace hF := gw_ef h47 hF
        refine lv_aload_n hx hb dd_mo_owesRent_50 rfl (lv_at hl 1 rfl) ?_
        refine gf_mo_balances hx hb hg hown (hg _ kw_293) hK G ha0 dd_mo_owesRent_51 ?_
        refine lv_iload hx hb dd_mo_owesRent_54 (lv_at hl 0 rfl) ?_
        obtain ⟨h56, hF⟩ := gw_gd hF
        refine gr_iald hx hb hK G (gq_mo_balances ha0) (gw_vp h56) (j := x34.toNatClampNeg) rfl dd_mo_owesRent_56 ?_
        refine lv_if_eq (tgt := 85) hx hb dd_mo_owesRent_57 (by decide) (fun h57 => ?_) (fun h57 => ?_)
        · replace hF := gw_et h57 hF
          exact wb_mo_owesRent_85 C0 hK4 hK14 M44 a0 v2 v3 _ _ _ ha0 G (lv_sub hl [1, 3, 4] rfl) hF
        · replace hF := gw_ef h57 hF
          refine lv_aload_n hx hb dd_mo_owesRent_60 rfl (lv_at hl 1 rfl) ?_
          refine gf_mo_balances hx hb hg hown (hg _ kw_293) hK G ha0 dd_mo_owesRent_61 ?_
          refine lv_iload hx hb dd_mo_owesRent_64 (lv_at hl 0 rfl) ?_
          obtain ⟨h66, hF⟩ := gw_gd hF
          refine gr_iald hx hb hK G (gq_mo_balances ha0) (gw_vp h66) (j := x34.toNatClampNeg) rfl dd_mo_owesRent_66 ?_
          refine lv_iconst (v := (5 : Int32)) hx hb dd_mo_owesRent_67 (by decide) ?_
          refine lv_iconst (v := (2 : Int32)) hx hb dd_mo_owesRent_68 (by decide) ?_
          refine lv_aload_n hx hb dd_mo_owesRent_69 rfl (lv_at hl 1 rfl) ?_
          refine gf_mo_sizes hx hb hg hown (hg _ kw_286) hK G ha0 dd_mo_owesRent_70 ?_
          refine lv_iload hx hb dd_mo_owesRent_73 (lv_at hl 0 rfl) ?_
          refine W.eq (g2 := F0 m 75 _ _) rfl ?_
          obtain ⟨h75, hF⟩ := gw_gd hF
          refine gr_iald hx hb hK G (gq_mo_sizes ha0) (gw_vp h75) (j := x34.toNatClampNeg) rfl dd_mo_owesRent_75 ?_
          refine lv_imul hx hb dd_mo_owesRent_76 ?_
          refine lv_iadd hx hb dd_mo_owesRent_77 ?_
          refine lv_icmp_ge (tgt := 85) hx hb dd_mo_owesRent_78 (by decide) (fun h78 => ?_) (fun h78 => ?_)
          · replace hF := gw_et h78 hF
            exact wb_mo_owesRent_85 C0 hK4 hK14 M44 a0 v2 v3 _ _ _ ha0 G (lv_sub hl [1, 3, 4] rfl) hF
          · replace hF := gw_ef h78 hF
            exact wb_mo_owesRent_81 C0 hK4 hK14 M44 a0 v2 v3 _ _ _ ha0 G (lv_sub hl [1, 3, 4] rfl) hF
theorem wl_mo_owesRent_14 {p : Program} {l : Launch} {e : Env} {s : State} {m : MethodId} {args : Array Value} {below : List Frame} {meth : Method} {c : Code} {X : gw_X} {Y : gw_M} {z : (Int32 × gw_M)} (C0 : gw_C ((Cond.code yy_mo_owesRent by_mo_owesRent 5 (some .boolean)) :: gw_w) by_mo_owesRent 5 (some .boolean) "AccountMachineModel" X p s m args meth c) {K4 : gw_M → Nat → Int32 → Int32 → Option (Int32 × gw_M)} (hK4 : ∀ (M : gw_M) (a0 : Nat) (v1 : Int32) (v2 : Int32) (H : Heap) (locs : List Loc) (ls : Array Slot), gr_k a0 = (11, 0) → gw_G X (gw_E X Y M) s H locs → lv_has ls 5 [(0, .ref (gr_a X a0)), (1, .int v1), (2, .int v2)] → K4 M a0 v1 v2 = some z → W p l e rm_mo_owesRent s m args below meth c H locs 0 0 (MQ below (gw_Qi X (fun M => (gw_E X Y M)) z) args s 0 0 (gw_A X)) (F0 m 4 ls [])) : ∀ n : Nat, ∀ (M : gw_M) (a0 : Nat) (v1 : Int32) (v2 : Int32) (v3 : Int32) (H : Heap) (locs : List Loc) (ls : Array Slot), gr_k a0 = (11, 0) → gw_G X (gw_E X Y M) s H locs → lv_has ls 5 [(0, .ref (gr_a X a0)), (1, .int v1), (2, .int v2), (3, .int v3)] → mo_owesRent_l14 K4 n M a0 v1 v2 v3 = some z → W p l e rm_mo_owesRent s m args below meth c H locs 0 0 (MQ below (gw_Qi X (fun M => (gw_E X Y M)) z) args s 0 0 (gw_A X)) (F0 m 14 ls []) := by
  intro n
  induction n with
  | zero =>
    intro M a0 v1 v2 v3 H locs ls ha0 G hl hF
    have hF : (none : Option (Int32 × gw_M)) = some z := hF
    cases hF
  | succ n ih =>
    intro M a0 v1 v2 v3 H locs ls ha0 G hl hF
    exact wb_mo_owesRent_14 C0 hK4 ih M a0 v1 v2 v3 H locs ls ha0 G hl hF
set_option maxRecDepth 100000 in
set_option maxHeartbeats 4000000 in
theorem wb_mo_owesRent_4 {p : Program} {l : Launch} {e : Env} {s : State} {m : MethodId} {args : Array Value} {below : List Frame} {meth : Method} {c : Code} {X : gw_X} {Y : gw_M} {z : (Int32 × gw_M)} (C0 : gw_C ((Cond.code yy_mo_owesRent by_mo_owesRent 5 (some .boolean)) :: gw_w) by_mo_owesRent 5 (some .boolean) "AccountMachineModel" X p s m args meth c) {K4 : gw_M → Nat → Int32 → Int32 → Option (Int32 × gw_M)} (hK4 : ∀ (M : gw_M) (a0 : Nat) (v1 : Int32) (v2 : Int32) (H : Heap) (locs : List Loc) (ls : Array Slot), gr_k a0 = (11, 0) → gw_G X (gw_E X Y M) s H locs → lv_has ls 5 [(0, .ref (gr_a X a0)), (1, .int v1), (2, .int v2)] → K4 M a0 v1 v2 = some z → W p l e rm_mo_owesRent s m args below meth c H locs 0 0 (MQ below (gw_Qi X (fun M => (gw_E X Y M)) z) args s 0 0 (gw_A X)) (F0 m 4 ls [])) (M : gw_M) (a0 : Nat) (v1 : Int32) (v2 : Int32) (H : Heap) (locs : List Loc) (ls : Array Slot) (ha0 : gr_k a0 = (11, 0)) (G : gw_G X (gw_E X Y M) s H locs) (hl : lv_has ls 5 [(0, .ref (gr_a X a0)), (1, .int v1), (2, .int v2)]) (hF : mo_owesRent_b4 K4 M a0 v1 v2 = some z) : W p l e rm_mo_owesRent s m args below meth c H locs 0 0 (MQ below (gw_Qi X (fun M => (gw_E X Y M)) z) args s 0 0 (gw_A X)) (F0 m 4 ls []) := by
  obtain ⟨hx, hb, hml, hown, hts, hr, hlocks, hK⟩ := id C0
  have hg : ∀ w ∈ gw_w, w.before args s = true := fun w h => hts w (List.mem_cons_of_mem _ h)
  unfold mo_owesRent_b4 at hF
  refine lv_iload_n hx hb dd_mo_owesRent_4 rfl (lv_at hl 2 rfl) ?_
  refine lv_aload_n hx hb dd_mo_owesRent_5 rfl (lv_at hl 0 rfl) ?_
  refine gf_mo_orders hx hb hg hown (hg _ kw_270) hK G ha0 dd_mo_owesRent_6 ?_
  refine lv_icmp_ge (tgt := 99) hx hb dd_mo_owesRent_9 (by decide) (fun h9 => ?_) (fun h9 => ?_)
  · replace hF := gw_et h9 hF
    refine lv_iload_n hx hb dd_mo_owesRent_99 rfl (lv_at hl 1 rfl) ?_
    obtain ⟨h100, hF⟩ := gw_gd hF
    exact W.zret hx hb hr (gw_bn h100) (fun t ht hW => gw_endi (EF := (fun M => (gw_E X Y M))) (M := M) G ht hF) G.2.2.2.2 dd_mo_owesRent_100 hlocks
  · replace hF := gw_ef h9 hF
    refine lv_iconst (v := (0 : Int32)) hx hb dd_mo_owesRent_12 (by decide) ?_
    refine lv_istore_n (i := 3) (lv' := [(3, .int (0 : Int32)), (0, .ref (gr_a X a0)), (1, .int v1), (2, .int v2)]) hx hb dd_mo_owesRent_13 rfl hl (by decide) rfl (fun ls hl => ?_)
    exact wl_mo_owesRent_14 C0 hK4 2100 M a0 v1 v2 (0 : Int32) _ _ _ ha0 G (lv_sub hl [1, 2, 3, 0] rfl) hF
theorem wl_mo_owesRent_4 {p : Program} {l : Launch} {e : Env} {s : State} {m : MethodId} {args : Array Value} {below : List Frame} {meth : Method} {c : Code} {X : gw_X} {Y : gw_M} {z : (Int32 × gw_M)} (C0 : gw_C ((Cond.code yy_mo_owesRent by_mo_owesRent 5 (some .boolean)) :: gw_w) by_mo_owesRent 5 (some .boolean) "AccountMachineModel" X p s m args meth c) : ∀ n : Nat, ∀ (M : gw_M) (a0 : Nat) (v1 : Int32) (v2 : Int32) (H : Heap) (locs : List Loc) (ls : Array Slot), gr_k a0 = (11, 0) → gw_G X (gw_E X Y M) s H locs → lv_has ls 5 [(0, .ref (gr_a X a0)), (1, .int v1), (2, .int v2)] → mo_owesRent_l4  n M a0 v1 v2 = some z → W p l e rm_mo_owesRent s m args below meth c H locs 0 0 (MQ below (gw_Qi X (fun M => (gw_E X Y M)) z) args s 0 0 (gw_A X)) (F0 m 4 ls []) := by
  intro n
  induction n with
  | zero =>
    intro M a0 v1 v2 H locs ls ha0 G hl hF
    have hF : (none : Option (Int32 × gw_M)) = some z := hF
    cases hF
  | succ n ih =>
    intro M a0 v1 v2 H locs ls ha0 G hl hF
    exact wb_mo_owesRent_4 C0  ih M a0 v1 v2 H locs ls ha0 G hl hF
set_option maxRecDepth 100000 in
set_option maxHeartbeats 4000000 in
theorem wb_mo_owesRent_0 {p : Program} {l : Launch} {e : Env} {s : State} {m : MethodId} {args : Array Value} {below : List Frame} {meth : Method} {c : Code} {X : gw_X} {Y : gw_M} {z : (Int32 × gw_M)} (C0 : gw_C ((Cond.code yy_mo_owesRent by_mo_owesRent 5 (some .boolean)) :: gw_w) by_mo_owesRent 5 (some .boolean) "AccountMachineModel" X p s m args meth c) (M : gw_M) (a0 : Nat) (H : Heap) (locs : List Loc) (ls : Array Slot) (ha0 : gr_k a0 = (11, 0)) (G : gw_G X (gw_E X Y M) s H locs) (hl : lv_has ls 5 [(0, .ref (gr_a X a0))]) (hF : mo_owesRent_b0  M a0 = some z) : W p l e rm_mo_owesRent s m args below meth c H locs 0 0 (MQ below (gw_Qi X (fun M => (gw_E X Y M)) z) args s 0 0 (gw_A X)) (F0 m 0 ls []) := by
  obtain ⟨hx, hb, hml, hown, hts, hr, hlocks, hK⟩ := id C0
  have hg : ∀ w ∈ gw_w, w.before args s = true := fun w h => hts w (List.mem_cons_of_mem _ h)
  unfold mo_owesRent_b0 at hF
  refine lv_iconst (v := (0 : Int32)) hx hb dd_mo_owesRent_0 (by decide) ?_
  refine lv_istore_n (i := 1) (lv' := [(1, .int (0 : Int32)), (0, .ref (gr_a X a0))]) hx hb dd_mo_owesRent_1 rfl hl (by decide) rfl (fun ls hl => ?_)
  refine lv_iconst (v := (0 : Int32)) hx hb dd_mo_owesRent_2 (by decide) ?_
  refine lv_istore_n (i := 2) (lv' := [(2, .int (0 : Int32)), (1, .int (0 : Int32)), (0, .ref (gr_a X a0))]) hx hb dd_mo_owesRent_3 rfl hl (by decide) rfl (fun ls hl => ?_)
  exact wl_mo_owesRent_4 C0  2100 M a0 (0 : Int32) (0 : Int32) _ _ _ ha0 G (lv_sub hl [2, 1, 0] rfl) hF
set_option maxRecDepth 100000 in
set_option maxHeartbeats 4000000 in
theorem ct_mo_owesRent (l : Launch) (X : gw_X) (Y : gw_M) (M : gw_M) (a0 : Nat) (ha0 : gr_k a0 = (11, 0)) (z : (Int32 × gw_M)) (hF : mo_owesRent_b0 M a0 = some z) : Met l yy_mo_owesRent ((Cond.code yy_mo_owesRent by_mo_owesRent 5 (some .boolean)) :: gw_w) rm_mo_owesRent (va_Pc [.ref (gr_a X a0)] (gw_B X (gw_E X Y M))) (gw_Qi X (fun M => (gw_E X Y M)) z) 0 0 (gw_A X) := by
  refine Met.ofW (cc := by_mo_owesRent) (maxL := 5) (ret := (some .boolean)) (by decide) rfl ?_
  intro p e s m args below meth c s₁ B hml hv
  obtain ⟨rfl, hB⟩ := hv
  rw [lg_entry_eq]
  have hl := lv_entry ([.ref (gr_a X a0)]) (n := 5) (Nat.le_of_ble_eq_true rfl)
  generalize (lg_sl ([.ref (gr_a X a0)]) ++ List.replicate (5 - (lg_sl ([.ref (gr_a X a0)])).length) Slot.unset).toArray = ls at hl ⊢
  have hl : lv_has ls 5 [(0, .ref (gr_a X a0))] := hl
  exact wb_mo_owesRent_0 (gw_ctx B hml rfl hB) M a0 _ _ _ ha0 (gw_start hB) hl hF
/-! AccountMachineModel.run(I)I -/
abbrev rm_mo_run : Room := { frames := 8, cells := 0, slots := 0, locals := 206 }
theorem dd_mo_run_0 : decode by_mo_run 0 = .ok (.aload_n 0, 1) := by decide +kernel
theorem dd_mo_run_1 : decode by_mo_run 1 = .ok (.getfield 101, 3) := by decide +kernel
theorem dd_mo_run_4 : decode by_mo_run 4 = .ok (.ifCond .eq 15, 3) := by decide +kernel
theorem dd_mo_run_7 : decode by_mo_run 7 = .ok (.iload_n 1, 1) := by decide +kernel
theorem dd_mo_run_8 : decode by_mo_run 8 = .ok (.i2l, 1) := by decide +kernel
theorem dd_mo_run_9 : decode by_mo_run 9 = .ok (.lconst 0, 1) := by decide +kernel
theorem dd_mo_run_10 : decode by_mo_run 10 = .ok (.ldc2_w 117, 3) := by decide +kernel
theorem dd_mo_run_13 : decode by_mo_run 13 = .ok (.invokestatic 83, 3) := by decide +kernel
theorem dd_mo_run_16 : decode by_mo_run 16 = .ok (.ifCond .ne 5, 3) := by decide +kernel
theorem dd_mo_run_19 : decode by_mo_run 19 = .ok (.iconst (-1), 1) := by decide +kernel
theorem dd_mo_run_20 : decode by_mo_run 20 = .ok (.ireturn, 1) := by decide +kernel
theorem dd_mo_run_21 : decode by_mo_run 21 = .ok (.aload_n 0, 1) := by decide +kernel
theorem dd_mo_run_22 : decode by_mo_run 22 = .ok (.iconst 0, 1) := by decide +kernel
theorem dd_mo_run_23 : decode by_mo_run 23 = .ok (.bipush 8, 2) := by decide +kernel
theorem dd_mo_run_25 : decode by_mo_run 25 = .ok (.invokevirtual 216, 3) := by decide +kernel
theorem dd_mo_run_28 : decode by_mo_run 28 = .ok (.aload_n 0, 1) := by decide +kernel
theorem dd_mo_run_29 : decode by_mo_run 29 = .ok (.iload_n 1, 1) := by decide +kernel
theorem dd_mo_run_30 : decode by_mo_run 30 = .ok (.putfield 137, 3) := by decide +kernel
theorem dd_mo_run_33 : decode by_mo_run 33 = .ok (.aload_n 0, 1) := by decide +kernel
theorem dd_mo_run_34 : decode by_mo_run 34 = .ok (.iconst 0, 1) := by decide +kernel
theorem dd_mo_run_35 : decode by_mo_run 35 = .ok (.putfield 182, 3) := by decide +kernel
theorem dd_mo_run_38 : decode by_mo_run 38 = .ok (.aload_n 0, 1) := by decide +kernel
theorem dd_mo_run_39 : decode by_mo_run 39 = .ok (.lconst 0, 1) := by decide +kernel
theorem dd_mo_run_40 : decode by_mo_run 40 = .ok (.putfield 185, 3) := by decide +kernel
theorem dd_mo_run_43 : decode by_mo_run 43 = .ok (.iconst 0, 1) := by decide +kernel
theorem dd_mo_run_44 : decode by_mo_run 44 = .ok (.istore_n 2, 1) := by decide +kernel
theorem dd_mo_run_45 : decode by_mo_run 45 = .ok (.iconst 0, 1) := by decide +kernel
theorem dd_mo_run_46 : decode by_mo_run 46 = .ok (.istore_n 3, 1) := by decide +kernel
theorem dd_mo_run_47 : decode by_mo_run 47 = .ok (.iload_n 3, 1) := by decide +kernel
theorem dd_mo_run_48 : decode by_mo_run 48 = .ok (.aload_n 0, 1) := by decide +kernel
theorem dd_mo_run_49 : decode by_mo_run 49 = .ok (.getfield 101, 3) := by decide +kernel
theorem dd_mo_run_52 : decode by_mo_run 52 = .ok (.if_icmp .ge 37, 3) := by decide +kernel
theorem dd_mo_run_55 : decode by_mo_run 55 = .ok (.iload_n 2, 1) := by decide +kernel
theorem dd_mo_run_56 : decode by_mo_run 56 = .ok (.ifCond .ne 33, 3) := by decide +kernel
theorem dd_mo_run_59 : decode by_mo_run 59 = .ok (.aload_n 0, 1) := by decide +kernel
theorem dd_mo_run_60 : decode by_mo_run 60 = .ok (.iload_n 3, 1) := by decide +kernel
theorem dd_mo_run_61 : decode by_mo_run 61 = .ok (.invokevirtual 220, 3) := by decide +kernel
theorem dd_mo_run_64 : decode by_mo_run 64 = .ok (.istore 4, 2) := by decide +kernel
theorem dd_mo_run_66 : decode by_mo_run 66 = .ok (.iload 4, 2) := by decide +kernel
theorem dd_mo_run_68 : decode by_mo_run 68 = .ok (.ifCond .le 13, 3) := by decide +kernel
theorem dd_mo_run_71 : decode by_mo_run 71 = .ok (.iload 4, 2) := by decide +kernel
theorem dd_mo_run_73 : decode by_mo_run 73 = .ok (.bipush 100, 2) := by decide +kernel
theorem dd_mo_run_75 : decode by_mo_run 75 = .ok (.iload_n 3, 1) := by decide +kernel
theorem dd_mo_run_76 : decode by_mo_run 76 = .ok (.imul, 1) := by decide +kernel
theorem dd_mo_run_77 : decode by_mo_run 77 = .ok (.iadd, 1) := by decide +kernel
theorem dd_mo_run_78 : decode by_mo_run 78 = .ok (.goto 4, 3) := by decide +kernel
theorem dd_mo_run_81 : decode by_mo_run 81 = .ok (.iconst 0, 1) := by decide +kernel
theorem dd_mo_run_82 : decode by_mo_run 82 = .ok (.istore_n 2, 1) := by decide +kernel
theorem dd_mo_run_83 : decode by_mo_run 83 = .ok (.iinc 3 1, 3) := by decide +kernel
theorem dd_mo_run_86 : decode by_mo_run 86 = .ok (.goto (-39), 3) := by decide +kernel
theorem dd_mo_run_89 : decode by_mo_run 89 = .ok (.iload_n 2, 1) := by decide +kernel
theorem dd_mo_run_90 : decode by_mo_run 90 = .ok (.ifCond .ne 14, 3) := by decide +kernel
theorem dd_mo_run_93 : decode by_mo_run 93 = .ok (.aload_n 0, 1) := by decide +kernel
theorem dd_mo_run_94 : decode by_mo_run 94 = .ok (.invokevirtual 223, 3) := by decide +kernel
theorem dd_mo_run_97 : decode by_mo_run 97 = .ok (.ifCond .eq 7, 3) := by decide +kernel
theorem dd_mo_run_100 : decode by_mo_run 100 = .ok (.sipush 314, 3) := by decide +kernel
theorem dd_mo_run_103 : decode by_mo_run 103 = .ok (.istore_n 2, 1) := by decide +kernel
theorem dd_mo_run_104 : decode by_mo_run 104 = .ok (.iload_n 2, 1) := by decide +kernel
theorem dd_mo_run_105 : decode by_mo_run 105 = .ok (.ifCond .eq 10, 3) := by decide +kernel
theorem dd_mo_run_108 : decode by_mo_run 108 = .ok (.aload_n 0, 1) := by decide +kernel
theorem dd_mo_run_109 : decode by_mo_run 109 = .ok (.bipush 8, 2) := by decide +kernel
theorem dd_mo_run_111 : decode by_mo_run 111 = .ok (.iconst 0, 1) := by decide +kernel
theorem dd_mo_run_112 : decode by_mo_run 112 = .ok (.invokevirtual 216, 3) := by decide +kernel
theorem dd_mo_run_115 : decode by_mo_run 115 = .ok (.aload_n 0, 1) := by decide +kernel
theorem dd_mo_run_116 : decode by_mo_run 116 = .ok (.iconst 0, 1) := by decide +kernel
theorem dd_mo_run_117 : decode by_mo_run 117 = .ok (.putfield 101, 3) := by decide +kernel
theorem dd_mo_run_120 : decode by_mo_run 120 = .ok (.iload_n 2, 1) := by decide +kernel
theorem dd_mo_run_121 : decode by_mo_run 121 = .ok (.ireturn, 1) := by decide +kernel
def mo_run_b115 (M : gw_M) (a0 : Nat) (v2 : Int32) : Option (Int32 × gw_M) :=
  gw_lt (gw_sI M a0 11 (0 : Int32)) (fun M117 => some (v2, M117))
def mo_run_b104 (M : gw_M) (a0 : Nat) (v2 : Int32) : Option (Int32 × gw_M) :=
  if v2 = (0 : Int32) then (mo_run_b115  M a0 v2) else (gw_bd (mo_copyAccounts_b0 M a0 (8 : Int32) (0 : Int32)) (fun _ M112 => mo_run_b115  M112 a0 v2))
def mo_run_b89 (M : gw_M) (a0 : Nat) (v2 : Int32) : Option (Int32 × gw_M) :=
  if v2 = (0 : Int32) then (gw_bd (mo_owesRent_b0 M a0) (fun r94 M94 => if r94 = (0 : Int32) then (mo_run_b104  M94 a0 v2) else (mo_run_b104  M94 a0 (314 : Int32)))) else (mo_run_b104  M a0 v2)
def mo_run_b82 (K47 : gw_M → Nat → Int32 → Int32 → Option (Int32 × gw_M)) (M : gw_M) (a0 : Nat) (v3 : Int32) (t0 : Int32) : Option (Int32 × gw_M) :=
  K47 M a0 t0 (v3 + (1 : Int32))
def mo_run_b47 (K47 : gw_M → Nat → Int32 → Int32 → Option (Int32 × gw_M)) (M : gw_M) (a0 : Nat) (v2 : Int32) (v3 : Int32) : Option (Int32 × gw_M) :=
  if (M.1 a0 11) ≤ v3 then (mo_run_b89  M a0 v2) else (if v2 = (0 : Int32) then (gw_bd (mo_carryOut_b0 M a0 v3) (fun r61 M61 => if r61 ≤ (0 : Int32) then (mo_run_b82 K47 M61 a0 v3 (0 : Int32)) else (mo_run_b82 K47 M61 a0 v3 (r61 + ((100 : Int32) * v3))))) else (mo_run_b89  M a0 v2))
def mo_run_l47 : Nat → gw_M → Nat → Int32 → Int32 → Option (Int32 × gw_M)
  | 0 => fun _ _ _ _ => none
  | n + 1 => mo_run_b47  (mo_run_l47  n)
def mo_run_b0 (M : gw_M) (a0 : Nat) (v1 : Int32) : Option (Int32 × gw_M) :=
  if (M.1 a0 11) = (0 : Int32) then (some ((-1 : Int32), M)) else (gw_bd (mo_in_b0 M v1.toInt64 (0 : Int64) (2000 : Int64)) (fun r13 M13 => if r13 = (0 : Int32) then (some ((-1 : Int32), M13)) else (gw_bd (mo_copyAccounts_b0 M13 a0 (0 : Int32) (8 : Int32)) (fun _ M25 => gw_lt (gw_sI M25 a0 24 v1) (fun M30 => gw_lt (gw_sI M30 a0 27 (0 : Int32)) (fun M35 => gw_lt (gw_sL M35 a0 25 (0 : Int64)) (fun M40 => mo_run_l47  2100 M40 a0 (0 : Int32) (0 : Int32))))))))
set_option maxRecDepth 100000 in
set_option maxHeartbeats 4000000 in
theorem wb_mo_run_115 {p : Program} {l : Launch} {e : Env} {s : State} {m : MethodId} {args : Array Value} {below : List Frame} {meth : Method} {c : Code} {X : gw_X} {Y : gw_M} {z : (Int32 × gw_M)} (C0 : gw_C ((Cond.code yy_mo_run by_mo_run 5 (some .int)) :: gw_w) by_mo_run 5 (some .int) "AccountMachineModel" X p s m args meth c) (M : gw_M) (a0 : Nat) (v2 : Int32) (H : Heap) (locs : List Loc) (ls : Array Slot) (ha0 : gr_k a0 = (11, 0)) (G : gw_G X (gw_E X Y M) s H locs) (hl : lv_has ls 5 [(0, .ref (gr_a X a0)), (2, .int v2)]) (hF : mo_run_b115  M a0 v2 = some z) : W p l e rm_mo_run s m args below meth c H locs 0 0 (MQ below (gw_Qi X (fun M => (gw_E X Y M)) z) args s 0 0 (gw_A X)) (F0 m 115 ls []) := by
  obtain ⟨hx, hb, hml, hown, hts, hr, hlocks, hK⟩ := id C0
  have hg : ∀ w ∈ gw_w, w.before args s = true := fun w h => hts w (List.mem_cons_of_mem _ h)
  unfold mo_run_b115 at hF
  refine lv_aload_n hx hb dd_mo_run_115 rfl (lv_at hl 0 rfl) ?_
  refine lv_iconst (v := (0 : Int32)) hx hb dd_mo_run_116 (by decide) ?_
  refine gp_mo_orders hx hb hg hown (hg _ kw_270) hK G ha0 dd_mo_run_117 (fun M117 H locs e117 G => ?_)
  replace hF := gw_ly e117 hF
  refine lv_iload_n hx hb dd_mo_run_120 rfl (lv_at hl 1 rfl) ?_
  exact W.iret hx hb hr (fun t ht hW => gw_endi (EF := (fun M => (gw_E X Y M))) (M := M117) G ht hF) G.2.2.2.2 dd_mo_run_121 hlocks
set_option maxRecDepth 100000 in
set_option maxHeartbeats 4000000 in
theorem wb_mo_run_104 {p : Program} {l : Launch} {e : Env} {s : State} {m : MethodId} {args : Array Value} {below : List Frame} {meth : Method} {c : Code} {X : gw_X} {Y : gw_M} {z : (Int32 × gw_M)} (C0 : gw_C ((Cond.code yy_mo_run by_mo_run 5 (some .int)) :: gw_w) by_mo_run 5 (some .int) "AccountMachineModel" X p s m args meth c) (M : gw_M) (a0 : Nat) (v2 : Int32) (H : Heap) (locs : List Loc) (ls : Array Slot) (ha0 : gr_k a0 = (11, 0)) (G : gw_G X (gw_E X Y M) s H locs) (hl : lv_has ls 5 [(0, .ref (gr_a X a0)), (2, .int v2)]) (hF : mo_run_b104  M a0 v2 = some z) : W p l e rm_mo_run s m args below meth c H locs 0 0 (MQ below (gw_Qi X (fun M => (gw_E X Y M)) z) args s 0 0 (gw_A X)) (F0 m 104 ls []) := by
  obtain ⟨hx, hb, hml, hown, hts, hr, hlocks, hK⟩ := id C0
  have hg : ∀ w ∈ gw_w, w.before args s = true := fun w h => hts w (List.mem_cons_of_mem _ h)
  unfold mo_run_b104 at hF
  refine lv_iload_n hx hb dd_mo_run_104 rfl (lv_at hl 1 rfl) ?_
  refine lv_if_eq (tgt := 115) hx hb dd_mo_run_105 (by decide) (fun h105 => ?_) (fun h105 => ?_)
  · replace hF := gw_et h105 hF
    exact wb_mo_run_115 C0  M a0 v2 _ _ _ ha0 G (lv_sub hl [0, 1] rfl) hF
  · replace hF := gw_ef h105 hF
    refine lv_aload_n hx hb dd_mo_run_108 rfl (lv_at hl 0 rfl) ?_
    refine lv_bipush (v := (8 : Int32)) hx hb dd_mo_run_109 (by decide) ?_
    refine lv_iconst (v := (0 : Int32)) hx hb dd_mo_run_111 (by decide) ?_
    obtain ⟨u112, M112, hc112, hF⟩ := gw_be hF
    refine gw_cv G (va_runV (As := [.int (8 : Int32), .int (0 : Int32)]) (rest := []) ⟨hx, hb, hml, hown, hts⟩ (ct_mo_copyAccounts l X Y M a0 (8 : Int32) (0 : Int32) ha0 _ hc112) (cwV 2 hts (gw_gV kw_394 kw_395 kw_396 kw_253 kw_393) rfl rfl rfl (by decide +kernel) ⟨Nat.le_of_ble_eq_true rfl, Nat.le_of_ble_eq_true rfl⟩) ⟨gw_blind, gw_recv_mo hK G ha0, gw_pre hK G⟩ rfl rfl hl.1 rfl (Nat.le_of_ble_eq_true rfl) dd_mo_run_112 ⟨Nat.le_of_ble_eq_true rfl, Nat.le_of_ble_eq_true rfl⟩) (fun H locs G => ?_)
    exact wb_mo_run_115 C0  M112 a0 v2 _ _ _ ha0 G (lv_sub hl [0, 1] rfl) hF
set_option maxRecDepth 100000 in
set_option maxHeartbeats 4000000 in
theorem wb_mo_run_89 {p : Program} {l : Launch} {e : Env} {s : State} {m : MethodId} {args : Array Value} {below : List Frame} {meth : Method} {c : Code} {X : gw_X} {Y : gw_M} {z : (Int32 × gw_M)} (C0 : gw_C ((Cond.code yy_mo_run by_mo_run 5 (some .int)) :: gw_w) by_mo_run 5 (some .int) "AccountMachineModel" X p s m args meth c) (M : gw_M) (a0 : Nat) (v2 : Int32) (H : Heap) (locs : List Loc) (ls : Array Slot) (ha0 : gr_k a0 = (11, 0)) (G : gw_G X (gw_E X Y M) s H locs) (hl : lv_has ls 5 [(0, .ref (gr_a X a0)), (2, .int v2)]) (hF : mo_run_b89  M a0 v2 = some z) : W p l e rm_mo_run s m args below meth c H locs 0 0 (MQ below (gw_Qi X (fun M => (gw_E X Y M)) z) args s 0 0 (gw_A X)) (F0 m 89 ls []) := by
  obtain ⟨hx, hb, hml, hown, hts, hr, hlocks, hK⟩ := id C0
  have hg : ∀ w ∈ gw_w, w.before args s = true := fun w h => hts w (List.mem_cons_of_mem _ h)
  unfold mo_run_b89 at hF
  refine lv_iload_n hx hb dd_mo_run_89 rfl (lv_at hl 1 rfl) ?_
  refine lv_if_ne (tgt := 104) hx hb dd_mo_run_90 (by decide) (fun h90 => ?_) (fun h90 => ?_)
  · replace hF := gw_ef h90 hF
    exact wb_mo_run_104 C0  M a0 v2 _ _ _ ha0 G (lv_sub hl [0, 1] rfl) hF
  · replace hF := gw_et h90 hF
    refine lv_aload_n hx hb dd_mo_run_93 rfl (lv_at hl 0 rfl) ?_
    obtain ⟨r94, M94, hc94, hF⟩ := gw_be hF
    refine gw_ci G (va_runV (As := []) (rest := []) ⟨hx, hb, hml, hown, hts⟩ (ct_mo_owesRent l X Y M a0 ha0 _ hc94) (cwV 0 hts (gw_gV kw_398 kw_399 kw_400 kw_253 kw_397) rfl rfl rfl (by decide +kernel) ⟨Nat.le_of_ble_eq_true rfl, Nat.le_of_ble_eq_true rfl⟩) ⟨gw_blind, gw_recv_mo hK G ha0, gw_pre hK G⟩ rfl rfl hl.1 rfl (Nat.le_of_ble_eq_true rfl) dd_mo_run_94 ⟨Nat.le_of_ble_eq_true rfl, Nat.le_of_ble_eq_true rfl⟩) (fun H locs G => ?_)
    refine lv_if_eq (tgt := 104) hx hb dd_mo_run_97 (by decide) (fun h97 => ?_) (fun h97 => ?_)
    · replace hF := gw_et h97 hF
      exact wb_mo_run_104 C0  M94 a0 v2 _ _ _ ha0 G (lv_sub hl [0, 1] rfl) hF
    · replace hF := gw_ef h97 hF
      refine lv_sipush (v := (314 : Int32)) hx hb dd_mo_run_100 (by decide) ?_
      refine lv_istore_n (i := 2) (lv' := [(2, .int (314 : Int32)), (0, .ref (gr_a X a0))]) hx hb dd_mo_run_103 rfl hl (by decide) rfl (fun ls hl => ?_)
      exact wb_mo_run_104 C0  M94 a0 (314 : Int32) _ _ _ ha0 G (lv_sub hl [1, 0] rfl) hF
set_option maxRecDepth 100000 in
set_option maxHeartbeats 4000000 in
theorem wb_mo_run_82 {p : Program} {l : Launch} {e : Env} {s : State} {m : MethodId} {args : Array Value} {below : List Frame} {meth : Method} {c : Code} {X : gw_X} {Y : gw_M} {z : (Int32 × gw_M)} (C0 : gw_C ((Cond.code yy_mo_run by_mo_run 5 (some .int)) :: gw_w) by_mo_run 5 (some .int) "AccountMachineModel" X p s m args meth c) {K47 : gw_M → Nat → Int32 → Int32 → Option (Int32 × gw_M)} (hK47 : ∀ (M : gw_M) (a0 : Nat) (v2 : Int32) (v3 : Int32) (H : Heap) (locs : List Loc) (ls : Array Slot), gr_k a0 = (11, 0) → gw_G X (gw_E X Y M) s H locs → lv_has ls 5 [(0, .ref (gr_a X a0)), (2, .int v2), (3, .int v3)] → K47 M a0 v2 v3 = some z → W p l e rm_mo_run s m args below meth c H locs 0 0 (MQ below (gw_Qi X (fun M => (gw_E X Y M)) z) args s 0 0 (gw_A X)) (F0 m 47 ls [])) (M : gw_M) (a0 : Nat) (v3 : Int32) (t0 : Int32) (H : Heap) (locs : List Loc) (ls : Array Slot) (ha0 : gr_k a0 = (11, 0)) (G : gw_G X (gw_E X Y M) s H locs) (hl : lv_has ls 5 [(0, .ref (gr_a X a0)), (3, .int v3)]) (hF : mo_run_b82 K47 M a0 v3 t0 = some z) : W p l e rm_mo_run s m args below meth c H locs 0 0 (MQ below (gw_Qi X (fun M => (gw_E X Y M)) z) args s 0 0 (gw_A X)) (F0 m 82 ls [.int t0]) := by
  obtain ⟨hx, hb, hml, hown, hts, hr, hlocks, hK⟩ := id C0
  have hg : ∀ w ∈ gw_w, w.before args s = true := fun w h => hts w (List.mem_cons_of_mem _ h)
  unfold mo_run_b82 at hF
  refine lv_istore_n (i := 2) (lv' := [(2, .int t0), (0, .ref (gr_a X a0)), (3, .int v3)]) hx hb dd_mo_run_82 rfl hl (by decide) rfl (fun ls hl => ?_)
  refine lv_iinc (k := 2) (v := v3 + (1 : Int32)) (lv' := [(3, .int (v3 + (1 : Int32))), (2, .int t0), (0, .ref (gr_a X a0))]) hx hb dd_mo_run_83 hl rfl rfl (by decide) rfl (fun ls hl => ?_)
  refine lv_goto (tgt := 47) hx hb dd_mo_run_86 (by decide) ?_
  exact hK47 M a0 t0 (v3 + (1 : Int32)) _ _ _ ha0 G (lv_sub hl [2, 1, 0] rfl) hF
set_option maxRecDepth 100000 in
set_option maxHeartbeats 4000000 in
theorem wb_mo_run_47 {p : Program} {l : Launch} {e : Env} {s : State} {m : MethodId} {args : Array Value} {below : List Frame} {meth : Method} {c : Code} {X : gw_X} {Y : gw_M} {z : (Int32 × gw_M)} (C0 : gw_C ((Cond.code yy_mo_run by_mo_run 5 (some .int)) :: gw_w) by_mo_run 5 (some .int) "AccountMachineModel" X p s m args meth c) {K47 : gw_M → Nat → Int32 → Int32 → Option (Int32 × gw_M)} (hK47 : ∀ (M : gw_M) (a0 : Nat) (v2 : Int32) (v3 : Int32) (H : Heap) (locs : List Loc) (ls : Array Slot), gr_k a0 = (11, 0) → gw_G X (gw_E X Y M) s H locs → lv_has ls 5 [(0, .ref (gr_a X a0)), (2, .int v2), (3, .int v3)] → K47 M a0 v2 v3 = some z → W p l e rm_mo_run s m args below meth c H locs 0 0 (MQ below (gw_Qi X (fun M => (gw_E X Y M)) z) args s 0 0 (gw_A X)) (F0 m 47 ls [])) (M : gw_M) (a0 : Nat) (v2 : Int32) (v3 : Int32) (H : Heap) (locs : List Loc) (ls : Array Slot) (ha0 : gr_k a0 = (11, 0)) (G : gw_G X (gw_E X Y M) s H locs) (hl : lv_has ls 5 [(0, .ref (gr_a X a0)), (2, .int v2), (3, .int v3)]) (hF : mo_run_b47 K47 M a0 v2 v3 = some z) : W p l e rm_mo_run s m args below meth c H locs 0 0 (MQ below (gw_Qi X (fun M => (gw_E X Y M)) z) args s 0 0 (gw_A X)) (F0 m 47 ls []) := by
  obtain ⟨hx, hb, hml, hown, hts, hr, hlocks, hK⟩ := id C0
  have hg : ∀ w ∈ gw_w, w.before args s = true := fun w h => hts w (List.mem_cons_of_mem _ h)
  unfold mo_run_b47 at hF
  refine lv_iload_n hx hb dd_mo_run_47 rfl (lv_at hl 2 rfl) ?_
  refine lv_aload_n hx hb dd_mo_run_48 rfl (lv_at hl 0 rfl) ?_
  refine gf_mo_orders hx hb hg hown (hg _ kw_270) hK G ha0 dd_mo_run_49 ?_
  refine lv_icmp_ge (tgt := 89) hx hb dd_mo_run_52 (by decide) (fun h52 => ?_) (fun h52 => ?_)
  · replace hF := gw_et h52 hF
    exact wb_mo_run_89 C0  M a0 v2 _ _ _ ha0 G (lv_sub hl [0, 1] rfl) hF
  · replace hF := gw_ef h52 hF
    refine lv_iload_n hx hb dd_mo_run_55 rfl (lv_at hl 1 rfl) ?_
    refine lv_if_ne (tgt := 89) hx hb dd_mo_run_56 (by decide) (fun h56 => ?_) (fun h56 => ?_)
    · replace hF := gw_ef h56 hF
      exact wb_mo_run_89 C0  M a0 v2 _ _ _ ha0 G (lv_sub hl [0, 1] rfl) hF
    · replace hF := gw_et h56 hF
      refine lv_aload_n hx hb dd_mo_run_59 rfl (lv_at hl 0 rfl) ?_
      refine lv_iload_n hx hb dd_mo_run_60 rfl (lv_at hl 2 rfl) ?_
      obtain ⟨r61, M61, hc61, hF⟩ := gw_be hF
      refine gw_ci G (va_runV (As := [.int v3]) (rest := []) ⟨hx, hb, hml, hown, hts⟩ (ct_mo_carryOut l X Y M a0 v3 ha0 _ hc61) (cwV 1 hts (gw_gV kw_402 kw_403 kw_404 kw_253 kw_401) rfl rfl rfl (by decide +kernel) ⟨Nat.le_of_ble_eq_true rfl, Nat.le_of_ble_eq_true rfl⟩) ⟨gw_blind, gw_recv_mo hK G ha0, gw_pre hK G⟩ rfl rfl hl.1 rfl (Nat.le_of_ble_eq_true rfl) dd_mo_run_61 ⟨Nat.le_of_ble_eq_true rfl, Nat.le_of_ble_eq_true rfl⟩) (fun H locs G => ?_)
      refine lv_istore (i := 4) (lv' := [(4, .int r61), (0, .ref (gr_a X a0)), (2, .int v2), (3, .int v3)]) hx hb dd_mo_run_64 hl (by decide) rfl (fun ls hl => ?_)
      refine lv_iload hx hb dd_mo_run_66 (lv_at hl 0 rfl) ?_
      refine lv_if_le (tgt := 81) hx hb dd_mo_run_68 (by decide) (fun h68 => ?_) (fun h68 => ?_)
      · replace hF := gw_et h68 hF
        refine lv_iconst (v := (0 : Int32)) hx hb dd_mo_run_81 (by decide) ?_
        exact wb_mo_run_82 C0 hK47 M61 a0 v3 (0 : Int32) _ _ _ ha0 G (lv_sub hl [1, 3] rfl) hF
      · replace hF := gw_ef h68 hF
        refine lv_iload hx hb dd_mo_run_71 (lv_at hl 0 rfl) ?_
        refine lv_bipush (v := (100 : Int32)) hx hb dd_mo_run_73 (by decide) ?_
        refine lv_iload_n hx hb dd_mo_run_75 rfl (lv_at hl 3 rfl) ?_
        refine lv_imul hx hb dd_mo_run_76 ?_
        refine lv_iadd hx hb dd_mo_run_77 ?_
        refine lv_goto (tgt := 82) hx hb dd_mo_run_78 (by decide) ?_
        exact wb_mo_run_82 C0 hK47 M61 a0 v3 (r61 + ((100 : Int32) * v3)) _ _ _ ha0 G (lv_sub hl [1, 3] rfl) hF
theorem wl_mo_run_47 {p : Program} {l : Launch} {e : Env} {s : State} {m : MethodId} {args : Array Value} {below : List Frame} {meth : Method} {c : Code} {X : gw_X} {Y : gw_M} {z : (Int32 × gw_M)} (C0 : gw_C ((Cond.code yy_mo_run by_mo_run 5 (some .int)) :: gw_w) by_mo_run 5 (some .int) "AccountMachineModel" X p s m args meth c) : ∀ n : Nat, ∀ (M : gw_M) (a0 : Nat) (v2 : Int32) (v3 : Int32) (H : Heap) (locs : List Loc) (ls : Array Slot), gr_k a0 = (11, 0) → gw_G X (gw_E X Y M) s H locs → lv_has ls 5 [(0, .ref (gr_a X a0)), (2, .int v2), (3, .int v3)] → mo_run_l47  n M a0 v2 v3 = some z → W p l e rm_mo_run s m args below meth c H locs 0 0 (MQ below (gw_Qi X (fun M => (gw_E X Y M)) z) args s 0 0 (gw_A X)) (F0 m 47 ls []) := by
  intro n
  induction n with
  | zero =>
    intro M a0 v2 v3 H locs ls ha0 G hl hF
    have hF : (none : Option (Int32 × gw_M)) = some z := hF
    cases hF
  | succ n ih =>
    intro M a0 v2 v3 H locs ls ha0 G hl hF
    exact wb_mo_run_47 C0  ih M a0 v2 v3 H locs ls ha0 G hl hF
set_option maxRecDepth 100000 in
set_option maxHeartbeats 4000000 in
theorem wb_mo_run_0 {p : Program} {l : Launch} {e : Env} {s : State} {m : MethodId} {args : Array Value} {below : List Frame} {meth : Method} {c : Code} {X : gw_X} {Y : gw_M} {z : (Int32 × gw_M)} (C0 : gw_C ((Cond.code yy_mo_run by_mo_run 5 (some .int)) :: gw_w) by_mo_run 5 (some .int) "AccountMachineModel" X p s m args meth c) (M : gw_M) (a0 : Nat) (v1 : Int32) (H : Heap) (locs : List Loc) (ls : Array Slot) (ha0 : gr_k a0 = (11, 0)) (G : gw_G X (gw_E X Y M) s H locs) (hl : lv_has ls 5 [(0, .ref (gr_a X a0)), (1, .int v1)]) (hF : mo_run_b0  M a0 v1 = some z) : W p l e rm_mo_run s m args below meth c H locs 0 0 (MQ below (gw_Qi X (fun M => (gw_E X Y M)) z) args s 0 0 (gw_A X)) (F0 m 0 ls []) := by
  obtain ⟨hx, hb, hml, hown, hts, hr, hlocks, hK⟩ := id C0
  have hg : ∀ w ∈ gw_w, w.before args s = true := fun w h => hts w (List.mem_cons_of_mem _ h)
  unfold mo_run_b0 at hF
  refine lv_aload_n hx hb dd_mo_run_0 rfl (lv_at hl 0 rfl) ?_
  refine gf_mo_orders hx hb hg hown (hg _ kw_270) hK G ha0 dd_mo_run_1 ?_
  refine lv_if_eq (tgt := 19) hx hb dd_mo_run_4 (by decide) (fun h4 => ?_) (fun h4 => ?_)
  · replace hF := gw_et h4 hF
    refine lv_iconst (v := (-1 : Int32)) hx hb dd_mo_run_19 (by decide) ?_
    exact W.iret hx hb hr (fun t ht hW => gw_endi (EF := (fun M => (gw_E X Y M))) (M := M) G ht hF) G.2.2.2.2 dd_mo_run_20 hlocks
  · replace hF := gw_ef h4 hF
    refine lv_iload_n hx hb dd_mo_run_7 rfl (lv_at hl 1 rfl) ?_
    refine lv_i2l (v := v1.toInt64) hx hb dd_mo_run_8 rfl ?_
    refine lv_lconst (v := (0 : Int64)) hx hb dd_mo_run_9 (by decide) ?_
    refine lv_ldc2 (v := (2000 : Int64)) hx hb hown (hg _ kw_300) dd_mo_run_10 ?_
    obtain ⟨r13, M13, hc13, hF⟩ := gw_be hF
    refine gw_ci G (va_runS (As := [.long v1.toInt64, .long (0 : Int64), .long (2000 : Int64)]) (rest := []) ⟨hx, hb, hml, hown, hts⟩ (ct_mo_in l X Y M v1.toInt64 (0 : Int64) (2000 : Int64)  _ hc13) (cwS 3 hts (gw_gS kw_251 kw_252 kw_253 kw_250) rfl rfl rfl (by decide +kernel) ⟨Nat.le_of_ble_eq_true rfl, Nat.le_of_ble_eq_true rfl⟩) ⟨gw_blind, gw_pre hK G⟩ rfl rfl hl.1 rfl (Nat.le_of_ble_eq_true rfl) dd_mo_run_13 ⟨Nat.le_of_ble_eq_true rfl, Nat.le_of_ble_eq_true rfl⟩) (fun H locs G => ?_)
    refine lv_if_ne (tgt := 21) hx hb dd_mo_run_16 (by decide) (fun h16 => ?_) (fun h16 => ?_)
    · replace hF := gw_ef h16 hF
      refine lv_aload_n hx hb dd_mo_run_21 rfl (lv_at hl 0 rfl) ?_
      refine lv_iconst (v := (0 : Int32)) hx hb dd_mo_run_22 (by decide) ?_
      refine lv_bipush (v := (8 : Int32)) hx hb dd_mo_run_23 (by decide) ?_
      obtain ⟨u25, M25, hc25, hF⟩ := gw_be hF
      refine gw_cv G (va_runV (As := [.int (0 : Int32), .int (8 : Int32)]) (rest := []) ⟨hx, hb, hml, hown, hts⟩ (ct_mo_copyAccounts l X Y M13 a0 (0 : Int32) (8 : Int32) ha0 _ hc25) (cwV 2 hts (gw_gV kw_394 kw_395 kw_396 kw_253 kw_393) rfl rfl rfl (by decide +kernel) ⟨Nat.le_of_ble_eq_true rfl, Nat.le_of_ble_eq_true rfl⟩) ⟨gw_blind, gw_recv_mo hK G ha0, gw_pre hK G⟩ rfl rfl hl.1 rfl (Nat.le_of_ble_eq_true rfl) dd_mo_run_25 ⟨Nat.le_of_ble_eq_true rfl, Nat.le_of_ble_eq_true rfl⟩) (fun H locs G => ?_)
      refine lv_aload_n hx hb dd_mo_run_28 rfl (lv_at hl 0 rfl) ?_
      refine lv_iload_n hx hb dd_mo_run_29 rfl (lv_at hl 1 rfl) ?_
      refine gp_mo_meter hx hb hg hown (hg _ kw_314) hK G ha0 dd_mo_run_30 (fun M30 H locs e30 G => ?_)
      replace hF := gw_ly e30 hF
      refine lv_aload_n hx hb dd_mo_run_33 rfl (lv_at hl 0 rfl) ?_
      refine lv_iconst (v := (0 : Int32)) hx hb dd_mo_run_34 (by decide) ?_
      refine W.eq (g2 := F0 m 35 _ _) rfl ?_
      refine gp_mo_written hx hb hg hown (hg _ kw_357) hK G ha0 dd_mo_run_35 (fun M35 H locs e35 G => ?_)
      replace hF := gw_ly e35 hF
      refine lv_aload_n hx hb dd_mo_run_38 rfl (lv_at hl 0 rfl) ?_
      refine lv_lconst (v := (0 : Int64)) hx hb dd_mo_run_39 (by decide) ?_
      refine gp_mo_given hx hb hg hown (hg _ kw_356) hK G ha0 dd_mo_run_40 (fun M40 H locs e40 G => ?_)
      replace hF := gw_ly e40 hF
      refine lv_iconst (v := (0 : Int32)) hx hb dd_mo_run_43 (by decide) ?_
      refine lv_istore_n (i := 2) (lv' := [(2, .int (0 : Int32)), (0, .ref (gr_a X a0)), (1, .int v1)]) hx hb dd_mo_run_44 rfl hl (by decide) rfl (fun ls hl => ?_)
      refine lv_iconst (v := (0 : Int32)) hx hb dd_mo_run_45 (by decide) ?_
      refine lv_istore_n (i := 3) (lv' := [(3, .int (0 : Int32)), (2, .int (0 : Int32)), (0, .ref (gr_a X a0)), (1, .int v1)]) hx hb dd_mo_run_46 rfl hl (by decide) rfl (fun ls hl => ?_)
      exact wl_mo_run_47 C0  2100 M40 a0 (0 : Int32) (0 : Int32) _ _ _ ha0 G (lv_sub hl [2, 1, 0] rfl) hF
    · replace hF := gw_et h16 hF
      refine lv_iconst (v := (-1 : Int32)) hx hb dd_mo_run_19 (by decide) ?_
      exact W.iret hx hb hr (fun t ht hW => gw_endi (EF := (fun M => (gw_E X Y M))) (M := M13) G ht hF) G.2.2.2.2 dd_mo_run_20 hlocks
set_option maxRecDepth 100000 in
set_option maxHeartbeats 4000000 in
theorem ct_mo_run (l : Launch) (X : gw_X) (Y : gw_M) (M : gw_M) (a0 : Nat) (v1 : Int32) (ha0 : gr_k a0 = (11, 0)) (z : (Int32 × gw_M)) (hF : mo_run_b0 M a0 v1 = some z) : Met l yy_mo_run ((Cond.code yy_mo_run by_mo_run 5 (some .int)) :: gw_w) rm_mo_run (va_Pc [.ref (gr_a X a0), .int v1] (gw_B X (gw_E X Y M))) (gw_Qi X (fun M => (gw_E X Y M)) z) 0 0 (gw_A X) := by
  refine Met.ofW (cc := by_mo_run) (maxL := 5) (ret := (some .int)) (by decide) rfl ?_
  intro p e s m args below meth c s₁ B hml hv
  obtain ⟨rfl, hB⟩ := hv
  rw [lg_entry_eq]
  have hl := lv_entry ([.ref (gr_a X a0), .int v1]) (n := 5) (Nat.le_of_ble_eq_true rfl)
  generalize (lg_sl ([.ref (gr_a X a0), .int v1]) ++ List.replicate (5 - (lg_sl ([.ref (gr_a X a0), .int v1])).length) Slot.unset).toArray = ls at hl ⊢
  have hl : lv_has ls 5 [(0, .ref (gr_a X a0)), (1, .int v1)] := hl
  exact wb_mo_run_0 (gw_ctx B hml rfl hB) M a0 v1 _ _ _ ha0 (gw_start hB) hl hF
/-! AccountMachineModel.units()I -/
abbrev rm_mo_units : Room := { frames := 0, cells := 0, slots := 0, locals := 0 }
theorem dd_mo_units_0 : decode by_mo_units 0 = .ok (.aload_n 0, 1) := by decide +kernel
theorem dd_mo_units_1 : decode by_mo_units 1 = .ok (.getfield 137, 3) := by decide +kernel
theorem dd_mo_units_4 : decode by_mo_units 4 = .ok (.ireturn, 1) := by decide +kernel
def mo_units_b0 (M : gw_M) (a0 : Nat) : Option (Int32 × gw_M) :=
  some (M.1 a0 24, M)
set_option maxRecDepth 100000 in
set_option maxHeartbeats 4000000 in
theorem wb_mo_units_0 {p : Program} {l : Launch} {e : Env} {s : State} {m : MethodId} {args : Array Value} {below : List Frame} {meth : Method} {c : Code} {X : gw_X} {Y : gw_M} {z : (Int32 × gw_M)} (C0 : gw_C ((Cond.code yy_mo_units by_mo_units 1 (some .int)) :: gw_w) by_mo_units 1 (some .int) "AccountMachineModel" X p s m args meth c) (M : gw_M) (a0 : Nat) (H : Heap) (locs : List Loc) (ls : Array Slot) (ha0 : gr_k a0 = (11, 0)) (G : gw_G X (gw_E X Y M) s H locs) (hl : lv_has ls 1 [(0, .ref (gr_a X a0))]) (hF : mo_units_b0  M a0 = some z) : W p l e rm_mo_units s m args below meth c H locs 0 0 (MQ below (gw_Qi X (fun M => (gw_E X Y M)) z) args s 0 0 (gw_A X)) (F0 m 0 ls []) := by
  obtain ⟨hx, hb, hml, hown, hts, hr, hlocks, hK⟩ := id C0
  have hg : ∀ w ∈ gw_w, w.before args s = true := fun w h => hts w (List.mem_cons_of_mem _ h)
  unfold mo_units_b0 at hF
  refine lv_aload_n hx hb dd_mo_units_0 rfl (lv_at hl 0 rfl) ?_
  refine gf_mo_meter hx hb hg hown (hg _ kw_314) hK G ha0 dd_mo_units_1 ?_
  exact W.iret hx hb hr (fun t ht hW => gw_endi (EF := (fun M => (gw_E X Y M))) (M := M) G ht hF) G.2.2.2.2 dd_mo_units_4 hlocks
set_option maxRecDepth 100000 in
set_option maxHeartbeats 4000000 in
theorem ct_mo_units (l : Launch) (X : gw_X) (Y : gw_M) (M : gw_M) (a0 : Nat) (ha0 : gr_k a0 = (11, 0)) (z : (Int32 × gw_M)) (hF : mo_units_b0 M a0 = some z) : Met l yy_mo_units ((Cond.code yy_mo_units by_mo_units 1 (some .int)) :: gw_w) rm_mo_units (va_Pc [.ref (gr_a X a0)] (gw_B X (gw_E X Y M))) (gw_Qi X (fun M => (gw_E X Y M)) z) 0 0 (gw_A X) := by
  refine Met.ofW (cc := by_mo_units) (maxL := 1) (ret := (some .int)) (by decide) rfl ?_
  intro p e s m args below meth c s₁ B hml hv
  obtain ⟨rfl, hB⟩ := hv
  rw [lg_entry_eq]
  have hl := lv_entry ([.ref (gr_a X a0)]) (n := 1) (Nat.le_of_ble_eq_true rfl)
  generalize (lg_sl ([.ref (gr_a X a0)]) ++ List.replicate (1 - (lg_sl ([.ref (gr_a X a0)])).length) Slot.unset).toArray = ls at hl ⊢
  have hl : lv_has ls 1 [(0, .ref (gr_a X a0))] := hl
  exact wb_mo_units_0 (gw_ctx B hml rfl hB) M a0 _ _ _ ha0 (gw_start hB) hl hF
/-! AccountMachineModel.result()J -/
abbrev rm_mo_result : Room := { frames := 0, cells := 0, slots := 0, locals := 0 }
theorem dd_mo_result_0 : decode by_mo_result 0 = .ok (.aload_n 0, 1) := by decide +kernel
theorem dd_mo_result_1 : decode by_mo_result 1 = .ok (.getfield 185, 3) := by decide +kernel
theorem dd_mo_result_4 : decode by_mo_result 4 = .ok (.lreturn, 1) := by decide +kernel
def mo_result_b0 (M : gw_M) (a0 : Nat) : Option (Int64 × gw_M) :=
  some (M.2 a0 25, M)
set_option maxRecDepth 100000 in
set_option maxHeartbeats 4000000 in
theorem wb_mo_result_0 {p : Program} {l : Launch} {e : Env} {s : State} {m : MethodId} {args : Array Value} {below : List Frame} {meth : Method} {c : Code} {X : gw_X} {Y : gw_M} {z : (Int64 × gw_M)} (C0 : gw_C ((Cond.code yy_mo_result by_mo_result 1 (some .long)) :: gw_w) by_mo_result 1 (some .long) "AccountMachineModel" X p s m args meth c) (M : gw_M) (a0 : Nat) (H : Heap) (locs : List Loc) (ls : Array Slot) (ha0 : gr_k a0 = (11, 0)) (G : gw_G X (gw_E X Y M) s H locs) (hl : lv_has ls 1 [(0, .ref (gr_a X a0))]) (hF : mo_result_b0  M a0 = some z) : W p l e rm_mo_result s m args below meth c H locs 0 0 (MQ below (gw_Ql X (fun M => (gw_E X Y M)) z) args s 0 0 (gw_A X)) (F0 m 0 ls []) := by
  obtain ⟨hx, hb, hml, hown, hts, hr, hlocks, hK⟩ := id C0
  have hg : ∀ w ∈ gw_w, w.before args s = true := fun w h => hts w (List.mem_cons_of_mem _ h)
  unfold mo_result_b0 at hF
  refine lv_aload_n hx hb dd_mo_result_0 rfl (lv_at hl 0 rfl) ?_
  refine gf_mo_given hx hb hg hown (hg _ kw_356) hK G ha0 dd_mo_result_1 ?_
  exact W.lret hx hb hr (fun t ht hW => gw_endl (EF := (fun M => (gw_E X Y M))) (M := M) G ht hF) G.2.2.2.2 dd_mo_result_4 hlocks
set_option maxRecDepth 100000 in
set_option maxHeartbeats 4000000 in
theorem ct_mo_result (l : Launch) (X : gw_X) (Y : gw_M) (M : gw_M) (a0 : Nat) (ha0 : gr_k a0 = (11, 0)) (z : (Int64 × gw_M)) (hF : mo_result_b0 M a0 = some z) : Met l yy_mo_result ((Cond.code yy_mo_result by_mo_result 1 (some .long)) :: gw_w) rm_mo_result (va_Pc [.ref (gr_a X a0)] (gw_B X (gw_E X Y M))) (gw_Ql X (fun M => (gw_E X Y M)) z) 0 0 (gw_A X) := by
  refine Met.ofW (cc := by_mo_result) (maxL := 1) (ret := (some .long)) (by decide) rfl ?_
  intro p e s m args below meth c s₁ B hml hv
  obtain ⟨rfl, hB⟩ := hv
  rw [lg_entry_eq]
  have hl := lv_entry ([.ref (gr_a X a0)]) (n := 1) (Nat.le_of_ble_eq_true rfl)
  generalize (lg_sl ([.ref (gr_a X a0)]) ++ List.replicate (1 - (lg_sl ([.ref (gr_a X a0)])).length) Slot.unset).toArray = ls at hl ⊢
  have hl : lv_has ls 1 [(0, .ref (gr_a X a0))] := hl
  exact wb_mo_result_0 (gw_ctx B hml rfl hB) M a0 _ _ _ ha0 (gw_start hB) hl hF
/-! AccountMachineModel.log(I)J -/
abbrev rm_mo_log : Room := { frames := 1, cells := 0, slots := 0, locals := 25 }
theorem dd_mo_log_0 : decode by_mo_log 0 = .ok (.iload_n 1, 1) := by decide +kernel
theorem dd_mo_log_1 : decode by_mo_log 1 = .ok (.i2l, 1) := by decide +kernel
theorem dd_mo_log_2 : decode by_mo_log 2 = .ok (.lconst 0, 1) := by decide +kernel
theorem dd_mo_log_3 : decode by_mo_log 3 = .ok (.aload_n 0, 1) := by decide +kernel
theorem dd_mo_log_4 : decode by_mo_log 4 = .ok (.getfield 182, 3) := by decide +kernel
theorem dd_mo_log_7 : decode by_mo_log 7 = .ok (.iconst 1, 1) := by decide +kernel
theorem dd_mo_log_8 : decode by_mo_log 8 = .ok (.isub, 1) := by decide +kernel
theorem dd_mo_log_9 : decode by_mo_log 9 = .ok (.i2l, 1) := by decide +kernel
theorem dd_mo_log_10 : decode by_mo_log 10 = .ok (.invokestatic 83, 3) := by decide +kernel
theorem dd_mo_log_13 : decode by_mo_log 13 = .ok (.ifCond .eq 12, 3) := by decide +kernel
theorem dd_mo_log_16 : decode by_mo_log 16 = .ok (.aload_n 0, 1) := by decide +kernel
theorem dd_mo_log_17 : decode by_mo_log 17 = .ok (.getfield 78, 3) := by decide +kernel
theorem dd_mo_log_20 : decode by_mo_log 20 = .ok (.iload_n 1, 1) := by decide +kernel
theorem dd_mo_log_21 : decode by_mo_log 21 = .ok (.laload, 1) := by decide +kernel
theorem dd_mo_log_22 : decode by_mo_log 22 = .ok (.goto 4, 3) := by decide +kernel
theorem dd_mo_log_25 : decode by_mo_log 25 = .ok (.lconst 0, 1) := by decide +kernel
theorem dd_mo_log_26 : decode by_mo_log 26 = .ok (.lreturn, 1) := by decide +kernel
def mo_log_b0 (M : gw_M) (a0 : Nat) (v1 : Int32) : Option (Int64 × gw_M) :=
  gw_bd (mo_in_b0 M v1.toInt64 (0 : Int64) (((M.1 a0 27) - (1 : Int32)).toInt64)) (fun r10 M10 => if r10 = (0 : Int32) then (some ((0 : Int64), M10)) else (gw_gu (gw_in v1 30) (some (M10.2 (a0 + 23) v1.toNatClampNeg, M10))))
set_option maxRecDepth 100000 in
set_option maxHeartbeats 4000000 in
theorem wb_mo_log_0 {p : Program} {l : Launch} {e : Env} {s : State} {m : MethodId} {args : Array Value} {below : List Frame} {meth : Method} {c : Code} {X : gw_X} {Y : gw_M} {z : (Int64 × gw_M)} (C0 : gw_C ((Cond.code yy_mo_log by_mo_log 2 (some .long)) :: gw_w) by_mo_log 2 (some .long) "AccountMachineModel" X p s m args meth c) (M : gw_M) (a0 : Nat) (v1 : Int32) (H : Heap) (locs : List Loc) (ls : Array Slot) (ha0 : gr_k a0 = (11, 0)) (G : gw_G X (gw_E X Y M) s H locs) (hl : lv_has ls 2 [(0, .ref (gr_a X a0)), (1, .int v1)]) (hF : mo_log_b0  M a0 v1 = some z) : W p l e rm_mo_log s m args below meth c H locs 0 0 (MQ below (gw_Ql X (fun M => (gw_E X Y M)) z) args s 0 0 (gw_A X)) (F0 m 0 ls []) := by
  obtain ⟨hx, hb, hml, hown, hts, hr, hlocks, hK⟩ := id C0
  have hg : ∀ w ∈ gw_w, w.before args s = true := fun w h => hts w (List.mem_cons_of_mem _ h)
  unfold mo_log_b0 at hF
  refine lv_iload_n hx hb dd_mo_log_0 rfl (lv_at hl 1 rfl) ?_
  refine lv_i2l (v := v1.toInt64) hx hb dd_mo_log_1 rfl ?_
  refine lv_lconst (v := (0 : Int64)) hx hb dd_mo_log_2 (by decide) ?_
  refine lv_aload_n hx hb dd_mo_log_3 rfl (lv_at hl 0 rfl) ?_
  refine gf_mo_written hx hb hg hown (hg _ kw_357) hK G ha0 dd_mo_log_4 ?_
  refine lv_iconst (v := (1 : Int32)) hx hb dd_mo_log_7 (by decide) ?_
  refine lv_isub hx hb dd_mo_log_8 ?_
  refine lv_i2l (v := ((M.1 a0 27) - (1 : Int32)).toInt64) hx hb dd_mo_log_9 rfl ?_
  obtain ⟨r10, M10, hc10, hF⟩ := gw_be hF
  refine gw_ci G (va_runS (As := [.long v1.toInt64, .long (0 : Int64), .long (((M.1 a0 27) - (1 : Int32)).toInt64)]) (rest := []) ⟨hx, hb, hml, hown, hts⟩ (ct_mo_in l X Y M v1.toInt64 (0 : Int64) (((M.1 a0 27) - (1 : Int32)).toInt64)  _ hc10) (cwS 3 hts (gw_gS kw_251 kw_252 kw_253 kw_250) rfl rfl rfl (by decide +kernel) ⟨Nat.le_of_ble_eq_true rfl, Nat.le_of_ble_eq_true rfl⟩) ⟨gw_blind, gw_pre hK G⟩ rfl rfl hl.1 rfl (Nat.le_of_ble_eq_true rfl) dd_mo_log_10 ⟨Nat.le_of_ble_eq_true rfl, Nat.le_of_ble_eq_true rfl⟩) (fun H locs G => ?_)
  refine W.eq (g2 := F0 m 13 _ _) rfl ?_
  refine lv_if_eq (tgt := 25) hx hb dd_mo_log_13 (by decide) (fun h13 => ?_) (fun h13 => ?_)
  · replace hF := gw_et h13 hF
    refine lv_lconst (v := (0 : Int64)) hx hb dd_mo_log_25 (by decide) ?_
    exact W.lret hx hb hr (fun t ht hW => gw_endl (EF := (fun M => (gw_E X Y M))) (M := M10) G ht hF) G.2.2.2.2 dd_mo_log_26 hlocks
  · replace hF := gw_ef h13 hF
    refine lv_aload_n hx hb dd_mo_log_16 rfl (lv_at hl 0 rfl) ?_
    refine gf_mo_log hx hb hg hown (hg _ kw_358) hK G ha0 dd_mo_log_17 ?_
    refine lv_iload_n hx hb dd_mo_log_20 rfl (lv_at hl 1 rfl) ?_
    obtain ⟨h21, hF⟩ := gw_gd hF
    refine gr_lald hx hb hK G (gq_mo_log ha0) (gw_vp h21) (j := v1.toNatClampNeg) rfl dd_mo_log_21 ?_
    refine lv_goto (tgt := 26) hx hb dd_mo_log_22 (by decide) ?_
    exact W.lret hx hb hr (fun t ht hW => gw_endl (EF := (fun M => (gw_E X Y M))) (M := M10) G ht hF) G.2.2.2.2 dd_mo_log_26 hlocks
set_option maxRecDepth 100000 in
set_option maxHeartbeats 4000000 in
theorem ct_mo_log (l : Launch) (X : gw_X) (Y : gw_M) (M : gw_M) (a0 : Nat) (v1 : Int32) (ha0 : gr_k a0 = (11, 0)) (z : (Int64 × gw_M)) (hF : mo_log_b0 M a0 v1 = some z) : Met l yy_mo_log ((Cond.code yy_mo_log by_mo_log 2 (some .long)) :: gw_w) rm_mo_log (va_Pc [.ref (gr_a X a0), .int v1] (gw_B X (gw_E X Y M))) (gw_Ql X (fun M => (gw_E X Y M)) z) 0 0 (gw_A X) := by
  refine Met.ofW (cc := by_mo_log) (maxL := 2) (ret := (some .long)) (by decide) rfl ?_
  intro p e s m args below meth c s₁ B hml hv
  obtain ⟨rfl, hB⟩ := hv
  rw [lg_entry_eq]
  have hl := lv_entry ([.ref (gr_a X a0), .int v1]) (n := 2) (Nat.le_of_ble_eq_true rfl)
  generalize (lg_sl ([.ref (gr_a X a0), .int v1]) ++ List.replicate (2 - (lg_sl ([.ref (gr_a X a0), .int v1])).length) Slot.unset).toArray = ls at hl ⊢
  have hl : lv_has ls 2 [(0, .ref (gr_a X a0)), (1, .int v1)] := hl
  exact wb_mo_log_0 (gw_ctx B hml rfl hB) M a0 v1 _ _ _ ha0 (gw_start hB) hl hF
/-! AccountMachineModel.logged()I -/
abbrev rm_mo_logged : Room := { frames := 0, cells := 0, slots := 0, locals := 0 }
theorem dd_mo_logged_0 : decode by_mo_logged 0 = .ok (.aload_n 0, 1) := by decide +kernel
theorem dd_mo_logged_1 : decode by_mo_logged 1 = .ok (.getfield 182, 3) := by decide +kernel
theorem dd_mo_logged_4 : decode by_mo_logged 4 = .ok (.ireturn, 1) := by decide +kernel
def mo_logged_b0 (M : gw_M) (a0 : Nat) : Option (Int32 × gw_M) :=
  some (M.1 a0 27, M)
set_option maxRecDepth 100000 in
set_option maxHeartbeats 4000000 in
theorem wb_mo_logged_0 {p : Program} {l : Launch} {e : Env} {s : State} {m : MethodId} {args : Array Value} {below : List Frame} {meth : Method} {c : Code} {X : gw_X} {Y : gw_M} {z : (Int32 × gw_M)} (C0 : gw_C ((Cond.code yy_mo_logged by_mo_logged 1 (some .int)) :: gw_w) by_mo_logged 1 (some .int) "AccountMachineModel" X p s m args meth c) (M : gw_M) (a0 : Nat) (H : Heap) (locs : List Loc) (ls : Array Slot) (ha0 : gr_k a0 = (11, 0)) (G : gw_G X (gw_E X Y M) s H locs) (hl : lv_has ls 1 [(0, .ref (gr_a X a0))]) (hF : mo_logged_b0  M a0 = some z) : W p l e rm_mo_logged s m args below meth c H locs 0 0 (MQ below (gw_Qi X (fun M => (gw_E X Y M)) z) args s 0 0 (gw_A X)) (F0 m 0 ls []) := by
  obtain ⟨hx, hb, hml, hown, hts, hr, hlocks, hK⟩ := id C0
  have hg : ∀ w ∈ gw_w, w.before args s = true := fun w h => hts w (List.mem_cons_of_mem _ h)
  unfold mo_logged_b0 at hF
  refine lv_aload_n hx hb dd_mo_logged_0 rfl (lv_at hl 0 rfl) ?_
  refine gf_mo_written hx hb hg hown (hg _ kw_357) hK G ha0 dd_mo_logged_1 ?_
  exact W.iret hx hb hr (fun t ht hW => gw_endi (EF := (fun M => (gw_E X Y M))) (M := M) G ht hF) G.2.2.2.2 dd_mo_logged_4 hlocks
set_option maxRecDepth 100000 in
set_option maxHeartbeats 4000000 in
theorem ct_mo_logged (l : Launch) (X : gw_X) (Y : gw_M) (M : gw_M) (a0 : Nat) (ha0 : gr_k a0 = (11, 0)) (z : (Int32 × gw_M)) (hF : mo_logged_b0 M a0 = some z) : Met l yy_mo_logged ((Cond.code yy_mo_logged by_mo_logged 1 (some .int)) :: gw_w) rm_mo_logged (va_Pc [.ref (gr_a X a0)] (gw_B X (gw_E X Y M))) (gw_Qi X (fun M => (gw_E X Y M)) z) 0 0 (gw_A X) := by
  refine Met.ofW (cc := by_mo_logged) (maxL := 1) (ret := (some .int)) (by decide) rfl ?_
  intro p e s m args below meth c s₁ B hml hv
  obtain ⟨rfl, hB⟩ := hv
  rw [lg_entry_eq]
  have hl := lv_entry ([.ref (gr_a X a0)]) (n := 1) (Nat.le_of_ble_eq_true rfl)
  generalize (lg_sl ([.ref (gr_a X a0)]) ++ List.replicate (1 - (lg_sl ([.ref (gr_a X a0)])).length) Slot.unset).toArray = ls at hl ⊢
  have hl : lv_has ls 1 [(0, .ref (gr_a X a0))] := hl
  exact wb_mo_logged_0 (gw_ctx B hml rfl hB) M a0 _ _ _ ha0 (gw_start hB) hl hF
/-! AccountMachineModel.account(II)I -/
abbrev rm_mo_account : Room := { frames := 1, cells := 0, slots := 0, locals := 25 }
theorem dd_mo_account_0 : decode by_mo_account 0 = .ok (.iload_n 1, 1) := by decide +kernel
theorem dd_mo_account_1 : decode by_mo_account 1 = .ok (.i2l, 1) := by decide +kernel
theorem dd_mo_account_2 : decode by_mo_account 2 = .ok (.lconst 0, 1) := by decide +kernel
theorem dd_mo_account_3 : decode by_mo_account 3 = .ok (.ldc2_w 105, 3) := by decide +kernel
theorem dd_mo_account_6 : decode by_mo_account 6 = .ok (.invokestatic 83, 3) := by decide +kernel
theorem dd_mo_account_9 : decode by_mo_account 9 = .ok (.ifCond .ne 5, 3) := by decide +kernel
theorem dd_mo_account_12 : decode by_mo_account 12 = .ok (.iconst (-1), 1) := by decide +kernel
theorem dd_mo_account_13 : decode by_mo_account 13 = .ok (.ireturn, 1) := by decide +kernel
theorem dd_mo_account_14 : decode by_mo_account 14 = .ok (.iload_n 2, 1) := by decide +kernel
theorem dd_mo_account_15 : decode by_mo_account 15 = .ok (.tableswitch 46 0 2 #[25, 32, 39], 25) := by decide +kernel
theorem dd_mo_account_40 : decode by_mo_account 40 = .ok (.aload_n 0, 1) := by decide +kernel
theorem dd_mo_account_41 : decode by_mo_account 41 = .ok (.getfield 7, 3) := by decide +kernel
theorem dd_mo_account_44 : decode by_mo_account 44 = .ok (.iload_n 1, 1) := by decide +kernel
theorem dd_mo_account_45 : decode by_mo_account 45 = .ok (.iaload, 1) := by decide +kernel
theorem dd_mo_account_46 : decode by_mo_account 46 = .ok (.ireturn, 1) := by decide +kernel
theorem dd_mo_account_47 : decode by_mo_account 47 = .ok (.aload_n 0, 1) := by decide +kernel
theorem dd_mo_account_48 : decode by_mo_account 48 = .ok (.getfield 13, 3) := by decide +kernel
theorem dd_mo_account_51 : decode by_mo_account 51 = .ok (.iload_n 1, 1) := by decide +kernel
theorem dd_mo_account_52 : decode by_mo_account 52 = .ok (.iaload, 1) := by decide +kernel
theorem dd_mo_account_53 : decode by_mo_account 53 = .ok (.ireturn, 1) := by decide +kernel
theorem dd_mo_account_54 : decode by_mo_account 54 = .ok (.aload_n 0, 1) := by decide +kernel
theorem dd_mo_account_55 : decode by_mo_account 55 = .ok (.getfield 16, 3) := by decide +kernel
theorem dd_mo_account_58 : decode by_mo_account 58 = .ok (.iload_n 1, 1) := by decide +kernel
theorem dd_mo_account_59 : decode by_mo_account 59 = .ok (.iaload, 1) := by decide +kernel
theorem dd_mo_account_60 : decode by_mo_account 60 = .ok (.ireturn, 1) := by decide +kernel
theorem dd_mo_account_61 : decode by_mo_account 61 = .ok (.iconst (-1), 1) := by decide +kernel
theorem dd_mo_account_62 : decode by_mo_account 62 = .ok (.ireturn, 1) := by decide +kernel
def mo_account_b0 (M : gw_M) (a0 : Nat) (v1 : Int32) (v2 : Int32) : Option (Int32 × gw_M) :=
  gw_bd (mo_in_b0 M v1.toInt64 (0 : Int64) (7 : Int64)) (fun r6 M6 => if r6 = (0 : Int32) then (some ((-1 : Int32), M6)) else (if v2 = (0 : Int32) then (gw_gu (gw_in v1 16) (some (M6.1 (a0 + 1) v1.toNatClampNeg, M6))) else (if v2 = (1 : Int32) then (gw_gu (gw_in v1 16) (some (M6.1 (a0 + 2) v1.toNatClampNeg, M6))) else (if v2 = (2 : Int32) then (gw_gu (gw_in v1 16) (some (M6.1 (a0 + 3) v1.toNatClampNeg, M6))) else (some ((-1 : Int32), M6))))))
set_option maxRecDepth 100000 in
set_option maxHeartbeats 4000000 in
theorem wb_mo_account_0 {p : Program} {l : Launch} {e : Env} {s : State} {m : MethodId} {args : Array Value} {below : List Frame} {meth : Method} {c : Code} {X : gw_X} {Y : gw_M} {z : (Int32 × gw_M)} (C0 : gw_C ((Cond.code yy_mo_account by_mo_account 3 (some .int)) :: gw_w) by_mo_account 3 (some .int) "AccountMachineModel" X p s m args meth c) (M : gw_M) (a0 : Nat) (v1 : Int32) (v2 : Int32) (H : Heap) (locs : List Loc) (ls : Array Slot) (ha0 : gr_k a0 = (11, 0)) (G : gw_G X (gw_E X Y M) s H locs) (hl : lv_has ls 3 [(0, .ref (gr_a X a0)), (1, .int v1), (2, .int v2)]) (hF : mo_account_b0  M a0 v1 v2 = some z) : W p l e rm_mo_account s m args below meth c H locs 0 0 (MQ below (gw_Qi X (fun M => (gw_E X Y M)) z) args s 0 0 (gw_A X)) (F0 m 0 ls []) := by
  obtain ⟨hx, hb, hml, hown, hts, hr, hlocks, hK⟩ := id C0
  have hg : ∀ w ∈ gw_w, w.before args s = true := fun w h => hts w (List.mem_cons_of_mem _ h)
  unfold mo_account_b0 at hF
  refine lv_iload_n hx hb dd_mo_account_0 rfl (lv_at hl 1 rfl) ?_
  refine lv_i2l (v := v1.toInt64) hx hb dd_mo_account_1 rfl ?_
  refine lv_lconst (v := (0 : Int64)) hx hb dd_mo_account_2 (by decide) ?_
  refine lv_ldc2 (v := (7 : Int64)) hx hb hown (hg _ kw_276) dd_mo_account_3 ?_
  obtain ⟨r6, M6, hc6, hF⟩ := gw_be hF
  refine gw_ci G (va_runS (As := [.long v1.toInt64, .long (0 : Int64), .long (7 : Int64)]) (rest := []) ⟨hx, hb, hml, hown, hts⟩ (ct_mo_in l X Y M v1.toInt64 (0 : Int64) (7 : Int64)  _ hc6) (cwS 3 hts (gw_gS kw_251 kw_252 kw_253 kw_250) rfl rfl rfl (by decide +kernel) ⟨Nat.le_of_ble_eq_true rfl, Nat.le_of_ble_eq_true rfl⟩) ⟨gw_blind, gw_pre hK G⟩ rfl rfl hl.1 rfl (Nat.le_of_ble_eq_true rfl) dd_mo_account_6 ⟨Nat.le_of_ble_eq_true rfl, Nat.le_of_ble_eq_true rfl⟩) (fun H locs G => ?_)
  refine lv_if_ne (tgt := 14) hx hb dd_mo_account_9 (by decide) (fun h9 => ?_) (fun h9 => ?_)
  · replace hF := gw_ef h9 hF
    refine lv_iload_n hx hb dd_mo_account_14 rfl (lv_at hl 2 rfl) ?_
    by_cases q15_0 : v2 = (0 : Int32)
    · replace hF := gw_et q15_0 hF
      refine lv_tableIn (off := 25) (tgt := 40) hx hb dd_mo_account_15 (by rw [q15_0]; decide) (by rw [q15_0]; decide) (by rw [q15_0]; decide) (by decide) ?_
      refine lv_aload_n hx hb dd_mo_account_40 rfl (lv_at hl 0 rfl) ?_
      refine gf_mo_balances hx hb hg hown (hg _ kw_293) hK G ha0 dd_mo_account_41 ?_
      refine lv_iload_n hx hb dd_mo_account_44 rfl (lv_at hl 1 rfl) ?_
      obtain ⟨h45, hF⟩ := gw_gd hF
      refine gr_iald hx hb hK G (gq_mo_balances ha0) (gw_vp h45) (j := v1.toNatClampNeg) rfl dd_mo_account_45 ?_
      exact W.iret hx hb hr (fun t ht hW => gw_endi (EF := (fun M => (gw_E X Y M))) (M := M6) G ht hF) G.2.2.2.2 dd_mo_account_46 hlocks
    replace hF := gw_ef q15_0 hF
    by_cases q15_1 : v2 = (1 : Int32)
    · replace hF := gw_et q15_1 hF
      refine lv_tableIn (off := 32) (tgt := 47) hx hb dd_mo_account_15 (by rw [q15_1]; decide) (by rw [q15_1]; decide) (by rw [q15_1]; decide) (by decide) ?_
      refine lv_aload_n hx hb dd_mo_account_47 rfl (lv_at hl 0 rfl) ?_
      refine gf_mo_owners hx hb hg hown (hg _ kw_292) hK G ha0 dd_mo_account_48 ?_
      refine lv_iload_n hx hb dd_mo_account_51 rfl (lv_at hl 1 rfl) ?_
      obtain ⟨h52, hF⟩ := gw_gd hF
      refine gr_iald hx hb hK G (gq_mo_owners ha0) (gw_vp h52) (j := v1.toNatClampNeg) rfl dd_mo_account_52 ?_
      exact W.iret hx hb hr (fun t ht hW => gw_endi (EF := (fun M => (gw_E X Y M))) (M := M6) G ht hF) G.2.2.2.2 dd_mo_account_53 hlocks
    replace hF := gw_ef q15_1 hF
    by_cases q15_2 : v2 = (2 : Int32)
    · replace hF := gw_et q15_2 hF
      refine lv_tableIn (off := 39) (tgt := 54) hx hb dd_mo_account_15 (by rw [q15_2]; decide) (by rw [q15_2]; decide) (by rw [q15_2]; decide) (by decide) ?_
      refine lv_aload_n hx hb dd_mo_account_54 rfl (lv_at hl 0 rfl) ?_
      refine gf_mo_sizes hx hb hg hown (hg _ kw_286) hK G ha0 dd_mo_account_55 ?_
      refine lv_iload_n hx hb dd_mo_account_58 rfl (lv_at hl 1 rfl) ?_
      obtain ⟨h59, hF⟩ := gw_gd hF
      refine gr_iald hx hb hK G (gq_mo_sizes ha0) (gw_vp h59) (j := v1.toNatClampNeg) rfl dd_mo_account_59 ?_
      exact W.iret hx hb hr (fun t ht hW => gw_endi (EF := (fun M => (gw_E X Y M))) (M := M6) G ht hF) G.2.2.2.2 dd_mo_account_60 hlocks
    replace hF := gw_ef q15_2 hF
    have n15_0 := gw_ne (c := (0 : Int32)) (n := 0) (by decide) q15_0
    have n15_1 := gw_ne (c := (1 : Int32)) (n := 1) (by decide) q15_1
    have n15_2 := gw_ne (c := (2 : Int32)) (n := 2) (by decide) q15_2
    refine lv_tableOut (tgt := 61) hx hb dd_mo_account_15 (by omega) (by decide) ?_
    refine lv_iconst (v := (-1 : Int32)) hx hb dd_mo_account_61 (by decide) ?_
    exact W.iret hx hb hr (fun t ht hW => gw_endi (EF := (fun M => (gw_E X Y M))) (M := M6) G ht hF) G.2.2.2.2 dd_mo_account_62 hlocks
  · replace hF := gw_et h9 hF
    refine lv_iconst (v := (-1 : Int32)) hx hb dd_mo_account_12 (by decide) ?_
    exact W.iret hx hb hr (fun t ht hW => gw_endi (EF := (fun M => (gw_E X Y M))) (M := M6) G ht hF) G.2.2.2.2 dd_mo_account_13 hlocks
set_option maxRecDepth 100000 in
set_option maxHeartbeats 4000000 in
theorem ct_mo_account (l : Launch) (X : gw_X) (Y : gw_M) (M : gw_M) (a0 : Nat) (v1 : Int32) (v2 : Int32) (ha0 : gr_k a0 = (11, 0)) (z : (Int32 × gw_M)) (hF : mo_account_b0 M a0 v1 v2 = some z) : Met l yy_mo_account ((Cond.code yy_mo_account by_mo_account 3 (some .int)) :: gw_w) rm_mo_account (va_Pc [.ref (gr_a X a0), .int v1, .int v2] (gw_B X (gw_E X Y M))) (gw_Qi X (fun M => (gw_E X Y M)) z) 0 0 (gw_A X) := by
  refine Met.ofW (cc := by_mo_account) (maxL := 3) (ret := (some .int)) (by decide) rfl ?_
  intro p e s m args below meth c s₁ B hml hv
  obtain ⟨rfl, hB⟩ := hv
  rw [lg_entry_eq]
  have hl := lv_entry ([.ref (gr_a X a0), .int v1, .int v2]) (n := 3) (Nat.le_of_ble_eq_true rfl)
  generalize (lg_sl ([.ref (gr_a X a0), .int v1, .int v2]) ++ List.replicate (3 - (lg_sl ([.ref (gr_a X a0), .int v1, .int v2])).length) Slot.unset).toArray = ls at hl ⊢
  have hl : lv_has ls 3 [(0, .ref (gr_a X a0)), (1, .int v1), (2, .int v2)] := hl
  exact wb_mo_account_0 (gw_ctx B hml rfl hB) M a0 v1 v2 _ _ _ ha0 (gw_start hB) hl hF
/-! AccountMachineModel.data(II)I -/
abbrev rm_mo_data : Room := { frames := 1, cells := 0, slots := 0, locals := 25 }
theorem dd_mo_data_0 : decode by_mo_data 0 = .ok (.iload_n 1, 1) := by decide +kernel
theorem dd_mo_data_1 : decode by_mo_data 1 = .ok (.i2l, 1) := by decide +kernel
theorem dd_mo_data_2 : decode by_mo_data 2 = .ok (.lconst 0, 1) := by decide +kernel
theorem dd_mo_data_3 : decode by_mo_data 3 = .ok (.ldc2_w 105, 3) := by decide +kernel
theorem dd_mo_data_6 : decode by_mo_data 6 = .ok (.invokestatic 83, 3) := by decide +kernel
theorem dd_mo_data_9 : decode by_mo_data 9 = .ok (.ifCond .eq 46, 3) := by decide +kernel
theorem dd_mo_data_12 : decode by_mo_data 12 = .ok (.iload_n 2, 1) := by decide +kernel
theorem dd_mo_data_13 : decode by_mo_data 13 = .ok (.ifCond .lt 42, 3) := by decide +kernel
theorem dd_mo_data_16 : decode by_mo_data 16 = .ok (.iload_n 2, 1) := by decide +kernel
theorem dd_mo_data_17 : decode by_mo_data 17 = .ok (.aload_n 0, 1) := by decide +kernel
theorem dd_mo_data_18 : decode by_mo_data 18 = .ok (.getfield 16, 3) := by decide +kernel
theorem dd_mo_data_21 : decode by_mo_data 21 = .ok (.iload_n 1, 1) := by decide +kernel
theorem dd_mo_data_22 : decode by_mo_data 22 = .ok (.i2l, 1) := by decide +kernel
theorem dd_mo_data_23 : decode by_mo_data 23 = .ok (.lconst 0, 1) := by decide +kernel
theorem dd_mo_data_24 : decode by_mo_data 24 = .ok (.ldc2_w 105, 3) := by decide +kernel
theorem dd_mo_data_27 : decode by_mo_data 27 = .ok (.invokestatic 83, 3) := by decide +kernel
theorem dd_mo_data_30 : decode by_mo_data 30 = .ok (.ifCond .eq 7, 3) := by decide +kernel
theorem dd_mo_data_33 : decode by_mo_data 33 = .ok (.iload_n 1, 1) := by decide +kernel
theorem dd_mo_data_34 : decode by_mo_data 34 = .ok (.goto 4, 3) := by decide +kernel
theorem dd_mo_data_37 : decode by_mo_data 37 = .ok (.iconst 0, 1) := by decide +kernel
theorem dd_mo_data_38 : decode by_mo_data 38 = .ok (.iaload, 1) := by decide +kernel
theorem dd_mo_data_39 : decode by_mo_data 39 = .ok (.if_icmp .ge 16, 3) := by decide +kernel
theorem dd_mo_data_42 : decode by_mo_data 42 = .ok (.aload_n 0, 1) := by decide +kernel
theorem dd_mo_data_43 : decode by_mo_data 43 = .ok (.getfield 19, 3) := by decide +kernel
theorem dd_mo_data_46 : decode by_mo_data 46 = .ok (.iconst 4, 1) := by decide +kernel
theorem dd_mo_data_47 : decode by_mo_data 47 = .ok (.iload_n 1, 1) := by decide +kernel
theorem dd_mo_data_48 : decode by_mo_data 48 = .ok (.imul, 1) := by decide +kernel
theorem dd_mo_data_49 : decode by_mo_data 49 = .ok (.iload_n 2, 1) := by decide +kernel
theorem dd_mo_data_50 : decode by_mo_data 50 = .ok (.iadd, 1) := by decide +kernel
theorem dd_mo_data_51 : decode by_mo_data 51 = .ok (.iaload, 1) := by decide +kernel
theorem dd_mo_data_52 : decode by_mo_data 52 = .ok (.goto 4, 3) := by decide +kernel
theorem dd_mo_data_55 : decode by_mo_data 55 = .ok (.iconst 0, 1) := by decide +kernel
theorem dd_mo_data_56 : decode by_mo_data 56 = .ok (.ireturn, 1) := by decide +kernel
def mo_data_b38 (M : gw_M) (a0 : Nat) (v1 : Int32) (v2 : Int32) (t0 : Int32) (b1 : Nat) (t2 : Int32) : Option (Int32 × gw_M) :=
  gw_gu (gw_in t0 16) (if (M.1 b1 t0.toNatClampNeg) ≤ t2 then (some ((0 : Int32), M)) else (gw_gu (gw_in (((4 : Int32) * v1) + v2) 64) (some (M.1 (a0 + 4) ((((4 : Int32) * v1) + v2).toNatClampNeg), M))))
def mo_data_b0 (M : gw_M) (a0 : Nat) (v1 : Int32) (v2 : Int32) : Option (Int32 × gw_M) :=
  gw_bd (mo_in_b0 M v1.toInt64 (0 : Int64) (7 : Int64)) (fun r6 M6 => if r6 = (0 : Int32) then (some ((0 : Int32), M6)) else (if v2 < (0 : Int32) then (some ((0 : Int32), M6)) else (gw_bd (mo_in_b0 M6 v1.toInt64 (0 : Int64) (7 : Int64)) (fun r27 M27 => if r27 = (0 : Int32) then (mo_data_b38  M27 a0 v1 v2 (0 : Int32) (a0 + 3) v2) else (mo_data_b38  M27 a0 v1 v2 v1 (a0 + 3) v2)))))
set_option maxRecDepth 100000 in
set_option maxHeartbeats 4000000 in
theorem wb_mo_data_38 {p : Program} {l : Launch} {e : Env} {s : State} {m : MethodId} {args : Array Value} {below : List Frame} {meth : Method} {c : Code} {X : gw_X} {Y : gw_M} {z : (Int32 × gw_M)} (C0 : gw_C ((Cond.code yy_mo_data by_mo_data 3 (some .int)) :: gw_w) by_mo_data 3 (some .int) "AccountMachineModel" X p s m args meth c) (M : gw_M) (a0 : Nat) (v1 : Int32) (v2 : Int32) (t0 : Int32) (b1 : Nat) (t2 : Int32) (H : Heap) (locs : List Loc) (ls : Array Slot) (ha0 : gr_k a0 = (11, 0)) (hb1 : gr_k b1 = (0, 16)) (G : gw_G X (gw_E X Y M) s H locs) (hl : lv_has ls 3 [(0, .ref (gr_a X a0)), (1, .int v1), (2, .int v2)]) (hF : mo_data_b38  M a0 v1 v2 t0 b1 t2 = some z) : W p l e rm_mo_data s m args below meth c H locs 0 0 (MQ below (gw_Qi X (fun M => (gw_E X Y M)) z) args s 0 0 (gw_A X)) (F0 m 38 ls [.int t0, .ref (gr_a X b1), .int t2]) := by
  obtain ⟨hx, hb, hml, hown, hts, hr, hlocks, hK⟩ := id C0
  have hg : ∀ w ∈ gw_w, w.before args s = true := fun w h => hts w (List.mem_cons_of_mem _ h)
  unfold mo_data_b38 at hF
  obtain ⟨h38, hF⟩ := gw_gd hF
  refine gr_iald hx hb hK G hb1 (gw_vp h38) (j := t0.toNatClampNeg) rfl dd_mo_data_38 ?_
  refine lv_icmp_ge (tgt := 55) hx hb dd_mo_data_39 (by decide) (fun h39 => ?_) (fun h39 => ?_)
  · replace hF := gw_et h39 hF
    refine lv_iconst (v := (0 : Int32)) hx hb dd_mo_data_55 (by decide) ?_
    exact W.iret hx hb hr (fun t ht hW => gw_endi (EF := (fun M => (gw_E X Y M))) (M := M) G ht hF) G.2.2.2.2 dd_mo_data_56 hlocks
  · replace hF := gw_ef h39 hF
    refine lv_aload_n hx hb dd_mo_data_42 rfl (lv_at hl 0 rfl) ?_
    refine gf_mo_words hx hb hg hown (hg _ kw_287) hK G ha0 dd_mo_data_43 ?_
    refine lv_iconst (v := (4 : Int32)) hx hb dd_mo_data_46 (by decide) ?_
    refine lv_iload_n hx hb dd_mo_data_47 rfl (lv_at hl 1 rfl) ?_
    refine lv_imul hx hb dd_mo_data_48 ?_
    refine lv_iload_n hx hb dd_mo_data_49 rfl (lv_at hl 2 rfl) ?_
    refine lv_iadd hx hb dd_mo_data_50 ?_
    obtain ⟨h51, hF⟩ := gw_gd hF
    refine gr_iald hx hb hK G (gq_mo_words ha0) (gw_vp h51) (j := (((4 : Int32) * v1) + v2).toNatClampNeg) rfl dd_mo_data_51 ?_
    refine lv_goto (tgt := 56) hx hb dd_mo_data_52 (by decide) ?_
    refine W.eq (g2 := F0 m 56 _ _) rfl ?_
    exact W.iret hx hb hr (fun t ht hW => gw_endi (EF := (fun M => (gw_E X Y M))) (M := M) G ht hF) G.2.2.2.2 dd_mo_data_56 hlocks
set_option maxRecDepth 100000 in
set_option maxHeartbeats 4000000 in
theorem wb_mo_data_0 {p : Program} {l : Launch} {e : Env} {s : State} {m : MethodId} {args : Array Value} {below : List Frame} {meth : Method} {c : Code} {X : gw_X} {Y : gw_M} {z : (Int32 × gw_M)} (C0 : gw_C ((Cond.code yy_mo_data by_mo_data 3 (some .int)) :: gw_w) by_mo_data 3 (some .int) "AccountMachineModel" X p s m args meth c) (M : gw_M) (a0 : Nat) (v1 : Int32) (v2 : Int32) (H : Heap) (locs : List Loc) (ls : Array Slot) (ha0 : gr_k a0 = (11, 0)) (G : gw_G X (gw_E X Y M) s H locs) (hl : lv_has ls 3 [(0, .ref (gr_a X a0)), (1, .int v1), (2, .int v2)]) (hF : mo_data_b0  M a0 v1 v2 = some z) : W p l e rm_mo_data s m args below meth c H locs 0 0 (MQ below (gw_Qi X (fun M => (gw_E X Y M)) z) args s 0 0 (gw_A X)) (F0 m 0 ls []) := by
  obtain ⟨hx, hb, hml, hown, hts, hr, hlocks, hK⟩ := id C0
  have hg : ∀ w ∈ gw_w, w.before args s = true := fun w h => hts w (List.mem_cons_of_mem _ h)
  unfold mo_data_b0 at hF
  refine lv_iload_n hx hb dd_mo_data_0 rfl (lv_at hl 1 rfl) ?_
  refine lv_i2l (v := v1.toInt64) hx hb dd_mo_data_1 rfl ?_
  refine lv_lconst (v := (0 : Int64)) hx hb dd_mo_data_2 (by decide) ?_
  refine lv_ldc2 (v := (7 : Int64)) hx hb hown (hg _ kw_276) dd_mo_data_3 ?_
  obtain ⟨r6, M6, hc6, hF⟩ := gw_be hF
  refine gw_ci G (va_runS (As := [.long v1.toInt64, .long (0 : Int64), .long (7 : Int64)]) (rest := []) ⟨hx, hb, hml, hown, hts⟩ (ct_mo_in l X Y M v1.toInt64 (0 : Int64) (7 : Int64)  _ hc6) (cwS 3 hts (gw_gS kw_251 kw_252 kw_253 kw_250) rfl rfl rfl (by decide +kernel) ⟨Nat.le_of_ble_eq_true rfl, Nat.le_of_ble_eq_true rfl⟩) ⟨gw_blind, gw_pre hK G⟩ rfl rfl hl.1 rfl (Nat.le_of_ble_eq_true rfl) dd_mo_data_6 ⟨Nat.le_of_ble_eq_true rfl, Nat.le_of_ble_eq_true rfl⟩) (fun H locs G => ?_)
  refine lv_if_eq (tgt := 55) hx hb dd_mo_data_9 (by decide) (fun h9 => ?_) (fun h9 => ?_)
  · replace hF := gw_et h9 hF
    refine lv_iconst (v := (0 : Int32)) hx hb dd_mo_data_55 (by decide) ?_
    exact W.iret hx hb hr (fun t ht hW => gw_endi (EF := (fun M => (gw_E X Y M))) (M := M6) G ht hF) G.2.2.2.2 dd_mo_data_56 hlocks
  · replace hF := gw_ef h9 hF
    refine lv_iload_n hx hb dd_mo_data_12 rfl (lv_at hl 2 rfl) ?_
    refine lv_if_lt (tgt := 55) hx hb dd_mo_data_13 (by decide) (fun h13 => ?_) (fun h13 => ?_)
    · replace hF := gw_et h13 hF
      refine lv_iconst (v := (0 : Int32)) hx hb dd_mo_data_55 (by decide) ?_
      exact W.iret hx hb hr (fun t ht hW => gw_endi (EF := (fun M => (gw_E X Y M))) (M := M6) G ht hF) G.2.2.2.2 dd_mo_data_56 hlocks
    · replace hF := gw_ef h13 hF
      refine lv_iload_n hx hb dd_mo_data_16 rfl (lv_at hl 2 rfl) ?_
      refine lv_aload_n hx hb dd_mo_data_17 rfl (lv_at hl 0 rfl) ?_
      refine gf_mo_sizes hx hb hg hown (hg _ kw_286) hK G ha0 dd_mo_data_18 ?_
      refine lv_iload_n hx hb dd_mo_data_21 rfl (lv_at hl 1 rfl) ?_
      refine lv_i2l (v := v1.toInt64) hx hb dd_mo_data_22 rfl ?_
      refine lv_lconst (v := (0 : Int64)) hx hb dd_mo_data_23 (by decide) ?_
      refine lv_ldc2 (v := (7 : Int64)) hx hb hown (hg _ kw_276) dd_mo_data_24 ?_
      obtain ⟨r27, M27, hc27, hF⟩ := gw_be hF
      refine gw_ci G (va_runS (As := [.long v1.toInt64, .long (0 : Int64), .long (7 : Int64)]) (rest := [.ref (gr_a X (a0 + 3)), .int v2]) ⟨hx, hb, hml, hown, hts⟩ (ct_mo_in l X Y M6 v1.toInt64 (0 : Int64) (7 : Int64)  _ hc27) (cwS 3 hts (gw_gS kw_251 kw_252 kw_253 kw_250) rfl rfl rfl (by decide +kernel) ⟨Nat.le_of_ble_eq_true rfl, Nat.le_of_ble_eq_true rfl⟩) ⟨gw_blind, gw_pre hK G⟩ rfl rfl hl.1 rfl (Nat.le_of_ble_eq_true rfl) dd_mo_data_27 ⟨Nat.le_of_ble_eq_true rfl, Nat.le_of_ble_eq_true rfl⟩) (fun H locs G => ?_)
      refine lv_if_eq (tgt := 37) hx hb dd_mo_data_30 (by decide) (fun h30 => ?_) (fun h30 => ?_)
      · replace hF := gw_et h30 hF
        refine lv_iconst (v := (0 : Int32)) hx hb dd_mo_data_37 (by decide) ?_
        exact wb_mo_data_38 C0  M27 a0 v1 v2 (0 : Int32) (a0 + 3) v2 _ _ _ ha0 (gq_mo_sizes ha0) G (lv_sub hl [0, 1, 2] rfl) hF
      · replace hF := gw_ef h30 hF
        refine lv_iload_n hx hb dd_mo_data_33 rfl (lv_at hl 1 rfl) ?_
        refine lv_goto (tgt := 38) hx hb dd_mo_data_34 (by decide) ?_
        exact wb_mo_data_38 C0  M27 a0 v1 v2 v1 (a0 + 3) v2 _ _ _ ha0 (gq_mo_sizes ha0) G (lv_sub hl [0, 1, 2] rfl) hF
set_option maxRecDepth 100000 in
set_option maxHeartbeats 4000000 in
theorem ct_mo_data (l : Launch) (X : gw_X) (Y : gw_M) (M : gw_M) (a0 : Nat) (v1 : Int32) (v2 : Int32) (ha0 : gr_k a0 = (11, 0)) (z : (Int32 × gw_M)) (hF : mo_data_b0 M a0 v1 v2 = some z) : Met l yy_mo_data ((Cond.code yy_mo_data by_mo_data 3 (some .int)) :: gw_w) rm_mo_data (va_Pc [.ref (gr_a X a0), .int v1, .int v2] (gw_B X (gw_E X Y M))) (gw_Qi X (fun M => (gw_E X Y M)) z) 0 0 (gw_A X) := by
  refine Met.ofW (cc := by_mo_data) (maxL := 3) (ret := (some .int)) (by decide) rfl ?_
  intro p e s m args below meth c s₁ B hml hv
  obtain ⟨rfl, hB⟩ := hv
  rw [lg_entry_eq]
  have hl := lv_entry ([.ref (gr_a X a0), .int v1, .int v2]) (n := 3) (Nat.le_of_ble_eq_true rfl)
  generalize (lg_sl ([.ref (gr_a X a0), .int v1, .int v2]) ++ List.replicate (3 - (lg_sl ([.ref (gr_a X a0), .int v1, .int v2])).length) Slot.unset).toArray = ls at hl ⊢
  have hl : lv_has ls 3 [(0, .ref (gr_a X a0)), (1, .int v1), (2, .int v2)] := hl
  exact wb_mo_data_0 (gw_ctx B hml rfl hB) M a0 v1 v2 _ _ _ ha0 (gw_start hB) hl hF
