/-! java/util/Arrays.fill([JJ)V -/
abbrev rm_ar_fillL : Room := { frames := 0, cells := 0, slots := 0, locals := 0 }
theorem dd_ar_fillL_0 : decode by_ar_fillL 0 = .ok (.iconst 0, 1) := by decide +kernel
theorem dd_ar_fillL_1 : decode by_ar_fillL 1 = .ok (.istore_n 3, 1) := by decide +kernel
theorem dd_ar_fillL_2 : decode by_ar_fillL 2 = .ok (.aload_n 0, 1) := by decide +kernel
theorem dd_ar_fillL_3 : decode by_ar_fillL 3 = .ok (.arraylength, 1) := by decide +kernel
theorem dd_ar_fillL_4 : decode by_ar_fillL 4 = .ok (.istore 4, 2) := by decide +kernel
theorem dd_ar_fillL_6 : decode by_ar_fillL 6 = .ok (.iload_n 3, 1) := by decide +kernel
theorem dd_ar_fillL_7 : decode by_ar_fillL 7 = .ok (.iload 4, 2) := by decide +kernel
theorem dd_ar_fillL_9 : decode by_ar_fillL 9 = .ok (.if_icmp .ge 13, 3) := by decide +kernel
theorem dd_ar_fillL_12 : decode by_ar_fillL 12 = .ok (.aload_n 0, 1) := by decide +kernel
theorem dd_ar_fillL_13 : decode by_ar_fillL 13 = .ok (.iload_n 3, 1) := by decide +kernel
theorem dd_ar_fillL_14 : decode by_ar_fillL 14 = .ok (.lload_n 1, 1) := by decide +kernel
theorem dd_ar_fillL_15 : decode by_ar_fillL 15 = .ok (.lastore, 1) := by decide +kernel
theorem dd_ar_fillL_16 : decode by_ar_fillL 16 = .ok (.iinc 3 1, 3) := by decide +kernel
theorem dd_ar_fillL_19 : decode by_ar_fillL 19 = .ok (.goto (-13), 3) := by decide +kernel
theorem dd_ar_fillL_22 : decode by_ar_fillL 22 = .ok (.return_, 1) := by decide +kernel
def ar_fillL_b6 (K6 : gw_M → Nat → Nat → Int64 → Int32 → Int32 → Option (Unit × gw_M)) (M : gw_M) (na0 : Nat) (a0 : Nat) (v1 : Int64) (v3 : Int32) (v4 : Int32) : Option (Unit × gw_M) :=
  if v4 ≤ v3 then (some ((), M)) else (gw_gu (gw_in v3 na0) (gw_lt (gw_sL M a0 v3.toNatClampNeg v1) (fun M15 => K6 M15 na0 a0 v1 (v3 + (1 : Int32)) v4)))
def ar_fillL_l6 : Nat → gw_M → Nat → Nat → Int64 → Int32 → Int32 → Option (Unit × gw_M)
  | 0 => fun _ _ _ _ _ _ => none
  | n + 1 => ar_fillL_b6  (ar_fillL_l6  n)
def ar_fillL_b0 (M : gw_M) (na0 : Nat) (a0 : Nat) (v1 : Int64) : Option (Unit × gw_M) :=
  gw_lt (Int32.ofNat na0) (fun x4 => ar_fillL_l6  2100 M na0 a0 v1 (0 : Int32) x4)
set_option maxRecDepth 100000 in
set_option maxHeartbeats 4000000 in
theorem wb_ar_fillL_6 {p : Program} {l : Launch} {e : Env} {s : State} {m : MethodId} {args : Array Value} {below : List Frame} {meth : Method} {c : Code} {X : gw_X} {Y : gw_M} {z : (Unit × gw_M)} (C0 : gw_C ((Cond.code yy_ar_fillL by_ar_fillL 5 none) :: gw_w) by_ar_fillL 5 none "java/util/Arrays" X p s m args meth c) {K6 : gw_M → Nat → Nat → Int64 → Int32 → Int32 → Option (Unit × gw_M)} (hK6 : ∀ (M : gw_M) (na0 : Nat) (a0 : Nat) (v1 : Int64) (v3 : Int32) (v4 : Int32) (H : Heap) (locs : List Loc) (ls : Array Slot), gc_k a0 = (1, na0) → gw_G X (gw_E X M Y) s H locs → lv_has ls 5 [(0, .ref (gc_a X a0)), (1, .long v1), (3, .int v3), (4, .int v4)] → K6 M na0 a0 v1 v3 v4 = some z → W p l e rm_ar_fillL s m args below meth c H locs 0 0 (MQ below (gw_Qv X (fun M => (gw_E X M Y)) z) args s 0 0 (gw_A X)) (F0 m 6 ls [])) (M : gw_M) (na0 : Nat) (a0 : Nat) (v1 : Int64) (v3 : Int32) (v4 : Int32) (H : Heap) (locs : List Loc) (ls : Array Slot) (ha0 : gc_k a0 = (1, na0)) (G : gw_G X (gw_E X M Y) s H locs) (hl : lv_has ls 5 [(0, .ref (gc_a X a0)), (1, .long v1), (3, .int v3), (4, .int v4)]) (hF : ar_fillL_b6 K6 M na0 a0 v1 v3 v4 = some z) : W p l e rm_ar_fillL s m args below meth c H locs 0 0 (MQ below (gw_Qv X (fun M => (gw_E X M Y)) z) args s 0 0 (gw_A X)) (F0 m 6 ls []) := by
  obtain ⟨hx, hb, hml, hown, hts, hr, hlocks, hK⟩ := id C0
  have hg : ∀ w ∈ gw_w, w.before args s = true := fun w h => hts w (List.mem_cons_of_mem _ h)
  unfold ar_fillL_b6 at hF
  refine lv_iload_n hx hb dd_ar_fillL_6 rfl (lv_at hl 2 rfl) ?_
  refine lv_iload hx hb dd_ar_fillL_7 (lv_at hl 3 rfl) ?_
  refine lv_icmp_ge (tgt := 22) hx hb dd_ar_fillL_9 (by decide) (fun h9 => ?_) (fun h9 => ?_)
  · replace hF := gw_et h9 hF
    exact W.vret hx hb hr (fun t ht hW => gw_endv (EF := (fun M => (gw_E X M Y))) (M := M) G ht hF) G.2.2.2.2 dd_ar_fillL_22 hlocks
  · replace hF := gw_ef h9 hF
    refine lv_aload_n hx hb dd_ar_fillL_12 rfl (lv_at hl 0 rfl) ?_
    refine lv_iload_n hx hb dd_ar_fillL_13 rfl (lv_at hl 2 rfl) ?_
    refine lv_lload_n hx hb dd_ar_fillL_14 rfl (lv_at hl 1 rfl) ?_
    obtain ⟨h15, hF⟩ := gw_gd hF
    refine gc_last hx hb hK G ha0 (gw_vp h15) (j := v3.toNatClampNeg) rfl dd_ar_fillL_15 (fun M15 H locs e15 G => ?_)
    replace hF := gw_ly e15 hF
    refine lv_iinc (k := 2) (v := v3 + (1 : Int32)) (lv' := [(3, .int (v3 + (1 : Int32))), (0, .ref (gc_a X a0)), (1, .long v1), (4, .int v4)]) hx hb dd_ar_fillL_16 hl rfl rfl (by decide) rfl (fun ls hl => ?_)
    refine lv_goto (tgt := 6) hx hb dd_ar_fillL_19 (by decide) ?_
    exact hK6 M15 na0 a0 v1 (v3 + (1 : Int32)) v4 _ _ _ ha0 G (lv_sub hl [1, 2, 0, 3] rfl) hF
theorem wl_ar_fillL_6 {p : Program} {l : Launch} {e : Env} {s : State} {m : MethodId} {args : Array Value} {below : List Frame} {meth : Method} {c : Code} {X : gw_X} {Y : gw_M} {z : (Unit × gw_M)} (C0 : gw_C ((Cond.code yy_ar_fillL by_ar_fillL 5 none) :: gw_w) by_ar_fillL 5 none "java/util/Arrays" X p s m args meth c) : ∀ n : Nat, ∀ (M : gw_M) (na0 : Nat) (a0 : Nat) (v1 : Int64) (v3 : Int32) (v4 : Int32) (H : Heap) (locs : List Loc) (ls : Array Slot), gc_k a0 = (1, na0) → gw_G X (gw_E X M Y) s H locs → lv_has ls 5 [(0, .ref (gc_a X a0)), (1, .long v1), (3, .int v3), (4, .int v4)] → ar_fillL_l6  n M na0 a0 v1 v3 v4 = some z → W p l e rm_ar_fillL s m args below meth c H locs 0 0 (MQ below (gw_Qv X (fun M => (gw_E X M Y)) z) args s 0 0 (gw_A X)) (F0 m 6 ls []) := by
  intro n
  induction n with
  | zero =>
    intro M na0 a0 v1 v3 v4 H locs ls ha0 G hl hF
    have hF : (none : Option (Unit × gw_M)) = some z := hF
    cases hF
  | succ n ih =>
    intro M na0 a0 v1 v3 v4 H locs ls ha0 G hl hF
    exact wb_ar_fillL_6 C0  ih M na0 a0 v1 v3 v4 H locs ls ha0 G hl hF
set_option maxRecDepth 100000 in
set_option maxHeartbeats 4000000 in
theorem wb_ar_fillL_0 {p : Program} {l : Launch} {e : Env} {s : State} {m : MethodId} {args : Array Value} {below : List Frame} {meth : Method} {c : Code} {X : gw_X} {Y : gw_M} {z : (Unit × gw_M)} (C0 : gw_C ((Cond.code yy_ar_fillL by_ar_fillL 5 none) :: gw_w) by_ar_fillL 5 none "java/util/Arrays" X p s m args meth c) (M : gw_M) (na0 : Nat) (a0 : Nat) (v1 : Int64) (H : Heap) (locs : List Loc) (ls : Array Slot) (ha0 : gc_k a0 = (1, na0)) (G : gw_G X (gw_E X M Y) s H locs) (hl : lv_has ls 5 [(0, .ref (gc_a X a0)), (1, .long v1)]) (hF : ar_fillL_b0  M na0 a0 v1 = some z) : W p l e rm_ar_fillL s m args below meth c H locs 0 0 (MQ below (gw_Qv X (fun M => (gw_E X M Y)) z) args s 0 0 (gw_A X)) (F0 m 0 ls []) := by
  obtain ⟨hx, hb, hml, hown, hts, hr, hlocks, hK⟩ := id C0
  have hg : ∀ w ∈ gw_w, w.before args s = true := fun w h => hts w (List.mem_cons_of_mem _ h)
  unfold ar_fillL_b0 at hF
  refine lv_iconst (v := (0 : Int32)) hx hb dd_ar_fillL_0 (by decide) ?_
  refine lv_istore_n (i := 3) (lv' := [(3, .int (0 : Int32)), (0, .ref (gc_a X a0)), (1, .long v1)]) hx hb dd_ar_fillL_1 rfl hl (by decide) rfl (fun ls hl => ?_)
  refine lv_aload_n hx hb dd_ar_fillL_2 rfl (lv_at hl 1 rfl) ?_
  refine gc_alen1 hx hb hK G ha0 dd_ar_fillL_3 ?_
  refine lv_topi (fun x4 e4 => ?_)
  replace hF := gw_ly e4 hF
  refine lv_istore (i := 4) (lv' := [(4, .int x4), (3, .int (0 : Int32)), (0, .ref (gc_a X a0)), (1, .long v1)]) hx hb dd_ar_fillL_4 hl (by decide) rfl (fun ls hl => ?_)
  exact wl_ar_fillL_6 C0  2100 M na0 a0 v1 (0 : Int32) x4 _ _ _ ha0 G (lv_sub hl [2, 3, 1, 0] rfl) hF
set_option maxRecDepth 100000 in
set_option maxHeartbeats 4000000 in
theorem ct_ar_fillL (l : Launch) (X : gw_X) (Y : gw_M) (M : gw_M) (na0 : Nat) (a0 : Nat) (v1 : Int64) (ha0 : gc_k a0 = (1, na0)) (z : (Unit × gw_M)) (hF : ar_fillL_b0 M na0 a0 v1 = some z) : Met l yy_ar_fillL ((Cond.code yy_ar_fillL by_ar_fillL 5 none) :: gw_w) rm_ar_fillL (va_Pc [.ref (gc_a X a0), .long v1] (gw_B X (gw_E X M Y))) (gw_Qv X (fun M => (gw_E X M Y)) z) 0 0 (gw_A X) := by
  refine Met.ofW (cc := by_ar_fillL) (maxL := 5) (ret := none) (by decide) rfl ?_
  intro p e s m args below meth c s₁ B hml hv
  obtain ⟨rfl, hB⟩ := hv
  rw [lg_entry_eq]
  have hl := lv_entry ([.ref (gc_a X a0), .long v1]) (n := 5) (Nat.le_of_ble_eq_true rfl)
  generalize (lg_sl ([.ref (gc_a X a0), .long v1]) ++ List.replicate (5 - (lg_sl ([.ref (gc_a X a0), .long v1])).length) Slot.unset).toArray = ls at hl ⊢
  have hl : lv_has ls 5 [(0, .ref (gc_a X a0)), (1, .long v1)] := hl
  exact wb_ar_fillL_0 (gw_ctx B hml rfl hB) M na0 a0 v1 _ _ _ ha0 (gw_start hB) hl hF
/-! AccountMachine$Order.mainSlotOf(I)I -/
abbrev rm_od_mainSlotOf : Room := { frames := 0, cells := 0, slots := 0, locals := 0 }
theorem dd_od_mainSlotOf_0 : decode by_od_mainSlotOf 0 = .ok (.iconst 0, 1) := by decide +kernel
theorem dd_od_mainSlotOf_1 : decode by_od_mainSlotOf 1 = .ok (.istore_n 2, 1) := by decide +kernel
theorem dd_od_mainSlotOf_2 : decode by_od_mainSlotOf 2 = .ok (.iload_n 2, 1) := by decide +kernel
theorem dd_od_mainSlotOf_3 : decode by_od_mainSlotOf 3 = .ok (.aload_n 0, 1) := by decide +kernel
theorem dd_od_mainSlotOf_4 : decode by_od_mainSlotOf 4 = .ok (.getfield 18, 3) := by decide +kernel
theorem dd_od_mainSlotOf_7 : decode by_od_mainSlotOf 7 = .ok (.if_icmp .ge 19, 3) := by decide +kernel
theorem dd_od_mainSlotOf_10 : decode by_od_mainSlotOf 10 = .ok (.aload_n 0, 1) := by decide +kernel
theorem dd_od_mainSlotOf_11 : decode by_od_mainSlotOf 11 = .ok (.getfield 21, 3) := by decide +kernel
theorem dd_od_mainSlotOf_14 : decode by_od_mainSlotOf 14 = .ok (.iload_n 2, 1) := by decide +kernel
theorem dd_od_mainSlotOf_15 : decode by_od_mainSlotOf 15 = .ok (.iaload, 1) := by decide +kernel
theorem dd_od_mainSlotOf_16 : decode by_od_mainSlotOf 16 = .ok (.iload_n 1, 1) := by decide +kernel
theorem dd_od_mainSlotOf_17 : decode by_od_mainSlotOf 17 = .ok (.if_icmp .eq 9, 3) := by decide +kernel
theorem dd_od_mainSlotOf_20 : decode by_od_mainSlotOf 20 = .ok (.iinc 2 1, 3) := by decide +kernel
theorem dd_od_mainSlotOf_23 : decode by_od_mainSlotOf 23 = .ok (.goto (-21), 3) := by decide +kernel
theorem dd_od_mainSlotOf_26 : decode by_od_mainSlotOf 26 = .ok (.iload_n 2, 1) := by decide +kernel
theorem dd_od_mainSlotOf_27 : decode by_od_mainSlotOf 27 = .ok (.ireturn, 1) := by decide +kernel
def od_mainSlotOf_b2 (K2 : gw_M → Nat → Int32 → Int32 → Option (Int32 × gw_M)) (M : gw_M) (a0 : Nat) (v1 : Int32) (v2 : Int32) : Option (Int32 × gw_M) :=
  if (M.1 a0 2) ≤ v2 then (some (v2, M)) else (gw_gu (gw_in v2 4) (if (M.1 (a0 + 1) v2.toNatClampNeg) = v1 then (some (v2, M)) else (K2 M a0 v1 (v2 + (1 : Int32)))))
def od_mainSlotOf_l2 : Nat → gw_M → Nat → Int32 → Int32 → Option (Int32 × gw_M)
  | 0 => fun _ _ _ _ => none
  | n + 1 => od_mainSlotOf_b2  (od_mainSlotOf_l2  n)
def od_mainSlotOf_b0 (M : gw_M) (a0 : Nat) (v1 : Int32) : Option (Int32 × gw_M) :=
  od_mainSlotOf_l2  2100 M a0 v1 (0 : Int32)
set_option maxRecDepth 100000 in
set_option maxHeartbeats 4000000 in
theorem wb_od_mainSlotOf_2 {p : Program} {l : Launch} {e : Env} {s : State} {m : MethodId} {args : Array Value} {below : List Frame} {meth : Method} {c : Code} {X : gw_X} {Y : gw_M} {z : (Int32 × gw_M)} (C0 : gw_C ((Cond.code yy_od_mainSlotOf by_od_mainSlotOf 3 (some .int)) :: gw_w) by_od_mainSlotOf 3 (some .int) "AccountMachine$Order" X p s m args meth c) {K2 : gw_M → Nat → Int32 → Int32 → Option (Int32 × gw_M)} (hK2 : ∀ (M : gw_M) (a0 : Nat) (v1 : Int32) (v2 : Int32) (H : Heap) (locs : List Loc) (ls : Array Slot), gc_k a0 = (4, 0) → gw_G X (gw_E X M Y) s H locs → lv_has ls 3 [(0, .ref (gc_a X a0)), (1, .int v1), (2, .int v2)] → K2 M a0 v1 v2 = some z → W p l e rm_od_mainSlotOf s m args below meth c H locs 0 0 (MQ below (gw_Qi X (fun M => (gw_E X M Y)) z) args s 0 0 (gw_A X)) (F0 m 2 ls [])) (M : gw_M) (a0 : Nat) (v1 : Int32) (v2 : Int32) (H : Heap) (locs : List Loc) (ls : Array Slot) (ha0 : gc_k a0 = (4, 0)) (G : gw_G X (gw_E X M Y) s H locs) (hl : lv_has ls 3 [(0, .ref (gc_a X a0)), (1, .int v1), (2, .int v2)]) (hF : od_mainSlotOf_b2 K2 M a0 v1 v2 = some z) : W p l e rm_od_mainSlotOf s m args below meth c H locs 0 0 (MQ below (gw_Qi X (fun M => (gw_E X M Y)) z) args s 0 0 (gw_A X)) (F0 m 2 ls []) := by
  obtain ⟨hx, hb, hml, hown, hts, hr, hlocks, hK⟩ := id C0
  have hg : ∀ w ∈ gw_w, w.before args s = true := fun w h => hts w (List.mem_cons_of_mem _ h)
  unfold od_mainSlotOf_b2 at hF
  refine lv_iload_n hx hb dd_od_mainSlotOf_2 rfl (lv_at hl 2 rfl) ?_
  refine lv_aload_n hx hb dd_od_mainSlotOf_3 rfl (lv_at hl 0 rfl) ?_
  refine gf_od_count hx hb hg hown (hg _ kw_0) hK G ha0 dd_od_mainSlotOf_4 ?_
  refine lv_icmp_ge (tgt := 26) hx hb dd_od_mainSlotOf_7 (by decide) (fun h7 => ?_) (fun h7 => ?_)
  · replace hF := gw_et h7 hF
    refine lv_iload_n hx hb dd_od_mainSlotOf_26 rfl (lv_at hl 2 rfl) ?_
    exact W.iret hx hb hr (fun t ht hW => gw_endi (EF := (fun M => (gw_E X M Y))) (M := M) G ht hF) G.2.2.2.2 dd_od_mainSlotOf_27 hlocks
  · replace hF := gw_ef h7 hF
    refine lv_aload_n hx hb dd_od_mainSlotOf_10 rfl (lv_at hl 0 rfl) ?_
    refine gf_od_accounts hx hb hg hown (hg _ kw_1) hK G ha0 dd_od_mainSlotOf_11 ?_
    refine lv_iload_n hx hb dd_od_mainSlotOf_14 rfl (lv_at hl 2 rfl) ?_
    obtain ⟨h15, hF⟩ := gw_gd hF
    refine gc_iald hx hb hK G (gq_od_accounts ha0) (gw_vp h15) (j := v2.toNatClampNeg) rfl dd_od_mainSlotOf_15 ?_
    refine lv_iload_n hx hb dd_od_mainSlotOf_16 rfl (lv_at hl 1 rfl) ?_
    refine lv_icmp_eq (tgt := 26) hx hb dd_od_mainSlotOf_17 (by decide) (fun h17 => ?_) (fun h17 => ?_)
    · replace hF := gw_et h17 hF
      refine lv_iload_n hx hb dd_od_mainSlotOf_26 rfl (lv_at hl 2 rfl) ?_
      exact W.iret hx hb hr (fun t ht hW => gw_endi (EF := (fun M => (gw_E X M Y))) (M := M) G ht hF) G.2.2.2.2 dd_od_mainSlotOf_27 hlocks
    · replace hF := gw_ef h17 hF
      refine lv_iinc (k := 2) (v := v2 + (1 : Int32)) (lv' := [(2, .int (v2 + (1 : Int32))), (0, .ref (gc_a X a0)), (1, .int v1)]) hx hb dd_od_mainSlotOf_20 hl rfl rfl (by decide) rfl (fun ls hl => ?_)
      refine lv_goto (tgt := 2) hx hb dd_od_mainSlotOf_23 (by decide) ?_
      exact hK2 M a0 v1 (v2 + (1 : Int32)) _ _ _ ha0 G (lv_sub hl [1, 2, 0] rfl) hF
theorem wl_od_mainSlotOf_2 {p : Program} {l : Launch} {e : Env} {s : State} {m : MethodId} {args : Array Value} {below : List Frame} {meth : Method} {c : Code} {X : gw_X} {Y : gw_M} {z : (Int32 × gw_M)} (C0 : gw_C ((Cond.code yy_od_mainSlotOf by_od_mainSlotOf 3 (some .int)) :: gw_w) by_od_mainSlotOf 3 (some .int) "AccountMachine$Order" X p s m args meth c) : ∀ n : Nat, ∀ (M : gw_M) (a0 : Nat) (v1 : Int32) (v2 : Int32) (H : Heap) (locs : List Loc) (ls : Array Slot), gc_k a0 = (4, 0) → gw_G X (gw_E X M Y) s H locs → lv_has ls 3 [(0, .ref (gc_a X a0)), (1, .int v1), (2, .int v2)] → od_mainSlotOf_l2  n M a0 v1 v2 = some z → W p l e rm_od_mainSlotOf s m args below meth c H locs 0 0 (MQ below (gw_Qi X (fun M => (gw_E X M Y)) z) args s 0 0 (gw_A X)) (F0 m 2 ls []) := by
  intro n
  induction n with
  | zero =>
    intro M a0 v1 v2 H locs ls ha0 G hl hF
    have hF : (none : Option (Int32 × gw_M)) = some z := hF
    cases hF
  | succ n ih =>
    intro M a0 v1 v2 H locs ls ha0 G hl hF
    exact wb_od_mainSlotOf_2 C0  ih M a0 v1 v2 H locs ls ha0 G hl hF
set_option maxRecDepth 100000 in
set_option maxHeartbeats 4000000 in
theorem wb_od_mainSlotOf_0 {p : Program} {l : Launch} {e : Env} {s : State} {m : MethodId} {args : Array Value} {below : List Frame} {meth : Method} {c : Code} {X : gw_X} {Y : gw_M} {z : (Int32 × gw_M)} (C0 : gw_C ((Cond.code yy_od_mainSlotOf by_od_mainSlotOf 3 (some .int)) :: gw_w) by_od_mainSlotOf 3 (some .int) "AccountMachine$Order" X p s m args meth c) (M : gw_M) (a0 : Nat) (v1 : Int32) (H : Heap) (locs : List Loc) (ls : Array Slot) (ha0 : gc_k a0 = (4, 0)) (G : gw_G X (gw_E X M Y) s H locs) (hl : lv_has ls 3 [(0, .ref (gc_a X a0)), (1, .int v1)]) (hF : od_mainSlotOf_b0  M a0 v1 = some z) : W p l e rm_od_mainSlotOf s m args below meth c H locs 0 0 (MQ below (gw_Qi X (fun M => (gw_E X M Y)) z) args s 0 0 (gw_A X)) (F0 m 0 ls []) := by
  obtain ⟨hx, hb, hml, hown, hts, hr, hlocks, hK⟩ := id C0
  have hg : ∀ w ∈ gw_w, w.before args s = true := fun w h => hts w (List.mem_cons_of_mem _ h)
  unfold od_mainSlotOf_b0 at hF
  refine lv_iconst (v := (0 : Int32)) hx hb dd_od_mainSlotOf_0 (by decide) ?_
  refine lv_istore_n (i := 2) (lv' := [(2, .int (0 : Int32)), (0, .ref (gc_a X a0)), (1, .int v1)]) hx hb dd_od_mainSlotOf_1 rfl hl (by decide) rfl (fun ls hl => ?_)
  exact wl_od_mainSlotOf_2 C0  2100 M a0 v1 (0 : Int32) _ _ _ ha0 G (lv_sub hl [1, 2, 0] rfl) hF
set_option maxRecDepth 100000 in
set_option maxHeartbeats 4000000 in
theorem ct_od_mainSlotOf (l : Launch) (X : gw_X) (Y : gw_M) (M : gw_M) (a0 : Nat) (v1 : Int32) (ha0 : gc_k a0 = (4, 0)) (z : (Int32 × gw_M)) (hF : od_mainSlotOf_b0 M a0 v1 = some z) : Met l yy_od_mainSlotOf ((Cond.code yy_od_mainSlotOf by_od_mainSlotOf 3 (some .int)) :: gw_w) rm_od_mainSlotOf (va_Pc [.ref (gc_a X a0), .int v1] (gw_B X (gw_E X M Y))) (gw_Qi X (fun M => (gw_E X M Y)) z) 0 0 (gw_A X) := by
  refine Met.ofW (cc := by_od_mainSlotOf) (maxL := 3) (ret := (some .int)) (by decide) rfl ?_
  intro p e s m args below meth c s₁ B hml hv
  obtain ⟨rfl, hB⟩ := hv
  rw [lg_entry_eq]
  have hl := lv_entry ([.ref (gc_a X a0), .int v1]) (n := 3) (Nat.le_of_ble_eq_true rfl)
  generalize (lg_sl ([.ref (gc_a X a0), .int v1]) ++ List.replicate (3 - (lg_sl ([.ref (gc_a X a0), .int v1])).length) Slot.unset).toArray = ls at hl ⊢
  have hl : lv_has ls 3 [(0, .ref (gc_a X a0)), (1, .int v1)] := hl
  exact wb_od_mainSlotOf_0 (gw_ctx B hml rfl hB) M a0 v1 _ _ _ ha0 (gw_start hB) hl hF
/-! AccountMachine$Order.marksOf(I)I -/
abbrev rm_od_marksOf : Room := { frames := 0, cells := 0, slots := 0, locals := 0 }
theorem dd_od_marksOf_0 : decode by_od_marksOf 0 = .ok (.iconst 0, 1) := by decide +kernel
theorem dd_od_marksOf_1 : decode by_od_marksOf 1 = .ok (.istore_n 2, 1) := by decide +kernel
theorem dd_od_marksOf_2 : decode by_od_marksOf 2 = .ok (.iconst 0, 1) := by decide +kernel
theorem dd_od_marksOf_3 : decode by_od_marksOf 3 = .ok (.istore_n 3, 1) := by decide +kernel
theorem dd_od_marksOf_4 : decode by_od_marksOf 4 = .ok (.iload_n 3, 1) := by decide +kernel
theorem dd_od_marksOf_5 : decode by_od_marksOf 5 = .ok (.aload_n 0, 1) := by decide +kernel
theorem dd_od_marksOf_6 : decode by_od_marksOf 6 = .ok (.getfield 18, 3) := by decide +kernel
theorem dd_od_marksOf_9 : decode by_od_marksOf 9 = .ok (.if_icmp .ge 28, 3) := by decide +kernel
theorem dd_od_marksOf_12 : decode by_od_marksOf 12 = .ok (.aload_n 0, 1) := by decide +kernel
theorem dd_od_marksOf_13 : decode by_od_marksOf 13 = .ok (.getfield 21, 3) := by decide +kernel
theorem dd_od_marksOf_16 : decode by_od_marksOf 16 = .ok (.iload_n 3, 1) := by decide +kernel
theorem dd_od_marksOf_17 : decode by_od_marksOf 17 = .ok (.iaload, 1) := by decide +kernel
theorem dd_od_marksOf_18 : decode by_od_marksOf 18 = .ok (.iload_n 1, 1) := by decide +kernel
theorem dd_od_marksOf_19 : decode by_od_marksOf 19 = .ok (.if_icmp .ne 12, 3) := by decide +kernel
theorem dd_od_marksOf_22 : decode by_od_marksOf 22 = .ok (.iload_n 2, 1) := by decide +kernel
theorem dd_od_marksOf_23 : decode by_od_marksOf 23 = .ok (.aload_n 0, 1) := by decide +kernel
theorem dd_od_marksOf_24 : decode by_od_marksOf 24 = .ok (.getfield 25, 3) := by decide +kernel
theorem dd_od_marksOf_27 : decode by_od_marksOf 27 = .ok (.iload_n 3, 1) := by decide +kernel
theorem dd_od_marksOf_28 : decode by_od_marksOf 28 = .ok (.iaload, 1) := by decide +kernel
theorem dd_od_marksOf_29 : decode by_od_marksOf 29 = .ok (.ior, 1) := by decide +kernel
theorem dd_od_marksOf_30 : decode by_od_marksOf 30 = .ok (.istore_n 2, 1) := by decide +kernel
theorem dd_od_marksOf_31 : decode by_od_marksOf 31 = .ok (.iinc 3 1, 3) := by decide +kernel
theorem dd_od_marksOf_34 : decode by_od_marksOf 34 = .ok (.goto (-30), 3) := by decide +kernel
theorem dd_od_marksOf_37 : decode by_od_marksOf 37 = .ok (.iload_n 2, 1) := by decide +kernel
theorem dd_od_marksOf_38 : decode by_od_marksOf 38 = .ok (.ireturn, 1) := by decide +kernel
def od_marksOf_b31 (K4 : gw_M → Nat → Int32 → Int32 → Int32 → Option (Int32 × gw_M)) (M : gw_M) (a0 : Nat) (v1 : Int32) (v2 : Int32) (v3 : Int32) : Option (Int32 × gw_M) :=
  K4 M a0 v1 v2 (v3 + (1 : Int32))
def od_marksOf_b4 (K4 : gw_M → Nat → Int32 → Int32 → Int32 → Option (Int32 × gw_M)) (M : gw_M) (a0 : Nat) (v1 : Int32) (v2 : Int32) (v3 : Int32) : Option (Int32 × gw_M) :=
  if (M.1 a0 2) ≤ v3 then (some (v2, M)) else (gw_gu (gw_in v3 4) (if (M.1 (a0 + 1) v3.toNatClampNeg) = v1 then (gw_gu (gw_in v3 4) (gw_lt (v2 ||| (M.1 (a0 + 2) v3.toNatClampNeg)) (fun x30 => od_marksOf_b31 K4 M a0 v1 x30 v3))) else (od_marksOf_b31 K4 M a0 v1 v2 v3)))
def od_marksOf_l4 : Nat → gw_M → Nat → Int32 → Int32 → Int32 → Option (Int32 × gw_M)
  | 0 => fun _ _ _ _ _ => none
  | n + 1 => od_marksOf_b4  (od_marksOf_l4  n)
def od_marksOf_b0 (M : gw_M) (a0 : Nat) (v1 : Int32) : Option (Int32 × gw_M) :=
  od_marksOf_l4  2100 M a0 v1 (0 : Int32) (0 : Int32)
set_option maxRecDepth 100000 in
set_option maxHeartbeats 4000000 in
theorem wb_od_marksOf_31 {p : Program} {l : Launch} {e : Env} {s : State} {m : MethodId} {args : Array Value} {below : List Frame} {meth : Method} {c : Code} {X : gw_X} {Y : gw_M} {z : (Int32 × gw_M)} (C0 : gw_C ((Cond.code yy_od_marksOf by_od_marksOf 4 (some .int)) :: gw_w) by_od_marksOf 4 (some .int) "AccountMachine$Order" X p s m args meth c) {K4 : gw_M → Nat → Int32 → Int32 → Int32 → Option (Int32 × gw_M)} (hK4 : ∀ (M : gw_M) (a0 : Nat) (v1 : Int32) (v2 : Int32) (v3 : Int32) (H : Heap) (locs : List Loc) (ls : Array Slot), gc_k a0 = (4, 0) → gw_G X (gw_E X M Y) s H locs → lv_has ls 4 [(0, .ref (gc_a X a0)), (1, .int v1), (2, .int v2), (3, .int v3)] → K4 M a0 v1 v2 v3 = some z → W p l e rm_od_marksOf s m args below meth c H locs 0 0 (MQ below (gw_Qi X (fun M => (gw_E X M Y)) z) args s 0 0 (gw_A X)) (F0 m 4 ls [])) (M : gw_M) (a0 : Nat) (v1 : Int32) (v2 : Int32) (v3 : Int32) (H : Heap) (locs : List Loc) (ls : Array Slot) (ha0 : gc_k a0 = (4, 0)) (G : gw_G X (gw_E X M Y) s H locs) (hl : lv_has ls 4 [(0, .ref (gc_a X a0)), (1, .int v1), (2, .int v2), (3, .int v3)]) (hF : od_marksOf_b31 K4 M a0 v1 v2 v3 = some z) : W p l e rm_od_marksOf s m args below meth c H locs 0 0 (MQ below (gw_Qi X (fun M => (gw_E X M Y)) z) args s 0 0 (gw_A X)) (F0 m 31 ls []) := by
  obtain ⟨hx, hb, hml, hown, hts, hr, hlocks, hK⟩ := id C0
  have hg : ∀ w ∈ gw_w, w.before args s = true := fun w h => hts w (List.mem_cons_of_mem _ h)
  unfold od_marksOf_b31 at hF
  refine lv_iinc (k := 3) (v := v3 + (1 : Int32)) (lv' := [(3, .int (v3 + (1 : Int32))), (0, .ref (gc_a X a0)), (1, .int v1), (2, .int v2)]) hx hb dd_od_marksOf_31 hl rfl rfl (by decide) rfl (fun ls hl => ?_)
  refine lv_goto (tgt := 4) hx hb dd_od_marksOf_34 (by decide) ?_
  exact hK4 M a0 v1 v2 (v3 + (1 : Int32)) _ _ _ ha0 G (lv_sub hl [1, 2, 3, 0] rfl) hF
set_option maxRecDepth 100000 in
set_option maxHeartbeats 4000000 in
theorem wb_od_marksOf_4 {p : Program} {l : Launch} {e : Env} {s : State} {m : MethodId} {args : Array Value} {below : List Frame} {meth : Method} {c : Code} {X : gw_X} {Y : gw_M} {z : (Int32 × gw_M)} (C0 : gw_C ((Cond.code yy_od_marksOf by_od_marksOf 4 (some .int)) :: gw_w) by_od_marksOf 4 (some .int) "AccountMachine$Order" X p s m args meth c) {K4 : gw_M → Nat → Int32 → Int32 → Int32 → Option (Int32 × gw_M)} (hK4 : ∀ (M : gw_M) (a0 : Nat) (v1 : Int32) (v2 : Int32) (v3 : Int32) (H : Heap) (locs : List Loc) (ls : Array Slot), gc_k a0 = (4, 0) → gw_G X (gw_E X M Y) s H locs → lv_has ls 4 [(0, .ref (gc_a X a0)), (1, .int v1), (2, .int v2), (3, .int v3)] → K4 M a0 v1 v2 v3 = some z → W p l e rm_od_marksOf s m args below meth c H locs 0 0 (MQ below (gw_Qi X (fun M => (gw_E X M Y)) z) args s 0 0 (gw_A X)) (F0 m 4 ls [])) (M : gw_M) (a0 : Nat) (v1 : Int32) (v2 : Int32) (v3 : Int32) (H : Heap) (locs : List Loc) (ls : Array Slot) (ha0 : gc_k a0 = (4, 0)) (G : gw_G X (gw_E X M Y) s H locs) (hl : lv_has ls 4 [(0, .ref (gc_a X a0)), (1, .int v1), (2, .int v2), (3, .int v3)]) (hF : od_marksOf_b4 K4 M a0 v1 v2 v3 = some z) : W p l e rm_od_marksOf s m args below meth c H locs 0 0 (MQ below (gw_Qi X (fun M => (gw_E X M Y)) z) args s 0 0 (gw_A X)) (F0 m 4 ls []) := by
  obtain ⟨hx, hb, hml, hown, hts, hr, hlocks, hK⟩ := id C0
  have hg : ∀ w ∈ gw_w, w.before args s = true := fun w h => hts w (List.mem_cons_of_mem _ h)
  unfold od_marksOf_b4 at hF
  refine lv_iload_n hx hb dd_od_marksOf_4 rfl (lv_at hl 3 rfl) ?_
  refine lv_aload_n hx hb dd_od_marksOf_5 rfl (lv_at hl 0 rfl) ?_
  refine gf_od_count hx hb hg hown (hg _ kw_0) hK G ha0 dd_od_marksOf_6 ?_
  refine lv_icmp_ge (tgt := 37) hx hb dd_od_marksOf_9 (by decide) (fun h9 => ?_) (fun h9 => ?_)
  · replace hF := gw_et h9 hF
    refine lv_iload_n hx hb dd_od_marksOf_37 rfl (lv_at hl 2 rfl) ?_
    exact W.iret hx hb hr (fun t ht hW => gw_endi (EF := (fun M => (gw_E X M Y))) (M := M) G ht hF) G.2.2.2.2 dd_od_marksOf_38 hlocks
  · replace hF := gw_ef h9 hF
    refine lv_aload_n hx hb dd_od_marksOf_12 rfl (lv_at hl 0 rfl) ?_
    refine gf_od_accounts hx hb hg hown (hg _ kw_1) hK G ha0 dd_od_marksOf_13 ?_
    refine lv_iload_n hx hb dd_od_marksOf_16 rfl (lv_at hl 3 rfl) ?_
    obtain ⟨h17, hF⟩ := gw_gd hF
    refine gc_iald hx hb hK G (gq_od_accounts ha0) (gw_vp h17) (j := v3.toNatClampNeg) rfl dd_od_marksOf_17 ?_
    refine lv_iload_n hx hb dd_od_marksOf_18 rfl (lv_at hl 1 rfl) ?_
    refine lv_icmp_ne (tgt := 31) hx hb dd_od_marksOf_19 (by decide) (fun h19 => ?_) (fun h19 => ?_)
    · replace hF := gw_ef h19 hF
      exact wb_od_marksOf_31 C0 hK4 M a0 v1 v2 v3 _ _ _ ha0 G (lv_sub hl [0, 1, 2, 3] rfl) hF
    · replace hF := gw_et h19 hF
      refine lv_iload_n hx hb dd_od_marksOf_22 rfl (lv_at hl 2 rfl) ?_
      refine lv_aload_n hx hb dd_od_marksOf_23 rfl (lv_at hl 0 rfl) ?_
      refine gf_od_marks hx hb hg hown (hg _ kw_2) hK G ha0 dd_od_marksOf_24 ?_
      refine lv_iload_n hx hb dd_od_marksOf_27 rfl (lv_at hl 3 rfl) ?_
      obtain ⟨h28, hF⟩ := gw_gd hF
      refine gc_iald hx hb hK G (gq_od_marks ha0) (gw_vp h28) (j := v3.toNatClampNeg) rfl dd_od_marksOf_28 ?_
      refine lv_ior hx hb dd_od_marksOf_29 ?_
      refine lv_topi (fun x30 e30 => ?_)
      replace hF := gw_ly e30 hF
      refine lv_istore_n (i := 2) (lv' := [(2, .int x30), (0, .ref (gc_a X a0)), (1, .int v1), (3, .int v3)]) hx hb dd_od_marksOf_30 rfl hl (by decide) rfl (fun ls hl => ?_)
      exact wb_od_marksOf_31 C0 hK4 M a0 v1 x30 v3 _ _ _ ha0 G (lv_sub hl [1, 2, 0, 3] rfl) hF
theorem wl_od_marksOf_4 {p : Program} {l : Launch} {e : Env} {s : State} {m : MethodId} {args : Array Value} {below : List Frame} {meth : Method} {c : Code} {X : gw_X} {Y : gw_M} {z : (Int32 × gw_M)} (C0 : gw_C ((Cond.code yy_od_marksOf by_od_marksOf 4 (some .int)) :: gw_w) by_od_marksOf 4 (some .int) "AccountMachine$Order" X p s m args meth c) : ∀ n : Nat, ∀ (M : gw_M) (a0 : Nat) (v1 : Int32) (v2 : Int32) (v3 : Int32) (H : Heap) (locs : List Loc) (ls : Array Slot), gc_k a0 = (4, 0) → gw_G X (gw_E X M Y) s H locs → lv_has ls 4 [(0, .ref (gc_a X a0)), (1, .int v1), (2, .int v2), (3, .int v3)] → od_marksOf_l4  n M a0 v1 v2 v3 = some z → W p l e rm_od_marksOf s m args below meth c H locs 0 0 (MQ below (gw_Qi X (fun M => (gw_E X M Y)) z) args s 0 0 (gw_A X)) (F0 m 4 ls []) := by
  intro n
  induction n with
  | zero =>
    intro M a0 v1 v2 v3 H locs ls ha0 G hl hF
    have hF : (none : Option (Int32 × gw_M)) = some z := hF
    cases hF
  | succ n ih =>
    intro M a0 v1 v2 v3 H locs ls ha0 G hl hF
    exact wb_od_marksOf_4 C0  ih M a0 v1 v2 v3 H locs ls ha0 G hl hF
set_option maxRecDepth 100000 in
set_option maxHeartbeats 4000000 in
theorem wb_od_marksOf_0 {p : Program} {l : Launch} {e : Env} {s : State} {m : MethodId} {args : Array Value} {below : List Frame} {meth : Method} {c : Code} {X : gw_X} {Y : gw_M} {z : (Int32 × gw_M)} (C0 : gw_C ((Cond.code yy_od_marksOf by_od_marksOf 4 (some .int)) :: gw_w) by_od_marksOf 4 (some .int) "AccountMachine$Order" X p s m args meth c) (M : gw_M) (a0 : Nat) (v1 : Int32) (H : Heap) (locs : List Loc) (ls : Array Slot) (ha0 : gc_k a0 = (4, 0)) (G : gw_G X (gw_E X M Y) s H locs) (hl : lv_has ls 4 [(0, .ref (gc_a X a0)), (1, .int v1)]) (hF : od_marksOf_b0  M a0 v1 = some z) : W p l e rm_od_marksOf s m args below meth c H locs 0 0 (MQ below (gw_Qi X (fun M => (gw_E X M Y)) z) args s 0 0 (gw_A X)) (F0 m 0 ls []) := by
  obtain ⟨hx, hb, hml, hown, hts, hr, hlocks, hK⟩ := id C0
  have hg : ∀ w ∈ gw_w, w.before args s = true := fun w h => hts w (List.mem_cons_of_mem _ h)
  unfold od_marksOf_b0 at hF
  refine lv_iconst (v := (0 : Int32)) hx hb dd_od_marksOf_0 (by decide) ?_
  refine lv_istore_n (i := 2) (lv' := [(2, .int (0 : Int32)), (0, .ref (gc_a X a0)), (1, .int v1)]) hx hb dd_od_marksOf_1 rfl hl (by decide) rfl (fun ls hl => ?_)
  refine lv_iconst (v := (0 : Int32)) hx hb dd_od_marksOf_2 (by decide) ?_
  refine lv_istore_n (i := 3) (lv' := [(3, .int (0 : Int32)), (2, .int (0 : Int32)), (0, .ref (gc_a X a0)), (1, .int v1)]) hx hb dd_od_marksOf_3 rfl hl (by decide) rfl (fun ls hl => ?_)
  exact wl_od_marksOf_4 C0  2100 M a0 v1 (0 : Int32) (0 : Int32) _ _ _ ha0 G (lv_sub hl [2, 3, 1, 0] rfl) hF
set_option maxRecDepth 100000 in
set_option maxHeartbeats 4000000 in
theorem ct_od_marksOf (l : Launch) (X : gw_X) (Y : gw_M) (M : gw_M) (a0 : Nat) (v1 : Int32) (ha0 : gc_k a0 = (4, 0)) (z : (Int32 × gw_M)) (hF : od_marksOf_b0 M a0 v1 = some z) : Met l yy_od_marksOf ((Cond.code yy_od_marksOf by_od_marksOf 4 (some .int)) :: gw_w) rm_od_marksOf (va_Pc [.ref (gc_a X a0), .int v1] (gw_B X (gw_E X M Y))) (gw_Qi X (fun M => (gw_E X M Y)) z) 0 0 (gw_A X) := by
  refine Met.ofW (cc := by_od_marksOf) (maxL := 4) (ret := (some .int)) (by decide) rfl ?_
  intro p e s m args below meth c s₁ B hml hv
  obtain ⟨rfl, hB⟩ := hv
  rw [lg_entry_eq]
  have hl := lv_entry ([.ref (gc_a X a0), .int v1]) (n := 4) (Nat.le_of_ble_eq_true rfl)
  generalize (lg_sl ([.ref (gc_a X a0), .int v1]) ++ List.replicate (4 - (lg_sl ([.ref (gc_a X a0), .int v1])).length) Slot.unset).toArray = ls at hl ⊢
  have hl : lv_has ls 4 [(0, .ref (gc_a X a0)), (1, .int v1)] := hl
  exact wb_od_marksOf_0 (gw_ctx B hml rfl hB) M a0 v1 _ _ _ ha0 (gw_start hB) hl hF
/-! AccountMachine$Ledger.copyFrom(LAccountMachine$Ledger;)V -/
abbrev rm_le_copyFrom : Room := { frames := 1, cells := 0, slots := 0, locals := 60 }
theorem dd_le_copyFrom_0 : decode by_le_copyFrom 0 = .ok (.aload_n 1, 1) := by decide +kernel
theorem dd_le_copyFrom_1 : decode by_le_copyFrom 1 = .ok (.getfield 9, 3) := by decide +kernel
theorem dd_le_copyFrom_4 : decode by_le_copyFrom 4 = .ok (.iconst 0, 1) := by decide +kernel
theorem dd_le_copyFrom_5 : decode by_le_copyFrom 5 = .ok (.aload_n 0, 1) := by decide +kernel
theorem dd_le_copyFrom_6 : decode by_le_copyFrom 6 = .ok (.getfield 9, 3) := by decide +kernel
theorem dd_le_copyFrom_9 : decode by_le_copyFrom 9 = .ok (.iconst 0, 1) := by decide +kernel
theorem dd_le_copyFrom_10 : decode by_le_copyFrom 10 = .ok (.bipush 8, 2) := by decide +kernel
theorem dd_le_copyFrom_12 : decode by_le_copyFrom 12 = .ok (.invokestatic 30, 3) := by decide +kernel
theorem dd_le_copyFrom_15 : decode by_le_copyFrom 15 = .ok (.aload_n 1, 1) := by decide +kernel
theorem dd_le_copyFrom_16 : decode by_le_copyFrom 16 = .ok (.getfield 15, 3) := by decide +kernel
theorem dd_le_copyFrom_19 : decode by_le_copyFrom 19 = .ok (.iconst 0, 1) := by decide +kernel
theorem dd_le_copyFrom_20 : decode by_le_copyFrom 20 = .ok (.aload_n 0, 1) := by decide +kernel
theorem dd_le_copyFrom_21 : decode by_le_copyFrom 21 = .ok (.getfield 15, 3) := by decide +kernel
theorem dd_le_copyFrom_24 : decode by_le_copyFrom 24 = .ok (.iconst 0, 1) := by decide +kernel
theorem dd_le_copyFrom_25 : decode by_le_copyFrom 25 = .ok (.bipush 8, 2) := by decide +kernel
theorem dd_le_copyFrom_27 : decode by_le_copyFrom 27 = .ok (.invokestatic 30, 3) := by decide +kernel
theorem dd_le_copyFrom_30 : decode by_le_copyFrom 30 = .ok (.aload_n 1, 1) := by decide +kernel
theorem dd_le_copyFrom_31 : decode by_le_copyFrom 31 = .ok (.getfield 18, 3) := by decide +kernel
theorem dd_le_copyFrom_34 : decode by_le_copyFrom 34 = .ok (.iconst 0, 1) := by decide +kernel
theorem dd_le_copyFrom_35 : decode by_le_copyFrom 35 = .ok (.aload_n 0, 1) := by decide +kernel
theorem dd_le_copyFrom_36 : decode by_le_copyFrom 36 = .ok (.getfield 18, 3) := by decide +kernel
theorem dd_le_copyFrom_39 : decode by_le_copyFrom 39 = .ok (.iconst 0, 1) := by decide +kernel
theorem dd_le_copyFrom_40 : decode by_le_copyFrom 40 = .ok (.bipush 8, 2) := by decide +kernel
theorem dd_le_copyFrom_42 : decode by_le_copyFrom 42 = .ok (.invokestatic 30, 3) := by decide +kernel
theorem dd_le_copyFrom_45 : decode by_le_copyFrom 45 = .ok (.aload_n 1, 1) := by decide +kernel
theorem dd_le_copyFrom_46 : decode by_le_copyFrom 46 = .ok (.getfield 21, 3) := by decide +kernel
theorem dd_le_copyFrom_49 : decode by_le_copyFrom 49 = .ok (.iconst 0, 1) := by decide +kernel
theorem dd_le_copyFrom_50 : decode by_le_copyFrom 50 = .ok (.aload_n 0, 1) := by decide +kernel
theorem dd_le_copyFrom_51 : decode by_le_copyFrom 51 = .ok (.getfield 21, 3) := by decide +kernel
theorem dd_le_copyFrom_54 : decode by_le_copyFrom 54 = .ok (.iconst 0, 1) := by decide +kernel
theorem dd_le_copyFrom_55 : decode by_le_copyFrom 55 = .ok (.bipush 32, 2) := by decide +kernel
theorem dd_le_copyFrom_57 : decode by_le_copyFrom 57 = .ok (.invokestatic 30, 3) := by decide +kernel
theorem dd_le_copyFrom_60 : decode by_le_copyFrom 60 = .ok (.return_, 1) := by decide +kernel
def le_copyFrom_b0 (M : gw_M) (a0 : Nat) (a1 : Nat) : Option (Unit × gw_M) :=
  gw_lt (gw_cp M (a1 + 1) (a0 + 1) 0 0 8) (fun M12 => gw_lt (gw_cp M12 (a1 + 2) (a0 + 2) 0 0 8) (fun M27 => gw_lt (gw_cp M27 (a1 + 3) (a0 + 3) 0 0 8) (fun M42 => gw_lt (gw_cp M42 (a1 + 4) (a0 + 4) 0 0 32) (fun M57 => some ((), M57)))))
set_option maxRecDepth 100000 in
set_option maxHeartbeats 4000000 in
theorem wb_le_copyFrom_0 {p : Program} {l : Launch} {e : Env} {s : State} {m : MethodId} {args : Array Value} {below : List Frame} {meth : Method} {c : Code} {X : gw_X} {Y : gw_M} {z : (Unit × gw_M)} (C0 : gw_C ((Cond.code yy_le_copyFrom by_le_copyFrom 2 none) :: gw_w) by_le_copyFrom 2 none "AccountMachine$Ledger" X p s m args meth c) (M : gw_M) (a0 : Nat) (a1 : Nat) (H : Heap) (locs : List Loc) (ls : Array Slot) (ha0 : gc_k a0 = (3, 0)) (ha1 : gc_k a1 = (3, 0)) (G : gw_G X (gw_E X M Y) s H locs) (hl : lv_has ls 2 [(0, .ref (gc_a X a0)), (1, .ref (gc_a X a1))]) (hF : le_copyFrom_b0  M a0 a1 = some z) : W p l e rm_le_copyFrom s m args below meth c H locs 0 0 (MQ below (gw_Qv X (fun M => (gw_E X M Y)) z) args s 0 0 (gw_A X)) (F0 m 0 ls []) := by
  obtain ⟨hx, hb, hml, hown, hts, hr, hlocks, hK⟩ := id C0
  have hg : ∀ w ∈ gw_w, w.before args s = true := fun w h => hts w (List.mem_cons_of_mem _ h)
  unfold le_copyFrom_b0 at hF
  refine lv_aload_n hx hb dd_le_copyFrom_0 rfl (lv_at hl 1 rfl) ?_
  refine gf_le_balances hx hb hg hown (hg _ kw_63) hK G ha1 dd_le_copyFrom_1 ?_
  refine lv_iconst (v := (0 : Int32)) hx hb dd_le_copyFrom_4 (by decide) ?_
  refine lv_aload_n hx hb dd_le_copyFrom_5 rfl (lv_at hl 0 rfl) ?_
  refine gf_le_balances hx hb hg hown (hg _ kw_63) hK G ha0 dd_le_copyFrom_6 ?_
  refine lv_iconst (v := (0 : Int32)) hx hb dd_le_copyFrom_9 (by decide) ?_
  refine lv_bipush (v := (8 : Int32)) hx hb dd_le_copyFrom_10 (by decide) ?_
  refine gc_copy hx hb (by rw [hml]; exact hl.1.symm) hown (hg _ kw_64) (hg _ kw_65) (hg _ kw_66) (hg _ kw_67) hK G (gq_le_balances ha1) (gq_le_balances ha0) (by decide) (by decide) (by decide) (by decide) (by decide) (Nat.le_of_ble_eq_true rfl) (Nat.le_of_ble_eq_true rfl) dd_le_copyFrom_12 (fun M12 H locs e12 G => ?_)
  replace hF := gw_ly e12 hF
  refine lv_aload_n hx hb dd_le_copyFrom_15 rfl (lv_at hl 1 rfl) ?_
  refine W.eq (g2 := F0 m 16 _ _) rfl ?_
  refine gf_le_owners hx hb hg hown (hg _ kw_68) hK G ha1 dd_le_copyFrom_16 ?_
  refine lv_iconst (v := (0 : Int32)) hx hb dd_le_copyFrom_19 (by decide) ?_
  refine lv_aload_n hx hb dd_le_copyFrom_20 rfl (lv_at hl 0 rfl) ?_
  refine gf_le_owners hx hb hg hown (hg _ kw_68) hK G ha0 dd_le_copyFrom_21 ?_
  refine lv_iconst (v := (0 : Int32)) hx hb dd_le_copyFrom_24 (by decide) ?_
  refine lv_bipush (v := (8 : Int32)) hx hb dd_le_copyFrom_25 (by decide) ?_
  refine gc_copy hx hb (by rw [hml]; exact hl.1.symm) hown (hg _ kw_64) (hg _ kw_65) (hg _ kw_66) (hg _ kw_67) hK G (gq_le_owners ha1) (gq_le_owners ha0) (by decide) (by decide) (by decide) (by decide) (by decide) (Nat.le_of_ble_eq_true rfl) (Nat.le_of_ble_eq_true rfl) dd_le_copyFrom_27 (fun M27 H locs e27 G => ?_)
  replace hF := gw_ly e27 hF
  refine lv_aload_n hx hb dd_le_copyFrom_30 rfl (lv_at hl 1 rfl) ?_
  refine gf_le_sizes hx hb hg hown (hg _ kw_69) hK G ha1 dd_le_copyFrom_31 ?_
  refine lv_iconst (v := (0 : Int32)) hx hb dd_le_copyFrom_34 (by decide) ?_
  refine W.eq (g2 := F0 m 35 _ _) rfl ?_
  refine lv_aload_n hx hb dd_le_copyFrom_35 rfl (lv_at hl 0 rfl) ?_
  refine gf_le_sizes hx hb hg hown (hg _ kw_69) hK G ha0 dd_le_copyFrom_36 ?_
  refine lv_iconst (v := (0 : Int32)) hx hb dd_le_copyFrom_39 (by decide) ?_
  refine lv_bipush (v := (8 : Int32)) hx hb dd_le_copyFrom_40 (by decide) ?_
  refine gc_copy hx hb (by rw [hml]; exact hl.1.symm) hown (hg _ kw_64) (hg _ kw_65) (hg _ kw_66) (hg _ kw_67) hK G (gq_le_sizes ha1) (gq_le_sizes ha0) (by decide) (by decide) (by decide) (by decide) (by decide) (Nat.le_of_ble_eq_true rfl) (Nat.le_of_ble_eq_true rfl) dd_le_copyFrom_42 (fun M42 H locs e42 G => ?_)
  replace hF := gw_ly e42 hF
  refine lv_aload_n hx hb dd_le_copyFrom_45 rfl (lv_at hl 1 rfl) ?_
  refine gf_le_words hx hb hg hown (hg _ kw_70) hK G ha1 dd_le_copyFrom_46 ?_
  refine lv_iconst (v := (0 : Int32)) hx hb dd_le_copyFrom_49 (by decide) ?_
  refine lv_aload_n hx hb dd_le_copyFrom_50 rfl (lv_at hl 0 rfl) ?_
  refine gf_le_words hx hb hg hown (hg _ kw_70) hK G ha0 dd_le_copyFrom_51 ?_
  refine W.eq (g2 := F0 m 54 _ _) rfl ?_
  refine lv_iconst (v := (0 : Int32)) hx hb dd_le_copyFrom_54 (by decide) ?_
  refine lv_bipush (v := (32 : Int32)) hx hb dd_le_copyFrom_55 (by decide) ?_
  refine gc_copy hx hb (by rw [hml]; exact hl.1.symm) hown (hg _ kw_64) (hg _ kw_65) (hg _ kw_66) (hg _ kw_67) hK G (gq_le_words ha1) (gq_le_words ha0) (by decide) (by decide) (by decide) (by decide) (by decide) (Nat.le_of_ble_eq_true rfl) (Nat.le_of_ble_eq_true rfl) dd_le_copyFrom_57 (fun M57 H locs e57 G => ?_)
  replace hF := gw_ly e57 hF
  exact W.vret hx hb hr (fun t ht hW => gw_endv (EF := (fun M => (gw_E X M Y))) (M := M57) G ht hF) G.2.2.2.2 dd_le_copyFrom_60 hlocks
set_option maxRecDepth 100000 in
set_option maxHeartbeats 4000000 in
theorem ct_le_copyFrom (l : Launch) (X : gw_X) (Y : gw_M) (M : gw_M) (a0 : Nat) (a1 : Nat) (ha0 : gc_k a0 = (3, 0)) (ha1 : gc_k a1 = (3, 0)) (z : (Unit × gw_M)) (hF : le_copyFrom_b0 M a0 a1 = some z) : Met l yy_le_copyFrom ((Cond.code yy_le_copyFrom by_le_copyFrom 2 none) :: gw_w) rm_le_copyFrom (va_Pc [.ref (gc_a X a0), .ref (gc_a X a1)] (gw_B X (gw_E X M Y))) (gw_Qv X (fun M => (gw_E X M Y)) z) 0 0 (gw_A X) := by
  refine Met.ofW (cc := by_le_copyFrom) (maxL := 2) (ret := none) (by decide) rfl ?_
  intro p e s m args below meth c s₁ B hml hv
  obtain ⟨rfl, hB⟩ := hv
  rw [lg_entry_eq]
  have hl := lv_entry ([.ref (gc_a X a0), .ref (gc_a X a1)]) (n := 2) (Nat.le_of_ble_eq_true rfl)
  generalize (lg_sl ([.ref (gc_a X a0), .ref (gc_a X a1)]) ++ List.replicate (2 - (lg_sl ([.ref (gc_a X a0), .ref (gc_a X a1)])).length) Slot.unset).toArray = ls at hl ⊢
  have hl : lv_has ls 2 [(0, .ref (gc_a X a0)), (1, .ref (gc_a X a1))] := hl
  exact wb_le_copyFrom_0 (gw_ctx B hml rfl hB) M a0 a1 _ _ _ ha0 ha1 (gw_start hB) hl hF
/-! AccountMachine$Ledger.isBlank(I)Z -/
abbrev rm_le_isBlank : Room := { frames := 0, cells := 0, slots := 0, locals := 0 }
theorem dd_le_isBlank_0 : decode by_le_isBlank 0 = .ok (.aload_n 0, 1) := by decide +kernel
theorem dd_le_isBlank_1 : decode by_le_isBlank 1 = .ok (.getfield 15, 3) := by decide +kernel
theorem dd_le_isBlank_4 : decode by_le_isBlank 4 = .ok (.iload_n 1, 1) := by decide +kernel
theorem dd_le_isBlank_5 : decode by_le_isBlank 5 = .ok (.iaload, 1) := by decide +kernel
theorem dd_le_isBlank_6 : decode by_le_isBlank 6 = .ok (.ifCond .ne 16, 3) := by decide +kernel
theorem dd_le_isBlank_9 : decode by_le_isBlank 9 = .ok (.aload_n 0, 1) := by decide +kernel
theorem dd_le_isBlank_10 : decode by_le_isBlank 10 = .ok (.getfield 18, 3) := by decide +kernel
theorem dd_le_isBlank_13 : decode by_le_isBlank 13 = .ok (.iload_n 1, 1) := by decide +kernel
theorem dd_le_isBlank_14 : decode by_le_isBlank 14 = .ok (.iaload, 1) := by decide +kernel
theorem dd_le_isBlank_15 : decode by_le_isBlank 15 = .ok (.ifCond .ne 7, 3) := by decide +kernel
theorem dd_le_isBlank_18 : decode by_le_isBlank 18 = .ok (.iconst 1, 1) := by decide +kernel
theorem dd_le_isBlank_19 : decode by_le_isBlank 19 = .ok (.goto 4, 3) := by decide +kernel
theorem dd_le_isBlank_22 : decode by_le_isBlank 22 = .ok (.iconst 0, 1) := by decide +kernel
theorem dd_le_isBlank_23 : decode by_le_isBlank 23 = .ok (.ireturn, 1) := by decide +kernel
def le_isBlank_b0 (M : gw_M) (a0 : Nat) (v1 : Int32) : Option (Int32 × gw_M) :=
  gw_gu (gw_in v1 8) (if (M.1 (a0 + 2) v1.toNatClampNeg) = (0 : Int32) then (gw_gu (gw_in v1 8) (if (M.1 (a0 + 3) v1.toNatClampNeg) = (0 : Int32) then (some ((1 : Int32), M)) else (some ((0 : Int32), M)))) else (some ((0 : Int32), M)))
set_option maxRecDepth 100000 in
set_option maxHeartbeats 4000000 in
theorem wb_le_isBlank_0 {p : Program} {l : Launch} {e : Env} {s : State} {m : MethodId} {args : Array Value} {below : List Frame} {meth : Method} {c : Code} {X : gw_X} {Y : gw_M} {z : (Int32 × gw_M)} (C0 : gw_C ((Cond.code yy_le_isBlank by_le_isBlank 2 (some .boolean)) :: gw_w) by_le_isBlank 2 (some .boolean) "AccountMachine$Ledger" X p s m args meth c) (M : gw_M) (a0 : Nat) (v1 : Int32) (H : Heap) (locs : List Loc) (ls : Array Slot) (ha0 : gc_k a0 = (3, 0)) (G : gw_G X (gw_E X M Y) s H locs) (hl : lv_has ls 2 [(0, .ref (gc_a X a0)), (1, .int v1)]) (hF : le_isBlank_b0  M a0 v1 = some z) : W p l e rm_le_isBlank s m args below meth c H locs 0 0 (MQ below (gw_Qi X (fun M => (gw_E X M Y)) z) args s 0 0 (gw_A X)) (F0 m 0 ls []) := by
  obtain ⟨hx, hb, hml, hown, hts, hr, hlocks, hK⟩ := id C0
  have hg : ∀ w ∈ gw_w, w.before args s = true := fun w h => hts w (List.mem_cons_of_mem _ h)
  unfold le_isBlank_b0 at hF
  refine lv_aload_n hx hb dd_le_isBlank_0 rfl (lv_at hl 0 rfl) ?_
  refine gf_le_owners hx hb hg hown (hg _ kw_68) hK G ha0 dd_le_isBlank_1 ?_
  refine lv_iload_n hx hb dd_le_isBlank_4 rfl (lv_at hl 1 rfl) ?_
  obtain ⟨h5, hF⟩ := gw_gd hF
  refine gc_iald hx hb hK G (gq_le_owners ha0) (gw_vp h5) (j := v1.toNatClampNeg) rfl dd_le_isBlank_5 ?_
  refine lv_if_ne (tgt := 22) hx hb dd_le_isBlank_6 (by decide) (fun h6 => ?_) (fun h6 => ?_)
  · replace hF := gw_ef h6 hF
    refine lv_iconst (v := (0 : Int32)) hx hb dd_le_isBlank_22 (by decide) ?_
    exact W.zret hx hb hr (by decide) (fun t ht hW => gw_endi (EF := (fun M => (gw_E X M Y))) (M := M) G ht hF) G.2.2.2.2 dd_le_isBlank_23 hlocks
  · replace hF := gw_et h6 hF
    refine lv_aload_n hx hb dd_le_isBlank_9 rfl (lv_at hl 0 rfl) ?_
    refine gf_le_sizes hx hb hg hown (hg _ kw_69) hK G ha0 dd_le_isBlank_10 ?_
    refine lv_iload_n hx hb dd_le_isBlank_13 rfl (lv_at hl 1 rfl) ?_
    obtain ⟨h14, hF⟩ := gw_gd hF
    refine gc_iald hx hb hK G (gq_le_sizes ha0) (gw_vp h14) (j := v1.toNatClampNeg) rfl dd_le_isBlank_14 ?_
    refine lv_if_ne (tgt := 22) hx hb dd_le_isBlank_15 (by decide) (fun h15 => ?_) (fun h15 => ?_)
    · replace hF := gw_ef h15 hF
      refine lv_iconst (v := (0 : Int32)) hx hb dd_le_isBlank_22 (by decide) ?_
      exact W.zret hx hb hr (by decide) (fun t ht hW => gw_endi (EF := (fun M => (gw_E X M Y))) (M := M) G ht hF) G.2.2.2.2 dd_le_isBlank_23 hlocks
    · replace hF := gw_et h15 hF
      refine lv_iconst (v := (1 : Int32)) hx hb dd_le_isBlank_18 (by decide) ?_
      refine lv_goto (tgt := 23) hx hb dd_le_isBlank_19 (by decide) ?_
      exact W.zret hx hb hr (by decide) (fun t ht hW => gw_endi (EF := (fun M => (gw_E X M Y))) (M := M) G ht hF) G.2.2.2.2 dd_le_isBlank_23 hlocks
set_option maxRecDepth 100000 in
set_option maxHeartbeats 4000000 in
theorem ct_le_isBlank (l : Launch) (X : gw_X) (Y : gw_M) (M : gw_M) (a0 : Nat) (v1 : Int32) (ha0 : gc_k a0 = (3, 0)) (z : (Int32 × gw_M)) (hF : le_isBlank_b0 M a0 v1 = some z) : Met l yy_le_isBlank ((Cond.code yy_le_isBlank by_le_isBlank 2 (some .boolean)) :: gw_w) rm_le_isBlank (va_Pc [.ref (gc_a X a0), .int v1] (gw_B X (gw_E X M Y))) (gw_Qi X (fun M => (gw_E X M Y)) z) 0 0 (gw_A X) := by
  refine Met.ofW (cc := by_le_isBlank) (maxL := 2) (ret := (some .boolean)) (by decide) rfl ?_
  intro p e s m args below meth c s₁ B hml hv
  obtain ⟨rfl, hB⟩ := hv
  rw [lg_entry_eq]
  have hl := lv_entry ([.ref (gc_a X a0), .int v1]) (n := 2) (Nat.le_of_ble_eq_true rfl)
  generalize (lg_sl ([.ref (gc_a X a0), .int v1]) ++ List.replicate (2 - (lg_sl ([.ref (gc_a X a0), .int v1])).length) Slot.unset).toArray = ls at hl ⊢
  have hl : lv_has ls 2 [(0, .ref (gc_a X a0)), (1, .int v1)] := hl
  exact wb_le_isBlank_0 (gw_ctx B hml rfl hB) M a0 v1 _ _ _ ha0 (gw_start hB) hl hF
/-! AccountMachine$Order.reset(II)V -/
abbrev rm_od_reset : Room := { frames := 0, cells := 0, slots := 0, locals := 0 }
theorem dd_od_reset_0 : decode by_od_reset 0 = .ok (.aload_n 0, 1) := by decide +kernel
theorem dd_od_reset_1 : decode by_od_reset 1 = .ok (.iload_n 1, 1) := by decide +kernel
theorem dd_od_reset_2 : decode by_od_reset 2 = .ok (.putfield 9, 3) := by decide +kernel
theorem dd_od_reset_5 : decode by_od_reset 5 = .ok (.aload_n 0, 1) := by decide +kernel
theorem dd_od_reset_6 : decode by_od_reset 6 = .ok (.iload_n 2, 1) := by decide +kernel
theorem dd_od_reset_7 : decode by_od_reset 7 = .ok (.putfield 15, 3) := by decide +kernel
theorem dd_od_reset_10 : decode by_od_reset 10 = .ok (.aload_n 0, 1) := by decide +kernel
theorem dd_od_reset_11 : decode by_od_reset 11 = .ok (.iconst 0, 1) := by decide +kernel
theorem dd_od_reset_12 : decode by_od_reset 12 = .ok (.putfield 18, 3) := by decide +kernel
theorem dd_od_reset_15 : decode by_od_reset 15 = .ok (.return_, 1) := by decide +kernel
def od_reset_b0 (M : gw_M) (a0 : Nat) (v1 : Int32) (v2 : Int32) : Option (Unit × gw_M) :=
  gw_lt (gw_sI M a0 0 v1) (fun M2 => gw_lt (gw_sI M2 a0 1 v2) (fun M7 => gw_lt (gw_sI M7 a0 2 (0 : Int32)) (fun M12 => some ((), M12))))
set_option maxRecDepth 100000 in
set_option maxHeartbeats 4000000 in
theorem wb_od_reset_0 {p : Program} {l : Launch} {e : Env} {s : State} {m : MethodId} {args : Array Value} {below : List Frame} {meth : Method} {c : Code} {X : gw_X} {Y : gw_M} {z : (Unit × gw_M)} (C0 : gw_C ((Cond.code yy_od_reset by_od_reset 3 none) :: gw_w) by_od_reset 3 none "AccountMachine$Order" X p s m args meth c) (M : gw_M) (a0 : Nat) (v1 : Int32) (v2 : Int32) (H : Heap) (locs : List Loc) (ls : Array Slot) (ha0 : gc_k a0 = (4, 0)) (G : gw_G X (gw_E X M Y) s H locs) (hl : lv_has ls 3 [(0, .ref (gc_a X a0)), (1, .int v1), (2, .int v2)]) (hF : od_reset_b0  M a0 v1 v2 = some z) : W p l e rm_od_reset s m args below meth c H locs 0 0 (MQ below (gw_Qv X (fun M => (gw_E X M Y)) z) args s 0 0 (gw_A X)) (F0 m 0 ls []) := by
  obtain ⟨hx, hb, hml, hown, hts, hr, hlocks, hK⟩ := id C0
  have hg : ∀ w ∈ gw_w, w.before args s = true := fun w h => hts w (List.mem_cons_of_mem _ h)
  unfold od_reset_b0 at hF
  refine lv_aload_n hx hb dd_od_reset_0 rfl (lv_at hl 0 rfl) ?_
  refine lv_iload_n hx hb dd_od_reset_1 rfl (lv_at hl 1 rfl) ?_
  refine gp_od_program hx hb hg hown (hg _ kw_71) hK G ha0 dd_od_reset_2 (fun M2 H locs e2 G => ?_)
  replace hF := gw_ly e2 hF
  refine lv_aload_n hx hb dd_od_reset_5 rfl (lv_at hl 0 rfl) ?_
  refine lv_iload_n hx hb dd_od_reset_6 rfl (lv_at hl 2 rfl) ?_
  refine gp_od_argument hx hb hg hown (hg _ kw_72) hK G ha0 dd_od_reset_7 (fun M7 H locs e7 G => ?_)
  replace hF := gw_ly e7 hF
  refine lv_aload_n hx hb dd_od_reset_10 rfl (lv_at hl 0 rfl) ?_
  refine lv_iconst (v := (0 : Int32)) hx hb dd_od_reset_11 (by decide) ?_
  refine gp_od_count hx hb hg hown (hg _ kw_0) hK G ha0 dd_od_reset_12 (fun M12 H locs e12 G => ?_)
  replace hF := gw_ly e12 hF
  refine W.eq (g2 := F0 m 15 _ _) rfl ?_
  exact W.vret hx hb hr (fun t ht hW => gw_endv (EF := (fun M => (gw_E X M Y))) (M := M12) G ht hF) G.2.2.2.2 dd_od_reset_15 hlocks
set_option maxRecDepth 100000 in
set_option maxHeartbeats 4000000 in
theorem ct_od_reset (l : Launch) (X : gw_X) (Y : gw_M) (M : gw_M) (a0 : Nat) (v1 : Int32) (v2 : Int32) (ha0 : gc_k a0 = (4, 0)) (z : (Unit × gw_M)) (hF : od_reset_b0 M a0 v1 v2 = some z) : Met l yy_od_reset ((Cond.code yy_od_reset by_od_reset 3 none) :: gw_w) rm_od_reset (va_Pc [.ref (gc_a X a0), .int v1, .int v2] (gw_B X (gw_E X M Y))) (gw_Qv X (fun M => (gw_E X M Y)) z) 0 0 (gw_A X) := by
  refine Met.ofW (cc := by_od_reset) (maxL := 3) (ret := none) (by decide) rfl ?_
  intro p e s m args below meth c s₁ B hml hv
  obtain ⟨rfl, hB⟩ := hv
  rw [lg_entry_eq]
  have hl := lv_entry ([.ref (gc_a X a0), .int v1, .int v2]) (n := 3) (Nat.le_of_ble_eq_true rfl)
  generalize (lg_sl ([.ref (gc_a X a0), .int v1, .int v2]) ++ List.replicate (3 - (lg_sl ([.ref (gc_a X a0), .int v1, .int v2])).length) Slot.unset).toArray = ls at hl ⊢
  have hl : lv_has ls 3 [(0, .ref (gc_a X a0)), (1, .int v1), (2, .int v2)] := hl
  exact wb_od_reset_0 (gw_ctx B hml rfl hB) M a0 v1 v2 _ _ _ ha0 (gw_start hB) hl hF
/-! AccountMachine$Order.addSlot(II)Z -/
abbrev rm_od_addSlot : Room := { frames := 0, cells := 0, slots := 0, locals := 0 }
theorem dd_od_addSlot_0 : decode by_od_addSlot 0 = .ok (.aload_n 0, 1) := by decide +kernel
theorem dd_od_addSlot_1 : decode by_od_addSlot 1 = .ok (.getfield 18, 3) := by decide +kernel
theorem dd_od_addSlot_4 : decode by_od_addSlot 4 = .ok (.iconst 4, 1) := by decide +kernel
theorem dd_od_addSlot_5 : decode by_od_addSlot 5 = .ok (.if_icmp .lt 5, 3) := by decide +kernel
theorem dd_od_addSlot_8 : decode by_od_addSlot 8 = .ok (.iconst 0, 1) := by decide +kernel
theorem dd_od_addSlot_9 : decode by_od_addSlot 9 = .ok (.ireturn, 1) := by decide +kernel
theorem dd_od_addSlot_10 : decode by_od_addSlot 10 = .ok (.aload_n 0, 1) := by decide +kernel
theorem dd_od_addSlot_11 : decode by_od_addSlot 11 = .ok (.getfield 21, 3) := by decide +kernel
theorem dd_od_addSlot_14 : decode by_od_addSlot 14 = .ok (.aload_n 0, 1) := by decide +kernel
theorem dd_od_addSlot_15 : decode by_od_addSlot 15 = .ok (.getfield 18, 3) := by decide +kernel
theorem dd_od_addSlot_18 : decode by_od_addSlot 18 = .ok (.iload_n 1, 1) := by decide +kernel
theorem dd_od_addSlot_19 : decode by_od_addSlot 19 = .ok (.iastore, 1) := by decide +kernel
theorem dd_od_addSlot_20 : decode by_od_addSlot 20 = .ok (.aload_n 0, 1) := by decide +kernel
theorem dd_od_addSlot_21 : decode by_od_addSlot 21 = .ok (.getfield 25, 3) := by decide +kernel
theorem dd_od_addSlot_24 : decode by_od_addSlot 24 = .ok (.aload_n 0, 1) := by decide +kernel
theorem dd_od_addSlot_25 : decode by_od_addSlot 25 = .ok (.getfield 18, 3) := by decide +kernel
theorem dd_od_addSlot_28 : decode by_od_addSlot 28 = .ok (.iload_n 2, 1) := by decide +kernel
theorem dd_od_addSlot_29 : decode by_od_addSlot 29 = .ok (.iastore, 1) := by decide +kernel
theorem dd_od_addSlot_30 : decode by_od_addSlot 30 = .ok (.aload_n 0, 1) := by decide +kernel
theorem dd_od_addSlot_31 : decode by_od_addSlot 31 = .ok (.dup, 1) := by decide +kernel
theorem dd_od_addSlot_32 : decode by_od_addSlot 32 = .ok (.getfield 18, 3) := by decide +kernel
theorem dd_od_addSlot_35 : decode by_od_addSlot 35 = .ok (.iconst 1, 1) := by decide +kernel
theorem dd_od_addSlot_36 : decode by_od_addSlot 36 = .ok (.iadd, 1) := by decide +kernel
theorem dd_od_addSlot_37 : decode by_od_addSlot 37 = .ok (.putfield 18, 3) := by decide +kernel
theorem dd_od_addSlot_40 : decode by_od_addSlot 40 = .ok (.iconst 1, 1) := by decide +kernel
theorem dd_od_addSlot_41 : decode by_od_addSlot 41 = .ok (.ireturn, 1) := by decide +kernel
def od_addSlot_b0 (M : gw_M) (a0 : Nat) (v1 : Int32) (v2 : Int32) : Option (Int32 × gw_M) :=
  if (M.1 a0 2) < (4 : Int32) then (gw_gu (gw_in (M.1 a0 2) 4) (gw_lt (gw_sI M (a0 + 1) ((M.1 a0 2).toNatClampNeg) v1) (fun M19 => gw_gu (gw_in (M19.1 a0 2) 4) (gw_lt (gw_sI M19 (a0 + 2) ((M19.1 a0 2).toNatClampNeg) v2) (fun M29 => gw_lt (gw_sI M29 a0 2 ((M29.1 a0 2) + (1 : Int32))) (fun M37 => some ((1 : Int32), M37))))))) else (some ((0 : Int32), M))
set_option maxRecDepth 100000 in
set_option maxHeartbeats 4000000 in
theorem wb_od_addSlot_0 {p : Program} {l : Launch} {e : Env} {s : State} {m : MethodId} {args : Array Value} {below : List Frame} {meth : Method} {c : Code} {X : gw_X} {Y : gw_M} {z : (Int32 × gw_M)} (C0 : gw_C ((Cond.code yy_od_addSlot by_od_addSlot 3 (some .boolean)) :: gw_w) by_od_addSlot 3 (some .boolean) "AccountMachine$Order" X p s m args meth c) (M : gw_M) (a0 : Nat) (v1 : Int32) (v2 : Int32) (H : Heap) (locs : List Loc) (ls : Array Slot) (ha0 : gc_k a0 = (4, 0)) (G : gw_G X (gw_E X M Y) s H locs) (hl : lv_has ls 3 [(0, .ref (gc_a X a0)), (1, .int v1), (2, .int v2)]) (hF : od_addSlot_b0  M a0 v1 v2 = some z) : W p l e rm_od_addSlot s m args below meth c H locs 0 0 (MQ below (gw_Qi X (fun M => (gw_E X M Y)) z) args s 0 0 (gw_A X)) (F0 m 0 ls []) := by
  obtain ⟨hx, hb, hml, hown, hts, hr, hlocks, hK⟩ := id C0
  have hg : ∀ w ∈ gw_w, w.before args s = true := fun w h => hts w (List.mem_cons_of_mem _ h)
  unfold od_addSlot_b0 at hF
  refine lv_aload_n hx hb dd_od_addSlot_0 rfl (lv_at hl 0 rfl) ?_
  refine gf_od_count hx hb hg hown (hg _ kw_0) hK G ha0 dd_od_addSlot_1 ?_
  refine lv_iconst (v := (4 : Int32)) hx hb dd_od_addSlot_4 (by decide) ?_
  refine lv_icmp_lt (tgt := 10) hx hb dd_od_addSlot_5 (by decide) (fun h5 => ?_) (fun h5 => ?_)
  · replace hF := gw_et h5 hF
    refine lv_aload_n hx hb dd_od_addSlot_10 rfl (lv_at hl 0 rfl) ?_
    refine gf_od_accounts hx hb hg hown (hg _ kw_1) hK G ha0 dd_od_addSlot_11 ?_
    refine lv_aload_n hx hb dd_od_addSlot_14 rfl (lv_at hl 0 rfl) ?_
    refine gf_od_count hx hb hg hown (hg _ kw_0) hK G ha0 dd_od_addSlot_15 ?_
    refine lv_iload_n hx hb dd_od_addSlot_18 rfl (lv_at hl 1 rfl) ?_
    obtain ⟨h19, hF⟩ := gw_gd hF
    refine gc_iast hx hb hK G (gq_od_accounts ha0) (gw_vp h19) (j := (M.1 a0 2).toNatClampNeg) rfl dd_od_addSlot_19 (fun M19 H locs e19 G => ?_)
    replace hF := gw_ly e19 hF
    refine lv_aload_n hx hb dd_od_addSlot_20 rfl (lv_at hl 0 rfl) ?_
    refine gf_od_marks hx hb hg hown (hg _ kw_2) hK G ha0 dd_od_addSlot_21 ?_
    refine lv_aload_n hx hb dd_od_addSlot_24 rfl (lv_at hl 0 rfl) ?_
    refine W.eq (g2 := F0 m 25 _ _) rfl ?_
    refine gf_od_count hx hb hg hown (hg _ kw_0) hK G ha0 dd_od_addSlot_25 ?_
    refine lv_iload_n hx hb dd_od_addSlot_28 rfl (lv_at hl 2 rfl) ?_
    obtain ⟨h29, hF⟩ := gw_gd hF
    refine gc_iast hx hb hK G (gq_od_marks ha0) (gw_vp h29) (j := (M19.1 a0 2).toNatClampNeg) rfl dd_od_addSlot_29 (fun M29 H locs e29 G => ?_)
    replace hF := gw_ly e29 hF
    refine lv_aload_n hx hb dd_od_addSlot_30 rfl (lv_at hl 0 rfl) ?_
    refine lv_dup hx hb dd_od_addSlot_31 rfl ?_
    refine gf_od_count hx hb hg hown (hg _ kw_0) hK G ha0 dd_od_addSlot_32 ?_
    refine lv_iconst (v := (1 : Int32)) hx hb dd_od_addSlot_35 (by decide) ?_
    refine lv_iadd hx hb dd_od_addSlot_36 ?_
    refine gp_od_count hx hb hg hown (hg _ kw_0) hK G ha0 dd_od_addSlot_37 (fun M37 H locs e37 G => ?_)
    replace hF := gw_ly e37 hF
    refine lv_iconst (v := (1 : Int32)) hx hb dd_od_addSlot_40 (by decide) ?_
    refine W.eq (g2 := F0 m 41 _ _) rfl ?_
    exact W.zret hx hb hr (by decide) (fun t ht hW => gw_endi (EF := (fun M => (gw_E X M Y))) (M := M37) G ht hF) G.2.2.2.2 dd_od_addSlot_41 hlocks
  · replace hF := gw_ef h5 hF
    refine lv_iconst (v := (0 : Int32)) hx hb dd_od_addSlot_8 (by decide) ?_
    exact W.zret hx hb hr (by decide) (fun t ht hW => gw_endi (EF := (fun M => (gw_E X M Y))) (M := M) G ht hF) G.2.2.2.2 dd_od_addSlot_9 hlocks
set_option maxRecDepth 100000 in
set_option maxHeartbeats 4000000 in
theorem ct_od_addSlot (l : Launch) (X : gw_X) (Y : gw_M) (M : gw_M) (a0 : Nat) (v1 : Int32) (v2 : Int32) (ha0 : gc_k a0 = (4, 0)) (z : (Int32 × gw_M)) (hF : od_addSlot_b0 M a0 v1 v2 = some z) : Met l yy_od_addSlot ((Cond.code yy_od_addSlot by_od_addSlot 3 (some .boolean)) :: gw_w) rm_od_addSlot (va_Pc [.ref (gc_a X a0), .int v1, .int v2] (gw_B X (gw_E X M Y))) (gw_Qi X (fun M => (gw_E X M Y)) z) 0 0 (gw_A X) := by
  refine Met.ofW (cc := by_od_addSlot) (maxL := 3) (ret := (some .boolean)) (by decide) rfl ?_
  intro p e s m args below meth c s₁ B hml hv
  obtain ⟨rfl, hB⟩ := hv
  rw [lg_entry_eq]
  have hl := lv_entry ([.ref (gc_a X a0), .int v1, .int v2]) (n := 3) (Nat.le_of_ble_eq_true rfl)
  generalize (lg_sl ([.ref (gc_a X a0), .int v1, .int v2]) ++ List.replicate (3 - (lg_sl ([.ref (gc_a X a0), .int v1, .int v2])).length) Slot.unset).toArray = ls at hl ⊢
  have hl : lv_has ls 3 [(0, .ref (gc_a X a0)), (1, .int v1), (2, .int v2)] := hl
  exact wb_od_addSlot_0 (gw_ctx B hml rfl hB) M a0 v1 v2 _ _ _ ha0 (gw_start hB) hl hF
/-! AccountMachine$Order.copyFrom(LAccountMachine$Order;)V -/
abbrev rm_od_copyFrom : Room := { frames := 1, cells := 0, slots := 0, locals := 22 }
theorem dd_od_copyFrom_0 : decode by_od_copyFrom 0 = .ok (.aload_n 0, 1) := by decide +kernel
theorem dd_od_copyFrom_1 : decode by_od_copyFrom 1 = .ok (.aload_n 1, 1) := by decide +kernel
theorem dd_od_copyFrom_2 : decode by_od_copyFrom 2 = .ok (.getfield 9, 3) := by decide +kernel
theorem dd_od_copyFrom_5 : decode by_od_copyFrom 5 = .ok (.aload_n 1, 1) := by decide +kernel
theorem dd_od_copyFrom_6 : decode by_od_copyFrom 6 = .ok (.getfield 15, 3) := by decide +kernel
theorem dd_od_copyFrom_9 : decode by_od_copyFrom 9 = .ok (.invokevirtual 28, 3) := by decide +kernel
theorem dd_od_copyFrom_12 : decode by_od_copyFrom 12 = .ok (.iconst 0, 1) := by decide +kernel
theorem dd_od_copyFrom_13 : decode by_od_copyFrom 13 = .ok (.istore_n 2, 1) := by decide +kernel
theorem dd_od_copyFrom_14 : decode by_od_copyFrom 14 = .ok (.iload_n 2, 1) := by decide +kernel
theorem dd_od_copyFrom_15 : decode by_od_copyFrom 15 = .ok (.aload_n 1, 1) := by decide +kernel
theorem dd_od_copyFrom_16 : decode by_od_copyFrom 16 = .ok (.getfield 18, 3) := by decide +kernel
theorem dd_od_copyFrom_19 : decode by_od_copyFrom 19 = .ok (.if_icmp .ge 26, 3) := by decide +kernel
theorem dd_od_copyFrom_22 : decode by_od_copyFrom 22 = .ok (.aload_n 0, 1) := by decide +kernel
theorem dd_od_copyFrom_23 : decode by_od_copyFrom 23 = .ok (.aload_n 1, 1) := by decide +kernel
theorem dd_od_copyFrom_24 : decode by_od_copyFrom 24 = .ok (.getfield 21, 3) := by decide +kernel
theorem dd_od_copyFrom_27 : decode by_od_copyFrom 27 = .ok (.iload_n 2, 1) := by decide +kernel
theorem dd_od_copyFrom_28 : decode by_od_copyFrom 28 = .ok (.iaload, 1) := by decide +kernel
theorem dd_od_copyFrom_29 : decode by_od_copyFrom 29 = .ok (.aload_n 1, 1) := by decide +kernel
theorem dd_od_copyFrom_30 : decode by_od_copyFrom 30 = .ok (.getfield 25, 3) := by decide +kernel
theorem dd_od_copyFrom_33 : decode by_od_copyFrom 33 = .ok (.iload_n 2, 1) := by decide +kernel
theorem dd_od_copyFrom_34 : decode by_od_copyFrom 34 = .ok (.iaload, 1) := by decide +kernel
theorem dd_od_copyFrom_35 : decode by_od_copyFrom 35 = .ok (.invokevirtual 32, 3) := by decide +kernel
theorem dd_od_copyFrom_38 : decode by_od_copyFrom 38 = .ok (.pop, 1) := by decide +kernel
theorem dd_od_copyFrom_39 : decode by_od_copyFrom 39 = .ok (.iinc 2 1, 3) := by decide +kernel
theorem dd_od_copyFrom_42 : decode by_od_copyFrom 42 = .ok (.goto (-28), 3) := by decide +kernel
theorem dd_od_copyFrom_45 : decode by_od_copyFrom 45 = .ok (.return_, 1) := by decide +kernel
def od_copyFrom_b14 (K14 : gw_M → Nat → Nat → Int32 → Option (Unit × gw_M)) (M : gw_M) (a0 : Nat) (a1 : Nat) (v2 : Int32) : Option (Unit × gw_M) :=
  if (M.1 a1 2) ≤ v2 then (some ((), M)) else (gw_gu (gw_in v2 4) (gw_gu (gw_in v2 4) (gw_bd (od_addSlot_b0 M a0 (M.1 (a1 + 1) v2.toNatClampNeg) (M.1 (a1 + 2) v2.toNatClampNeg)) (fun r35 M35 => K14 M35 a0 a1 (v2 + (1 : Int32))))))
def od_copyFrom_l14 : Nat → gw_M → Nat → Nat → Int32 → Option (Unit × gw_M)
  | 0 => fun _ _ _ _ => none
  | n + 1 => od_copyFrom_b14  (od_copyFrom_l14  n)
def od_copyFrom_b0 (M : gw_M) (a0 : Nat) (a1 : Nat) : Option (Unit × gw_M) :=
  gw_bd (od_reset_b0 M a0 (M.1 a1 0) (M.1 a1 1)) (fun _ M9 => od_copyFrom_l14  2100 M9 a0 a1 (0 : Int32))
set_option maxRecDepth 100000 in
set_option maxHeartbeats 4000000 in
theorem wb_od_copyFrom_14 {p : Program} {l : Launch} {e : Env} {s : State} {m : MethodId} {args : Array Value} {below : List Frame} {meth : Method} {c : Code} {X : gw_X} {Y : gw_M} {z : (Unit × gw_M)} (C0 : gw_C ((Cond.code yy_od_copyFrom by_od_copyFrom 3 none) :: gw_w) by_od_copyFrom 3 none "AccountMachine$Order" X p s m args meth c) {K14 : gw_M → Nat → Nat → Int32 → Option (Unit × gw_M)} (hK14 : ∀ (M : gw_M) (a0 : Nat) (a1 : Nat) (v2 : Int32) (H : Heap) (locs : List Loc) (ls : Array Slot), gc_k a0 = (4, 0) → gc_k a1 = (4, 0) → gw_G X (gw_E X M Y) s H locs → lv_has ls 3 [(0, .ref (gc_a X a0)), (1, .ref (gc_a X a1)), (2, .int v2)] → K14 M a0 a1 v2 = some z → W p l e rm_od_copyFrom s m args below meth c H locs 0 0 (MQ below (gw_Qv X (fun M => (gw_E X M Y)) z) args s 0 0 (gw_A X)) (F0 m 14 ls [])) (M : gw_M) (a0 : Nat) (a1 : Nat) (v2 : Int32) (H : Heap) (locs : List Loc) (ls : Array Slot) (ha0 : gc_k a0 = (4, 0)) (ha1 : gc_k a1 = (4, 0)) (G : gw_G X (gw_E X M Y) s H locs) (hl : lv_has ls 3 [(0, .ref (gc_a X a0)), (1, .ref (gc_a X a1)), (2, .int v2)]) (hF : od_copyFrom_b14 K14 M a0 a1 v2 = some z) : W p l e rm_od_copyFrom s m args below meth c H locs 0 0 (MQ below (gw_Qv X (fun M => (gw_E X M Y)) z) args s 0 0 (gw_A X)) (F0 m 14 ls []) := by
  obtain ⟨hx, hb, hml, hown, hts, hr, hlocks, hK⟩ := id C0
  have hg : ∀ w ∈ gw_w, w.before args s = true := fun w h => hts w (List.mem_cons_of_mem _ h)
  unfold od_copyFrom_b14 at hF
  refine lv_iload_n hx hb dd_od_copyFrom_14 rfl (lv_at hl 2 rfl) ?_
  refine lv_aload_n hx hb dd_od_copyFrom_15 rfl (lv_at hl 1 rfl) ?_
  refine gf_od_count hx hb hg hown (hg _ kw_0) hK G ha1 dd_od_copyFrom_16 ?_
  refine lv_icmp_ge (tgt := 45) hx hb dd_od_copyFrom_19 (by decide) (fun h19 => ?_) (fun h19 => ?_)
  · replace hF := gw_et h19 hF
    exact W.vret hx hb hr (fun t ht hW => gw_endv (EF := (fun M => (gw_E X M Y))) (M := M) G ht hF) G.2.2.2.2 dd_od_copyFrom_45 hlocks
  · replace hF := gw_ef h19 hF
    refine lv_aload_n hx hb dd_od_copyFrom_22 rfl (lv_at hl 0 rfl) ?_
    refine lv_aload_n hx hb dd_od_copyFrom_23 rfl (lv_at hl 1 rfl) ?_
    refine gf_od_accounts hx hb hg hown (hg _ kw_1) hK G ha1 dd_od_copyFrom_24 ?_
    refine lv_iload_n hx hb dd_od_copyFrom_27 rfl (lv_at hl 2 rfl) ?_
    obtain ⟨h28, hF⟩ := gw_gd hF
    refine gc_iald hx hb hK G (gq_od_accounts ha1) (gw_vp h28) (j := v2.toNatClampNeg) rfl dd_od_copyFrom_28 ?_
    refine lv_aload_n hx hb dd_od_copyFrom_29 rfl (lv_at hl 1 rfl) ?_
    refine gf_od_marks hx hb hg hown (hg _ kw_2) hK G ha1 dd_od_copyFrom_30 ?_
    refine lv_iload_n hx hb dd_od_copyFrom_33 rfl (lv_at hl 2 rfl) ?_
    obtain ⟨h34, hF⟩ := gw_gd hF
    refine gc_iald hx hb hK G (gq_od_marks ha1) (gw_vp h34) (j := v2.toNatClampNeg) rfl dd_od_copyFrom_34 ?_
    refine W.eq (g2 := F0 m 35 _ _) rfl ?_
    obtain ⟨r35, M35, hc35, hF⟩ := gw_be hF
    refine gw_ci G (va_runV (As := [.int (M.1 (a1 + 1) v2.toNatClampNeg), .int (M.1 (a1 + 2) v2.toNatClampNeg)]) (rest := []) ⟨hx, hb, hml, hown, hts⟩ (ct_od_addSlot l X Y M a0 (M.1 (a1 + 1) v2.toNatClampNeg) (M.1 (a1 + 2) v2.toNatClampNeg) ha0 _ hc35) (cwV 2 hts (gw_gV kw_74 kw_75 kw_76 kw_14 kw_73) rfl rfl rfl (by decide +kernel) ⟨Nat.le_of_ble_eq_true rfl, Nat.le_of_ble_eq_true rfl⟩) ⟨gw_blind, gw_recv_od hK G ha0, gw_pre hK G⟩ rfl rfl hl.1 rfl (Nat.le_of_ble_eq_true rfl) dd_od_copyFrom_35 ⟨Nat.le_of_ble_eq_true rfl, Nat.le_of_ble_eq_true rfl⟩) (fun H locs G => ?_)
    refine lv_pop hx hb dd_od_copyFrom_38 rfl ?_
    refine lv_iinc (k := 2) (v := v2 + (1 : Int32)) (lv' := [(2, .int (v2 + (1 : Int32))), (0, .ref (gc_a X a0)), (1, .ref (gc_a X a1))]) hx hb dd_od_copyFrom_39 hl rfl rfl (by decide) rfl (fun ls hl => ?_)
    refine lv_goto (tgt := 14) hx hb dd_od_copyFrom_42 (by decide) ?_
    exact hK14 M35 a0 a1 (v2 + (1 : Int32)) _ _ _ ha0 ha1 G (lv_sub hl [1, 2, 0] rfl) hF
theorem wl_od_copyFrom_14 {p : Program} {l : Launch} {e : Env} {s : State} {m : MethodId} {args : Array Value} {below : List Frame} {meth : Method} {c : Code} {X : gw_X} {Y : gw_M} {z : (Unit × gw_M)} (C0 : gw_C ((Cond.code yy_od_copyFrom by_od_copyFrom 3 none) :: gw_w) by_od_copyFrom 3 none "AccountMachine$Order" X p s m args meth c) : ∀ n : Nat, ∀ (M : gw_M) (a0 : Nat) (a1 : Nat) (v2 : Int32) (H : Heap) (locs : List Loc) (ls : Array Slot), gc_k a0 = (4, 0) → gc_k a1 = (4, 0) → gw_G X (gw_E X M Y) s H locs → lv_has ls 3 [(0, .ref (gc_a X a0)), (1, .ref (gc_a X a1)), (2, .int v2)] → od_copyFrom_l14  n M a0 a1 v2 = some z → W p l e rm_od_copyFrom s m args below meth c H locs 0 0 (MQ below (gw_Qv X (fun M => (gw_E X M Y)) z) args s 0 0 (gw_A X)) (F0 m 14 ls []) := by
  intro n
  induction n with
  | zero =>
    intro M a0 a1 v2 H locs ls ha0 ha1 G hl hF
    have hF : (none : Option (Unit × gw_M)) = some z := hF
    cases hF
  | succ n ih =>
    intro M a0 a1 v2 H locs ls ha0 ha1 G hl hF
    exact wb_od_copyFrom_14 C0  ih M a0 a1 v2 H locs ls ha0 ha1 G hl hF
set_option maxRecDepth 100000 in
set_option maxHeartbeats 4000000 in
theorem wb_od_copyFrom_0 {p : Program} {l : Launch} {e : Env} {s : State} {m : MethodId} {args : Array Value} {below : List Frame} {meth : Method} {c : Code} {X : gw_X} {Y : gw_M} {z : (Unit × gw_M)} (C0 : gw_C ((Cond.code yy_od_copyFrom by_od_copyFrom 3 none) :: gw_w) by_od_copyFrom 3 none "AccountMachine$Order" X p s m args meth c) (M : gw_M) (a0 : Nat) (a1 : Nat) (H : Heap) (locs : List Loc) (ls : Array Slot) (ha0 : gc_k a0 = (4, 0)) (ha1 : gc_k a1 = (4, 0)) (G : gw_G X (gw_E X M Y) s H locs) (hl : lv_has ls 3 [(0, .ref (gc_a X a0)), (1, .ref (gc_a X a1))]) (hF : od_copyFrom_b0  M a0 a1 = some z) : W p l e rm_od_copyFrom s m args below meth c H locs 0 0 (MQ below (gw_Qv X (fun M => (gw_E X M Y)) z) args s 0 0 (gw_A X)) (F0 m 0 ls []) := by
  obtain ⟨hx, hb, hml, hown, hts, hr, hlocks, hK⟩ := id C0
  have hg : ∀ w ∈ gw_w, w.before args s = true := fun w h => hts w (List.mem_cons_of_mem _ h)
  unfold od_copyFrom_b0 at hF
  refine lv_aload_n hx hb dd_od_copyFrom_0 rfl (lv_at hl 0 rfl) ?_
  refine lv_aload_n hx hb dd_od_copyFrom_1 rfl (lv_at hl 1 rfl) ?_
  refine gf_od_program hx hb hg hown (hg _ kw_71) hK G ha1 dd_od_copyFrom_2 ?_
  refine lv_aload_n hx hb dd_od_copyFrom_5 rfl (lv_at hl 1 rfl) ?_
  refine gf_od_argument hx hb hg hown (hg _ kw_72) hK G ha1 dd_od_copyFrom_6 ?_
  obtain ⟨u9, M9, hc9, hF⟩ := gw_be hF
  refine gw_cv G (va_runV (As := [.int (M.1 a1 0), .int (M.1 a1 1)]) (rest := []) ⟨hx, hb, hml, hown, hts⟩ (ct_od_reset l X Y M a0 (M.1 a1 0) (M.1 a1 1) ha0 _ hc9) (cwV 2 hts (gw_gV kw_78 kw_79 kw_80 kw_14 kw_77) rfl rfl rfl (by decide +kernel) ⟨Nat.le_of_ble_eq_true rfl, Nat.le_of_ble_eq_true rfl⟩) ⟨gw_blind, gw_recv_od hK G ha0, gw_pre hK G⟩ rfl rfl hl.1 rfl (Nat.le_of_ble_eq_true rfl) dd_od_copyFrom_9 ⟨Nat.le_of_ble_eq_true rfl, Nat.le_of_ble_eq_true rfl⟩) (fun H locs G => ?_)
  refine lv_iconst (v := (0 : Int32)) hx hb dd_od_copyFrom_12 (by decide) ?_
  refine lv_istore_n (i := 2) (lv' := [(2, .int (0 : Int32)), (0, .ref (gc_a X a0)), (1, .ref (gc_a X a1))]) hx hb dd_od_copyFrom_13 rfl hl (by decide) rfl (fun ls hl => ?_)
  exact wl_od_copyFrom_14 C0  2100 M9 a0 a1 (0 : Int32) _ _ _ ha0 ha1 G (lv_sub hl [1, 2, 0] rfl) hF
set_option maxRecDepth 100000 in
set_option maxHeartbeats 4000000 in
theorem ct_od_copyFrom (l : Launch) (X : gw_X) (Y : gw_M) (M : gw_M) (a0 : Nat) (a1 : Nat) (ha0 : gc_k a0 = (4, 0)) (ha1 : gc_k a1 = (4, 0)) (z : (Unit × gw_M)) (hF : od_copyFrom_b0 M a0 a1 = some z) : Met l yy_od_copyFrom ((Cond.code yy_od_copyFrom by_od_copyFrom 3 none) :: gw_w) rm_od_copyFrom (va_Pc [.ref (gc_a X a0), .ref (gc_a X a1)] (gw_B X (gw_E X M Y))) (gw_Qv X (fun M => (gw_E X M Y)) z) 0 0 (gw_A X) := by
  refine Met.ofW (cc := by_od_copyFrom) (maxL := 3) (ret := none) (by decide) rfl ?_
  intro p e s m args below meth c s₁ B hml hv
  obtain ⟨rfl, hB⟩ := hv
  rw [lg_entry_eq]
  have hl := lv_entry ([.ref (gc_a X a0), .ref (gc_a X a1)]) (n := 3) (Nat.le_of_ble_eq_true rfl)
  generalize (lg_sl ([.ref (gc_a X a0), .ref (gc_a X a1)]) ++ List.replicate (3 - (lg_sl ([.ref (gc_a X a0), .ref (gc_a X a1)])).length) Slot.unset).toArray = ls at hl ⊢
  have hl : lv_has ls 3 [(0, .ref (gc_a X a0)), (1, .ref (gc_a X a1))] := hl
  exact wb_od_copyFrom_0 (gw_ctx B hml rfl hB) M a0 a1 _ _ _ ha0 ha1 (gw_start hB) hl hF
/-! AccountMachine$Program.append(IIIII)I -/
abbrev rm_pr_append : Room := { frames := 0, cells := 0, slots := 0, locals := 0 }
theorem dd_pr_append_0 : decode by_pr_append 0 = .ok (.aload_n 0, 1) := by decide +kernel
theorem dd_pr_append_1 : decode by_pr_append 1 = .ok (.getfield 9, 3) := by decide +kernel
theorem dd_pr_append_4 : decode by_pr_append 4 = .ok (.aload_n 0, 1) := by decide +kernel
theorem dd_pr_append_5 : decode by_pr_append 5 = .ok (.getfield 27, 3) := by decide +kernel
theorem dd_pr_append_8 : decode by_pr_append 8 = .ok (.iload_n 1, 1) := by decide +kernel
theorem dd_pr_append_9 : decode by_pr_append 9 = .ok (.iastore, 1) := by decide +kernel
theorem dd_pr_append_10 : decode by_pr_append 10 = .ok (.aload_n 0, 1) := by decide +kernel
theorem dd_pr_append_11 : decode by_pr_append 11 = .ok (.getfield 15, 3) := by decide +kernel
theorem dd_pr_append_14 : decode by_pr_append 14 = .ok (.aload_n 0, 1) := by decide +kernel
theorem dd_pr_append_15 : decode by_pr_append 15 = .ok (.getfield 27, 3) := by decide +kernel
theorem dd_pr_append_18 : decode by_pr_append 18 = .ok (.iload_n 2, 1) := by decide +kernel
theorem dd_pr_append_19 : decode by_pr_append 19 = .ok (.iastore, 1) := by decide +kernel
theorem dd_pr_append_20 : decode by_pr_append 20 = .ok (.aload_n 0, 1) := by decide +kernel
theorem dd_pr_append_21 : decode by_pr_append 21 = .ok (.getfield 18, 3) := by decide +kernel
theorem dd_pr_append_24 : decode by_pr_append 24 = .ok (.aload_n 0, 1) := by decide +kernel
theorem dd_pr_append_25 : decode by_pr_append 25 = .ok (.getfield 27, 3) := by decide +kernel
theorem dd_pr_append_28 : decode by_pr_append 28 = .ok (.iload_n 3, 1) := by decide +kernel
theorem dd_pr_append_29 : decode by_pr_append 29 = .ok (.iastore, 1) := by decide +kernel
theorem dd_pr_append_30 : decode by_pr_append 30 = .ok (.aload_n 0, 1) := by decide +kernel
theorem dd_pr_append_31 : decode by_pr_append 31 = .ok (.getfield 21, 3) := by decide +kernel
theorem dd_pr_append_34 : decode by_pr_append 34 = .ok (.aload_n 0, 1) := by decide +kernel
theorem dd_pr_append_35 : decode by_pr_append 35 = .ok (.getfield 27, 3) := by decide +kernel
theorem dd_pr_append_38 : decode by_pr_append 38 = .ok (.iload 4, 2) := by decide +kernel
theorem dd_pr_append_40 : decode by_pr_append 40 = .ok (.iastore, 1) := by decide +kernel
theorem dd_pr_append_41 : decode by_pr_append 41 = .ok (.aload_n 0, 1) := by decide +kernel
theorem dd_pr_append_42 : decode by_pr_append 42 = .ok (.getfield 24, 3) := by decide +kernel
theorem dd_pr_append_45 : decode by_pr_append 45 = .ok (.aload_n 0, 1) := by decide +kernel
theorem dd_pr_append_46 : decode by_pr_append 46 = .ok (.getfield 27, 3) := by decide +kernel
theorem dd_pr_append_49 : decode by_pr_append 49 = .ok (.iload 5, 2) := by decide +kernel
theorem dd_pr_append_51 : decode by_pr_append 51 = .ok (.iastore, 1) := by decide +kernel
theorem dd_pr_append_52 : decode by_pr_append 52 = .ok (.aload_n 0, 1) := by decide +kernel
theorem dd_pr_append_53 : decode by_pr_append 53 = .ok (.iconst 0, 1) := by decide +kernel
theorem dd_pr_append_54 : decode by_pr_append 54 = .ok (.putfield 31, 3) := by decide +kernel
theorem dd_pr_append_57 : decode by_pr_append 57 = .ok (.aload_n 0, 1) := by decide +kernel
theorem dd_pr_append_58 : decode by_pr_append 58 = .ok (.dup, 1) := by decide +kernel
theorem dd_pr_append_59 : decode by_pr_append 59 = .ok (.getfield 27, 3) := by decide +kernel
theorem dd_pr_append_62 : decode by_pr_append 62 = .ok (.dup_x1, 1) := by decide +kernel
theorem dd_pr_append_63 : decode by_pr_append 63 = .ok (.iconst 1, 1) := by decide +kernel
theorem dd_pr_append_64 : decode by_pr_append 64 = .ok (.iadd, 1) := by decide +kernel
theorem dd_pr_append_65 : decode by_pr_append 65 = .ok (.putfield 27, 3) := by decide +kernel
theorem dd_pr_append_68 : decode by_pr_append 68 = .ok (.ireturn, 1) := by decide +kernel
def pr_append_b0 (M : gw_M) (a0 : Nat) (v1 : Int32) (v2 : Int32) (v3 : Int32) (v4 : Int32) (v5 : Int32) : Option (Int32 × gw_M) :=
  gw_gu (gw_in (M.1 a0 5) 32) (gw_lt (gw_sI M (a0 + 1) ((M.1 a0 5).toNatClampNeg) v1) (fun M9 => gw_gu (gw_in (M9.1 a0 5) 32) (gw_lt (gw_sI M9 (a0 + 2) ((M9.1 a0 5).toNatClampNeg) v2) (fun M19 => gw_gu (gw_in (M19.1 a0 5) 32) (gw_lt (gw_sI M19 (a0 + 3) ((M19.1 a0 5).toNatClampNeg) v3) (fun M29 => gw_gu (gw_in (M29.1 a0 5) 32) (gw_lt (gw_sI M29 (a0 + 4) ((M29.1 a0 5).toNatClampNeg) v4) (fun M40 => gw_gu (gw_in (M40.1 a0 5) 32) (gw_lt (gw_sI M40 (a0 + 5) ((M40.1 a0 5).toNatClampNeg) v5) (fun M51 => gw_lt (gw_sI M51 a0 6 (0 : Int32)) (fun M54 => gw_lt (gw_sI M54 a0 5 ((M54.1 a0 5) + (1 : Int32))) (fun M65 => some (M54.1 a0 5, M65)))))))))))))
set_option maxRecDepth 100000 in
set_option maxHeartbeats 4000000 in
theorem wb_pr_append_0 {p : Program} {l : Launch} {e : Env} {s : State} {m : MethodId} {args : Array Value} {below : List Frame} {meth : Method} {c : Code} {X : gw_X} {Y : gw_M} {z : (Int32 × gw_M)} (C0 : gw_C ((Cond.code yy_pr_append by_pr_append 6 (some .int)) :: gw_w) by_pr_append 6 (some .int) "AccountMachine$Program" X p s m args meth c) (M : gw_M) (a0 : Nat) (v1 : Int32) (v2 : Int32) (v3 : Int32) (v4 : Int32) (v5 : Int32) (H : Heap) (locs : List Loc) (ls : Array Slot) (ha0 : gc_k a0 = (5, 0)) (G : gw_G X (gw_E X M Y) s H locs) (hl : lv_has ls 6 [(0, .ref (gc_a X a0)), (1, .int v1), (2, .int v2), (3, .int v3), (4, .int v4), (5, .int v5)]) (hF : pr_append_b0  M a0 v1 v2 v3 v4 v5 = some z) : W p l e rm_pr_append s m args below meth c H locs 0 0 (MQ below (gw_Qi X (fun M => (gw_E X M Y)) z) args s 0 0 (gw_A X)) (F0 m 0 ls []) := by
  obtain ⟨hx, hb, hml, hown, hts, hr, hlocks, hK⟩ := id C0
  have hg : ∀ w ∈ gw_w, w.before args s = true := fun w h => hts w (List.mem_cons_of_mem _ h)
  unfold pr_append_b0 at hF
  refine lv_aload_n hx hb dd_pr_append_0 rfl (lv_at hl 0 rfl) ?_
  refine gf_pr_kinds hx hb hg hown (hg _ kw_81) hK G ha0 dd_pr_append_1 ?_
  refine lv_aload_n hx hb dd_pr_append_4 rfl (lv_at hl 0 rfl) ?_
  refine gf_pr_count hx hb hg hown (hg _ kw_82) hK G ha0 dd_pr_append_5 ?_
  refine lv_iload_n hx hb dd_pr_append_8 rfl (lv_at hl 1 rfl) ?_
  obtain ⟨h9, hF⟩ := gw_gd hF
  refine gc_iast hx hb hK G (gq_pr_kinds ha0) (gw_vp h9) (j := (M.1 a0 5).toNatClampNeg) rfl dd_pr_append_9 (fun M9 H locs e9 G => ?_)
  replace hF := gw_ly e9 hF
  refine lv_aload_n hx hb dd_pr_append_10 rfl (lv_at hl 0 rfl) ?_
  refine gf_pr_targets hx hb hg hown (hg _ kw_83) hK G ha0 dd_pr_append_11 ?_
  refine lv_aload_n hx hb dd_pr_append_14 rfl (lv_at hl 0 rfl) ?_
  refine W.eq (g2 := F0 m 15 _ _) rfl ?_
  refine gf_pr_count hx hb hg hown (hg _ kw_82) hK G ha0 dd_pr_append_15 ?_
  refine lv_iload_n hx hb dd_pr_append_18 rfl (lv_at hl 2 rfl) ?_
  obtain ⟨h19, hF⟩ := gw_gd hF
  refine gc_iast hx hb hK G (gq_pr_targets ha0) (gw_vp h19) (j := (M9.1 a0 5).toNatClampNeg) rfl dd_pr_append_19 (fun M19 H locs e19 G => ?_)
  replace hF := gw_ly e19 hF
  refine lv_aload_n hx hb dd_pr_append_20 rfl (lv_at hl 0 rfl) ?_
  refine gf_pr_sources hx hb hg hown (hg _ kw_84) hK G ha0 dd_pr_append_21 ?_
  refine lv_aload_n hx hb dd_pr_append_24 rfl (lv_at hl 0 rfl) ?_
  refine gf_pr_count hx hb hg hown (hg _ kw_82) hK G ha0 dd_pr_append_25 ?_
  refine lv_iload_n hx hb dd_pr_append_28 rfl (lv_at hl 3 rfl) ?_
  obtain ⟨h29, hF⟩ := gw_gd hF
  refine gc_iast hx hb hK G (gq_pr_sources ha0) (gw_vp h29) (j := (M19.1 a0 5).toNatClampNeg) rfl dd_pr_append_29 (fun M29 H locs e29 G => ?_)
  replace hF := gw_ly e29 hF
  refine lv_aload_n hx hb dd_pr_append_30 rfl (lv_at hl 0 rfl) ?_
  refine W.eq (g2 := F0 m 31 _ _) rfl ?_
  refine gf_pr_offsets hx hb hg hown (hg _ kw_85) hK G ha0 dd_pr_append_31 ?_
  refine lv_aload_n hx hb dd_pr_append_34 rfl (lv_at hl 0 rfl) ?_
  refine gf_pr_count hx hb hg hown (hg _ kw_82) hK G ha0 dd_pr_append_35 ?_
  refine lv_iload hx hb dd_pr_append_38 (lv_at hl 4 rfl) ?_
  obtain ⟨h40, hF⟩ := gw_gd hF
  refine gc_iast hx hb hK G (gq_pr_offsets ha0) (gw_vp h40) (j := (M29.1 a0 5).toNatClampNeg) rfl dd_pr_append_40 (fun M40 H locs e40 G => ?_)
  replace hF := gw_ly e40 hF
  refine lv_aload_n hx hb dd_pr_append_41 rfl (lv_at hl 0 rfl) ?_
  refine gf_pr_numbers hx hb hg hown (hg _ kw_86) hK G ha0 dd_pr_append_42 ?_
  refine lv_aload_n hx hb dd_pr_append_45 rfl (lv_at hl 0 rfl) ?_
  refine gf_pr_count hx hb hg hown (hg _ kw_82) hK G ha0 dd_pr_append_46 ?_
  refine lv_iload hx hb dd_pr_append_49 (lv_at hl 5 rfl) ?_
  refine W.eq (g2 := F0 m 51 _ _) rfl ?_
  obtain ⟨h51, hF⟩ := gw_gd hF
  refine gc_iast hx hb hK G (gq_pr_numbers ha0) (gw_vp h51) (j := (M40.1 a0 5).toNatClampNeg) rfl dd_pr_append_51 (fun M51 H locs e51 G => ?_)
  replace hF := gw_ly e51 hF
  refine lv_aload_n hx hb dd_pr_append_52 rfl (lv_at hl 0 rfl) ?_
  refine lv_iconst (v := (0 : Int32)) hx hb dd_pr_append_53 (by decide) ?_
  refine gp_pr_sound hx hb hg hown (hg _ kw_87) hK G ha0 (by decide) (by decide) dd_pr_append_54 (fun M54 H locs e54 G => ?_)
  replace hF := gw_ly e54 hF
  refine lv_aload_n hx hb dd_pr_append_57 rfl (lv_at hl 0 rfl) ?_
  refine lv_dup hx hb dd_pr_append_58 rfl ?_
  refine gf_pr_count hx hb hg hown (hg _ kw_82) hK G ha0 dd_pr_append_59 ?_
  refine lv_dup_x1 hx hb dd_pr_append_62 rfl rfl ?_
  refine lv_iconst (v := (1 : Int32)) hx hb dd_pr_append_63 (by decide) ?_
  refine lv_iadd hx hb dd_pr_append_64 ?_
  refine W.eq (g2 := F0 m 65 _ _) rfl ?_
  refine gp_pr_count hx hb hg hown (hg _ kw_82) hK G ha0 dd_pr_append_65 (fun M65 H locs e65 G => ?_)
  replace hF := gw_ly e65 hF
  exact W.iret hx hb hr (fun t ht hW => gw_endi (EF := (fun M => (gw_E X M Y))) (M := M65) G ht hF) G.2.2.2.2 dd_pr_append_68 hlocks
set_option maxRecDepth 100000 in
set_option maxHeartbeats 4000000 in
theorem ct_pr_append (l : Launch) (X : gw_X) (Y : gw_M) (M : gw_M) (a0 : Nat) (v1 : Int32) (v2 : Int32) (v3 : Int32) (v4 : Int32) (v5 : Int32) (ha0 : gc_k a0 = (5, 0)) (z : (Int32 × gw_M)) (hF : pr_append_b0 M a0 v1 v2 v3 v4 v5 = some z) : Met l yy_pr_append ((Cond.code yy_pr_append by_pr_append 6 (some .int)) :: gw_w) rm_pr_append (va_Pc [.ref (gc_a X a0), .int v1, .int v2, .int v3, .int v4, .int v5] (gw_B X (gw_E X M Y))) (gw_Qi X (fun M => (gw_E X M Y)) z) 0 0 (gw_A X) := by
  refine Met.ofW (cc := by_pr_append) (maxL := 6) (ret := (some .int)) (by decide) rfl ?_
  intro p e s m args below meth c s₁ B hml hv
  obtain ⟨rfl, hB⟩ := hv
  rw [lg_entry_eq]
  have hl := lv_entry ([.ref (gc_a X a0), .int v1, .int v2, .int v3, .int v4, .int v5]) (n := 6) (Nat.le_of_ble_eq_true rfl)
  generalize (lg_sl ([.ref (gc_a X a0), .int v1, .int v2, .int v3, .int v4, .int v5]) ++ List.replicate (6 - (lg_sl ([.ref (gc_a X a0), .int v1, .int v2, .int v3, .int v4, .int v5])).length) Slot.unset).toArray = ls at hl ⊢
  have hl : lv_has ls 6 [(0, .ref (gc_a X a0)), (1, .int v1), (2, .int v2), (3, .int v3), (4, .int v4), (5, .int v5)] := hl
  exact wb_pr_append_0 (gw_ctx B hml rfl hB) M a0 v1 v2 v3 v4 v5 _ _ _ ha0 (gw_start hB) hl hF
/-! AccountMachine$Program.clear()I -/
abbrev rm_pr_clear : Room := { frames := 0, cells := 0, slots := 0, locals := 0 }
theorem dd_pr_clear_0 : decode by_pr_clear 0 = .ok (.aload_n 0, 1) := by decide +kernel
theorem dd_pr_clear_1 : decode by_pr_clear 1 = .ok (.getfield 27, 3) := by decide +kernel
theorem dd_pr_clear_4 : decode by_pr_clear 4 = .ok (.istore_n 1, 1) := by decide +kernel
theorem dd_pr_clear_5 : decode by_pr_clear 5 = .ok (.aload_n 0, 1) := by decide +kernel
theorem dd_pr_clear_6 : decode by_pr_clear 6 = .ok (.iconst 0, 1) := by decide +kernel
theorem dd_pr_clear_7 : decode by_pr_clear 7 = .ok (.putfield 27, 3) := by decide +kernel
theorem dd_pr_clear_10 : decode by_pr_clear 10 = .ok (.aload_n 0, 1) := by decide +kernel
theorem dd_pr_clear_11 : decode by_pr_clear 11 = .ok (.iconst 0, 1) := by decide +kernel
theorem dd_pr_clear_12 : decode by_pr_clear 12 = .ok (.putfield 31, 3) := by decide +kernel
theorem dd_pr_clear_15 : decode by_pr_clear 15 = .ok (.iload_n 1, 1) := by decide +kernel
theorem dd_pr_clear_16 : decode by_pr_clear 16 = .ok (.ireturn, 1) := by decide +kernel
def pr_clear_b0 (M : gw_M) (a0 : Nat) : Option (Int32 × gw_M) :=
  gw_lt (M.1 a0 5) (fun x4 => gw_lt (gw_sI M a0 5 (0 : Int32)) (fun M7 => gw_lt (gw_sI M7 a0 6 (0 : Int32)) (fun M12 => some (x4, M12))))
set_option maxRecDepth 100000 in
set_option maxHeartbeats 4000000 in
theorem wb_pr_clear_0 {p : Program} {l : Launch} {e : Env} {s : State} {m : MethodId} {args : Array Value} {below : List Frame} {meth : Method} {c : Code} {X : gw_X} {Y : gw_M} {z : (Int32 × gw_M)} (C0 : gw_C ((Cond.code yy_pr_clear by_pr_clear 2 (some .int)) :: gw_w) by_pr_clear 2 (some .int) "AccountMachine$Program" X p s m args meth c) (M : gw_M) (a0 : Nat) (H : Heap) (locs : List Loc) (ls : Array Slot) (ha0 : gc_k a0 = (5, 0)) (G : gw_G X (gw_E X M Y) s H locs) (hl : lv_has ls 2 [(0, .ref (gc_a X a0))]) (hF : pr_clear_b0  M a0 = some z) : W p l e rm_pr_clear s m args below meth c H locs 0 0 (MQ below (gw_Qi X (fun M => (gw_E X M Y)) z) args s 0 0 (gw_A X)) (F0 m 0 ls []) := by
  obtain ⟨hx, hb, hml, hown, hts, hr, hlocks, hK⟩ := id C0
  have hg : ∀ w ∈ gw_w, w.before args s = true := fun w h => hts w (List.mem_cons_of_mem _ h)
  unfold pr_clear_b0 at hF
  refine lv_aload_n hx hb dd_pr_clear_0 rfl (lv_at hl 0 rfl) ?_
  refine gf_pr_count hx hb hg hown (hg _ kw_82) hK G ha0 dd_pr_clear_1 ?_
  refine lv_topi (fun x4 e4 => ?_)
  replace hF := gw_ly e4 hF
  refine lv_istore_n (i := 1) (lv' := [(1, .int x4), (0, .ref (gc_a X a0))]) hx hb dd_pr_clear_4 rfl hl (by decide) rfl (fun ls hl => ?_)
  refine lv_aload_n hx hb dd_pr_clear_5 rfl (lv_at hl 1 rfl) ?_
  refine lv_iconst (v := (0 : Int32)) hx hb dd_pr_clear_6 (by decide) ?_
  refine gp_pr_count hx hb hg hown (hg _ kw_82) hK G ha0 dd_pr_clear_7 (fun M7 H locs e7 G => ?_)
  replace hF := gw_ly e7 hF
  refine lv_aload_n hx hb dd_pr_clear_10 rfl (lv_at hl 1 rfl) ?_
  refine lv_iconst (v := (0 : Int32)) hx hb dd_pr_clear_11 (by decide) ?_
  refine gp_pr_sound hx hb hg hown (hg _ kw_87) hK G ha0 (by decide) (by decide) dd_pr_clear_12 (fun M12 H locs e12 G => ?_)
  replace hF := gw_ly e12 hF
  refine W.eq (g2 := F0 m 15 _ _) rfl ?_
  refine lv_iload_n hx hb dd_pr_clear_15 rfl (lv_at hl 0 rfl) ?_
  exact W.iret hx hb hr (fun t ht hW => gw_endi (EF := (fun M => (gw_E X M Y))) (M := M12) G ht hF) G.2.2.2.2 dd_pr_clear_16 hlocks
set_option maxRecDepth 100000 in
set_option maxHeartbeats 4000000 in
theorem ct_pr_clear (l : Launch) (X : gw_X) (Y : gw_M) (M : gw_M) (a0 : Nat) (ha0 : gc_k a0 = (5, 0)) (z : (Int32 × gw_M)) (hF : pr_clear_b0 M a0 = some z) : Met l yy_pr_clear ((Cond.code yy_pr_clear by_pr_clear 2 (some .int)) :: gw_w) rm_pr_clear (va_Pc [.ref (gc_a X a0)] (gw_B X (gw_E X M Y))) (gw_Qi X (fun M => (gw_E X M Y)) z) 0 0 (gw_A X) := by
  refine Met.ofW (cc := by_pr_clear) (maxL := 2) (ret := (some .int)) (by decide) rfl ?_
  intro p e s m args below meth c s₁ B hml hv
  obtain ⟨rfl, hB⟩ := hv
  rw [lg_entry_eq]
  have hl := lv_entry ([.ref (gc_a X a0)]) (n := 2) (Nat.le_of_ble_eq_true rfl)
  generalize (lg_sl ([.ref (gc_a X a0)]) ++ List.replicate (2 - (lg_sl ([.ref (gc_a X a0)])).length) Slot.unset).toArray = ls at hl ⊢
  have hl : lv_has ls 2 [(0, .ref (gc_a X a0))] := hl
  exact wb_pr_clear_0 (gw_ctx B hml rfl hB) M a0 _ _ _ ha0 (gw_start hB) hl hF
/-! AccountMachine$Program.isRegister(I)Z -/
abbrev rm_pr_isRegister : Room := { frames := 0, cells := 0, slots := 0, locals := 0 }
theorem dd_pr_isRegister_0 : decode by_pr_isRegister 0 = .ok (.iload_n 0, 1) := by decide +kernel
theorem dd_pr_isRegister_1 : decode by_pr_isRegister 1 = .ok (.ifCond .lt 13, 3) := by decide +kernel
theorem dd_pr_isRegister_4 : decode by_pr_isRegister 4 = .ok (.iload_n 0, 1) := by decide +kernel
theorem dd_pr_isRegister_5 : decode by_pr_isRegister 5 = .ok (.bipush 10, 2) := by decide +kernel
theorem dd_pr_isRegister_7 : decode by_pr_isRegister 7 = .ok (.if_icmp .ge 7, 3) := by decide +kernel
theorem dd_pr_isRegister_10 : decode by_pr_isRegister 10 = .ok (.iconst 1, 1) := by decide +kernel
theorem dd_pr_isRegister_11 : decode by_pr_isRegister 11 = .ok (.goto 4, 3) := by decide +kernel
theorem dd_pr_isRegister_14 : decode by_pr_isRegister 14 = .ok (.iconst 0, 1) := by decide +kernel
theorem dd_pr_isRegister_15 : decode by_pr_isRegister 15 = .ok (.ireturn, 1) := by decide +kernel
def pr_isRegister_b0 (M : gw_M) (v0 : Int32) : Option (Int32 × gw_M) :=
  if v0 < (0 : Int32) then (some ((0 : Int32), M)) else (if (10 : Int32) ≤ v0 then (some ((0 : Int32), M)) else (some ((1 : Int32), M)))
set_option maxRecDepth 100000 in
set_option maxHeartbeats 4000000 in
theorem wb_pr_isRegister_0 {p : Program} {l : Launch} {e : Env} {s : State} {m : MethodId} {args : Array Value} {below : List Frame} {meth : Method} {c : Code} {X : gw_X} {Y : gw_M} {z : (Int32 × gw_M)} (C0 : gw_C ((Cond.code yy_pr_isRegister by_pr_isRegister 1 (some .boolean)) :: gw_w) by_pr_isRegister 1 (some .boolean) "AccountMachine$Program" X p s m args meth c) (M : gw_M) (v0 : Int32) (H : Heap) (locs : List Loc) (ls : Array Slot) (G : gw_G X (gw_E X M Y) s H locs) (hl : lv_has ls 1 [(0, .int v0)]) (hF : pr_isRegister_b0  M v0 = some z) : W p l e rm_pr_isRegister s m args below meth c H locs 0 0 (MQ below (gw_Qi X (fun M => (gw_E X M Y)) z) args s 0 0 (gw_A X)) (F0 m 0 ls []) := by
  obtain ⟨hx, hb, hml, hown, hts, hr, hlocks, hK⟩ := id C0
  have hg : ∀ w ∈ gw_w, w.before args s = true := fun w h => hts w (List.mem_cons_of_mem _ h)
  unfold pr_isRegister_b0 at hF
  refine lv_iload_n hx hb dd_pr_isRegister_0 rfl (lv_at hl 0 rfl) ?_
  refine lv_if_lt (tgt := 14) hx hb dd_pr_isRegister_1 (by decide) (fun h1 => ?_) (fun h1 => ?_)
  · replace hF := gw_et h1 hF
    refine lv_iconst (v := (0 : Int32)) hx hb dd_pr_isRegister_14 (by decide) ?_
    exact W.zret hx hb hr (by decide) (fun t ht hW => gw_endi (EF := (fun M => (gw_E X M Y))) (M := M) G ht hF) G.2.2.2.2 dd_pr_isRegister_15 hlocks
  · replace hF := gw_ef h1 hF
    refine lv_iload_n hx hb dd_pr_isRegister_4 rfl (lv_at hl 0 rfl) ?_
    refine lv_bipush (v := (10 : Int32)) hx hb dd_pr_isRegister_5 (by decide) ?_
    refine lv_icmp_ge (tgt := 14) hx hb dd_pr_isRegister_7 (by decide) (fun h7 => ?_) (fun h7 => ?_)
    · replace hF := gw_et h7 hF
      refine lv_iconst (v := (0 : Int32)) hx hb dd_pr_isRegister_14 (by decide) ?_
      exact W.zret hx hb hr (by decide) (fun t ht hW => gw_endi (EF := (fun M => (gw_E X M Y))) (M := M) G ht hF) G.2.2.2.2 dd_pr_isRegister_15 hlocks
    · replace hF := gw_ef h7 hF
      refine lv_iconst (v := (1 : Int32)) hx hb dd_pr_isRegister_10 (by decide) ?_
      refine lv_goto (tgt := 15) hx hb dd_pr_isRegister_11 (by decide) ?_
      exact W.zret hx hb hr (by decide) (fun t ht hW => gw_endi (EF := (fun M => (gw_E X M Y))) (M := M) G ht hF) G.2.2.2.2 dd_pr_isRegister_15 hlocks
set_option maxRecDepth 100000 in
set_option maxHeartbeats 4000000 in
theorem ct_pr_isRegister (l : Launch) (X : gw_X) (Y : gw_M) (M : gw_M) (v0 : Int32) (z : (Int32 × gw_M)) (hF : pr_isRegister_b0 M v0 = some z) : Met l yy_pr_isRegister ((Cond.code yy_pr_isRegister by_pr_isRegister 1 (some .boolean)) :: gw_w) rm_pr_isRegister (va_Pc [.int v0] (gw_B X (gw_E X M Y))) (gw_Qi X (fun M => (gw_E X M Y)) z) 0 0 (gw_A X) := by
  refine Met.ofW (cc := by_pr_isRegister) (maxL := 1) (ret := (some .boolean)) (by decide) rfl ?_
  intro p e s m args below meth c s₁ B hml hv
  obtain ⟨rfl, hB⟩ := hv
  rw [lg_entry_eq]
  have hl := lv_entry ([.int v0]) (n := 1) (Nat.le_of_ble_eq_true rfl)
  generalize (lg_sl ([.int v0]) ++ List.replicate (1 - (lg_sl ([.int v0])).length) Slot.unset).toArray = ls at hl ⊢
  have hl : lv_has ls 1 [(0, .int v0)] := hl
  exact wb_pr_isRegister_0 (gw_ctx B hml rfl hB) M v0 _ _ _  (gw_start hB) hl hF
/-! AccountMachine$Program.isPlace(J)Z -/
abbrev rm_pr_isPlace : Room := { frames := 0, cells := 0, slots := 0, locals := 0 }
theorem dd_pr_isPlace_0 : decode by_pr_isPlace 0 = .ok (.lload_n 1, 1) := by decide +kernel
theorem dd_pr_isPlace_1 : decode by_pr_isPlace 1 = .ok (.lconst 0, 1) := by decide +kernel
theorem dd_pr_isPlace_2 : decode by_pr_isPlace 2 = .ok (.lcmp, 1) := by decide +kernel
theorem dd_pr_isPlace_3 : decode by_pr_isPlace 3 = .ok (.ifCond .lt 17, 3) := by decide +kernel
theorem dd_pr_isPlace_6 : decode by_pr_isPlace 6 = .ok (.lload_n 1, 1) := by decide +kernel
theorem dd_pr_isPlace_7 : decode by_pr_isPlace 7 = .ok (.aload_n 0, 1) := by decide +kernel
theorem dd_pr_isPlace_8 : decode by_pr_isPlace 8 = .ok (.getfield 27, 3) := by decide +kernel
theorem dd_pr_isPlace_11 : decode by_pr_isPlace 11 = .ok (.i2l, 1) := by decide +kernel
theorem dd_pr_isPlace_12 : decode by_pr_isPlace 12 = .ok (.lcmp, 1) := by decide +kernel
theorem dd_pr_isPlace_13 : decode by_pr_isPlace 13 = .ok (.ifCond .ge 7, 3) := by decide +kernel
theorem dd_pr_isPlace_16 : decode by_pr_isPlace 16 = .ok (.iconst 1, 1) := by decide +kernel
theorem dd_pr_isPlace_17 : decode by_pr_isPlace 17 = .ok (.goto 4, 3) := by decide +kernel
theorem dd_pr_isPlace_20 : decode by_pr_isPlace 20 = .ok (.iconst 0, 1) := by decide +kernel
theorem dd_pr_isPlace_21 : decode by_pr_isPlace 21 = .ok (.ireturn, 1) := by decide +kernel
def pr_isPlace_b0 (M : gw_M) (a0 : Nat) (v1 : Int64) : Option (Int32 × gw_M) :=
  if (lg_cmp v1 (0 : Int64)) < (0 : Int32) then (some ((0 : Int32), M)) else (if (0 : Int32) ≤ (lg_cmp v1 ((M.1 a0 5).toInt64)) then (some ((0 : Int32), M)) else (some ((1 : Int32), M)))
set_option maxRecDepth 100000 in
set_option maxHeartbeats 4000000 in
theorem wb_pr_isPlace_0 {p : Program} {l : Launch} {e : Env} {s : State} {m : MethodId} {args : Array Value} {below : List Frame} {meth : Method} {c : Code} {X : gw_X} {Y : gw_M} {z : (Int32 × gw_M)} (C0 : gw_C ((Cond.code yy_pr_isPlace by_pr_isPlace 3 (some .boolean)) :: gw_w) by_pr_isPlace 3 (some .boolean) "AccountMachine$Program" X p s m args meth c) (M : gw_M) (a0 : Nat) (v1 : Int64) (H : Heap) (locs : List Loc) (ls : Array Slot) (ha0 : gc_k a0 = (5, 0)) (G : gw_G X (gw_E X M Y) s H locs) (hl : lv_has ls 3 [(0, .ref (gc_a X a0)), (1, .long v1)]) (hF : pr_isPlace_b0  M a0 v1 = some z) : W p l e rm_pr_isPlace s m args below meth c H locs 0 0 (MQ below (gw_Qi X (fun M => (gw_E X M Y)) z) args s 0 0 (gw_A X)) (F0 m 0 ls []) := by
  obtain ⟨hx, hb, hml, hown, hts, hr, hlocks, hK⟩ := id C0
  have hg : ∀ w ∈ gw_w, w.before args s = true := fun w h => hts w (List.mem_cons_of_mem _ h)
  unfold pr_isPlace_b0 at hF
  refine lv_lload_n hx hb dd_pr_isPlace_0 rfl (lv_at hl 1 rfl) ?_
  refine lv_lconst (v := (0 : Int64)) hx hb dd_pr_isPlace_1 (by decide) ?_
  refine W.lcmp hx hb dd_pr_isPlace_2 ?_
  refine lv_if_lt (tgt := 20) hx hb dd_pr_isPlace_3 (by decide) (fun h3 => ?_) (fun h3 => ?_)
  · replace hF := gw_et h3 hF
    refine lv_iconst (v := (0 : Int32)) hx hb dd_pr_isPlace_20 (by decide) ?_
    exact W.zret hx hb hr (by decide) (fun t ht hW => gw_endi (EF := (fun M => (gw_E X M Y))) (M := M) G ht hF) G.2.2.2.2 dd_pr_isPlace_21 hlocks
  · replace hF := gw_ef h3 hF
    refine lv_lload_n hx hb dd_pr_isPlace_6 rfl (lv_at hl 1 rfl) ?_
    refine lv_aload_n hx hb dd_pr_isPlace_7 rfl (lv_at hl 0 rfl) ?_
    refine gf_pr_count hx hb hg hown (hg _ kw_82) hK G ha0 dd_pr_isPlace_8 ?_
    refine lv_i2l (v := (M.1 a0 5).toInt64) hx hb dd_pr_isPlace_11 rfl ?_
    refine W.lcmp hx hb dd_pr_isPlace_12 ?_
    refine lv_if_ge (tgt := 20) hx hb dd_pr_isPlace_13 (by decide) (fun h13 => ?_) (fun h13 => ?_)
    · replace hF := gw_et h13 hF
      refine lv_iconst (v := (0 : Int32)) hx hb dd_pr_isPlace_20 (by decide) ?_
      exact W.zret hx hb hr (by decide) (fun t ht hW => gw_endi (EF := (fun M => (gw_E X M Y))) (M := M) G ht hF) G.2.2.2.2 dd_pr_isPlace_21 hlocks
    · replace hF := gw_ef h13 hF
      refine lv_iconst (v := (1 : Int32)) hx hb dd_pr_isPlace_16 (by decide) ?_
      refine lv_goto (tgt := 21) hx hb dd_pr_isPlace_17 (by decide) ?_
      exact W.zret hx hb hr (by decide) (fun t ht hW => gw_endi (EF := (fun M => (gw_E X M Y))) (M := M) G ht hF) G.2.2.2.2 dd_pr_isPlace_21 hlocks
set_option maxRecDepth 100000 in
set_option maxHeartbeats 4000000 in
theorem ct_pr_isPlace (l : Launch) (X : gw_X) (Y : gw_M) (M : gw_M) (a0 : Nat) (v1 : Int64) (ha0 : gc_k a0 = (5, 0)) (z : (Int32 × gw_M)) (hF : pr_isPlace_b0 M a0 v1 = some z) : Met l yy_pr_isPlace ((Cond.code yy_pr_isPlace by_pr_isPlace 3 (some .boolean)) :: gw_w) rm_pr_isPlace (va_Pc [.ref (gc_a X a0), .long v1] (gw_B X (gw_E X M Y))) (gw_Qi X (fun M => (gw_E X M Y)) z) 0 0 (gw_A X) := by
  refine Met.ofW (cc := by_pr_isPlace) (maxL := 3) (ret := (some .boolean)) (by decide) rfl ?_
  intro p e s m args below meth c s₁ B hml hv
  obtain ⟨rfl, hB⟩ := hv
  rw [lg_entry_eq]
  have hl := lv_entry ([.ref (gc_a X a0), .long v1]) (n := 3) (Nat.le_of_ble_eq_true rfl)
  generalize (lg_sl ([.ref (gc_a X a0), .long v1]) ++ List.replicate (3 - (lg_sl ([.ref (gc_a X a0), .long v1])).length) Slot.unset).toArray = ls at hl ⊢
  have hl : lv_has ls 3 [(0, .ref (gc_a X a0)), (1, .long v1)] := hl
  exact wb_pr_isPlace_0 (gw_ctx B hml rfl hB) M a0 v1 _ _ _ ha0 (gw_start hB) hl hF
/-! AccountMachine$Program.goesOnInside(I)Z -/
abbrev rm_pr_goesOnInside : Room := { frames := 1, cells := 0, slots := 0, locals := 22 }
theorem dd_pr_goesOnInside_0 : decode by_pr_goesOnInside 0 = .ok (.aload_n 0, 1) := by decide +kernel
theorem dd_pr_goesOnInside_1 : decode by_pr_goesOnInside 1 = .ok (.getfield 9, 3) := by decide +kernel
theorem dd_pr_goesOnInside_4 : decode by_pr_goesOnInside 4 = .ok (.iload_n 1, 1) := by decide +kernel
theorem dd_pr_goesOnInside_5 : decode by_pr_goesOnInside 5 = .ok (.iaload, 1) := by decide +kernel
theorem dd_pr_goesOnInside_6 : decode by_pr_goesOnInside 6 = .ok (.istore_n 2, 1) := by decide +kernel
theorem dd_pr_goesOnInside_7 : decode by_pr_goesOnInside 7 = .ok (.iload_n 2, 1) := by decide +kernel
theorem dd_pr_goesOnInside_8 : decode by_pr_goesOnInside 8 = .ok (.bipush 10, 2) := by decide +kernel
theorem dd_pr_goesOnInside_10 : decode by_pr_goesOnInside 10 = .ok (.if_icmp .lt 13, 3) := by decide +kernel
theorem dd_pr_goesOnInside_13 : decode by_pr_goesOnInside 13 = .ok (.iload_n 2, 1) := by decide +kernel
theorem dd_pr_goesOnInside_14 : decode by_pr_goesOnInside 14 = .ok (.bipush 13, 2) := by decide +kernel
theorem dd_pr_goesOnInside_16 : decode by_pr_goesOnInside 16 = .ok (.if_icmp .gt 7, 3) := by decide +kernel
theorem dd_pr_goesOnInside_19 : decode by_pr_goesOnInside 19 = .ok (.iconst 1, 1) := by decide +kernel
theorem dd_pr_goesOnInside_20 : decode by_pr_goesOnInside 20 = .ok (.goto 4, 3) := by decide +kernel
theorem dd_pr_goesOnInside_23 : decode by_pr_goesOnInside 23 = .ok (.iconst 0, 1) := by decide +kernel
theorem dd_pr_goesOnInside_24 : decode by_pr_goesOnInside 24 = .ok (.istore_n 3, 1) := by decide +kernel
theorem dd_pr_goesOnInside_25 : decode by_pr_goesOnInside 25 = .ok (.iload_n 2, 1) := by decide +kernel
theorem dd_pr_goesOnInside_26 : decode by_pr_goesOnInside 26 = .ok (.bipush 10, 2) := by decide +kernel
theorem dd_pr_goesOnInside_28 : decode by_pr_goesOnInside 28 = .ok (.if_icmp .eq 13, 3) := by decide +kernel
theorem dd_pr_goesOnInside_31 : decode by_pr_goesOnInside 31 = .ok (.iload_n 2, 1) := by decide +kernel
theorem dd_pr_goesOnInside_32 : decode by_pr_goesOnInside 32 = .ok (.bipush 15, 2) := by decide +kernel
theorem dd_pr_goesOnInside_34 : decode by_pr_goesOnInside 34 = .ok (.if_icmp .eq 7, 3) := by decide +kernel
theorem dd_pr_goesOnInside_37 : decode by_pr_goesOnInside 37 = .ok (.iconst 1, 1) := by decide +kernel
theorem dd_pr_goesOnInside_38 : decode by_pr_goesOnInside 38 = .ok (.goto 4, 3) := by decide +kernel
theorem dd_pr_goesOnInside_41 : decode by_pr_goesOnInside 41 = .ok (.iconst 0, 1) := by decide +kernel
theorem dd_pr_goesOnInside_42 : decode by_pr_goesOnInside 42 = .ok (.istore 4, 2) := by decide +kernel
theorem dd_pr_goesOnInside_44 : decode by_pr_goesOnInside 44 = .ok (.iload_n 3, 1) := by decide +kernel
theorem dd_pr_goesOnInside_45 : decode by_pr_goesOnInside 45 = .ok (.ifCond .eq 22, 3) := by decide +kernel
theorem dd_pr_goesOnInside_48 : decode by_pr_goesOnInside 48 = .ok (.aload_n 0, 1) := by decide +kernel
theorem dd_pr_goesOnInside_49 : decode by_pr_goesOnInside 49 = .ok (.iload_n 1, 1) := by decide +kernel
theorem dd_pr_goesOnInside_50 : decode by_pr_goesOnInside 50 = .ok (.i2l, 1) := by decide +kernel
theorem dd_pr_goesOnInside_51 : decode by_pr_goesOnInside 51 = .ok (.lconst 1, 1) := by decide +kernel
theorem dd_pr_goesOnInside_52 : decode by_pr_goesOnInside 52 = .ok (.ladd, 1) := by decide +kernel
theorem dd_pr_goesOnInside_53 : decode by_pr_goesOnInside 53 = .ok (.aload_n 0, 1) := by decide +kernel
theorem dd_pr_goesOnInside_54 : decode by_pr_goesOnInside 54 = .ok (.getfield 21, 3) := by decide +kernel
theorem dd_pr_goesOnInside_57 : decode by_pr_goesOnInside 57 = .ok (.iload_n 1, 1) := by decide +kernel
theorem dd_pr_goesOnInside_58 : decode by_pr_goesOnInside 58 = .ok (.iaload, 1) := by decide +kernel
theorem dd_pr_goesOnInside_59 : decode by_pr_goesOnInside 59 = .ok (.i2l, 1) := by decide +kernel
theorem dd_pr_goesOnInside_60 : decode by_pr_goesOnInside 60 = .ok (.ladd, 1) := by decide +kernel
theorem dd_pr_goesOnInside_61 : decode by_pr_goesOnInside 61 = .ok (.invokevirtual 49, 3) := by decide +kernel
theorem dd_pr_goesOnInside_64 : decode by_pr_goesOnInside 64 = .ok (.ifCond .eq 23, 3) := by decide +kernel
theorem dd_pr_goesOnInside_67 : decode by_pr_goesOnInside 67 = .ok (.iload 4, 2) := by decide +kernel
theorem dd_pr_goesOnInside_69 : decode by_pr_goesOnInside 69 = .ok (.ifCond .eq 14, 3) := by decide +kernel
theorem dd_pr_goesOnInside_72 : decode by_pr_goesOnInside 72 = .ok (.aload_n 0, 1) := by decide +kernel
theorem dd_pr_goesOnInside_73 : decode by_pr_goesOnInside 73 = .ok (.iload_n 1, 1) := by decide +kernel
theorem dd_pr_goesOnInside_74 : decode by_pr_goesOnInside 74 = .ok (.i2l, 1) := by decide +kernel
theorem dd_pr_goesOnInside_75 : decode by_pr_goesOnInside 75 = .ok (.lconst 1, 1) := by decide +kernel
theorem dd_pr_goesOnInside_76 : decode by_pr_goesOnInside 76 = .ok (.ladd, 1) := by decide +kernel
theorem dd_pr_goesOnInside_77 : decode by_pr_goesOnInside 77 = .ok (.invokevirtual 49, 3) := by decide +kernel
theorem dd_pr_goesOnInside_80 : decode by_pr_goesOnInside 80 = .ok (.ifCond .eq 7, 3) := by decide +kernel
theorem dd_pr_goesOnInside_83 : decode by_pr_goesOnInside 83 = .ok (.iconst 1, 1) := by decide +kernel
theorem dd_pr_goesOnInside_84 : decode by_pr_goesOnInside 84 = .ok (.goto 4, 3) := by decide +kernel
theorem dd_pr_goesOnInside_87 : decode by_pr_goesOnInside 87 = .ok (.iconst 0, 1) := by decide +kernel
theorem dd_pr_goesOnInside_88 : decode by_pr_goesOnInside 88 = .ok (.ireturn, 1) := by decide +kernel
def pr_goesOnInside_b83 (M : gw_M) : Option (Int32 × gw_M) :=
  some ((1 : Int32), M)
def pr_goesOnInside_b67 (M : gw_M) (a0 : Nat) (v1 : Int32) (v4 : Int32) : Option (Int32 × gw_M) :=
  if v4 = (0 : Int32) then (pr_goesOnInside_b83  M) else (gw_bd (pr_isPlace_b0 M a0 (v1.toInt64 + (1 : Int64))) (fun r77 M77 => if r77 = (0 : Int32) then (some ((0 : Int32), M77)) else (pr_goesOnInside_b83  M77)))
def pr_goesOnInside_b42 (M : gw_M) (a0 : Nat) (v1 : Int32) (v3 : Int32) (t0 : Int32) : Option (Int32 × gw_M) :=
  if v3 = (0 : Int32) then (pr_goesOnInside_b67  M a0 v1 t0) else (gw_gu (gw_in v1 32) (gw_bd (pr_isPlace_b0 M a0 ((v1.toInt64 + (1 : Int64)) + ((M.1 (a0 + 4) v1.toNatClampNeg).toInt64))) (fun r61 M61 => if r61 = (0 : Int32) then (some ((0 : Int32), M61)) else (pr_goesOnInside_b67  M61 a0 v1 t0))))
def pr_goesOnInside_b41 (M : gw_M) (a0 : Nat) (v1 : Int32) (v3 : Int32) : Option (Int32 × gw_M) :=
  pr_goesOnInside_b42  M a0 v1 v3 (0 : Int32)
def pr_goesOnInside_b24 (M : gw_M) (a0 : Nat) (v1 : Int32) (v2 : Int32) (t0 : Int32) : Option (Int32 × gw_M) :=
  if v2 = (10 : Int32) then (pr_goesOnInside_b41  M a0 v1 t0) else (if v2 = (15 : Int32) then (pr_goesOnInside_b41  M a0 v1 t0) else (pr_goesOnInside_b42  M a0 v1 t0 (1 : Int32)))
def pr_goesOnInside_b23 (M : gw_M) (a0 : Nat) (v1 : Int32) (v2 : Int32) : Option (Int32 × gw_M) :=
  pr_goesOnInside_b24  M a0 v1 v2 (0 : Int32)
def pr_goesOnInside_b0 (M : gw_M) (a0 : Nat) (v1 : Int32) : Option (Int32 × gw_M) :=
  gw_gu (gw_in v1 32) (gw_lt (M.1 (a0 + 1) v1.toNatClampNeg) (fun x6 => if x6 < (10 : Int32) then (pr_goesOnInside_b23  M a0 v1 x6) else (if (13 : Int32) < x6 then (pr_goesOnInside_b23  M a0 v1 x6) else (pr_goesOnInside_b24  M a0 v1 x6 (1 : Int32)))))
set_option maxRecDepth 100000 in
set_option maxHeartbeats 4000000 in
theorem wb_pr_goesOnInside_83 {p : Program} {l : Launch} {e : Env} {s : State} {m : MethodId} {args : Array Value} {below : List Frame} {meth : Method} {c : Code} {X : gw_X} {Y : gw_M} {z : (Int32 × gw_M)} (C0 : gw_C ((Cond.code yy_pr_goesOnInside by_pr_goesOnInside 5 (some .boolean)) :: gw_w) by_pr_goesOnInside 5 (some .boolean) "AccountMachine$Program" X p s m args meth c) (M : gw_M) (H : Heap) (locs : List Loc) (ls : Array Slot) (G : gw_G X (gw_E X M Y) s H locs) (hl : lv_has ls 5 []) (hF : pr_goesOnInside_b83  M = some z) : W p l e rm_pr_goesOnInside s m args below meth c H locs 0 0 (MQ below (gw_Qi X (fun M => (gw_E X M Y)) z) args s 0 0 (gw_A X)) (F0 m 83 ls []) := by
  obtain ⟨hx, hb, hml, hown, hts, hr, hlocks, hK⟩ := id C0
  have hg : ∀ w ∈ gw_w, w.before args s = true := fun w h => hts w (List.mem_cons_of_mem _ h)
  unfold pr_goesOnInside_b83 at hF
  refine lv_iconst (v := (1 : Int32)) hx hb dd_pr_goesOnInside_83 (by decide) ?_
  refine lv_goto (tgt := 88) hx hb dd_pr_goesOnInside_84 (by decide) ?_
  exact W.zret hx hb hr (by decide) (fun t ht hW => gw_endi (EF := (fun M => (gw_E X M Y))) (M := M) G ht hF) G.2.2.2.2 dd_pr_goesOnInside_88 hlocks
set_option maxRecDepth 100000 in
set_option maxHeartbeats 4000000 in
theorem wb_pr_goesOnInside_67 {p : Program} {l : Launch} {e : Env} {s : State} {m : MethodId} {args : Array Value} {below : List Frame} {meth : Method} {c : Code} {X : gw_X} {Y : gw_M} {z : (Int32 × gw_M)} (C0 : gw_C ((Cond.code yy_pr_goesOnInside by_pr_goesOnInside 5 (some .boolean)) :: gw_w) by_pr_goesOnInside 5 (some .boolean) "AccountMachine$Program" X p s m args meth c) (M : gw_M) (a0 : Nat) (v1 : Int32) (v4 : Int32) (H : Heap) (locs : List Loc) (ls : Array Slot) (ha0 : gc_k a0 = (5, 0)) (G : gw_G X (gw_E X M Y) s H locs) (hl : lv_has ls 5 [(0, .ref (gc_a X a0)), (1, .int v1), (4, .int v4)]) (hF : pr_goesOnInside_b67  M a0 v1 v4 = some z) : W p l e rm_pr_goesOnInside s m args below meth c H locs 0 0 (MQ below (gw_Qi X (fun M => (gw_E X M Y)) z) args s 0 0 (gw_A X)) (F0 m 67 ls []) := by
  obtain ⟨hx, hb, hml, hown, hts, hr, hlocks, hK⟩ := id C0
  have hg : ∀ w ∈ gw_w, w.before args s = true := fun w h => hts w (List.mem_cons_of_mem _ h)
  unfold pr_goesOnInside_b67 at hF
  refine lv_iload hx hb dd_pr_goesOnInside_67 (lv_at hl 2 rfl) ?_
  refine lv_if_eq (tgt := 83) hx hb dd_pr_goesOnInside_69 (by decide) (fun h69 => ?_) (fun h69 => ?_)
  · replace hF := gw_et h69 hF
    exact wb_pr_goesOnInside_83 C0  M _ _ _  G (lv_sub hl [] rfl) hF
  · replace hF := gw_ef h69 hF
    refine lv_aload_n hx hb dd_pr_goesOnInside_72 rfl (lv_at hl 0 rfl) ?_
    refine lv_iload_n hx hb dd_pr_goesOnInside_73 rfl (lv_at hl 1 rfl) ?_
    refine lv_i2l (v := v1.toInt64) hx hb dd_pr_goesOnInside_74 rfl ?_
    refine lv_lconst (v := (1 : Int64)) hx hb dd_pr_goesOnInside_75 (by decide) ?_
    refine lv_ladd hx hb dd_pr_goesOnInside_76 ?_
    obtain ⟨r77, M77, hc77, hF⟩ := gw_be hF
    refine gw_ci G (va_runV (As := [.long (v1.toInt64 + (1 : Int64))]) (rest := []) ⟨hx, hb, hml, hown, hts⟩ (ct_pr_isPlace l X Y M a0 (v1.toInt64 + (1 : Int64)) ha0 _ hc77) (cwV 1 hts (gw_gV kw_89 kw_90 kw_91 kw_92 kw_88) rfl rfl rfl (by decide +kernel) ⟨Nat.le_of_ble_eq_true rfl, Nat.le_of_ble_eq_true rfl⟩) ⟨gw_blind, gw_recv_pr hK G ha0, gw_pre hK G⟩ rfl rfl hl.1 rfl (Nat.le_of_ble_eq_true rfl) dd_pr_goesOnInside_77 ⟨Nat.le_of_ble_eq_true rfl, Nat.le_of_ble_eq_true rfl⟩) (fun H locs G => ?_)
    refine lv_if_eq (tgt := 87) hx hb dd_pr_goesOnInside_80 (by decide) (fun h80 => ?_) (fun h80 => ?_)
    · replace hF := gw_et h80 hF
      refine lv_iconst (v := (0 : Int32)) hx hb dd_pr_goesOnInside_87 (by decide) ?_
      exact W.zret hx hb hr (by decide) (fun t ht hW => gw_endi (EF := (fun M => (gw_E X M Y))) (M := M77) G ht hF) G.2.2.2.2 dd_pr_goesOnInside_88 hlocks
    · replace hF := gw_ef h80 hF
      exact wb_pr_goesOnInside_83 C0  M77 _ _ _  G (lv_sub hl [] rfl) hF
set_option maxRecDepth 100000 in
set_option maxHeartbeats 4000000 in
theorem wb_pr_goesOnInside_42 {p : Program} {l : Launch} {e : Env} {s : State} {m : MethodId} {args : Array Value} {below : List Frame} {meth : Method} {c : Code} {X : gw_X} {Y : gw_M} {z : (Int32 × gw_M)} (C0 : gw_C ((Cond.code yy_pr_goesOnInside by_pr_goesOnInside 5 (some .boolean)) :: gw_w) by_pr_goesOnInside 5 (some .boolean) "AccountMachine$Program" X p s m args meth c) (M : gw_M) (a0 : Nat) (v1 : Int32) (v3 : Int32) (t0 : Int32) (H : Heap) (locs : List Loc) (ls : Array Slot) (ha0 : gc_k a0 = (5, 0)) (G : gw_G X (gw_E X M Y) s H locs) (hl : lv_has ls 5 [(0, .ref (gc_a X a0)), (1, .int v1), (3, .int v3)]) (hF : pr_goesOnInside_b42  M a0 v1 v3 t0 = some z) : W p l e rm_pr_goesOnInside s m args below meth c H locs 0 0 (MQ below (gw_Qi X (fun M => (gw_E X M Y)) z) args s 0 0 (gw_A X)) (F0 m 42 ls [.int t0]) := by
  obtain ⟨hx, hb, hml, hown, hts, hr, hlocks, hK⟩ := id C0
  have hg : ∀ w ∈ gw_w, w.before args s = true := fun w h => hts w (List.mem_cons_of_mem _ h)
  unfold pr_goesOnInside_b42 at hF
  refine lv_istore (i := 4) (lv' := [(4, .int t0), (0, .ref (gc_a X a0)), (1, .int v1), (3, .int v3)]) hx hb dd_pr_goesOnInside_42 hl (by decide) rfl (fun ls hl => ?_)
  refine lv_iload_n hx hb dd_pr_goesOnInside_44 rfl (lv_at hl 3 rfl) ?_
  refine lv_if_eq (tgt := 67) hx hb dd_pr_goesOnInside_45 (by decide) (fun h45 => ?_) (fun h45 => ?_)
  · replace hF := gw_et h45 hF
    exact wb_pr_goesOnInside_67 C0  M a0 v1 t0 _ _ _ ha0 G (lv_sub hl [1, 2, 0] rfl) hF
  · replace hF := gw_ef h45 hF
    refine lv_aload_n hx hb dd_pr_goesOnInside_48 rfl (lv_at hl 1 rfl) ?_
    refine lv_iload_n hx hb dd_pr_goesOnInside_49 rfl (lv_at hl 2 rfl) ?_
    refine lv_i2l (v := v1.toInt64) hx hb dd_pr_goesOnInside_50 rfl ?_
    refine lv_lconst (v := (1 : Int64)) hx hb dd_pr_goesOnInside_51 (by decide) ?_
    refine lv_ladd hx hb dd_pr_goesOnInside_52 ?_
    refine lv_aload_n hx hb dd_pr_goesOnInside_53 rfl (lv_at hl 1 rfl) ?_
    refine gf_pr_offsets hx hb hg hown (hg _ kw_85) hK G ha0 dd_pr_goesOnInside_54 ?_
    refine lv_iload_n hx hb dd_pr_goesOnInside_57 rfl (lv_at hl 2 rfl) ?_
    obtain ⟨h58, hF⟩ := gw_gd hF
    refine gc_iald hx hb hK G (gq_pr_offsets ha0) (gw_vp h58) (j := v1.toNatClampNeg) rfl dd_pr_goesOnInside_58 ?_
    refine W.eq (g2 := F0 m 59 _ _) rfl ?_
    refine lv_i2l (v := (M.1 (a0 + 4) v1.toNatClampNeg).toInt64) hx hb dd_pr_goesOnInside_59 rfl ?_
    refine lv_ladd hx hb dd_pr_goesOnInside_60 ?_
    obtain ⟨r61, M61, hc61, hF⟩ := gw_be hF
    refine gw_ci G (va_runV (As := [.long ((v1.toInt64 + (1 : Int64)) + ((M.1 (a0 + 4) v1.toNatClampNeg).toInt64))]) (rest := []) ⟨hx, hb, hml, hown, hts⟩ (ct_pr_isPlace l X Y M a0 ((v1.toInt64 + (1 : Int64)) + ((M.1 (a0 + 4) v1.toNatClampNeg).toInt64)) ha0 _ hc61) (cwV 1 hts (gw_gV kw_89 kw_90 kw_91 kw_92 kw_88) rfl rfl rfl (by decide +kernel) ⟨Nat.le_of_ble_eq_true rfl, Nat.le_of_ble_eq_true rfl⟩) ⟨gw_blind, gw_recv_pr hK G ha0, gw_pre hK G⟩ rfl rfl hl.1 rfl (Nat.le_of_ble_eq_true rfl) dd_pr_goesOnInside_61 ⟨Nat.le_of_ble_eq_true rfl, Nat.le_of_ble_eq_true rfl⟩) (fun H locs G => ?_)
    refine lv_if_eq (tgt := 87) hx hb dd_pr_goesOnInside_64 (by decide) (fun h64 => ?_) (fun h64 => ?_)
    · replace hF := gw_et h64 hF
      refine lv_iconst (v := (0 : Int32)) hx hb dd_pr_goesOnInside_87 (by decide) ?_
      exact W.zret hx hb hr (by decide) (fun t ht hW => gw_endi (EF := (fun M => (gw_E X M Y))) (M := M61) G ht hF) G.2.2.2.2 dd_pr_goesOnInside_88 hlocks
    · replace hF := gw_ef h64 hF
      exact wb_pr_goesOnInside_67 C0  M61 a0 v1 t0 _ _ _ ha0 G (lv_sub hl [1, 2, 0] rfl) hF
set_option maxRecDepth 100000 in
set_option maxHeartbeats 4000000 in
theorem wb_pr_goesOnInside_41 {p : Program} {l : Launch} {e : Env} {s : State} {m : MethodId} {args : Array Value} {below : List Frame} {meth : Method} {c : Code} {X : gw_X} {Y : gw_M} {z : (Int32 × gw_M)} (C0 : gw_C ((Cond.code yy_pr_goesOnInside by_pr_goesOnInside 5 (some .boolean)) :: gw_w) by_pr_goesOnInside 5 (some .boolean) "AccountMachine$Program" X p s m args meth c) (M : gw_M) (a0 : Nat) (v1 : Int32) (v3 : Int32) (H : Heap) (locs : List Loc) (ls : Array Slot) (ha0 : gc_k a0 = (5, 0)) (G : gw_G X (gw_E X M Y) s H locs) (hl : lv_has ls 5 [(0, .ref (gc_a X a0)), (1, .int v1), (3, .int v3)]) (hF : pr_goesOnInside_b41  M a0 v1 v3 = some z) : W p l e rm_pr_goesOnInside s m args below meth c H locs 0 0 (MQ below (gw_Qi X (fun M => (gw_E X M Y)) z) args s 0 0 (gw_A X)) (F0 m 41 ls []) := by
  obtain ⟨hx, hb, hml, hown, hts, hr, hlocks, hK⟩ := id C0
  have hg : ∀ w ∈ gw_w, w.before args s = true := fun w h => hts w (List.mem_cons_of_mem _ h)
  unfold pr_goesOnInside_b41 at hF
  refine lv_iconst (v := (0 : Int32)) hx hb dd_pr_goesOnInside_41 (by decide) ?_
  exact wb_pr_goesOnInside_42 C0  M a0 v1 v3 (0 : Int32) _ _ _ ha0 G (lv_sub hl [0, 1, 2] rfl) hF
set_option maxRecDepth 100000 in
set_option maxHeartbeats 4000000 in
theorem wb_pr_goesOnInside_24 {p : Program} {l : Launch} {e : Env} {s : State} {m : MethodId} {args : Array Value} {below : List Frame} {meth : Method} {c : Code} {X : gw_X} {Y : gw_M} {z : (Int32 × gw_M)} (C0 : gw_C ((Cond.code yy_pr_goesOnInside by_pr_goesOnInside 5 (some .boolean)) :: gw_w) by_pr_goesOnInside 5 (some .boolean) "AccountMachine$Program" X p s m args meth c) (M : gw_M) (a0 : Nat) (v1 : Int32) (v2 : Int32) (t0 : Int32) (H : Heap) (locs : List Loc) (ls : Array Slot) (ha0 : gc_k a0 = (5, 0)) (G : gw_G X (gw_E X M Y) s H locs) (hl : lv_has ls 5 [(0, .ref (gc_a X a0)), (1, .int v1), (2, .int v2)]) (hF : pr_goesOnInside_b24  M a0 v1 v2 t0 = some z) : W p l e rm_pr_goesOnInside s m args below meth c H locs 0 0 (MQ below (gw_Qi X (fun M => (gw_E X M Y)) z) args s 0 0 (gw_A X)) (F0 m 24 ls [.int t0]) := by
  obtain ⟨hx, hb, hml, hown, hts, hr, hlocks, hK⟩ := id C0
  have hg : ∀ w ∈ gw_w, w.before args s = true := fun w h => hts w (List.mem_cons_of_mem _ h)
  unfold pr_goesOnInside_b24 at hF
  refine lv_istore_n (i := 3) (lv' := [(3, .int t0), (0, .ref (gc_a X a0)), (1, .int v1), (2, .int v2)]) hx hb dd_pr_goesOnInside_24 rfl hl (by decide) rfl (fun ls hl => ?_)
  refine lv_iload_n hx hb dd_pr_goesOnInside_25 rfl (lv_at hl 3 rfl) ?_
  refine lv_bipush (v := (10 : Int32)) hx hb dd_pr_goesOnInside_26 (by decide) ?_
  refine lv_icmp_eq (tgt := 41) hx hb dd_pr_goesOnInside_28 (by decide) (fun h28 => ?_) (fun h28 => ?_)
  · replace hF := gw_et h28 hF
    exact wb_pr_goesOnInside_41 C0  M a0 v1 t0 _ _ _ ha0 G (lv_sub hl [1, 2, 0] rfl) hF
  · replace hF := gw_ef h28 hF
    refine lv_iload_n hx hb dd_pr_goesOnInside_31 rfl (lv_at hl 3 rfl) ?_
    refine lv_bipush (v := (15 : Int32)) hx hb dd_pr_goesOnInside_32 (by decide) ?_
    refine lv_icmp_eq (tgt := 41) hx hb dd_pr_goesOnInside_34 (by decide) (fun h34 => ?_) (fun h34 => ?_)
    · replace hF := gw_et h34 hF
      exact wb_pr_goesOnInside_41 C0  M a0 v1 t0 _ _ _ ha0 G (lv_sub hl [1, 2, 0] rfl) hF
    · replace hF := gw_ef h34 hF
      refine lv_iconst (v := (1 : Int32)) hx hb dd_pr_goesOnInside_37 (by decide) ?_
      refine lv_goto (tgt := 42) hx hb dd_pr_goesOnInside_38 (by decide) ?_
      exact wb_pr_goesOnInside_42 C0  M a0 v1 t0 (1 : Int32) _ _ _ ha0 G (lv_sub hl [1, 2, 0] rfl) hF
set_option maxRecDepth 100000 in
set_option maxHeartbeats 4000000 in
theorem wb_pr_goesOnInside_23 {p : Program} {l : Launch} {e : Env} {s : State} {m : MethodId} {args : Array Value} {below : List Frame} {meth : Method} {c : Code} {X : gw_X} {Y : gw_M} {z : (Int32 × gw_M)} (C0 : gw_C ((Cond.code yy_pr_goesOnInside by_pr_goesOnInside 5 (some .boolean)) :: gw_w) by_pr_goesOnInside 5 (some .boolean) "AccountMachine$Program" X p s m args meth c) (M : gw_M) (a0 : Nat) (v1 : Int32) (v2 : Int32) (H : Heap) (locs : List Loc) (ls : Array Slot) (ha0 : gc_k a0 = (5, 0)) (G : gw_G X (gw_E X M Y) s H locs) (hl : lv_has ls 5 [(0, .ref (gc_a X a0)), (1, .int v1), (2, .int v2)]) (hF : pr_goesOnInside_b23  M a0 v1 v2 = some z) : W p l e rm_pr_goesOnInside s m args below meth c H locs 0 0 (MQ below (gw_Qi X (fun M => (gw_E X M Y)) z) args s 0 0 (gw_A X)) (F0 m 23 ls []) := by
  obtain ⟨hx, hb, hml, hown, hts, hr, hlocks, hK⟩ := id C0
  have hg : ∀ w ∈ gw_w, w.before args s = true := fun w h => hts w (List.mem_cons_of_mem _ h)
  unfold pr_goesOnInside_b23 at hF
  refine lv_iconst (v := (0 : Int32)) hx hb dd_pr_goesOnInside_23 (by decide) ?_
  exact wb_pr_goesOnInside_24 C0  M a0 v1 v2 (0 : Int32) _ _ _ ha0 G (lv_sub hl [0, 1, 2] rfl) hF
set_option maxRecDepth 100000 in
set_option maxHeartbeats 4000000 in
theorem wb_pr_goesOnInside_0 {p : Program} {l : Launch} {e : Env} {s : State} {m : MethodId} {args : Array Value} {below : List Frame} {meth : Method} {c : Code} {X : gw_X} {Y : gw_M} {z : (Int32 × gw_M)} (C0 : gw_C ((Cond.code yy_pr_goesOnInside by_pr_goesOnInside 5 (some .boolean)) :: gw_w) by_pr_goesOnInside 5 (some .boolean) "AccountMachine$Program" X p s m args meth c) (M : gw_M) (a0 : Nat) (v1 : Int32) (H : Heap) (locs : List Loc) (ls : Array Slot) (ha0 : gc_k a0 = (5, 0)) (G : gw_G X (gw_E X M Y) s H locs) (hl : lv_has ls 5 [(0, .ref (gc_a X a0)), (1, .int v1)]) (hF : pr_goesOnInside_b0  M a0 v1 = some z) : W p l e rm_pr_goesOnInside s m args below meth c H locs 0 0 (MQ below (gw_Qi X (fun M => (gw_E X M Y)) z) args s 0 0 (gw_A X)) (F0 m 0 ls []) := by
  obtain ⟨hx, hb, hml, hown, hts, hr, hlocks, hK⟩ := id C0
  have hg : ∀ w ∈ gw_w, w.before args s = true := fun w h => hts w (List.mem_cons_of_mem _ h)
  unfold pr_goesOnInside_b0 at hF
  refine lv_aload_n hx hb dd_pr_goesOnInside_0 rfl (lv_at hl 0 rfl) ?_
  refine gf_pr_kinds hx hb hg hown (hg _ kw_81) hK G ha0 dd_pr_goesOnInside_1 ?_
  refine lv_iload_n hx hb dd_pr_goesOnInside_4 rfl (lv_at hl 1 rfl) ?_
  obtain ⟨h5, hF⟩ := gw_gd hF
  refine gc_iald hx hb hK G (gq_pr_kinds ha0) (gw_vp h5) (j := v1.toNatClampNeg) rfl dd_pr_goesOnInside_5 ?_
  refine lv_topi (fun x6 e6 => ?_)
  replace hF := gw_ly e6 hF
  refine lv_istore_n (i := 2) (lv' := [(2, .int x6), (0, .ref (gc_a X a0)), (1, .int v1)]) hx hb dd_pr_goesOnInside_6 rfl hl (by decide) rfl (fun ls hl => ?_)
  refine lv_iload_n hx hb dd_pr_goesOnInside_7 rfl (lv_at hl 0 rfl) ?_
  refine lv_bipush (v := (10 : Int32)) hx hb dd_pr_goesOnInside_8 (by decide) ?_
  refine lv_icmp_lt (tgt := 23) hx hb dd_pr_goesOnInside_10 (by decide) (fun h10 => ?_) (fun h10 => ?_)
  · replace hF := gw_et h10 hF
    exact wb_pr_goesOnInside_23 C0  M a0 v1 x6 _ _ _ ha0 G (lv_sub hl [1, 2, 0] rfl) hF
  · replace hF := gw_ef h10 hF
    refine lv_iload_n hx hb dd_pr_goesOnInside_13 rfl (lv_at hl 0 rfl) ?_
    refine lv_bipush (v := (13 : Int32)) hx hb dd_pr_goesOnInside_14 (by decide) ?_
    refine lv_icmp_gt (tgt := 23) hx hb dd_pr_goesOnInside_16 (by decide) (fun h16 => ?_) (fun h16 => ?_)
    · replace hF := gw_et h16 hF
      exact wb_pr_goesOnInside_23 C0  M a0 v1 x6 _ _ _ ha0 G (lv_sub hl [1, 2, 0] rfl) hF
    · replace hF := gw_ef h16 hF
      refine lv_iconst (v := (1 : Int32)) hx hb dd_pr_goesOnInside_19 (by decide) ?_
      refine lv_goto (tgt := 24) hx hb dd_pr_goesOnInside_20 (by decide) ?_
      exact wb_pr_goesOnInside_24 C0  M a0 v1 x6 (1 : Int32) _ _ _ ha0 G (lv_sub hl [1, 2, 0] rfl) hF
set_option maxRecDepth 100000 in
set_option maxHeartbeats 4000000 in
theorem ct_pr_goesOnInside (l : Launch) (X : gw_X) (Y : gw_M) (M : gw_M) (a0 : Nat) (v1 : Int32) (ha0 : gc_k a0 = (5, 0)) (z : (Int32 × gw_M)) (hF : pr_goesOnInside_b0 M a0 v1 = some z) : Met l yy_pr_goesOnInside ((Cond.code yy_pr_goesOnInside by_pr_goesOnInside 5 (some .boolean)) :: gw_w) rm_pr_goesOnInside (va_Pc [.ref (gc_a X a0), .int v1] (gw_B X (gw_E X M Y))) (gw_Qi X (fun M => (gw_E X M Y)) z) 0 0 (gw_A X) := by
  refine Met.ofW (cc := by_pr_goesOnInside) (maxL := 5) (ret := (some .boolean)) (by decide) rfl ?_
  intro p e s m args below meth c s₁ B hml hv
  obtain ⟨rfl, hB⟩ := hv
  rw [lg_entry_eq]
  have hl := lv_entry ([.ref (gc_a X a0), .int v1]) (n := 5) (Nat.le_of_ble_eq_true rfl)
  generalize (lg_sl ([.ref (gc_a X a0), .int v1]) ++ List.replicate (5 - (lg_sl ([.ref (gc_a X a0), .int v1])).length) Slot.unset).toArray = ls at hl ⊢
  have hl : lv_has ls 5 [(0, .ref (gc_a X a0)), (1, .int v1)] := hl
  exact wb_pr_goesOnInside_0 (gw_ctx B hml rfl hB) M a0 v1 _ _ _ ha0 (gw_start hB) hl hF
/-! AccountMachine$Program.reasonAt(I)I -/
abbrev rm_pr_reasonAt : Room := { frames := 2, cells := 0, slots := 0, locals := 46 }
theorem dd_pr_reasonAt_0 : decode by_pr_reasonAt 0 = .ok (.aload_n 0, 1) := by decide +kernel
theorem dd_pr_reasonAt_1 : decode by_pr_reasonAt 1 = .ok (.getfield 9, 3) := by decide +kernel
theorem dd_pr_reasonAt_4 : decode by_pr_reasonAt 4 = .ok (.iload_n 1, 1) := by decide +kernel
theorem dd_pr_reasonAt_5 : decode by_pr_reasonAt 5 = .ok (.iaload, 1) := by decide +kernel
theorem dd_pr_reasonAt_6 : decode by_pr_reasonAt 6 = .ok (.istore_n 2, 1) := by decide +kernel
theorem dd_pr_reasonAt_7 : decode by_pr_reasonAt 7 = .ok (.aload_n 0, 1) := by decide +kernel
theorem dd_pr_reasonAt_8 : decode by_pr_reasonAt 8 = .ok (.getfield 24, 3) := by decide +kernel
theorem dd_pr_reasonAt_11 : decode by_pr_reasonAt 11 = .ok (.iload_n 1, 1) := by decide +kernel
theorem dd_pr_reasonAt_12 : decode by_pr_reasonAt 12 = .ok (.iaload, 1) := by decide +kernel
theorem dd_pr_reasonAt_13 : decode by_pr_reasonAt 13 = .ok (.istore_n 3, 1) := by decide +kernel
theorem dd_pr_reasonAt_14 : decode by_pr_reasonAt 14 = .ok (.iload_n 2, 1) := by decide +kernel
theorem dd_pr_reasonAt_15 : decode by_pr_reasonAt 15 = .ok (.ifCond .lt 33, 3) := by decide +kernel
theorem dd_pr_reasonAt_18 : decode by_pr_reasonAt 18 = .ok (.iload_n 2, 1) := by decide +kernel
theorem dd_pr_reasonAt_19 : decode by_pr_reasonAt 19 = .ok (.bipush 15, 2) := by decide +kernel
theorem dd_pr_reasonAt_21 : decode by_pr_reasonAt 21 = .ok (.if_icmp .gt 27, 3) := by decide +kernel
theorem dd_pr_reasonAt_24 : decode by_pr_reasonAt 24 = .ok (.aload_n 0, 1) := by decide +kernel
theorem dd_pr_reasonAt_25 : decode by_pr_reasonAt 25 = .ok (.getfield 15, 3) := by decide +kernel
theorem dd_pr_reasonAt_28 : decode by_pr_reasonAt 28 = .ok (.iload_n 1, 1) := by decide +kernel
theorem dd_pr_reasonAt_29 : decode by_pr_reasonAt 29 = .ok (.iaload, 1) := by decide +kernel
theorem dd_pr_reasonAt_30 : decode by_pr_reasonAt 30 = .ok (.invokestatic 39, 3) := by decide +kernel
theorem dd_pr_reasonAt_33 : decode by_pr_reasonAt 33 = .ok (.ifCond .eq 15, 3) := by decide +kernel
theorem dd_pr_reasonAt_36 : decode by_pr_reasonAt 36 = .ok (.aload_n 0, 1) := by decide +kernel
theorem dd_pr_reasonAt_37 : decode by_pr_reasonAt 37 = .ok (.getfield 18, 3) := by decide +kernel
theorem dd_pr_reasonAt_40 : decode by_pr_reasonAt 40 = .ok (.iload_n 1, 1) := by decide +kernel
theorem dd_pr_reasonAt_41 : decode by_pr_reasonAt 41 = .ok (.iaload, 1) := by decide +kernel
theorem dd_pr_reasonAt_42 : decode by_pr_reasonAt 42 = .ok (.invokestatic 39, 3) := by decide +kernel
theorem dd_pr_reasonAt_45 : decode by_pr_reasonAt 45 = .ok (.ifCond .ne 5, 3) := by decide +kernel
theorem dd_pr_reasonAt_48 : decode by_pr_reasonAt 48 = .ok (.iconst 2, 1) := by decide +kernel
theorem dd_pr_reasonAt_49 : decode by_pr_reasonAt 49 = .ok (.ireturn, 1) := by decide +kernel
theorem dd_pr_reasonAt_50 : decode by_pr_reasonAt 50 = .ok (.aload_n 0, 1) := by decide +kernel
theorem dd_pr_reasonAt_51 : decode by_pr_reasonAt 51 = .ok (.iload_n 1, 1) := by decide +kernel
theorem dd_pr_reasonAt_52 : decode by_pr_reasonAt 52 = .ok (.invokevirtual 43, 3) := by decide +kernel
theorem dd_pr_reasonAt_55 : decode by_pr_reasonAt 55 = .ok (.ifCond .ne 5, 3) := by decide +kernel
theorem dd_pr_reasonAt_58 : decode by_pr_reasonAt 58 = .ok (.iconst 3, 1) := by decide +kernel
theorem dd_pr_reasonAt_59 : decode by_pr_reasonAt 59 = .ok (.ireturn, 1) := by decide +kernel
theorem dd_pr_reasonAt_60 : decode by_pr_reasonAt 60 = .ok (.iload_n 2, 1) := by decide +kernel
theorem dd_pr_reasonAt_61 : decode by_pr_reasonAt 61 = .ok (.bipush 6, 2) := by decide +kernel
theorem dd_pr_reasonAt_63 : decode by_pr_reasonAt 63 = .ok (.if_icmp .ne 7, 3) := by decide +kernel
theorem dd_pr_reasonAt_66 : decode by_pr_reasonAt 66 = .ok (.iload_n 3, 1) := by decide +kernel
theorem dd_pr_reasonAt_67 : decode by_pr_reasonAt 67 = .ok (.ifCond .eq 19, 3) := by decide +kernel
theorem dd_pr_reasonAt_70 : decode by_pr_reasonAt 70 = .ok (.iload_n 2, 1) := by decide +kernel
theorem dd_pr_reasonAt_71 : decode by_pr_reasonAt 71 = .ok (.bipush 7, 2) := by decide +kernel
theorem dd_pr_reasonAt_73 : decode by_pr_reasonAt 73 = .ok (.if_icmp .ne 15, 3) := by decide +kernel
theorem dd_pr_reasonAt_76 : decode by_pr_reasonAt 76 = .ok (.iload_n 3, 1) := by decide +kernel
theorem dd_pr_reasonAt_77 : decode by_pr_reasonAt 77 = .ok (.ifCond .lt 9, 3) := by decide +kernel
theorem dd_pr_reasonAt_80 : decode by_pr_reasonAt 80 = .ok (.iload_n 3, 1) := by decide +kernel
theorem dd_pr_reasonAt_81 : decode by_pr_reasonAt 81 = .ok (.bipush 63, 2) := by decide +kernel
theorem dd_pr_reasonAt_83 : decode by_pr_reasonAt 83 = .ok (.if_icmp .le 5, 3) := by decide +kernel
theorem dd_pr_reasonAt_86 : decode by_pr_reasonAt 86 = .ok (.iconst 4, 1) := by decide +kernel
theorem dd_pr_reasonAt_87 : decode by_pr_reasonAt 87 = .ok (.ireturn, 1) := by decide +kernel
theorem dd_pr_reasonAt_88 : decode by_pr_reasonAt 88 = .ok (.iload_n 2, 1) := by decide +kernel
theorem dd_pr_reasonAt_89 : decode by_pr_reasonAt 89 = .ok (.bipush 14, 2) := by decide +kernel
theorem dd_pr_reasonAt_91 : decode by_pr_reasonAt 91 = .ok (.if_icmp .ne 19, 3) := by decide +kernel
theorem dd_pr_reasonAt_94 : decode by_pr_reasonAt 94 = .ok (.iload_n 3, 1) := by decide +kernel
theorem dd_pr_reasonAt_95 : decode by_pr_reasonAt 95 = .ok (.ifCond .lt 11, 3) := by decide +kernel
theorem dd_pr_reasonAt_98 : decode by_pr_reasonAt 98 = .ok (.iload_n 3, 1) := by decide +kernel
theorem dd_pr_reasonAt_99 : decode by_pr_reasonAt 99 = .ok (.getstatic 46, 3) := by decide +kernel
theorem dd_pr_reasonAt_102 : decode by_pr_reasonAt 102 = .ok (.arraylength, 1) := by decide +kernel
theorem dd_pr_reasonAt_103 : decode by_pr_reasonAt 103 = .ok (.if_icmp .lt 7, 3) := by decide +kernel
theorem dd_pr_reasonAt_106 : decode by_pr_reasonAt 106 = .ok (.iconst 5, 1) := by decide +kernel
theorem dd_pr_reasonAt_107 : decode by_pr_reasonAt 107 = .ok (.goto 4, 3) := by decide +kernel
theorem dd_pr_reasonAt_110 : decode by_pr_reasonAt 110 = .ok (.iconst 0, 1) := by decide +kernel
theorem dd_pr_reasonAt_111 : decode by_pr_reasonAt 111 = .ok (.ireturn, 1) := by decide +kernel
def pr_reasonAt_b106 (M : gw_M) : Option (Int32 × gw_M) :=
  some ((5 : Int32), M)
def pr_reasonAt_b88 (M : gw_M) (v2 : Int32) (v3 : Int32) : Option (Int32 × gw_M) :=
  if v2 = (14 : Int32) then (if v3 < (0 : Int32) then (pr_reasonAt_b106  M) else (if v3 < (4 : Int32) then (some ((0 : Int32), M)) else (pr_reasonAt_b106  M))) else (some ((0 : Int32), M))
def pr_reasonAt_b70 (M : gw_M) (v2 : Int32) (v3 : Int32) : Option (Int32 × gw_M) :=
  if v2 = (7 : Int32) then (if v3 < (0 : Int32) then (some ((4 : Int32), M)) else (if v3 ≤ (63 : Int32) then (pr_reasonAt_b88  M v2 v3) else (some ((4 : Int32), M)))) else (pr_reasonAt_b88  M v2 v3)
def pr_reasonAt_b0 (M : gw_M) (a0 : Nat) (v1 : Int32) : Option (Int32 × gw_M) :=
  gw_gu (gw_in v1 32) (gw_lt (M.1 (a0 + 1) v1.toNatClampNeg) (fun x6 => gw_gu (gw_in v1 32) (gw_lt (M.1 (a0 + 5) v1.toNatClampNeg) (fun x13 => if x6 < (0 : Int32) then (some ((2 : Int32), M)) else (if (15 : Int32) < x6 then (some ((2 : Int32), M)) else (gw_gu (gw_in v1 32) (gw_bd (pr_isRegister_b0 M (M.1 (a0 + 2) v1.toNatClampNeg)) (fun r30 M30 => if r30 = (0 : Int32) then (some ((2 : Int32), M30)) else (gw_gu (gw_in v1 32) (gw_bd (pr_isRegister_b0 M30 (M30.1 (a0 + 3) v1.toNatClampNeg)) (fun r42 M42 => if r42 = (0 : Int32) then (some ((2 : Int32), M42)) else (gw_bd (pr_goesOnInside_b0 M42 a0 v1) (fun r52 M52 => if r52 = (0 : Int32) then (some ((3 : Int32), M52)) else (if x6 = (6 : Int32) then (if x13 = (0 : Int32) then (some ((4 : Int32), M52)) else (pr_reasonAt_b70  M52 x6 x13)) else (pr_reasonAt_b70  M52 x6 x13)))))))))))))))
set_option maxRecDepth 100000 in
set_option maxHeartbeats 4000000 in
theorem wb_pr_reasonAt_106 {p : Program} {l : Launch} {e : Env} {s : State} {m : MethodId} {args : Array Value} {below : List Frame} {meth : Method} {c : Code} {X : gw_X} {Y : gw_M} {z : (Int32 × gw_M)} (C0 : gw_C ((Cond.code yy_pr_reasonAt by_pr_reasonAt 4 (some .int)) :: gw_w) by_pr_reasonAt 4 (some .int) "AccountMachine$Program" X p s m args meth c) (M : gw_M) (H : Heap) (locs : List Loc) (ls : Array Slot) (G : gw_G X (gw_E X M Y) s H locs) (hl : lv_has ls 4 []) (hF : pr_reasonAt_b106  M = some z) : W p l e rm_pr_reasonAt s m args below meth c H locs 0 0 (MQ below (gw_Qi X (fun M => (gw_E X M Y)) z) args s 0 0 (gw_A X)) (F0 m 106 ls []) := by
  obtain ⟨hx, hb, hml, hown, hts, hr, hlocks, hK⟩ := id C0
  have hg : ∀ w ∈ gw_w, w.before args s = true := fun w h => hts w (List.mem_cons_of_mem _ h)
  unfold pr_reasonAt_b106 at hF
  refine lv_iconst (v := (5 : Int32)) hx hb dd_pr_reasonAt_106 (by decide) ?_
  refine lv_goto (tgt := 111) hx hb dd_pr_reasonAt_107 (by decide) ?_
  exact W.iret hx hb hr (fun t ht hW => gw_endi (EF := (fun M => (gw_E X M Y))) (M := M) G ht hF) G.2.2.2.2 dd_pr_reasonAt_111 hlocks
set_option maxRecDepth 100000 in
set_option maxHeartbeats 4000000 in
theorem wb_pr_reasonAt_88 {p : Program} {l : Launch} {e : Env} {s : State} {m : MethodId} {args : Array Value} {below : List Frame} {meth : Method} {c : Code} {X : gw_X} {Y : gw_M} {z : (Int32 × gw_M)} (C0 : gw_C ((Cond.code yy_pr_reasonAt by_pr_reasonAt 4 (some .int)) :: gw_w) by_pr_reasonAt 4 (some .int) "AccountMachine$Program" X p s m args meth c) (M : gw_M) (v2 : Int32) (v3 : Int32) (H : Heap) (locs : List Loc) (ls : Array Slot) (G : gw_G X (gw_E X M Y) s H locs) (hl : lv_has ls 4 [(2, .int v2), (3, .int v3)]) (hF : pr_reasonAt_b88  M v2 v3 = some z) : W p l e rm_pr_reasonAt s m args below meth c H locs 0 0 (MQ below (gw_Qi X (fun M => (gw_E X M Y)) z) args s 0 0 (gw_A X)) (F0 m 88 ls []) := by
  obtain ⟨hx, hb, hml, hown, hts, hr, hlocks, hK⟩ := id C0
  have hg : ∀ w ∈ gw_w, w.before args s = true := fun w h => hts w (List.mem_cons_of_mem _ h)
  unfold pr_reasonAt_b88 at hF
  refine lv_iload_n hx hb dd_pr_reasonAt_88 rfl (lv_at hl 0 rfl) ?_
  refine lv_bipush (v := (14 : Int32)) hx hb dd_pr_reasonAt_89 (by decide) ?_
  refine lv_icmp_ne (tgt := 110) hx hb dd_pr_reasonAt_91 (by decide) (fun h91 => ?_) (fun h91 => ?_)
  · replace hF := gw_ef h91 hF
    refine lv_iconst (v := (0 : Int32)) hx hb dd_pr_reasonAt_110 (by decide) ?_
    exact W.iret hx hb hr (fun t ht hW => gw_endi (EF := (fun M => (gw_E X M Y))) (M := M) G ht hF) G.2.2.2.2 dd_pr_reasonAt_111 hlocks
  · replace hF := gw_et h91 hF
    refine lv_iload_n hx hb dd_pr_reasonAt_94 rfl (lv_at hl 1 rfl) ?_
    refine lv_if_lt (tgt := 106) hx hb dd_pr_reasonAt_95 (by decide) (fun h95 => ?_) (fun h95 => ?_)
    · replace hF := gw_et h95 hF
      exact wb_pr_reasonAt_106 C0  M _ _ _  G (lv_sub hl [] rfl) hF
    · replace hF := gw_ef h95 hF
      refine lv_iload_n hx hb dd_pr_reasonAt_98 rfl (lv_at hl 1 rfl) ?_
      refine gw_getsN hx hb hown (gw_nw hK kn_15) hK G dd_pr_reasonAt_99 ?_
      refine gw_tlen hx hb hK G dd_pr_reasonAt_102 ?_
      refine lv_icmp_lt (tgt := 110) hx hb dd_pr_reasonAt_103 (by decide) (fun h103 => ?_) (fun h103 => ?_)
      · replace hF := gw_et h103 hF
        refine lv_iconst (v := (0 : Int32)) hx hb dd_pr_reasonAt_110 (by decide) ?_
        exact W.iret hx hb hr (fun t ht hW => gw_endi (EF := (fun M => (gw_E X M Y))) (M := M) G ht hF) G.2.2.2.2 dd_pr_reasonAt_111 hlocks
      · replace hF := gw_ef h103 hF
        exact wb_pr_reasonAt_106 C0  M _ _ _  G (lv_sub hl [] rfl) hF
set_option maxRecDepth 100000 in
set_option maxHeartbeats 4000000 in
theorem wb_pr_reasonAt_70 {p : Program} {l : Launch} {e : Env} {s : State} {m : MethodId} {args : Array Value} {below : List Frame} {meth : Method} {c : Code} {X : gw_X} {Y : gw_M} {z : (Int32 × gw_M)} (C0 : gw_C ((Cond.code yy_pr_reasonAt by_pr_reasonAt 4 (some .int)) :: gw_w) by_pr_reasonAt 4 (some .int) "AccountMachine$Program" X p s m args meth c) (M : gw_M) (v2 : Int32) (v3 : Int32) (H : Heap) (locs : List Loc) (ls : Array Slot) (G : gw_G X (gw_E X M Y) s H locs) (hl : lv_has ls 4 [(2, .int v2), (3, .int v3)]) (hF : pr_reasonAt_b70  M v2 v3 = some z) : W p l e rm_pr_reasonAt s m args below meth c H locs 0 0 (MQ below (gw_Qi X (fun M => (gw_E X M Y)) z) args s 0 0 (gw_A X)) (F0 m 70 ls []) := by
  obtain ⟨hx, hb, hml, hown, hts, hr, hlocks, hK⟩ := id C0
  have hg : ∀ w ∈ gw_w, w.before args s = true := fun w h => hts w (List.mem_cons_of_mem _ h)
  unfold pr_reasonAt_b70 at hF
  refine lv_iload_n hx hb dd_pr_reasonAt_70 rfl (lv_at hl 0 rfl) ?_
  refine lv_bipush (v := (7 : Int32)) hx hb dd_pr_reasonAt_71 (by decide) ?_
  refine lv_icmp_ne (tgt := 88) hx hb dd_pr_reasonAt_73 (by decide) (fun h73 => ?_) (fun h73 => ?_)
  · replace hF := gw_ef h73 hF
    exact wb_pr_reasonAt_88 C0  M v2 v3 _ _ _  G (lv_sub hl [0, 1] rfl) hF
  · replace hF := gw_et h73 hF
    refine lv_iload_n hx hb dd_pr_reasonAt_76 rfl (lv_at hl 1 rfl) ?_
    refine lv_if_lt (tgt := 86) hx hb dd_pr_reasonAt_77 (by decide) (fun h77 => ?_) (fun h77 => ?_)
    · replace hF := gw_et h77 hF
      refine lv_iconst (v := (4 : Int32)) hx hb dd_pr_reasonAt_86 (by decide) ?_
      exact W.iret hx hb hr (fun t ht hW => gw_endi (EF := (fun M => (gw_E X M Y))) (M := M) G ht hF) G.2.2.2.2 dd_pr_reasonAt_87 hlocks
    · replace hF := gw_ef h77 hF
      refine lv_iload_n hx hb dd_pr_reasonAt_80 rfl (lv_at hl 1 rfl) ?_
      refine lv_bipush (v := (63 : Int32)) hx hb dd_pr_reasonAt_81 (by decide) ?_
      refine lv_icmp_le (tgt := 88) hx hb dd_pr_reasonAt_83 (by decide) (fun h83 => ?_) (fun h83 => ?_)
      · replace hF := gw_et h83 hF
        exact wb_pr_reasonAt_88 C0  M v2 v3 _ _ _  G (lv_sub hl [0, 1] rfl) hF
      · replace hF := gw_ef h83 hF
        refine lv_iconst (v := (4 : Int32)) hx hb dd_pr_reasonAt_86 (by decide) ?_
        exact W.iret hx hb hr (fun t ht hW => gw_endi (EF := (fun M => (gw_E X M Y))) (M := M) G ht hF) G.2.2.2.2 dd_pr_reasonAt_87 hlocks
set_option maxRecDepth 100000 in
set_option maxHeartbeats 4000000 in
theorem wb_pr_reasonAt_0 {p : Program} {l : Launch} {e : Env} {s : State} {m : MethodId} {args : Array Value} {below : List Frame} {meth : Method} {c : Code} {X : gw_X} {Y : gw_M} {z : (Int32 × gw_M)} (C0 : gw_C ((Cond.code yy_pr_reasonAt by_pr_reasonAt 4 (some .int)) :: gw_w) by_pr_reasonAt 4 (some .int) "AccountMachine$Program" X p s m args meth c) (M : gw_M) (a0 : Nat) (v1 : Int32) (H : Heap) (locs : List Loc) (ls : Array Slot) (ha0 : gc_k a0 = (5, 0)) (G : gw_G X (gw_E X M Y) s H locs) (hl : lv_has ls 4 [(0, .ref (gc_a X a0)), (1, .int v1)]) (hF : pr_reasonAt_b0  M a0 v1 = some z) : W p l e rm_pr_reasonAt s m args below meth c H locs 0 0 (MQ below (gw_Qi X (fun M => (gw_E X M Y)) z) args s 0 0 (gw_A X)) (F0 m 0 ls []) := by
  obtain ⟨hx, hb, hml, hown, hts, hr, hlocks, hK⟩ := id C0
  have hg : ∀ w ∈ gw_w, w.before args s = true := fun w h => hts w (List.mem_cons_of_mem _ h)
  unfold pr_reasonAt_b0 at hF
  refine lv_aload_n hx hb dd_pr_reasonAt_0 rfl (lv_at hl 0 rfl) ?_
  refine gf_pr_kinds hx hb hg hown (hg _ kw_81) hK G ha0 dd_pr_reasonAt_1 ?_
  refine lv_iload_n hx hb dd_pr_reasonAt_4 rfl (lv_at hl 1 rfl) ?_
  obtain ⟨h5, hF⟩ := gw_gd hF
  refine gc_iald hx hb hK G (gq_pr_kinds ha0) (gw_vp h5) (j := v1.toNatClampNeg) rfl dd_pr_reasonAt_5 ?_
  refine lv_topi (fun x6 e6 => ?_)
  replace hF := gw_ly e6 hF
  refine lv_istore_n (i := 2) (lv' := [(2, .int x6), (0, .ref (gc_a X a0)), (1, .int v1)]) hx hb dd_pr_reasonAt_6 rfl hl (by decide) rfl (fun ls hl => ?_)
  refine lv_aload_n hx hb dd_pr_reasonAt_7 rfl (lv_at hl 1 rfl) ?_
  refine gf_pr_numbers hx hb hg hown (hg _ kw_86) hK G ha0 dd_pr_reasonAt_8 ?_
  refine lv_iload_n hx hb dd_pr_reasonAt_11 rfl (lv_at hl 2 rfl) ?_
  obtain ⟨h12, hF⟩ := gw_gd hF
  refine gc_iald hx hb hK G (gq_pr_numbers ha0) (gw_vp h12) (j := v1.toNatClampNeg) rfl dd_pr_reasonAt_12 ?_
  refine W.eq (g2 := F0 m 13 _ _) rfl ?_
  refine lv_topi (fun x13 e13 => ?_)
  replace hF := gw_ly e13 hF
  refine lv_istore_n (i := 3) (lv' := [(3, .int x13), (2, .int x6), (0, .ref (gc_a X a0)), (1, .int v1)]) hx hb dd_pr_reasonAt_13 rfl hl (by decide) rfl (fun ls hl => ?_)
  refine lv_iload_n hx hb dd_pr_reasonAt_14 rfl (lv_at hl 1 rfl) ?_
  refine lv_if_lt (tgt := 48) hx hb dd_pr_reasonAt_15 (by decide) (fun h15 => ?_) (fun h15 => ?_)
  · replace hF := gw_et h15 hF
    refine lv_iconst (v := (2 : Int32)) hx hb dd_pr_reasonAt_48 (by decide) ?_
    exact W.iret hx hb hr (fun t ht hW => gw_endi (EF := (fun M => (gw_E X M Y))) (M := M) G ht hF) G.2.2.2.2 dd_pr_reasonAt_49 hlocks
  · replace hF := gw_ef h15 hF
    refine lv_iload_n hx hb dd_pr_reasonAt_18 rfl (lv_at hl 1 rfl) ?_
    refine lv_bipush (v := (15 : Int32)) hx hb dd_pr_reasonAt_19 (by decide) ?_
    refine lv_icmp_gt (tgt := 48) hx hb dd_pr_reasonAt_21 (by decide) (fun h21 => ?_) (fun h21 => ?_)
    · replace hF := gw_et h21 hF
      refine lv_iconst (v := (2 : Int32)) hx hb dd_pr_reasonAt_48 (by decide) ?_
      exact W.iret hx hb hr (fun t ht hW => gw_endi (EF := (fun M => (gw_E X M Y))) (M := M) G ht hF) G.2.2.2.2 dd_pr_reasonAt_49 hlocks
    · replace hF := gw_ef h21 hF
      refine lv_aload_n hx hb dd_pr_reasonAt_24 rfl (lv_at hl 2 rfl) ?_
      refine gf_pr_targets hx hb hg hown (hg _ kw_83) hK G ha0 dd_pr_reasonAt_25 ?_
      refine lv_iload_n hx hb dd_pr_reasonAt_28 rfl (lv_at hl 3 rfl) ?_
      obtain ⟨h29, hF⟩ := gw_gd hF
      refine gc_iald hx hb hK G (gq_pr_targets ha0) (gw_vp h29) (j := v1.toNatClampNeg) rfl dd_pr_reasonAt_29 ?_
      obtain ⟨r30, M30, hc30, hF⟩ := gw_be hF
      refine gw_ci G (va_runS (As := [.int (M.1 (a0 + 2) v1.toNatClampNeg)]) (rest := []) ⟨hx, hb, hml, hown, hts⟩ (ct_pr_isRegister l X Y M (M.1 (a0 + 2) v1.toNatClampNeg)  _ hc30) (cwS 1 hts (gw_gS kw_94 kw_95 kw_92 kw_93) rfl rfl rfl (by decide +kernel) ⟨Nat.le_of_ble_eq_true rfl, Nat.le_of_ble_eq_true rfl⟩) ⟨gw_blind, gw_pre hK G⟩ rfl rfl hl.1 rfl (Nat.le_of_ble_eq_true rfl) dd_pr_reasonAt_30 ⟨Nat.le_of_ble_eq_true rfl, Nat.le_of_ble_eq_true rfl⟩) (fun H locs G => ?_)
      refine lv_if_eq (tgt := 48) hx hb dd_pr_reasonAt_33 (by decide) (fun h33 => ?_) (fun h33 => ?_)
      · replace hF := gw_et h33 hF
        refine lv_iconst (v := (2 : Int32)) hx hb dd_pr_reasonAt_48 (by decide) ?_
        exact W.iret hx hb hr (fun t ht hW => gw_endi (EF := (fun M => (gw_E X M Y))) (M := M30) G ht hF) G.2.2.2.2 dd_pr_reasonAt_49 hlocks
      · replace hF := gw_ef h33 hF
        refine lv_aload_n hx hb dd_pr_reasonAt_36 rfl (lv_at hl 2 rfl) ?_
        refine gf_pr_sources hx hb hg hown (hg _ kw_84) hK G ha0 dd_pr_reasonAt_37 ?_
        refine lv_iload_n hx hb dd_pr_reasonAt_40 rfl (lv_at hl 3 rfl) ?_
        obtain ⟨h41, hF⟩ := gw_gd hF
        refine gc_iald hx hb hK G (gq_pr_sources ha0) (gw_vp h41) (j := v1.toNatClampNeg) rfl dd_pr_reasonAt_41 ?_
        obtain ⟨r42, M42, hc42, hF⟩ := gw_be hF
        refine gw_ci G (va_runS (As := [.int (M30.1 (a0 + 3) v1.toNatClampNeg)]) (rest := []) ⟨hx, hb, hml, hown, hts⟩ (ct_pr_isRegister l X Y M30 (M30.1 (a0 + 3) v1.toNatClampNeg)  _ hc42) (cwS 1 hts (gw_gS kw_94 kw_95 kw_92 kw_93) rfl rfl rfl (by decide +kernel) ⟨Nat.le_of_ble_eq_true rfl, Nat.le_of_ble_eq_true rfl⟩) ⟨gw_blind, gw_pre hK G⟩ rfl rfl hl.1 rfl (Nat.le_of_ble_eq_true rfl) dd_pr_reasonAt_42 ⟨Nat.le_of_ble_eq_true rfl, Nat.le_of_ble_eq_true rfl⟩) (fun H locs G => ?_)
        refine lv_if_ne (tgt := 50) hx hb dd_pr_reasonAt_45 (by decide) (fun h45 => ?_) (fun h45 => ?_)
        · replace hF := gw_ef h45 hF
          refine lv_aload_n hx hb dd_pr_reasonAt_50 rfl (lv_at hl 2 rfl) ?_
          refine lv_iload_n hx hb dd_pr_reasonAt_51 rfl (lv_at hl 3 rfl) ?_
          obtain ⟨r52, M52, hc52, hF⟩ := gw_be hF
          refine gw_ci G (va_runV (As := [.int v1]) (rest := []) ⟨hx, hb, hml, hown, hts⟩ (ct_pr_goesOnInside l X Y M42 a0 v1 ha0 _ hc52) (cwV 1 hts (gw_gV kw_97 kw_98 kw_99 kw_92 kw_96) rfl rfl rfl (by decide +kernel) ⟨Nat.le_of_ble_eq_true rfl, Nat.le_of_ble_eq_true rfl⟩) ⟨gw_blind, gw_recv_pr hK G ha0, gw_pre hK G⟩ rfl rfl hl.1 rfl (Nat.le_of_ble_eq_true rfl) dd_pr_reasonAt_52 ⟨Nat.le_of_ble_eq_true rfl, Nat.le_of_ble_eq_true rfl⟩) (fun H locs G => ?_)
          refine lv_if_ne (tgt := 60) hx hb dd_pr_reasonAt_55 (by decide) (fun h55 => ?_) (fun h55 => ?_)
          · replace hF := gw_ef h55 hF
            refine lv_iload_n hx hb dd_pr_reasonAt_60 rfl (lv_at hl 1 rfl) ?_
            refine lv_bipush (v := (6 : Int32)) hx hb dd_pr_reasonAt_61 (by decide) ?_
            refine lv_icmp_ne (tgt := 70) hx hb dd_pr_reasonAt_63 (by decide) (fun h63 => ?_) (fun h63 => ?_)
            · replace hF := gw_ef h63 hF
              exact wb_pr_reasonAt_70 C0  M52 x6 x13 _ _ _  G (lv_sub hl [1, 0] rfl) hF
            · replace hF := gw_et h63 hF
              refine lv_iload_n hx hb dd_pr_reasonAt_66 rfl (lv_at hl 0 rfl) ?_
              refine lv_if_eq (tgt := 86) hx hb dd_pr_reasonAt_67 (by decide) (fun h67 => ?_) (fun h67 => ?_)
              · replace hF := gw_et h67 hF
                refine lv_iconst (v := (4 : Int32)) hx hb dd_pr_reasonAt_86 (by decide) ?_
                exact W.iret hx hb hr (fun t ht hW => gw_endi (EF := (fun M => (gw_E X M Y))) (M := M52) G ht hF) G.2.2.2.2 dd_pr_reasonAt_87 hlocks
              · replace hF := gw_ef h67 hF
                exact wb_pr_reasonAt_70 C0  M52 x6 x13 _ _ _  G (lv_sub hl [1, 0] rfl) hF
          · replace hF := gw_et h55 hF
            refine lv_iconst (v := (3 : Int32)) hx hb dd_pr_reasonAt_58 (by decide) ?_
            exact W.iret hx hb hr (fun t ht hW => gw_endi (EF := (fun M => (gw_E X M Y))) (M := M52) G ht hF) G.2.2.2.2 dd_pr_reasonAt_59 hlocks
        · replace hF := gw_et h45 hF
          refine lv_iconst (v := (2 : Int32)) hx hb dd_pr_reasonAt_48 (by decide) ?_
          exact W.iret hx hb hr (fun t ht hW => gw_endi (EF := (fun M => (gw_E X M Y))) (M := M42) G ht hF) G.2.2.2.2 dd_pr_reasonAt_49 hlocks
set_option maxRecDepth 100000 in
set_option maxHeartbeats 4000000 in
theorem ct_pr_reasonAt (l : Launch) (X : gw_X) (Y : gw_M) (M : gw_M) (a0 : Nat) (v1 : Int32) (ha0 : gc_k a0 = (5, 0)) (z : (Int32 × gw_M)) (hF : pr_reasonAt_b0 M a0 v1 = some z) : Met l yy_pr_reasonAt ((Cond.code yy_pr_reasonAt by_pr_reasonAt 4 (some .int)) :: gw_w) rm_pr_reasonAt (va_Pc [.ref (gc_a X a0), .int v1] (gw_B X (gw_E X M Y))) (gw_Qi X (fun M => (gw_E X M Y)) z) 0 0 (gw_A X) := by
  refine Met.ofW (cc := by_pr_reasonAt) (maxL := 4) (ret := (some .int)) (by decide) rfl ?_
  intro p e s m args below meth c s₁ B hml hv
  obtain ⟨rfl, hB⟩ := hv
  rw [lg_entry_eq]
  have hl := lv_entry ([.ref (gc_a X a0), .int v1]) (n := 4) (Nat.le_of_ble_eq_true rfl)
  generalize (lg_sl ([.ref (gc_a X a0), .int v1]) ++ List.replicate (4 - (lg_sl ([.ref (gc_a X a0), .int v1])).length) Slot.unset).toArray = ls at hl ⊢
  have hl : lv_has ls 4 [(0, .ref (gc_a X a0)), (1, .int v1)] := hl
  exact wb_pr_reasonAt_0 (gw_ctx B hml rfl hB) M a0 v1 _ _ _ ha0 (gw_start hB) hl hF
/-! AccountMachine$Program.check()I -/
abbrev rm_pr_check : Room := { frames := 3, cells := 0, slots := 0, locals := 69 }
theorem dd_pr_check_0 : decode by_pr_check 0 = .ok (.aload_n 0, 1) := by decide +kernel
theorem dd_pr_check_1 : decode by_pr_check 1 = .ok (.getfield 27, 3) := by decide +kernel
theorem dd_pr_check_4 : decode by_pr_check 4 = .ok (.ifCond .ne 5, 3) := by decide +kernel
theorem dd_pr_check_7 : decode by_pr_check 7 = .ok (.iconst 1, 1) := by decide +kernel
theorem dd_pr_check_8 : decode by_pr_check 8 = .ok (.ireturn, 1) := by decide +kernel
theorem dd_pr_check_9 : decode by_pr_check 9 = .ok (.iconst 0, 1) := by decide +kernel
theorem dd_pr_check_10 : decode by_pr_check 10 = .ok (.istore_n 1, 1) := by decide +kernel
theorem dd_pr_check_11 : decode by_pr_check 11 = .ok (.iload_n 1, 1) := by decide +kernel
theorem dd_pr_check_12 : decode by_pr_check 12 = .ok (.aload_n 0, 1) := by decide +kernel
theorem dd_pr_check_13 : decode by_pr_check 13 = .ok (.getfield 27, 3) := by decide +kernel
theorem dd_pr_check_16 : decode by_pr_check 16 = .ok (.if_icmp .ge 26, 3) := by decide +kernel
theorem dd_pr_check_19 : decode by_pr_check 19 = .ok (.aload_n 0, 1) := by decide +kernel
theorem dd_pr_check_20 : decode by_pr_check 20 = .ok (.iload_n 1, 1) := by decide +kernel
theorem dd_pr_check_21 : decode by_pr_check 21 = .ok (.invokevirtual 35, 3) := by decide +kernel
theorem dd_pr_check_24 : decode by_pr_check 24 = .ok (.istore_n 2, 1) := by decide +kernel
theorem dd_pr_check_25 : decode by_pr_check 25 = .ok (.iload_n 2, 1) := by decide +kernel
theorem dd_pr_check_26 : decode by_pr_check 26 = .ok (.ifCond .eq 10, 3) := by decide +kernel
theorem dd_pr_check_29 : decode by_pr_check 29 = .ok (.bipush 100, 2) := by decide +kernel
theorem dd_pr_check_31 : decode by_pr_check 31 = .ok (.iload_n 1, 1) := by decide +kernel
theorem dd_pr_check_32 : decode by_pr_check 32 = .ok (.imul, 1) := by decide +kernel
theorem dd_pr_check_33 : decode by_pr_check 33 = .ok (.iload_n 2, 1) := by decide +kernel
theorem dd_pr_check_34 : decode by_pr_check 34 = .ok (.iadd, 1) := by decide +kernel
theorem dd_pr_check_35 : decode by_pr_check 35 = .ok (.ireturn, 1) := by decide +kernel
theorem dd_pr_check_36 : decode by_pr_check 36 = .ok (.iinc 1 1, 3) := by decide +kernel
theorem dd_pr_check_39 : decode by_pr_check 39 = .ok (.goto (-28), 3) := by decide +kernel
theorem dd_pr_check_42 : decode by_pr_check 42 = .ok (.aload_n 0, 1) := by decide +kernel
theorem dd_pr_check_43 : decode by_pr_check 43 = .ok (.iconst 1, 1) := by decide +kernel
theorem dd_pr_check_44 : decode by_pr_check 44 = .ok (.putfield 31, 3) := by decide +kernel
theorem dd_pr_check_47 : decode by_pr_check 47 = .ok (.iconst 0, 1) := by decide +kernel
theorem dd_pr_check_48 : decode by_pr_check 48 = .ok (.ireturn, 1) := by decide +kernel
def pr_check_b11 (K11 : gw_M → Nat → Int32 → Option (Int32 × gw_M)) (M : gw_M) (a0 : Nat) (v1 : Int32) : Option (Int32 × gw_M) :=
  if (M.1 a0 5) ≤ v1 then (gw_lt (gw_sI M a0 6 (1 : Int32)) (fun M44 => some ((0 : Int32), M44))) else (gw_bd (pr_reasonAt_b0 M a0 v1) (fun r21 M21 => if r21 = (0 : Int32) then (K11 M21 a0 (v1 + (1 : Int32))) else (some (((100 : Int32) * v1) + r21, M21))))
def pr_check_l11 : Nat → gw_M → Nat → Int32 → Option (Int32 × gw_M)
  | 0 => fun _ _ _ => none
  | n + 1 => pr_check_b11  (pr_check_l11  n)
def pr_check_b0 (M : gw_M) (a0 : Nat) : Option (Int32 × gw_M) :=
  if (M.1 a0 5) = (0 : Int32) then (some ((1 : Int32), M)) else (pr_check_l11  2100 M a0 (0 : Int32))
set_option maxRecDepth 100000 in
set_option maxHeartbeats 4000000 in
theorem wb_pr_check_11 {p : Program} {l : Launch} {e : Env} {s : State} {m : MethodId} {args : Array Value} {below : List Frame} {meth : Method} {c : Code} {X : gw_X} {Y : gw_M} {z : (Int32 × gw_M)} (C0 : gw_C ((Cond.code yy_pr_check by_pr_check 3 (some .int)) :: gw_w) by_pr_check 3 (some .int) "AccountMachine$Program" X p s m args meth c) {K11 : gw_M → Nat → Int32 → Option (Int32 × gw_M)} (hK11 : ∀ (M : gw_M) (a0 : Nat) (v1 : Int32) (H : Heap) (locs : List Loc) (ls : Array Slot), gc_k a0 = (5, 0) → gw_G X (gw_E X M Y) s H locs → lv_has ls 3 [(0, .ref (gc_a X a0)), (1, .int v1)] → K11 M a0 v1 = some z → W p l e rm_pr_check s m args below meth c H locs 0 0 (MQ below (gw_Qi X (fun M => (gw_E X M Y)) z) args s 0 0 (gw_A X)) (F0 m 11 ls [])) (M : gw_M) (a0 : Nat) (v1 : Int32) (H : Heap) (locs : List Loc) (ls : Array Slot) (ha0 : gc_k a0 = (5, 0)) (G : gw_G X (gw_E X M Y) s H locs) (hl : lv_has ls 3 [(0, .ref (gc_a X a0)), (1, .int v1)]) (hF : pr_check_b11 K11 M a0 v1 = some z) : W p l e rm_pr_check s m args below meth c H locs 0 0 (MQ below (gw_Qi X (fun M => (gw_E X M Y)) z) args s 0 0 (gw_A X)) (F0 m 11 ls []) := by
  obtain ⟨hx, hb, hml, hown, hts, hr, hlocks, hK⟩ := id C0
  have hg : ∀ w ∈ gw_w, w.before args s = true := fun w h => hts w (List.mem_cons_of_mem _ h)
  unfold pr_check_b11 at hF
  refine lv_iload_n hx hb dd_pr_check_11 rfl (lv_at hl 1 rfl) ?_
  refine lv_aload_n hx hb dd_pr_check_12 rfl (lv_at hl 0 rfl) ?_
  refine gf_pr_count hx hb hg hown (hg _ kw_82) hK G ha0 dd_pr_check_13 ?_
  refine lv_icmp_ge (tgt := 42) hx hb dd_pr_check_16 (by decide) (fun h16 => ?_) (fun h16 => ?_)
  · replace hF := gw_et h16 hF
    refine lv_aload_n hx hb dd_pr_check_42 rfl (lv_at hl 0 rfl) ?_
    refine lv_iconst (v := (1 : Int32)) hx hb dd_pr_check_43 (by decide) ?_
    refine gp_pr_sound hx hb hg hown (hg _ kw_87) hK G ha0 (by decide) (by decide) dd_pr_check_44 (fun M44 H locs e44 G => ?_)
    replace hF := gw_ly e44 hF
    refine lv_iconst (v := (0 : Int32)) hx hb dd_pr_check_47 (by decide) ?_
    exact W.iret hx hb hr (fun t ht hW => gw_endi (EF := (fun M => (gw_E X M Y))) (M := M44) G ht hF) G.2.2.2.2 dd_pr_check_48 hlocks
  · replace hF := gw_ef h16 hF
    refine lv_aload_n hx hb dd_pr_check_19 rfl (lv_at hl 0 rfl) ?_
    refine lv_iload_n hx hb dd_pr_check_20 rfl (lv_at hl 1 rfl) ?_
    obtain ⟨r21, M21, hc21, hF⟩ := gw_be hF
    refine gw_ci G (va_runV (As := [.int v1]) (rest := []) ⟨hx, hb, hml, hown, hts⟩ (ct_pr_reasonAt l X Y M a0 v1 ha0 _ hc21) (cwV 1 hts (gw_gV kw_101 kw_102 kw_103 kw_92 kw_100) rfl rfl rfl (by decide +kernel) ⟨Nat.le_of_ble_eq_true rfl, Nat.le_of_ble_eq_true rfl⟩) ⟨gw_blind, gw_recv_pr hK G ha0, gw_pre hK G⟩ rfl rfl hl.1 rfl (Nat.le_of_ble_eq_true rfl) dd_pr_check_21 ⟨Nat.le_of_ble_eq_true rfl, Nat.le_of_ble_eq_true rfl⟩) (fun H locs G => ?_)
    refine lv_istore_n (i := 2) (lv' := [(2, .int r21), (0, .ref (gc_a X a0)), (1, .int v1)]) hx hb dd_pr_check_24 rfl hl (by decide) rfl (fun ls hl => ?_)
    refine lv_iload_n hx hb dd_pr_check_25 rfl (lv_at hl 0 rfl) ?_
    refine lv_if_eq (tgt := 36) hx hb dd_pr_check_26 (by decide) (fun h26 => ?_) (fun h26 => ?_)
    · replace hF := gw_et h26 hF
      refine lv_iinc (k := 2) (v := v1 + (1 : Int32)) (lv' := [(1, .int (v1 + (1 : Int32))), (2, .int r21), (0, .ref (gc_a X a0))]) hx hb dd_pr_check_36 hl rfl rfl (by decide) rfl (fun ls hl => ?_)
      refine lv_goto (tgt := 11) hx hb dd_pr_check_39 (by decide) ?_
      exact hK11 M21 a0 (v1 + (1 : Int32)) _ _ _ ha0 G (lv_sub hl [2, 0] rfl) hF
    · replace hF := gw_ef h26 hF
      refine lv_bipush (v := (100 : Int32)) hx hb dd_pr_check_29 (by decide) ?_
      refine lv_iload_n hx hb dd_pr_check_31 rfl (lv_at hl 2 rfl) ?_
      refine lv_imul hx hb dd_pr_check_32 ?_
      refine lv_iload_n hx hb dd_pr_check_33 rfl (lv_at hl 0 rfl) ?_
      refine lv_iadd hx hb dd_pr_check_34 ?_
      exact W.iret hx hb hr (fun t ht hW => gw_endi (EF := (fun M => (gw_E X M Y))) (M := M21) G ht hF) G.2.2.2.2 dd_pr_check_35 hlocks
theorem wl_pr_check_11 {p : Program} {l : Launch} {e : Env} {s : State} {m : MethodId} {args : Array Value} {below : List Frame} {meth : Method} {c : Code} {X : gw_X} {Y : gw_M} {z : (Int32 × gw_M)} (C0 : gw_C ((Cond.code yy_pr_check by_pr_check 3 (some .int)) :: gw_w) by_pr_check 3 (some .int) "AccountMachine$Program" X p s m args meth c) : ∀ n : Nat, ∀ (M : gw_M) (a0 : Nat) (v1 : Int32) (H : Heap) (locs : List Loc) (ls : Array Slot), gc_k a0 = (5, 0) → gw_G X (gw_E X M Y) s H locs → lv_has ls 3 [(0, .ref (gc_a X a0)), (1, .int v1)] → pr_check_l11  n M a0 v1 = some z → W p l e rm_pr_check s m args below meth c H locs 0 0 (MQ below (gw_Qi X (fun M => (gw_E X M Y)) z) args s 0 0 (gw_A X)) (F0 m 11 ls []) := by
  intro n
  induction n with
  | zero =>
    intro M a0 v1 H locs ls ha0 G hl hF
    have hF : (none : Option (Int32 × gw_M)) = some z := hF
    cases hF
  | succ n ih =>
    intro M a0 v1 H locs ls ha0 G hl hF
    exact wb_pr_check_11 C0  ih M a0 v1 H locs ls ha0 G hl hF
set_option maxRecDepth 100000 in
set_option maxHeartbeats 4000000 in
theorem wb_pr_check_0 {p : Program} {l : Launch} {e : Env} {s : State} {m : MethodId} {args : Array Value} {below : List Frame} {meth : Method} {c : Code} {X : gw_X} {Y : gw_M} {z : (Int32 × gw_M)} (C0 : gw_C ((Cond.code yy_pr_check by_pr_check 3 (some .int)) :: gw_w) by_pr_check 3 (some .int) "AccountMachine$Program" X p s m args meth c) (M : gw_M) (a0 : Nat) (H : Heap) (locs : List Loc) (ls : Array Slot) (ha0 : gc_k a0 = (5, 0)) (G : gw_G X (gw_E X M Y) s H locs) (hl : lv_has ls 3 [(0, .ref (gc_a X a0))]) (hF : pr_check_b0  M a0 = some z) : W p l e rm_pr_check s m args below meth c H locs 0 0 (MQ below (gw_Qi X (fun M => (gw_E X M Y)) z) args s 0 0 (gw_A X)) (F0 m 0 ls []) := by
  obtain ⟨hx, hb, hml, hown, hts, hr, hlocks, hK⟩ := id C0
  have hg : ∀ w ∈ gw_w, w.before args s = true := fun w h => hts w (List.mem_cons_of_mem _ h)
  unfold pr_check_b0 at hF
  refine lv_aload_n hx hb dd_pr_check_0 rfl (lv_at hl 0 rfl) ?_
  refine gf_pr_count hx hb hg hown (hg _ kw_82) hK G ha0 dd_pr_check_1 ?_
  refine lv_if_ne (tgt := 9) hx hb dd_pr_check_4 (by decide) (fun h4 => ?_) (fun h4 => ?_)
  · replace hF := gw_ef h4 hF
    refine lv_iconst (v := (0 : Int32)) hx hb dd_pr_check_9 (by decide) ?_
    refine lv_istore_n (i := 1) (lv' := [(1, .int (0 : Int32)), (0, .ref (gc_a X a0))]) hx hb dd_pr_check_10 rfl hl (by decide) rfl (fun ls hl => ?_)
    exact wl_pr_check_11 C0  2100 M a0 (0 : Int32) _ _ _ ha0 G (lv_sub hl [1, 0] rfl) hF
  · replace hF := gw_et h4 hF
    refine lv_iconst (v := (1 : Int32)) hx hb dd_pr_check_7 (by decide) ?_
    exact W.iret hx hb hr (fun t ht hW => gw_endi (EF := (fun M => (gw_E X M Y))) (M := M) G ht hF) G.2.2.2.2 dd_pr_check_8 hlocks
set_option maxRecDepth 100000 in
set_option maxHeartbeats 4000000 in
theorem ct_pr_check (l : Launch) (X : gw_X) (Y : gw_M) (M : gw_M) (a0 : Nat) (ha0 : gc_k a0 = (5, 0)) (z : (Int32 × gw_M)) (hF : pr_check_b0 M a0 = some z) : Met l yy_pr_check ((Cond.code yy_pr_check by_pr_check 3 (some .int)) :: gw_w) rm_pr_check (va_Pc [.ref (gc_a X a0)] (gw_B X (gw_E X M Y))) (gw_Qi X (fun M => (gw_E X M Y)) z) 0 0 (gw_A X) := by
  refine Met.ofW (cc := by_pr_check) (maxL := 3) (ret := (some .int)) (by decide) rfl ?_
  intro p e s m args below meth c s₁ B hml hv
  obtain ⟨rfl, hB⟩ := hv
  rw [lg_entry_eq]
  have hl := lv_entry ([.ref (gc_a X a0)]) (n := 3) (Nat.le_of_ble_eq_true rfl)
  generalize (lg_sl ([.ref (gc_a X a0)]) ++ List.replicate (3 - (lg_sl ([.ref (gc_a X a0)])).length) Slot.unset).toArray = ls at hl ⊢
  have hl : lv_has ls 3 [(0, .ref (gc_a X a0))] := hl
  exact wb_pr_check_0 (gw_ctx B hml rfl hB) M a0 _ _ _ ha0 (gw_start hB) hl hF
