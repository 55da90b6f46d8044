/-- fresh from the cell a on -/
def bw_Z (C : gw_M) (N : Nat → Nat → Bool) (b a : Nat) : Prop := (∀ k, b + a ≤ k → ∀ j, N k j = false) ∧ ∀ k, a ≤ k → C.1 k = (fun _ => 0) ∧ C.2 k = fun _ => 0
theorem bw_Zs {C : gw_M} {N : Nat → Nat → Bool} {b a k j : Nat} (h : bw_Z C N b a) (hk : k < b + a) : bw_Z C (bw_s N k j) b a := ⟨fun i hi q => by rw [bw_s_n (by omega)]; exact h.1 i hi q, h.2⟩
theorem bw_Zw {C : gw_M} {N : Nat → Nat → Bool} {b a a1 : Nat} (h : bw_Z C N b a) (hk : a ≤ a1) : bw_Z C N b a1 := ⟨fun i hi q => h.1 i (by omega) q, fun i hi => h.2 i (by omega)⟩
theorem bw_Zf {C : gw_M} {N : Nat → Nat → Bool} {b a k n : Nat} {v : Int32} (h : bw_Z C N b a) (hk : k < a) : bw_Z (bw_fl C k n v) N b a := ⟨h.1, fun i hi => ⟨by rw [bw_fl_n (by omega)]; exact (h.2 i hi).1, (h.2 i hi).2⟩⟩
theorem bw_hs {X : gw_X} {sz n0 n k : Nat} (hX : bw_ad X) (h0 : sz = X.2.1 n0) (hn : n = n0 + k) : sz + k = X.2.1 n := by
  have h1 := hX n
  have h2 := hX n0
  omega
def bw_K (X : gw_X) (U : State) : Prop := va_K X.1 gw_cl (gw_tys X) U ∧ (∀ w ∈ gw_nest, va_Nw w U) ∧ (va_AO "AccountMachine$Program" U ∧ va_AO "AccountMachine$Order" U ∧ va_AO "AccountMachine$Frame" U) ∧ bw_ad X
def bw_B (X : gw_X) (E : Nat → va_E) (n : Nat) (U : State) : Prop := bw_K X U ∧ va_P X.1 gw_cl (gw_W X.2.1 E n) U.heap ∧ va_D (bw_A X) (gw_W X.2.1 E n) ∧ U.heap.size = X.2.1 n
abbrev bw_Q (X : gw_X) (E : Nat → va_E) (n : Nat) : Array Value → State → Outcome → State → Prop := va_Qv (fun (_ : Unit) => True) (fun _ t => va_P X.1 gw_cl (gw_W X.2.1 E n) t.heap ∧ va_D (bw_A X) (gw_W X.2.1 E n)) (bw_A X)
theorem bw_blind {X : gw_X} {E : Nat → va_E} {n : Nat} {av : List Value} : FrameBlind (va_Pc av (bw_B X E n)) := fun a U g mk q =>
  ⟨q.1, ⟨va_K.moved (u := U) (U := U.calling g mk a) (Vm.Alike.refl U.vm) q.2.1.1, fun w hw => va_Nw.same (u := U) (U := U.calling g mk a) (gw_Nw_on hw) rfl (q.2.1.2.1 w hw), ⟨va_AO.moved (u := U) (U := U.calling g mk a) (Vm.Alike.refl U.vm) q.2.1.2.2.1.1, va_AO.moved (u := U) (U := U.calling g mk a) (Vm.Alike.refl U.vm) q.2.1.2.2.1.2.1, va_AO.moved (u := U) (U := U.calling g mk a) (Vm.Alike.refl U.vm) q.2.1.2.2.1.2.2⟩, q.2.1.2.2.2⟩, q.2.2⟩
theorem bw_pre {X : gw_X} {E : Nat → va_E} {n : Nat} {s : State} {H : Heap} {locs : List Loc} {av : List Value} (hK : bw_K X s) (G : bw_G X E n s H locs) (hz : H.size = X.2.1 n) : ∀ U : State, U.heap = H → s.WarmedH U.vm → va_Pc av (bw_B X E n) av.toArray U := by
  intro U hU hW
  exact ⟨rfl, ⟨va_K.moved hW.alike hK.1, fun w hw => gw_Nw_warm hw hW (hK.2.1 w hw), ⟨va_AO.moved hW.alike hK.2.2.1.1, va_AO.moved hW.alike hK.2.2.1.2.1, va_AO.moved hW.alike hK.2.2.1.2.2⟩, hK.2.2.2⟩, by rw [hU]; exact G.1, G.2.1, by rw [hU]; exact hz⟩
/-- how large the heap is: the last cell is there, and no more cells than counted -/
theorem bw_hz {X : gw_X} {E : Nat → va_E} {n : Nat} {s : State} {H : Heap} {locs : List Loc} {k : Nat} (hX : bw_ad X) (G : bw_G X E (n + 1) s H locs) (hs : s.heap.size + k = X.2.1 (n + 1)) (hz : H.size ≤ s.heap.size + k) : H.size = X.2.1 (n + 1) := by
  have h1 : X.2.1 n < H.size := (G.1 n _ (gw_W_at (Nat.lt_succ_self n))).lt
  have h2 := hX n
  have h3 := hX (n + 1)
  omega
theorem bw_end {X : gw_X} {E : Nat → va_E} {n : Nat} {s t : State} {H : Heap} {locs : List Loc} {a : Array Value} (G : bw_G X E n s H locs) (ht : t.heap = H) : bw_Q X E n a s (.returned none) t := ⟨⟨(), rfl, trivial, by rw [ht]; exact G.1, G.2.1⟩, G.2.2.F ht⟩
abbrev rm_ar_fillI : Room := { frames := 0, cells := 0, slots := 0, locals := 0 }
theorem dd_ar_fillI_0 : decode by_ar_fillI 0 = .ok (.iconst 0, 1) := by decide +kernel
theorem dd_ar_fillI_1 : decode by_ar_fillI 1 = .ok (.istore_n 2, 1) := by decide +kernel
theorem dd_ar_fillI_2 : decode by_ar_fillI 2 = .ok (.aload_n 0, 1) := by decide +kernel
theorem dd_ar_fillI_3 : decode by_ar_fillI 3 = .ok (.arraylength, 1) := by decide +kernel
theorem dd_ar_fillI_4 : decode by_ar_fillI 4 = .ok (.istore_n 3, 1) := by decide +kernel
theorem dd_ar_fillI_5 : decode by_ar_fillI 5 = .ok (.iload_n 2, 1) := by decide +kernel
theorem dd_ar_fillI_6 : decode by_ar_fillI 6 = .ok (.iload_n 3, 1) := by decide +kernel
theorem dd_ar_fillI_7 : decode by_ar_fillI 7 = .ok (.if_icmp .ge 13, 3) := by decide +kernel
theorem dd_ar_fillI_10 : decode by_ar_fillI 10 = .ok (.aload_n 0, 1) := by decide +kernel
theorem dd_ar_fillI_11 : decode by_ar_fillI 11 = .ok (.iload_n 2, 1) := by decide +kernel
theorem dd_ar_fillI_12 : decode by_ar_fillI 12 = .ok (.iload_n 1, 1) := by decide +kernel
theorem dd_ar_fillI_13 : decode by_ar_fillI 13 = .ok (.iastore, 1) := by decide +kernel
theorem dd_ar_fillI_14 : decode by_ar_fillI 14 = .ok (.iinc 2 1, 3) := by decide +kernel
theorem dd_ar_fillI_17 : decode by_ar_fillI 17 = .ok (.goto (-12), 3) := by decide +kernel
theorem dd_ar_fillI_20 : decode by_ar_fillI 20 = .ok (.return_, 1) := by decide +kernel
section BWMORE
variable {p : Program} {l : Launch} {e : Env} {R : Room} {s : State} {m : MethodId} {args : Array Value} {below : List Frame} {meth : Method} {c : Code} {H : Heap} {locs : List Loc} {cells slots : Nat} {Q : State → Prop} {cc : ByteArray} {pc : Nat} {ls : Array Slot} {rest : List Value} {X : gw_X} {C Y : gw_M} {N : Nat → Nat → Bool} {n : Nat}
theorem bw_s_t {N : Nat → Nat → Bool} {k j : Nat} : bw_s N k j k j = true := by
  rw [bw_s_k]
  exact if_pos rfl
theorem bw_s_m {N : Nat → Nat → Bool} {k j a b : Nat} (h : N a b = true) : bw_s N k j a b = true := by
  by_cases h1 : a = k
  · subst h1
    rw [bw_s_k]
    by_cases h2 : b = j
    · exact if_pos h2
    · exact (if_neg h2).trans h
  · rw [bw_s_n h1]
    exact h
theorem bw_cv {E E1 : Nat → va_E} {n1 mc ms : Nat} {a : Array Value} {st0 : List Value} (G : bw_G X E n s H locs) (hr : va_Run p l e R s m args below meth c H locs cells slots mc ms (F0 m pc ls st0) rest (bw_Q X E1 n1 a) (bw_A X)) (kk : ∀ (H1 : Heap) (locs1 : List Loc), bw_G X E1 n1 s H1 locs1 → W p l e R s m args below meth c H1 locs1 (cells + mc) (slots + ms) Q (F0 m (pc + 3) ls rest)) : W p l e R s m args below meth c H locs cells slots Q (F0 m pc ls st0) :=
  va_callv hr G.2.2 (fun _ _ h => h) (fun _ h => h) (fun u t H1 locs1 ht _ _ hB _ _ hS => kk H1 locs1 ⟨by rw [← ht]; exact hB.1, hB.2, hS⟩)
theorem bc_iast (hx : p.tables.exec = Jvm.exec) (hb : c.code = cc) (hK : va_K X.1 gw_cl (gw_tys X) s) (G : bw_G X (bw_E X C Y N) n s H locs) {k len : Nat} (hk : gc_k k = (0, len)) (hn : k < n) {i x : Int32} (hin : vp_in i len) {j : Nat} (hj : i.toNatClampNeg = j) (hdg : decode cc pc = .ok (.iastore, 1)) (kk : ∀ (H1 : Heap) (locs1 : List Loc), bw_G X (bw_E X (gw_sI C k j x) Y N) n s H1 locs1 → W p l e R s m args below meth c H1 locs1 cells slots Q (F0 m (pc + 1) ls rest)) : W p l e R s m args below meth c H locs cells slots Q (F0 m pc ls (.int x :: .int i :: .ref (gc_a X k) :: rest)) := by
  subst hj
  have hset := gw_W_set (ad := X.2.1) (n := n) (E := (bw_E X C Y N)) (E1 := (bw_E X (gw_sI C k i.toNatClampNeg x) Y N)) hn (bc_E0 hk) (bw_E_setC gw_sI_1 gw_sI_2)
  rw [gw_sI_k] at hset
  exact va_iast hx hb hK G.1 G.2.1 G.2.2 k 0 (by rw [gw_W_at hn, bc_E0 hk]) rfl hin hdg (fun H1 locs1 hP hD hS => kk H1 locs1 ⟨by rw [← hset]; exact hP, by rw [← hset]; exact hD, hS⟩)
theorem br_iast (hx : p.tables.exec = Jvm.exec) (hb : c.code = cc) (hK : va_K X.1 gw_cl (gw_tys X) s) (G : bw_G X (bw_E X Y C N) n s H locs) {k len : Nat} (hk : gr_k k = (0, len)) (hn : (76 + k) < n) {i x : Int32} (hin : vp_in i len) {j : Nat} (hj : i.toNatClampNeg = j) (hdg : decode cc pc = .ok (.iastore, 1)) (kk : ∀ (H1 : Heap) (locs1 : List Loc), bw_G X (bw_E X Y (gw_sI C k j x) N) n s H1 locs1 → W p l e R s m args below meth c H1 locs1 cells slots Q (F0 m (pc + 1) ls rest)) : W p l e R s m args below meth c H locs cells slots Q (F0 m pc ls (.int x :: .int i :: .ref (gr_a X k) :: rest)) := by
  subst hj
  have hset := gw_W_set (ad := X.2.1) (n := n) (E := (bw_E X Y C N)) (E1 := (bw_E X Y (gw_sI C k i.toNatClampNeg x) N)) hn (br_E0 hk) (bw_E_setR gw_sI_1 gw_sI_2)
  rw [gw_sI_k] at hset
  exact va_iast hx hb hK G.1 G.2.1 G.2.2 (76 + k) 0 (by rw [gw_W_at hn, br_E0 hk]) rfl hin hdg (fun H1 locs1 hP hD hS => kk H1 locs1 ⟨by rw [← hset]; exact hP, by rw [← hset]; exact hD, hS⟩)
theorem bc_alen (hx : p.tables.exec = Jvm.exec) (hb : c.code = cc) (hK : va_K X.1 gw_cl (gw_tys X) s) (G : bw_G X (bw_E X C Y N) n s H locs) {k len : Nat} (hk : gc_k k = (0, len)) (hn : k < n) (hdg : decode cc pc = .ok (.arraylength, 1)) (kk : W p l e R s m args below meth c H locs cells slots Q (F0 m (pc + 1) ls (.int (nI len) :: rest))) : W p l e R s m args below meth c H locs cells slots Q (F0 m pc ls (.ref (gc_a X k) :: rest)) := va_alen hx hb hK G.1 k 0 (show (gw_W X.2.1 (bw_E X C Y N) n)[k]? = some (X.2.1 k, .inl (X.2.2.1 0, len, .inl (C.1 k))) by rw [gw_W_at hn, bc_E0 hk]) rfl rfl hdg kk
end BWMORE
theorem bw_fl_0 {M : gw_M} {k : Nat} {v : Int32} : bw_fl M k 0 v = M := by
  unfold bw_fl
  refine Prod.ext (funext fun a => ?_) rfl
  show (if a = k then (fun j => if j < 0 then v else M.1 k j) else M.1 a) = M.1 a
  by_cases h : a = k
  · rw [if_pos h, h]
    funext j
    exact if_neg (Nat.not_lt_zero j)
  · rw [if_neg h]
theorem bw_fl_s {M : gw_M} {k i : Nat} {v : Int32} : gw_sI (bw_fl M k i v) k i v = bw_fl M k (i + 1) v := by
  refine Prod.ext (funext fun a => ?_) rfl
  by_cases h : a = k
  · subst h
    rw [gw_sI_k, bw_fl_k, bw_fl_k]
    funext j
    by_cases h1 : j = i
    · subst h1
      simp [upd]
    · have e1 : (j < i + 1) = (j < i) := by
        apply propext
        omega
      simp only [upd, if_neg h1, e1]
  · rw [gw_sI_1 _ h, bw_fl_n h, bw_fl_n h]
set_option maxRecDepth 100000 in
theorem wl_ar_fillI {p : Program} {l : Launch} {e : Env} {s : State} {m : MethodId} {args : Array Value} {below : List Frame} {meth : Method} {c : Code} {X : gw_X} {C Y : gw_M} {N : Nat → Nat → Bool} {n k len : Nat} {v : Int32} (hx : p.tables.exec = Jvm.exec) (hb : c.code = by_ar_fillI) (hr : meth.sig.returnType = none) (hlocks : meth.locks = false) (hK : va_K X.1 gw_cl (gw_tys X) s) (hk : gc_k k = (0, len)) (hn : k < n) (hlen : len < 2 ^ 31) : ∀ (d i : Nat) (H : Heap) (locs : List Loc) (ls : Array Slot), i + d = len → bw_G X (bw_E X (bw_fl C k i v) Y N) n s H locs → lv_has ls 4 [(0, .ref (gc_a X k)), (1, .int v), (2, .int (nI i)), (3, .int (nI len))] → W p l e rm_ar_fillI s m args below meth c H locs 0 0 (MQ below (bw_Q X (bw_E X (bw_fl C k len v) Y N) n) args s 0 0 (bw_A X)) (F0 m 5 ls []) := by
  intro d
  induction d with
  | zero =>
    intro i H locs ls hd G hl
    have hi : i = len := by omega
    subst hi
    refine lv_iload_n hx hb dd_ar_fillI_5 rfl (lv_at hl 2 rfl) ?_
    refine lv_iload_n hx hb dd_ar_fillI_6 rfl (lv_at hl 3 rfl) ?_
    refine lv_icmp_ge (tgt := 20) hx hb dd_ar_fillI_7 (by decide) (fun _ => ?_) (fun h => absurd (nI_le (Nat.le_refl _) hlen) h)
    exact W.vret hx hb hr (fun t ht hW => bw_end G ht) G.2.2.2.2 dd_ar_fillI_20 hlocks
  | succ d ih =>
    intro i H locs ls hd G hl
    refine lv_iload_n hx hb dd_ar_fillI_5 rfl (lv_at hl 2 rfl) ?_
    refine lv_iload_n hx hb dd_ar_fillI_6 rfl (lv_at hl 3 rfl) ?_
    refine lv_icmp_ge (tgt := 20) hx hb dd_ar_fillI_7 (by decide) (fun h => absurd h (nI_ge (by omega) hlen)) (fun _ => ?_)
    refine lv_aload_n hx hb dd_ar_fillI_10 rfl (lv_at hl 0 rfl) ?_
    refine lv_iload_n hx hb dd_ar_fillI_11 rfl (lv_at hl 2 rfl) ?_
    refine lv_iload_n hx hb dd_ar_fillI_12 rfl (lv_at hl 1 rfl) ?_
    refine bc_iast hx hb hK G hk hn (vp_in_nI (by omega) hlen) (nI_clamp (by omega)) dd_ar_fillI_13 (fun H locs G => ?_)
    rw [bw_fl_s] at G
    refine lv_iinc (k := 2) (v := nI (i + 1)) (lv' := [(2, .int (nI (i + 1))), (0, .ref (gc_a X k)), (1, .int v), (3, .int (nI len))]) hx hb dd_ar_fillI_14 hl rfl (nI_succ i).symm (by decide) rfl (fun ls hl => ?_)
    refine lv_goto (tgt := 5) hx hb dd_ar_fillI_17 (by decide) ?_
    exact ih (i + 1) H locs ls (by omega) G (lv_sub hl [1, 2, 0, 3] rfl)
set_option maxRecDepth 100000 in
theorem ct_ar_fillI (l : Launch) (X : gw_X) (C Y : gw_M) (N : Nat → Nat → Bool) (n k len : Nat) (v : Int32) (hk : gc_k k = (0, len)) (hn : k < n) (hlen : len < 2 ^ 31) : Met l yy_ar_fillI (Cond.code yy_ar_fillI by_ar_fillI 4 none :: gw_w) rm_ar_fillI (va_Pc [.ref (gc_a X k), .int v] (bw_B X (bw_E X C Y N) n)) (bw_Q X (bw_E X (bw_fl C k len v) Y N) n) 0 0 (bw_A X) := by
  refine Met.ofW (cc := by_ar_fillI) (maxL := 4) (ret := none) (by decide) rfl ?_
  intro p e s m args below meth c s₁ B hml hv
  obtain ⟨rfl, hK, hP, hD, hsz⟩ := hv
  have hx := B.exec
  have hb := B.bytes
  have hr := B.returns
  have hlocks := B.notSynchronized
  have G : bw_G X (bw_E X C Y N) n s s.heap [] := ⟨hP, hD, va_S.rf⟩
  rw [lg_entry_eq]
  have hl := lv_entry ([.ref (gc_a X k), .int v]) (n := 4) (Nat.le_of_ble_eq_true rfl)
  generalize (lg_sl ([.ref (gc_a X k), .int v]) ++ List.replicate (4 - (lg_sl ([.ref (gc_a X k), .int v])).length) Slot.unset).toArray = ls at hl ⊢
  have hl : lv_has ls 4 [(0, .ref (gc_a X k)), (1, .int v)] := hl
  refine lv_iconst (v := nI 0) hx hb dd_ar_fillI_0 (by decide) ?_
  refine lv_istore_n (i := 2) (lv' := [(2, .int (nI 0)), (0, .ref (gc_a X k)), (1, .int v)]) hx hb dd_ar_fillI_1 rfl hl (by decide) rfl (fun ls hl => ?_)
  refine lv_aload_n hx hb dd_ar_fillI_2 rfl (lv_at hl 1 rfl) ?_
  refine bc_alen hx hb hK.1 G hk hn dd_ar_fillI_3 ?_
  refine lv_istore_n (i := 3) (lv' := [(3, .int (nI len)), (2, .int (nI 0)), (0, .ref (gc_a X k)), (1, .int v)]) hx hb dd_ar_fillI_4 rfl hl (by decide) rfl (fun ls hl => ?_)
  have G : bw_G X (bw_E X (bw_fl C k 0 v) Y N) n s s.heap [] := by
    rw [bw_fl_0]
    exact G
  exact wl_ar_fillI hx hb hr hlocks hK.1 hk hn hlen len 0 _ _ ls (Nat.zero_add _) G (lv_sub hl [2, 3, 1, 0] rfl)
