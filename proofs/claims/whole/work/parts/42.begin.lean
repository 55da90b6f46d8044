theorem kw_593 : Cond.instantiable "AccountMachine" 11 ∈ gw_w := gw_mem (i := 10) (by decide +kernel) (by decide)
theorem kw_594 : Cond.instantiable "AccountMachineModel" 28 ∈ gw_w := gw_mem (i := 463) (by decide +kernel) (by decide)
theorem kw_595 : Cond.classLink "AccountMachineLaw" 7 "AccountMachine" ∈ gw_w := gw_mem (i := 9) (by decide +kernel) (by decide)
theorem kw_596 : Cond.code yy_am_init by_am_init 2 none ∈ gw_w := gw_mem (i := 13) (by decide +kernel) (by decide)
theorem kw_597 : Cond.methodLink "AccountMachineLaw" 9 yy_am_init ∈ gw_w := gw_mem (i := 11) (by decide +kernel) (by decide)
theorem kw_598 : Cond.instanceMethod yy_am_init ∈ gw_w := gw_mem (i := 12) (by decide +kernel) (by decide)
theorem kw_599 : Cond.classLink "AccountMachineLaw" 10 "AccountMachineModel" ∈ gw_w := gw_mem (i := 462) (by decide +kernel) (by decide)
theorem kw_600 : Cond.code yy_mo_init by_mo_init 2 none ∈ gw_w := gw_mem (i := 466) (by decide +kernel) (by decide)
theorem kw_601 : Cond.methodLink "AccountMachineLaw" 12 yy_mo_init ∈ gw_w := gw_mem (i := 464) (by decide +kernel) (by decide)
theorem kw_602 : Cond.instanceMethod yy_mo_init ∈ gw_w := gw_mem (i := 465) (by decide +kernel) (by decide)
theorem lw_known {s : State} {b : Nat} (hts : ∀ w ∈ lw_tbl, w.before #[Value.ref b] s = true) (hg : ∀ w ∈ gw_w, w.before #[Value.ref b] s = true) : ∃ (D : va_G) (ca : Nat → ClassId), ∀ (ad : Nat → Nat) (sa : Nat), va_K D gw_cl (gw_tys (D, ad, ca, sa)) s := by
  obtain ⟨c0, i0, k0⟩ := u_known (C := na_am) (T := fi_am) (N := 11) hg la_am (hg _ kw_593)
  obtain ⟨c1, i1, k1⟩ := u_known (C := na_le) (T := fi_le) (N := 4) hg la_le (hg _ kw_484)
  obtain ⟨c2, i2, k2⟩ := u_known (C := na_od) (T := fi_od) (N := 5) hg la_od (hg _ kw_477)
  obtain ⟨c3, i3, k3⟩ := u_known (C := na_pr) (T := fi_pr) (N := 7) hg la_pr (hg _ kw_489)
  obtain ⟨c4, i4, k4⟩ := u_known (C := na_fr) (T := fi_fr) (N := 6) hg la_fr (hg _ kw_492)
  obtain ⟨c5, i5, k5⟩ := u_known (C := na_mo) (T := fi_mo) (N := 28) hg la_mo (hg _ kw_594)
  obtain ⟨a0, b0, d0, e0, f0, g0⟩ := Cond.arrayClass_spec (hg _ kw_469)
  obtain ⟨a1, b1, d1, e1, f1, g1⟩ := Cond.arrayClass_spec (hg _ kw_480)
  obtain ⟨a2, b2, d2, e2, f2, g2⟩ := Cond.arrayClass_spec (hg _ kw_496)
  obtain ⟨d3, a3, b3, e3, _, f3, g3, h3⟩ := Cond.arrayOver_spec (hts (.arrayOver (.object "AccountMachine$Program")) (List.mem_append_right _ (List.mem_of_getElem? (i := 18) (by decide +kernel))))
  obtain ⟨d4, a4, b4, e4, _, f4, g4, h4⟩ := Cond.arrayOver_spec (hts (.arrayOver (.object "AccountMachine$Order")) (List.mem_append_right _ (List.mem_of_getElem? (i := 51) (by decide +kernel))))
  obtain ⟨d5, a5, b5, e5, _, f5, g5, h5⟩ := Cond.arrayOver_spec (hts (.arrayOver (.object "AccountMachine$Frame")) (List.mem_append_right _ (List.mem_of_getElem? (i := 53) (by decide +kernel))))
  refine ⟨(fun c => match c with | 0 => c0 | 1 => c1 | 2 => c2 | 3 => c3 | 4 => c4 | _ => c5, fun c => match c with | 0 => i0 | 1 => i1 | 2 => i2 | 3 => i3 | 4 => i4 | _ => i5), fun c => match c with | 0 => a0 | 1 => a1 | 2 => a2 | 3 => a3 | 4 => a4 | _ => a5, fun ad sa => ⟨fun c q h => ?_, fun k q h => ?_⟩⟩
  · match c, h with
    | 0, h => cases h; exact k0
    | 1, h => cases h; exact k1
    | 2, h => cases h; exact k2
    | 3, h => cases h; exact k3
    | 4, h => cases h; exact k4
    | 5, h => cases h; exact k5
    | n + 6, h => simp at h
  · match k, h with
    | 0, h => cases h; exact ⟨fun n z => ⟨fun k h => (by cases h), b0, f0, d0, g0⟩, e0⟩
    | 1, h => cases h; exact ⟨fun n z => ⟨fun k h => (by cases h), b1, f1, d1, g1⟩, e1⟩
    | 2, h => cases h; exact ⟨fun n z => ⟨fun k h => (by cases h), b2, f2, d2, g2⟩, e2⟩
    | 3, h => cases h; exact ⟨fun n z => ⟨fun k h => (by cases h), b3, f3, d3, g3⟩, b3, d3, f3, g3, e3, h3⟩
    | 4, h => cases h; exact ⟨fun n z => ⟨fun k h => (by cases h), b4, f4, d4, g4⟩, b4, d4, f4, g4, e4, h4⟩
    | 5, h => cases h; exact ⟨fun n z => ⟨fun k h => (by cases h), b5, f5, d5, g5⟩, b5, d5, f5, g5, e5, h5⟩
    | n + 6, h => simp at h
theorem lw_units {s : State} {b : Nat} (hgv : (Jvm.Cond.and given_1 narrow_1).before #[Value.ref b] s = true) : ∃ sa : Nat, (Term.static "AccountMachine" "SERVICE_UNITS" "[I").eval #[Value.ref b] s none [] s = some (.ref sa) ∧ va_T .int sa 4 (fun j => .int (gw_un j)) (fun q => s.heap.size ≤ q) s s.heap := by
  have hs := flat_of_before _ hgv
  refine va_Tof (by decide) (hs (.arrayOf (Term.static "AccountMachine" "SERVICE_UNITS" "[I") .int) (by decide +kernel)) (va_eqt (hs (.eq (.length (Term.static "AccountMachine" "SERVICE_UNITS" "[I")) (.int 4)) (by decide +kernel))) (fun j hj => ?_) (fun a h q => by omega)
  match j, hj with
  | 0, _ => exact va_eqt (hs (.eq (.elem (Term.static "AccountMachine" "SERVICE_UNITS" "[I") (.int 0)) (.int 1)) (by decide +kernel))
  | 1, _ => exact va_eqt (hs (.eq (.elem (Term.static "AccountMachine" "SERVICE_UNITS" "[I") (.int 1)) (.int 5)) (by decide +kernel))
  | 2, _ => exact va_eqt (hs (.eq (.elem (Term.static "AccountMachine" "SERVICE_UNITS" "[I") (.int 2)) (.int 1)) (by decide +kernel))
  | 3, _ => exact va_eqt (hs (.eq (.elem (Term.static "AccountMachine" "SERVICE_UNITS" "[I") (.int 3)) (.int 3)) (by decide +kernel))
theorem lw_turn {X : gw_X} {s : State} {H : Heap} {locs : List Loc} (hX : bw_ad X) (h0 : X.2.1 0 = s.heap.size) (G : bw_G X (bw_E X lw_C1 lw_R1 lw_N2) 100 s H locs) : gw_G X (gw_E X lw_C1 lw_R1) s H [] := by
  obtain ⟨hP, hD, hS⟩ := G
  rw [lw_W lw_made] at hP hD
  refine ⟨hP, ⟨hD.1, fun k q hk => ?_⟩, hS.1, fun q h1 _ => hS.2.1 q h1 (fun h2 => ?_), fun _ h => by cases h⟩
  · have hl : k < 100 := by
      have := (List.getElem?_eq_some_iff.mp hk).1
      rwa [gw_W_len] at this
    rw [gw_W_at hl] at hk
    cases hk
    exact ⟨k, hl, rfl⟩
  · have h3 : X.2.1 0 ≤ q := h2
    omega
set_option maxRecDepth 100000 in
set_option maxHeartbeats 8000000 in
/-- the law from its entry on, over a relation that every call keeps -/
theorem lw_begin {p : Program} {e : Env} {s : State} {m : MethodId} {below : List Frame} {meth : Method} {c : Code} (l : Launch) {b L : Nat} {xs : Nat → Int32} (hL : L ≤ 3584) (C0 : lw_At p s m meth c b L xs) {Rel : gw_M → gw_M → Prop} (ops : lw_ops Rel) (h0 : Rel lw_C1 lw_R1) : W p l e room_1 s m #[Value.ref b] below meth c s.heap [] 0 0 (lw_Z below #[Value.ref b] s) (entryFrame m ([Value.ref b] : List Value).toArray 4) := by
  have C9 := C0
  obtain ⟨hx, hb, hr, hml, hown, hts, hXs, hbl, hlocks, hgv⟩ := C0
  have hg : ∀ w ∈ gw_w, w.before #[Value.ref b] s = true := fun w h => hts w (List.mem_filter.mp h).1
  obtain ⟨D, ca, hKn⟩ := lw_known hts hg
  obtain ⟨sa, hsa, hT⟩ := lw_units hgv
  obtain ⟨X, hXe⟩ : ∃ X : gw_X, X = (D, fun k => s.heap.size + k, ca, sa) := ⟨_, rfl⟩
  have hKn : va_K X.1 gw_cl (gw_tys X) s := by
    rw [hXe]
    exact hKn _ _
  have hXk : ∀ k, X.2.1 k = s.heap.size + k := fun k => by rw [hXe]
  have hXs2 : X.2.2.2 = sa := by rw [hXe]
  have hX : bw_ad X := fun k => by
    have h1 := hXk k
    have h2 := hXk 0
    omega
  have hX0 : X.2.1 0 = s.heap.size := hXk 0
  have hA : X.2.1 0 ≤ s.heap.size := by omega
  have hnest : ∀ w ∈ gw_nest, va_Nw w s := fun w hw => va_Nw.of (gw_Nw_on hw) (hts w (List.mem_append_right _ (List.mem_filter.mp hw).1))
  have hlow : ∀ q, gw_A X q → s.heap.size ≤ q := fun q ⟨k, _, h⟩ => by
    have := hXk k
    omega
  have hKm : gw_K X s := by
    refine ⟨hKn, hnest, ?_, ?_⟩
    · rw [hXs2]
      exact va_Zref (hts (.laysStatic "AccountMachine" "SERVICE_UNITS" "[I") (List.mem_append_right _ (List.mem_of_getElem? (i := 227) (by decide +kernel)))) (hg _ kw_107) hsa (fun a h q => by
        have := hlow a q
        omega)
    · rw [hXs2]
      exact hT.narrow hlow
  have hK : bw_K X s := ⟨hKn, hnest, ⟨va_AO.of (hts (.arrayOver (.object "AccountMachine$Program")) (List.mem_append_right _ (List.mem_of_getElem? (i := 18) (by decide +kernel)))), va_AO.of (hts (.arrayOver (.object "AccountMachine$Order")) (List.mem_append_right _ (List.mem_of_getElem? (i := 51) (by decide +kernel)))), va_AO.of (hts (.arrayOver (.object "AccountMachine$Frame")) (List.mem_append_right _ (List.mem_of_getElem? (i := 53) (by decide +kernel))))⟩, hX⟩
  have G : bw_G X (bw_E X lw_Z0 lw_Z0 lw_N0) 0 s s.heap [] := ⟨fun k q h => by simp [gw_W] at h, ⟨fun i j p q h => by simp [gw_W] at h, fun k q h => by simp [gw_W] at h⟩, va_S.rf⟩
  rw [lg_entry_eq]
  have hl := lv_entry ([.ref b]) (n := 4) (Nat.le_of_ble_eq_true rfl)
  generalize (lg_sl ([.ref b]) ++ List.replicate (4 - (lg_sl ([.ref b])).length) Slot.unset).toArray = ls at hl ⊢
  have hl : lv_has ls 4 [(0, .ref b)] := hl
  refine bw_new (n := 0) (ci := 0) (fs := [.null, .null, .null, .null, .int 0, .null, .int 0, .int 0, .null, .int 0, .long 0]) (Cn := na_am) (T := fi_am) (Nf := 11) hx hb hg la_am ty_am tk_am hown (hg _ kw_595) (hg _ kw_593) (hg _ kw_107) hX (by omega) hA hKn G rfl (bc_N2 (by decide) (fun _ => rfl) rfl rfl) (by decide) (Nat.le_of_ble_eq_true rfl) (Nat.le_of_ble_eq_true rfl) dd_law_0 (fun H G => ?_)
  refine W.widen (k := 1) (n := 11) (Nat.le_of_ble_eq_true rfl) (Nat.le_of_ble_eq_true rfl) ?_
  refine lv_dup hx hb dd_law_3 rfl ?_
  refine bw_size (fun hz0 => ?_)
  have hz1 := bw_hz (n := 0) hX G (by have := hXk (0 + 1); omega) hz0
  have hM : Met l yy_am_init (Cond.code yy_am_init by_am_init 2 none :: gw_w) rm_am_init (va_Pc [.ref (gc_a X 0)] (bw_B X (bw_E X lw_Z0 lw_Z0 lw_N0) 1)) (bw_Q X (bw_E X lw_C1 lw_Z0 lw_N1) 76) 75 1224 (bw_A X) := ct_am_init l X lw_Z0 lw_Z0 lw_N0 lw_z0
  refine bw_cv G (va_runI (As := []) (rest := [.ref (gc_a X 0)]) ⟨hx, hb, hml, hown, hts⟩ hM (cwI 0 hts (gw_gNL kw_596) rfl rfl rfl (hg _ kw_107) (hg _ kw_597) (hg _ kw_598) rfl (by decide +kernel) ⟨Nat.le_of_ble_eq_true rfl, Nat.le_of_ble_eq_true rfl⟩) ⟨bw_blind, bw_pre hK G hz1⟩ rfl rfl hl.1 rfl (Nat.le_of_ble_eq_true rfl) dd_law_4 ⟨Nat.le_of_ble_eq_true rfl, Nat.le_of_ble_eq_true rfl⟩) (fun H locs G => ?_)
  refine W.widen (k := 76) (n := 1235) (Nat.le_of_ble_eq_true rfl) (Nat.le_of_ble_eq_true rfl) ?_
  refine lv_astore_n (i := 1) (lv' := [(1, .ref (gc_a X 0)), (0, .ref b)]) hx hb dd_law_7 rfl hl (by decide) rfl (fun ls hl => ?_)
  refine bw_new (n := 76) (ci := 5) (fs := [.null, .null, .null, .null, .null, .null, .null, .null, .null, .null, .null, .int 0, .null, .null, .null, .null, .null, .int 0, .null, .null, .null, .null, .null, .null, .int 0, .long 0, .null, .int 0]) (Cn := na_mo) (T := fi_mo) (Nf := 28) hx hb hg la_mo ty_mo tk_mo hown (hg _ kw_599) (hg _ kw_594) (hg _ kw_253) hX (by have := hXk 76; omega) hA hKn G rfl (br_N11 (k := 0) (by decide) (fun j => lw_z1.1 _ (by decide) j) rfl rfl) (by decide) (Nat.le_of_ble_eq_true rfl) (Nat.le_of_ble_eq_true rfl) dd_law_8 (fun H G => ?_)
  refine W.widen (k := 77) (n := 1263) (Nat.le_of_ble_eq_true rfl) (Nat.le_of_ble_eq_true rfl) ?_
  refine lv_dup hx hb dd_law_11 rfl ?_
  refine bw_size (fun hz0 => ?_)
  have hz1 := bw_hz (n := 76) hX G (by have := hXk (76 + 1); omega) hz0
  have hM2 : Met l yy_mo_init (Cond.code yy_mo_init by_mo_init 2 none :: gw_w) rm_mo_init (va_Pc [.ref (gr_a X 0)] (bw_B X (bw_E X lw_C1 lw_Z0 lw_N1) 77)) (bw_Q X (bw_E X lw_C1 lw_R1 lw_N2) 100) 23 1087 (bw_A X) := ct_mo_init l X lw_Z0 lw_C1 lw_N1 lw_z1
  refine bw_cv G (va_runI (As := []) (rest := [.ref (gr_a X 0)]) ⟨hx, hb, hml, hown, hts⟩ hM2 (cwI 0 hts (gw_gNL kw_600) rfl rfl rfl (hg _ kw_253) (hg _ kw_601) (hg _ kw_602) rfl (by decide +kernel) ⟨Nat.le_of_ble_eq_true rfl, Nat.le_of_ble_eq_true rfl⟩) ⟨bw_blind, bw_pre hK G hz1⟩ rfl rfl hl.1 rfl (Nat.le_of_ble_eq_true rfl) dd_law_12 ⟨Nat.le_of_ble_eq_true rfl, Nat.le_of_ble_eq_true rfl⟩) (fun H locs G => ?_)
  refine W.widen (k := 100) (n := 2350) (Nat.le_of_ble_eq_true rfl) (Nat.le_of_ble_eq_true rfl) ?_
  refine lv_astore_n (i := 2) (lv' := [(2, .ref (gr_a X 0)), (1, .ref (gc_a X 0)), (0, .ref b)]) hx hb dd_law_15 rfl hl (by decide) rfl (fun ls hl => ?_)
  refine lv_iconst (v := nI 0) hx hb dd_law_16 (by decide) ?_
  refine lv_istore_n (i := 3) (lv' := [(3, .int (nI 0)), (2, .ref (gr_a X 0)), (1, .ref (gc_a X 0)), (0, .ref b)]) hx hb dd_law_17 rfl hl (by decide) rfl (fun ls hl => ?_)
  refine va_forget (fun q hq => ?_) ?_
  · have h1 : X.2.1 0 ≤ q.base := G.2.2.2.2 q hq
    omega
  refine W.eq (g2 := F0 m 18 ls []) rfl ?_
  exact lw_loop ops hL C9 hKm (fun k => by have := hXk k; omega) 512 0 lw_C1 lw_R1 H [] ls (by omega) (Nat.zero_le _) h0 (lw_turn hX hX0 G) (lv_sub hl [3, 2, 1, 0] rfl)
