/-! What handing back looks at in a slot. -/
def pm_b (b : Bool) : Int32 := match b with
  | true => 1
  | false => 0
theorem pm_b_0 {b : Bool} : pm_b b = 0 ↔ b = false := by
  cases b
  · exact ⟨fun _ => rfl, fun _ => rfl⟩
  · exact ⟨fun h => absurd h pu_10, fun h => by cases h⟩
def pm_z (dw : Nat → Int32) : Bool := decide (dw 0 = 0 ∧ dw 1 = 0 ∧ dw 2 = 0 ∧ dw 3 = 0)
def pm_e (dw wd : Nat → Int32) : Bool := decide (dw 0 = wd 0 ∧ dw 1 = wd 1 ∧ dw 2 = wd 2 ∧ dw 3 = wd 3)
/-- the fault of a slot: owner and balance words, data words, the account's own, whether writable, whether of the program's own -/
def pm_flt (own bal : Int64) (dw wd : Nat → Int32) (b0 o0 : Nat) (wr fu : Bool) : Int32 :=
  if own < 0 then 6 else if 4 ≤ own then 6
  else if ¬ own = lN o0 ∧ (fu = false ∨ pm_z dw = false) then 7
  else if bal < 0 then 7 else if 1000000 < bal then 7
  else if bal < lN b0 ∧ fu = false then 7
  else if lN b0 < bal ∧ wr = false then 7
  else if fu = false ∧ pm_e dw wd = false then 7 else 0
theorem pm_flt_small (own bal : Int64) (dw wd : Nat → Int32) (b0 o0 : Nat) (wr fu : Bool) : pm_flt own bal dw wd b0 o0 wr fu = 0 ∨ pm_flt own bal dw wd b0 o0 wr fu = 6 ∨ pm_flt own bal dw wd b0 o0 wr fu = 7 := by
  unfold pm_flt
  (repeat' split) <;> simp
theorem pu_hasData {M : gw_M} {o i : Nat} {dw : Nat → Int32} (hi : i < 4) (hd : ∀ w, w < 4 → (M.2 (o + 5) (16 + 10 * i + 5 + w)).toInt32 = dw w) : fr_hasData_b0 M o (nI (16 + 10 * i)) = some (if pm_z dw = true then 0 else 1, M) := by
  have step : ∀ n w, w < 4 → fr_hasData_l2 (n + 1) M o (nI (16 + 10 * i)) (nI w) = if dw w = 0 then fr_hasData_l2 n M o (nI (16 + 10 * i)) (nI (w + 1)) else some (1, M) := by
    intro n w hw
    show fr_hasData_b2 (fr_hasData_l2 n) M o (nI (16 + 10 * i)) (nI w) = _
    unfold fr_hasData_b2
    rw [if_neg (show ¬ (4 : Int32) ≤ nI w from nI_ge (b := 4) hw (by decide)), pu_lit 5, nI_add, nI_add, pu_gi (by omega) (by decide), nI_clamp (by omega), hd w hw, nI_1]
  have fin : ∀ n, fr_hasData_l2 (n + 1) M o (nI (16 + 10 * i)) (nI 4) = some (0, M) := by
    intro n
    show fr_hasData_b2 (fr_hasData_l2 n) M o (nI (16 + 10 * i)) (nI 4) = _
    unfold fr_hasData_b2
    rw [if_pos (show (4 : Int32) ≤ nI 4 by decide)]
  unfold fr_hasData_b0
  rw [show (2100 : Nat) = 2095 + 1 + 1 + 1 + 1 + 1 from rfl, show fr_hasData_l2 (2095 + 1 + 1 + 1 + 1 + 1) M o (nI (16 + 10 * i)) 0 = fr_hasData_l2 (2095 + 1 + 1 + 1 + 1 + 1) M o (nI (16 + 10 * i)) (nI 0) from rfl, step _ 0 (by decide), step _ 1 (by decide), step _ 2 (by decide), step _ 3 (by decide), fin]
  unfold pm_z
  by_cases h0 : dw 0 = 0 <;> by_cases h1 : dw 1 = 0 <;> by_cases h2 : dw 2 = 0 <;> by_cases h3 : dw 3 = 0 <;> simp [h0, h1, h2, h3]
theorem pu_hasNew {M : gw_M} {o i a : Nat} {dw wd : Nat → Int32} (hi : i < 4) (ha : a < 8) (hd : ∀ w, w < 4 → (M.2 (o + 5) (16 + 10 * i + 5 + w)).toInt32 = dw w) (hw : ∀ w, w < 4 → M.1 6 (4 * a + w) = wd w) : fr_hasNewData_b0 M o (nI (16 + 10 * i)) (nI a) 2 = some (if pm_e dw wd = true then 0 else 1, M) := by
  have step : ∀ n w, w < 4 → fr_hasNewData_l3 (n + 1) M o (nI (16 + 10 * i)) (nI a) 2 (nI w) = if dw w = wd w then fr_hasNewData_l3 n M o (nI (16 + 10 * i)) (nI a) 2 (nI (w + 1)) else some (1, M) := by
    intro n w hw4
    show fr_hasNewData_b3 (fr_hasNewData_l3 n) M o (nI (16 + 10 * i)) (nI a) 2 (nI w) = _
    unfold fr_hasNewData_b3
    rw [if_neg (show ¬ (4 : Int32) ≤ nI w from nI_ge (b := 4) hw4 (by decide)), pu_lit 5, nI_add, nI_add, pu_lit 4, pk_mul, nI_add, pu_gi (by omega) (by decide), pu_gi (by omega) (by decide), nI_clamp (by omega), nI_clamp (by omega), hd w hw4, Nat.mul_comm a 4, show (2 + 4 : Nat) = 6 from rfl, hw w hw4, nI_1]
  have fin : ∀ n, fr_hasNewData_l3 (n + 1) M o (nI (16 + 10 * i)) (nI a) 2 (nI 4) = some (0, M) := by
    intro n
    show fr_hasNewData_b3 (fr_hasNewData_l3 n) M o (nI (16 + 10 * i)) (nI a) 2 (nI 4) = _
    unfold fr_hasNewData_b3
    rw [if_pos (show (4 : Int32) ≤ nI 4 by decide)]
  unfold fr_hasNewData_b0
  rw [show (2100 : Nat) = 2095 + 1 + 1 + 1 + 1 + 1 from rfl, show fr_hasNewData_l3 (2095 + 1 + 1 + 1 + 1 + 1) M o (nI (16 + 10 * i)) (nI a) 2 0 = fr_hasNewData_l3 (2095 + 1 + 1 + 1 + 1 + 1) M o (nI (16 + 10 * i)) (nI a) 2 (nI 0) from rfl, step _ 0 (by decide), step _ 1 (by decide), step _ 2 (by decide), step _ 3 (by decide), fin]
  unfold pm_e
  by_cases h0 : dw 0 = wd 0 <;> by_cases h1 : dw 1 = wd 1 <;> by_cases h2 : dw 2 = wd 2 <;> by_cases h3 : dw 3 = wd 3 <;> simp [h0, h1, h2, h3]
theorem pu_fault {C : gw_M} {o k i b0 o0 : Nat} {av mv : Nat → Nat} {dw wd : Nat → Int32} {own bal : Int64} (hB : qs_B k av mv) (h : qs_C C (o + 1) k av mv) (hi : i < k) (hb : b0 ≤ 1000000) (ho : o0 < 4) (c3 : C.1 3 (av i) = nI b0) (c4 : C.1 4 (av i) = nI o0) (w2 : C.2 (o + 5) (16 + 10 * i + 2) = own) (w3 : C.2 (o + 5) (16 + 10 * i + 3) = bal) (w1 : C.2 (o + 5) (16 + 10 * i + 1) = (nI (pm_mk k av mv (av i))).toInt64) (hd : ∀ w, w < 4 → (C.2 (o + 5) (16 + 10 * i + 5 + w)).toInt32 = dw w) (hw : ∀ w, w < 4 → C.1 6 (4 * av i + w) = wd w) : fr_faultOf_b0 C o (nI i) 2 = some (pm_flt own bal dw wd b0 o0 (decide (2 ≤ pm_mk k av mv (av i))) (decide (2 ≤ pm_mk k av mv (av i) ∧ nI o0 = C.1 (o + 1) 0)), C) := by
  have hk := hB.1
  obtain ⟨a0, m0⟩ := hB.2 i hi
  have hm := pm_mk_lt hB (av i)
  have key : ∀ m, m < 4 → (lg_cmp ((nI m).toInt64 &&& 2) 0 = 0 ↔ ¬ 2 ≤ m) := by decide
  unfold fr_faultOf_b0 fr_faultOf_b38 fr_faultOf_b66 fr_faultOf_b67 fr_faultOf_b138 fr_faultOf_b176 fr_faultOf_b198
  rw [pu_baseOf C (by omega), pu_bd, pu_gi (show i < 4 by omega) (by decide), nI_clamp (show i < 2 ^ 31 by omega), (h.2 i hi).1]
  simp only [pu_lt, show nI (16 + 10 * i) + (1 : Int32) = nI (16 + 10 * i + 1) from nI_1 _, show nI (16 + 10 * i) + (2 : Int32) = nI (16 + 10 * i + 2) by rw [pu_lit 2, nI_add], show nI (16 + 10 * i) + (3 : Int32) = nI (16 + 10 * i + 3) by rw [pu_lit 3, nI_add], pu_gi (show 16 + 10 * i + 1 < 56 by omega) (by decide), pu_gi (show 16 + 10 * i + 2 < 56 by omega) (by decide), pu_gi (show 16 + 10 * i + 3 < 56 by omega) (by decide), nI_clamp (show 16 + 10 * i + 1 < 2 ^ 31 by omega), nI_clamp (show 16 + 10 * i + 2 < 2 ^ 31 by omega), nI_clamp (show 16 + 10 * i + 3 < 2 ^ 31 by omega), pu_gi (show av i < 8 from a0) (by decide), nI_clamp (show av i < 2 ^ 31 by omega), Nat.reduceAdd, w1, w2, w3, c3, c4, pu_hasData (show i < 4 by omega) hd, pu_hasNew (show i < 4 by omega) a0 hd hw, pu_bd, nI_l (show b0 < 2 ^ 31 by omega), nI_l (show o0 < 2 ^ 31 by omega)]
  generalize pm_mk k av mv (av i) = x at *
  have eL : ∀ y : Int64, (lg_cmp own 4 < 0) ↔ ¬ 4 ≤ own := fun _ => by
    rw [pu_cl, pu_lLt, pu_lLe]; omega
  have e6 : (lg_cmp bal 1000000 ≤ 0) ↔ ¬ 1000000 < bal := by
    rw [pu_cle, pu_lLt, pu_lLe]; omega
  have e7 : (lg_cmp bal (lN b0) ≤ 0) ↔ ¬ lN b0 < bal := by
    rw [pu_cle, pu_lLt, pu_lLe]; omega
  have e8 : (0 ≤ lg_cmp bal (lN b0)) ↔ ¬ bal < lN b0 := by
    rw [pu_cge, pu_lLt, pu_lLe]; omega
  have e4 := eL 0
  unfold pm_flt
  simp only [pu_c0, pu_cl (x := own) (y := 0), pu_cl (x := bal) (y := 0), e4, e6, e7, e8]
  generalize pm_z dw = DA
  generalize pm_e dw wd = DB
  have k1 : ((nI x).toInt64 &&& 2 = 0) ↔ ¬ 2 ≤ x := by
    rw [← pu_c0]; exact key x hm
  have hp3 : (own = lN o0) = True ∨ (own = lN o0) = False := by
    by_cases h : own = lN o0
    · exact Or.inl (eq_true h)
    · exact Or.inr (eq_false h)
  by_cases q1 : 2 ≤ x
  · have q1' : ¬ ((nI x).toInt64 &&& 2 = 0) := fun z => k1.mp z q1
    by_cases q2 : nI o0 = C.1 (o + 1) 0
    · by_cases p1 : own < 0 <;> by_cases p2 : 4 ≤ own <;> rcases hp3 with p3 | p3 <;> by_cases p4 : bal < 0 <;> by_cases p5 : 1000000 < bal <;> by_cases p6 : bal < lN b0 <;> by_cases p7 : lN b0 < bal <;> cases DA <;> cases DB <;> simp [q1, q1', q2, p1, p2, p3, p4, p5, p6, p7]
    · by_cases p1 : own < 0 <;> by_cases p2 : 4 ≤ own <;> rcases hp3 with p3 | p3 <;> by_cases p4 : bal < 0 <;> by_cases p5 : 1000000 < bal <;> by_cases p6 : bal < lN b0 <;> by_cases p7 : lN b0 < bal <;> cases DA <;> cases DB <;> simp [q1, q1', q2, p1, p2, p3, p4, p5, p6, p7]
  · have q1' : ((nI x).toInt64 &&& 2 = 0) := k1.mpr q1
    by_cases p1 : own < 0 <;> by_cases p2 : 4 ≤ own <;> rcases hp3 with p3 | p3 <;> by_cases p4 : bal < 0 <;> by_cases p5 : 1000000 < bal <;> by_cases p6 : bal < lN b0 <;> by_cases p7 : lN b0 < bal <;> cases DA <;> cases DB <;> simp [q1, q1', p1, p2, p3, p4, p5, p6, p7]
