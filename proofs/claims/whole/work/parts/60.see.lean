/-! What a program sees of the accounts. -/
/-- a row of longs written from lo to hi -/
def pm_w (M : gw_M) (k lo hi : Nat) (g : Nat → Int64) : gw_M := (M.1, fun a => if a = k then (fun x => if lo ≤ x ∧ x < hi then g x else M.2 k x) else M.2 a)
theorem pm_w_1 {M : gw_M} {k lo hi : Nat} {g : Nat → Int64} : (pm_w M k lo hi g).1 = M.1 := rfl
theorem pm_w_n {M : gw_M} {k lo hi a : Nat} {g : Nat → Int64} (h : a ≠ k) : (pm_w M k lo hi g).2 a = M.2 a := if_neg h
theorem pm_w_k {M : gw_M} {k lo hi : Nat} {g : Nat → Int64} : (pm_w M k lo hi g).2 k = fun x => if lo ≤ x ∧ x < hi then g x else M.2 k x := if_pos rfl
theorem pm_w_in {M : gw_M} {k lo hi x : Nat} {g : Nat → Int64} (h : lo ≤ x ∧ x < hi) : (pm_w M k lo hi g).2 k x = g x := by
  rw [pm_w_k]
  exact if_pos h
theorem pm_w_out {M : gw_M} {k lo hi x : Nat} {g : Nat → Int64} (h : ¬ (lo ≤ x ∧ x < hi)) : (pm_w M k lo hi g).2 k x = M.2 k x := by
  rw [pm_w_k]
  exact if_neg h
theorem pm_w_0 {M : gw_M} {k lo : Nat} {g : Nat → Int64} : pm_w M k lo lo g = M := by
  refine Prod.ext rfl (funext fun a => ?_)
  by_cases h : a = k
  · subst h
    rw [pm_w_k]
    funext x
    exact if_neg (by omega)
  · exact pm_w_n h
theorem pm_w_s {M : gw_M} {k lo hi : Nat} {g : Nat → Int64} {v : Int64} (hl : lo ≤ hi) (hv : g hi = v) : gw_sL (pm_w M k lo hi g) k hi v = pm_w M k lo (hi + 1) g := by
  refine Prod.ext rfl (funext fun a => ?_)
  by_cases h : a = k
  · subst h
    funext x
    by_cases hx : x = hi
    · subst hx
      rw [pu_q2 rfl rfl, pm_w_in (by omega), hv]
    · rw [pu_q3 hx]
      by_cases h2 : lo ≤ x ∧ x < hi
      · rw [pm_w_in h2, pm_w_in (by omega)]
      · rw [pm_w_out h2, pm_w_out (by omega)]
  · rw [pu_q1 h, pm_w_n h, pm_w_n h]
/-- what stands behind a main slot's first two words -/
def pm_vl (C : gw_M) (a y : Nat) : Int64 := if y = 2 then (C.1 4 a).toInt64 else if y = 3 then (C.1 3 a).toInt64 else if y = 4 then (C.1 5 a).toInt64 else (C.1 6 (4 * a + (y - 5))).toInt64
def pm_vr (R : gw_M) (z a y : Nat) : Int64 := if y = 2 then (R.1 2 a).toInt64 else if y = 3 then (R.1 1 a).toInt64 else if y = 4 then (R.1 3 a).toInt64 else if z ≤ y - 5 then 0 else (R.1 4 (4 * a + (y - 5))).toInt64
theorem pm_vlr {C R : gw_M} (h : qa_R C R) {a z y : Nat} (ha : a < 8) (hz4 : z ≤ 4) (hz : C.1 5 a = nI z) (hy : 2 ≤ y) (hy2 : y < 9) : pm_vl C a y = pm_vr R z a y := by
  obtain ⟨b, o, z1, ⟨g1, g2, g3⟩, ⟨c1, c2⟩, ⟨c3, c4⟩, ⟨c5, c6⟩, c7⟩ := h a ha
  have hzz : z = z1 := (nI_eq (by omega) (by omega)).mp (hz.symm.trans c5)
  unfold pm_vl pm_vr
  rw [c1, c2, c3, c4, c5, c6]
  by_cases h2 : y = 2
  · rw [if_pos h2, if_pos h2]
  rw [if_neg h2, if_neg h2]
  by_cases h3 : y = 3
  · rw [if_pos h3, if_pos h3]
  rw [if_neg h3, if_neg h3]
  by_cases h4 : y = 4
  · rw [if_pos h4, if_pos h4]
  rw [if_neg h4, if_neg h4]
  obtain ⟨d1, d2⟩ := c7 (y - 5) (by omega)
  by_cases hl : z ≤ y - 5
  · rw [if_pos hl, d2 (by omega)]
    rfl
  · rw [if_neg hl, d1]
theorem pu_baseOf (M : gw_M) {i : Nat} (hi : i < 4) : fr_baseOf_b0 M (nI i) = some (nI (16 + 10 * i), M) := by
  unfold fr_baseOf_b0
  rw [pu_lit 10, pu_lit 16, pk_mul, nI_add, Nat.mul_comm i 10]
theorem pu_isMain {M : gw_M} {o i : Nat} (hi : i < 4) : fr_isMain_b0 M o (nI (16 + 10 * i)) = some (if M.2 (o + 5) (16 + 10 * i) < 0 then 0 else 1, M) := by
  unfold fr_isMain_b0
  rw [show nI (16 + 10 * i) + (0 : Int32) = nI (16 + 10 * i) by rw [pu_lit 0, nI_add, Nat.add_zero], pu_gi (by omega) (by decide), nI_clamp (by omega)]
  by_cases h : M.2 (o + 5) (16 + 10 * i) < 0
  · rw [if_pos h, if_pos (pu_cl.mpr h)]
  · rw [if_neg h, if_neg (fun z => h (pu_cl.mp z))]
theorem pu_seeW {C : gw_M} {o i a lo : Nat} {g : Nat → Int64} (hi : i < 4) (ha : a < 8) (hlo : lo ≤ 21 + 10 * i) (hg : ∀ w, w < 4 → g (21 + 10 * i + w) = (C.1 6 (4 * a + w)).toInt64) (K2 : gw_M → Nat → Nat → Int32 → Option (Unit × gw_M)) : ∀ (d w f : Nat), w + d = 4 → d < f → fr_seeAccounts_l88 K2 f (pm_w C (o + 5) lo (21 + 10 * i + w) g) o 2 (nI i) (nI (16 + 10 * i)) (nI a) (nI w) = K2 (pm_w C (o + 5) lo (25 + 10 * i) g) o 2 (nI (i + 1)) := by
  intro d
  induction d with
  | zero =>
    intro w f hw hf
    obtain ⟨f, rfl⟩ : ∃ n, f = n + 1 := ⟨f - 1, by omega⟩
    have hw4 : w = 4 := by omega
    subst hw4
    show fr_seeAccounts_b88 K2 (fr_seeAccounts_l88 K2 f) (pm_w C (o + 5) lo (21 + 10 * i + 4) g) o 2 (nI i) (nI (16 + 10 * i)) (nI a) (nI 4) = _
    unfold fr_seeAccounts_b88 fr_seeAccounts_b124
    rw [if_pos (show (4 : Int32) ≤ nI 4 by decide), nI_1, show 21 + 10 * i + 4 = 25 + 10 * i by omega]
  | succ d ih =>
    intro w f hw hf
    obtain ⟨f, rfl⟩ : ∃ n, f = n + 1 := ⟨f - 1, by omega⟩
    show fr_seeAccounts_b88 K2 (fr_seeAccounts_l88 K2 f) (pm_w C (o + 5) lo (21 + 10 * i + w) g) o 2 (nI i) (nI (16 + 10 * i)) (nI a) (nI w) = _
    unfold fr_seeAccounts_b88
    rw [if_neg (show ¬ (4 : Int32) ≤ nI w from nI_ge (b := 4) (by omega) (by decide)), pu_lit 4, pk_mul, nI_add, pu_lit 5, nI_add, nI_add, pu_gi (by omega) (by decide), pu_gi (by omega) (by decide), nI_clamp (by omega), nI_clamp (by omega), pu_lt, pm_w_1, show 16 + 10 * i + 5 + w = 21 + 10 * i + w by omega, Nat.mul_comm a 4, show 2 + 4 = 6 from rfl, pm_w_s (by omega) (hg w (by omega)), nI_1]
    exact ih (w + 1) f (by omega) (by omega)
theorem pu_see1 {C : gw_M} {o k i : Nat} {av mv : Nat → Nat} (hB : qs_B k av mv) (h : qs_C C (o + 1) k av mv) (hi : i < k) (K2 : gw_M → Nat → Nat → Int32 → Option (Unit × gw_M)) : fr_seeAccounts_b2 K2 C o 2 (nI i) = if C.2 (o + 5) (16 + 10 * i) < 0 then K2 C o 2 (nI (i + 1)) else K2 (pm_w C (o + 5) (18 + 10 * i) (25 + 10 * i) (fun x => pm_vl C (av i) (x - (16 + 10 * i)))) o 2 (nI (i + 1)) := by
  have hk := hB.1
  obtain ⟨a0, m0⟩ := hB.2 i hi
  unfold fr_seeAccounts_b2 fr_seeAccounts_b124
  rw [h.1, if_neg (nI_ge hi (by omega)), pu_baseOf C (by omega), pu_bd, pu_isMain (by omega), pu_bd]
  by_cases hs : C.2 (o + 5) (16 + 10 * i) < 0
  · rw [if_pos hs, if_pos rfl, if_pos hs, nI_1]
  rw [if_neg hs, if_neg pu_10, if_neg hs, pu_gi (show i < 4 by omega) (by decide), nI_clamp (by omega), show o + 1 + 1 = (o + 1) + 1 from rfl, (h.2 i hi).1]
  simp only [pu_lt, pu_gi (show av i < 8 from a0) (by decide), nI_clamp (show av i < 2 ^ 31 by omega), pu_lit 2, pu_lit 3, pu_lit 4, nI_add, pu_gi (show 16 + 10 * i + 2 < 56 by omega) (by decide), pu_gi (show 16 + 10 * i + 3 < 56 by omega) (by decide), pu_gi (show 16 + 10 * i + 4 < 56 by omega) (by decide), nI_clamp (show 16 + 10 * i + 2 < 2 ^ 31 by omega), nI_clamp (show 16 + 10 * i + 3 < 2 ^ 31 by omega), nI_clamp (show 16 + 10 * i + 4 < 2 ^ 31 by omega), pu_sL1, Nat.reduceAdd]
  obtain ⟨g, hg⟩ : ∃ g : Nat → Int64, g = fun x => pm_vl C (av i) (x - (16 + 10 * i)) := ⟨_, rfl⟩
  rw [← hg]
  have e2 : gw_sL C (o + 5) (16 + 10 * i + 2) (C.1 4 (av i)).toInt64 = pm_w C (o + 5) (18 + 10 * i) (19 + 10 * i) g := by
    have := @pm_w_s C (o + 5) (18 + 10 * i) (18 + 10 * i) g (C.1 4 (av i)).toInt64 (Nat.le_refl _) (by
      rw [hg]
      show pm_vl C (av i) (18 + 10 * i - (16 + 10 * i)) = _
      rw [show 18 + 10 * i - (16 + 10 * i) = 2 by omega]
      rfl)
    rw [pm_w_0] at this
    rw [show 16 + 10 * i + 2 = 18 + 10 * i by omega, this, show 18 + 10 * i + 1 = 19 + 10 * i by omega]
  have e3 : gw_sL (pm_w C (o + 5) (18 + 10 * i) (19 + 10 * i) g) (o + 5) (16 + 10 * i + 3) (C.1 3 (av i)).toInt64 = pm_w C (o + 5) (18 + 10 * i) (20 + 10 * i) g := by
    rw [show 16 + 10 * i + 3 = 19 + 10 * i by omega, pm_w_s (by omega), show 19 + 10 * i + 1 = 20 + 10 * i by omega]
    rw [hg]
    show pm_vl C (av i) (19 + 10 * i - (16 + 10 * i)) = _
    rw [show 19 + 10 * i - (16 + 10 * i) = 3 by omega]
    rfl
  have e4 : gw_sL (pm_w C (o + 5) (18 + 10 * i) (20 + 10 * i) g) (o + 5) (16 + 10 * i + 4) (C.1 5 (av i)).toInt64 = pm_w C (o + 5) (18 + 10 * i) (21 + 10 * i + 0) g := by
    rw [show 16 + 10 * i + 4 = 20 + 10 * i by omega, pm_w_s (by omega), show 20 + 10 * i + 1 = 21 + 10 * i + 0 by omega]
    rw [hg]
    show pm_vl C (av i) (20 + 10 * i - (16 + 10 * i)) = _
    rw [show 20 + 10 * i - (16 + 10 * i) = 4 by omega]
    rfl
  rw [e2, e3, e4]
  refine pu_seeW (by omega) a0 (by omega) (fun w hw => ?_) K2 4 0 2100 (by omega) (by omega)
  rw [hg]
  show pm_vl C (av i) (21 + 10 * i + w - (16 + 10 * i)) = _
  unfold pm_vl
  rw [if_neg (by omega), if_neg (by omega), if_neg (by omega), show 21 + 10 * i + w - (16 + 10 * i) - 5 = w by omega]
