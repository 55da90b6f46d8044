/-- the account owes rent -/
def qe_D (C : gw_M) (a : Nat) : Prop := ¬ C.1 3 a = 0 ∧ ¬ ((5 : Int32) + (2 : Int32) * C.1 5 a ≤ C.1 3 a)
theorem pu_or2 : ∀ a, a < 4 → ∀ b, b < 4 → (2 ≤ a ||| b ↔ 2 ≤ a ∨ 2 ≤ b) := by decide
theorem pm_mks_2 {k : Nat} {av mv : Nat → Nat} (hB : qs_B k av mv) {a : Nat} : ∀ (d j x : Nat), j + d ≤ k → x < 4 → (2 ≤ pm_mks av mv a d j x ↔ 2 ≤ x ∨ ∃ i, j ≤ i ∧ i < j + d ∧ av i = a ∧ 2 ≤ mv i) := by
  intro d
  induction d with
  | zero =>
    intro j x hj hx
    exact ⟨fun z => Or.inl z, fun z => z.elim id (fun ⟨i, h1, h2, _⟩ => absurd h2 (by omega))⟩
  | succ d ih =>
    intro j x hj hx
    have hm := (hB.2 j (by omega)).2
    show 2 ≤ pm_mks av mv a d (j + 1) (if av j = a then x ||| mv j else x) ↔ _
    by_cases he : av j = a
    · rw [if_pos he, ih (j + 1) _ (by omega) (pu_or4 x hx _ hm).2, pu_or2 x hx _ hm]
      constructor
      · rintro ((z | z) | ⟨i, h1, h2, h3⟩)
        · exact Or.inl z
        · exact Or.inr ⟨j, Nat.le_refl _, by omega, he, z⟩
        · exact Or.inr ⟨i, by omega, by omega, h3⟩
      · rintro (z | ⟨i, h1, h2, h3⟩)
        · exact Or.inl (Or.inl z)
        · by_cases hi : i = j
          · subst hi
            exact Or.inl (Or.inr h3.2)
          · exact Or.inr ⟨i, by omega, by omega, h3⟩
    · rw [if_neg he, ih (j + 1) _ (by omega) hx]
      constructor
      · rintro (z | ⟨i, h1, h2, h3⟩)
        · exact Or.inl z
        · exact Or.inr ⟨i, by omega, by omega, h3⟩
      · rintro (z | ⟨i, h1, h2, h3⟩)
        · exact Or.inl z
        · by_cases hi : i = j
          · subst hi
            exact absurd h3.1 he
          · exact Or.inr ⟨i, by omega, by omega, h3⟩
theorem pm_mk_2 {k : Nat} {av mv : Nat → Nat} (hB : qs_B k av mv) {a : Nat} : 2 ≤ pm_mk k av mv a ↔ ∃ i, i < k ∧ av i = a ∧ 2 ≤ mv i := (pm_mks_2 hB k 0 0 (by omega) (by decide)).trans ⟨fun z => z.elim (fun y => absurd y (by decide)) (fun ⟨i, _, h2, h3⟩ => ⟨i, by omega, h3⟩), fun ⟨i, h2, h3⟩ => Or.inr ⟨i, Nat.zero_le _, by omega, h3⟩⟩
theorem pu_ow19 {C : gw_M} {co k i : Nat} {av mv : Nat → Nat} (hB : qs_B k av mv) (hC : qs_C C co k av mv) (K2 : gw_M → Nat → Int32 → Option (Int32 × gw_M)) : ∀ (d j f : Nat), j + d = k → d < f → ((∃ z, j ≤ z ∧ z < k ∧ qe_D C (av z) ∧ 2 ≤ mv z) → am_owesRent_l19 K2 f C 0 (nI i) co (nI j) = some (1, C)) ∧ ((¬ ∃ z, j ≤ z ∧ z < k ∧ qe_D C (av z) ∧ 2 ≤ mv z) → am_owesRent_l19 K2 f C 0 (nI i) co (nI j) = K2 C 0 (nI (i + 1))) := by
  have hk := hB.1
  intro d
  induction d with
  | zero =>
    intro j f hj hf
    obtain ⟨f, rfl⟩ : ∃ g, f = g + 1 := ⟨f - 1, by omega⟩
    refine ⟨fun ⟨z, h1, h2, _⟩ => absurd h2 (by omega), fun _ => ?_⟩
    show am_owesRent_b19 K2 (am_owesRent_l19 K2 f) C 0 (nI i) co (nI j) = _
    unfold am_owesRent_b19
    rw [hC.1, if_pos (nI_le (by omega) (by omega)), nI_1]
  | succ d ih =>
    intro j f hj hf
    obtain ⟨f, rfl⟩ : ∃ g, f = g + 1 := ⟨f - 1, by omega⟩
    obtain ⟨hav, hmv⟩ := hB.2 j (by omega)
    obtain ⟨c1, c2⟩ := hC.2 j (by omega)
    have e80 : ∀ K19 : gw_M → Nat → Int32 → Nat → Int32 → Option (Int32 × gw_M), am_owesRent_b80 K2 K19 C 0 (nI i) co (nI j) 1 = if 2 ≤ mv j then some (1, C) else K19 C 0 (nI i) co (nI (j + 1)) := fun K19 => by
      unfold am_owesRent_b80 am_owesRent_b100
      rw [if_neg pu_10, pu_gi (show j < 4 by omega) (by decide), nI_clamp (show j < 2 ^ 31 by omega), c2, nI_1]
      by_cases h2 : 2 ≤ mv j
      · rw [if_pos h2, if_neg (fun z => (pu_k2 _ hmv).mp z h2)]
      · rw [if_neg h2, if_pos ((pu_k2 _ hmv).mpr h2)]
    have e1 : ((qe_D C (av j) ∧ 2 ≤ mv j) → am_owesRent_l19 K2 (f + 1) C 0 (nI i) co (nI j) = some (1, C)) ∧ (¬ (qe_D C (av j) ∧ 2 ≤ mv j) → am_owesRent_l19 K2 (f + 1) C 0 (nI i) co (nI j) = am_owesRent_l19 K2 f C 0 (nI i) co (nI (j + 1))) := by
      have e79 : am_owesRent_b79 K2 (am_owesRent_l19 K2 f) C 0 (nI i) co (nI j) = am_owesRent_l19 K2 f C 0 (nI i) co (nI (j + 1)) := by
        unfold am_owesRent_b79 am_owesRent_b80 am_owesRent_b100
        rw [if_pos rfl, nI_1]
      show ((qe_D C (av j) ∧ 2 ≤ mv j) → am_owesRent_b19 K2 (am_owesRent_l19 K2 f) C 0 (nI i) co (nI j) = some (1, C)) ∧ (¬ (qe_D C (av j) ∧ 2 ≤ mv j) → am_owesRent_b19 K2 (am_owesRent_l19 K2 f) C 0 (nI i) co (nI j) = am_owesRent_l19 K2 f C 0 (nI i) co (nI (j + 1)))
      unfold am_owesRent_b19
      rw [hC.1, if_neg (nI_ge (by omega) (by omega)), pu_gi (show j < 4 by omega) (by decide), nI_clamp (show j < 2 ^ 31 by omega), c1, pu_lt, pu_gi (show av j < 8 from hav) (by decide), pu_gi (show av j < 8 from hav) (by decide), pu_gi (show av j < 8 from hav) (by decide), nI_clamp (show av j < 2 ^ 31 by omega), e79, e80]
      unfold qe_D
      show ((_ ∧ _) → (if C.1 3 (av j) = 0 then _ else if (5 : Int32) + (2 : Int32) * C.1 5 (av j) ≤ C.1 3 (av j) then _ else _) = _) ∧ (_ → (if C.1 3 (av j) = 0 then _ else if (5 : Int32) + (2 : Int32) * C.1 5 (av j) ≤ C.1 3 (av j) then _ else _) = _)
      by_cases z1 : C.1 3 (av j) = 0
      · rw [if_pos z1]
        exact ⟨fun z => absurd z1 z.1.1, fun _ => rfl⟩
      · rw [if_neg z1]
        by_cases z2 : (5 : Int32) + (2 : Int32) * C.1 5 (av j) ≤ C.1 3 (av j)
        · rw [if_pos z2]
          exact ⟨fun z => absurd z2 z.1.2, fun _ => rfl⟩
        · rw [if_neg z2]
          by_cases z3 : 2 ≤ mv j
          · rw [if_pos z3]
            exact ⟨fun _ => rfl, fun z => absurd ⟨⟨z1, z2⟩, z3⟩ z⟩
          · rw [if_neg z3]
            exact ⟨fun z => absurd z.2 z3, fun _ => rfl⟩
    have := ih (j + 1) f (by omega) (by omega)
    by_cases hj1 : qe_D C (av j) ∧ 2 ≤ mv j
    · exact ⟨fun _ => e1.1 hj1, fun z => absurd ⟨j, Nat.le_refl _, by omega, hj1⟩ z⟩
    · rw [e1.2 hj1]
      refine ⟨fun ⟨z, h1, h2, h3⟩ => this.1 ⟨z, ?_, h2, h3⟩, fun z => this.2 (fun ⟨y, h1, h2, h3⟩ => z ⟨y, by omega, h2, h3⟩)⟩
      rcases Nat.lt_or_ge j z with h | h
      · omega
      · exact absurd (show qe_D C (av j) ∧ 2 ≤ mv j by rw [show j = z by omega]; exact h3) hj1
theorem pu_ow14 {C R : gw_M} {k i : Nat} {av mv : Nat → Nat} (hi : i < 3) (ha : qa_R C R) (hB : qs_B k av mv) (hR : qs_R R i k av mv) (K4 : gw_M → Nat → Int32 → Int32 → Option (Int32 × gw_M)) : ∀ (d j f : Nat) (a : Bool), j + d = k → d < f → ∃ b : Bool, (b = true ↔ a = true ∨ ∃ z, j ≤ z ∧ z < k ∧ qe_D C (av z) ∧ 2 ≤ pm_mk k av mv (av z)) ∧ mo_owesRent_l14 K4 f R 0 (pm_b a) (nI i) (nI j) = K4 R 0 (pm_b b) (nI (i + 1)) := by
  have hk := hB.1
  intro d
  induction d with
  | zero =>
    intro j f a hj hf
    obtain ⟨f, rfl⟩ : ∃ g, f = g + 1 := ⟨f - 1, by omega⟩
    refine ⟨a, ⟨fun z => Or.inl z, fun z => z.elim id (fun ⟨y, h1, h2, _⟩ => absurd h2 (by omega))⟩, ?_⟩
    show mo_owesRent_b14 K4 (mo_owesRent_l14 K4 f) R 0 (pm_b a) (nI i) (nI j) = _
    unfold mo_owesRent_b14
    rw [pu_gi (show i < 9 by omega) (by decide), nI_clamp (show i < 2 ^ 31 by omega), Nat.zero_add, hR.1, if_pos (nI_le (by omega) (by omega)), nI_1]
  | succ d ih =>
    intro j f a hj hf
    obtain ⟨f, rfl⟩ : ∃ g, f = g + 1 := ⟨f - 1, by omega⟩
    obtain ⟨hav, hmv⟩ := hB.2 j (by omega)
    obtain ⟨b0, o0, z0, -, ⟨x1, x2⟩, -, ⟨x3, x4⟩, -⟩ := ha _ hav
    have e1 : ∃ b : Bool, (b = true ↔ a = true ∨ (qe_D C (av j) ∧ 2 ≤ pm_mk k av mv (av j))) ∧ mo_owesRent_l14 K4 (f + 1) R 0 (pm_b a) (nI i) (nI j) = mo_owesRent_l14 K4 f R 0 (pm_b b) (nI i) (nI (j + 1)) := by
      show ∃ b : Bool, _ ∧ mo_owesRent_b14 K4 (mo_owesRent_l14 K4 f) R 0 (pm_b a) (nI i) (nI j) = _
      unfold mo_owesRent_b14 mo_owesRent_b85 mo_owesRent_b81 mo_owesRent_b86
      rw [pu_gi (show i < 9 by omega) (by decide), nI_clamp (show i < 2 ^ 31 by omega), Nat.zero_add, Nat.zero_add, Nat.zero_add, Nat.zero_add, hR.1, if_neg (nI_ge (by omega) (by omega)), show (4 : Int32) * nI i + nI j = nI (4 * i + j) by rw [pu_lit 4, pk_mul, nI_add], pu_gi (show 4 * i + j < 36 by omega) (by decide), nI_clamp (show 4 * i + j < 2 ^ 31 by omega), (hR.2 j (by omega)).1, pu_lt, nI_1]
      cases a with
      | true =>
        rw [if_neg (by decide)]
        exact ⟨true, ⟨fun _ => Or.inl rfl, fun _ => rfl⟩, rfl⟩
      | false =>
        rw [if_pos (show pm_b false = 0 from rfl), pu_writable (by omega) hB hR hav, pu_bd, pu_gi (show av j < 16 by omega) (by decide), pu_gi (show av j < 16 by omega) (by decide), pu_gi (show av j < 16 by omega) (by decide), nI_clamp (show av j < 2 ^ 31 by omega), x2, x4, ← x1, ← x3]
        unfold qe_D
        by_cases z3 : 2 ≤ pm_mk k av mv (av j)
        · rw [if_pos z3, if_neg pu_10]
          by_cases z1 : C.1 3 (av j) = 0
          · rw [if_pos z1]
            exact ⟨false, ⟨fun z => absurd z (by decide), fun z => z.elim id (fun y => absurd z1 y.1.1)⟩, rfl⟩
          · rw [if_neg z1]
            by_cases z2 : (5 : Int32) + (2 : Int32) * C.1 5 (av j) ≤ C.1 3 (av j)
            · rw [if_pos z2]
              exact ⟨false, ⟨fun z => absurd z (by decide), fun z => z.elim id (fun y => absurd z2 y.1.2)⟩, rfl⟩
            · rw [if_neg z2]
              exact ⟨true, ⟨fun _ => Or.inr ⟨⟨z1, z2⟩, z3⟩, fun _ => rfl⟩, rfl⟩
        · rw [if_neg z3, if_pos rfl]
          exact ⟨false, ⟨fun z => absurd z (by decide), fun z => z.elim id (fun y => absurd y.2 z3)⟩, rfl⟩
    obtain ⟨b, hb, e1⟩ := e1
    obtain ⟨b2, hb2, e2⟩ := ih (j + 1) f b (by omega) (by omega)
    refine ⟨b2, hb2.trans ?_, e1.trans e2⟩
    rw [hb]
    constructor
    · rintro ((z | z) | ⟨y, h1, h2, h3⟩)
      · exact Or.inl z
      · exact Or.inr ⟨j, Nat.le_refl _, by omega, z⟩
      · exact Or.inr ⟨y, by omega, h2, h3⟩
    · rintro (z | ⟨y, h1, h2, h3⟩)
      · exact Or.inl (Or.inl z)
      · by_cases hy : y = j
        · subst hy
          exact Or.inl (Or.inr h3)
        · exact Or.inr ⟨y, by omega, h2, h3⟩
theorem pu_owL {C R : gw_M} {n : Nat} (ha : qa_R C R) (hn : n ≤ 3) (h4 : C.1 0 4 = nI n) (h11 : R.1 0 11 = nI n) (ho : ∀ i, i < n → qo_R1 C R (39 + 3 * i) i) : ∀ (d i f1 f2 : Nat), i + d = n → d < f1 → d < f2 → ∃ b : Bool, am_owesRent_l2 f1 C 0 (nI i) = some (pm_b b, C) ∧ ∀ a : Bool, mo_owesRent_l4 f2 R 0 (pm_b a) (nI i) = some (pm_b (a || b), R) := by
  intro d
  induction d with
  | zero =>
    intro i f1 f2 hi hf1 hf2
    obtain ⟨f1, rfl⟩ : ∃ g, f1 = g + 1 := ⟨f1 - 1, by omega⟩
    obtain ⟨f2, rfl⟩ : ∃ g, f2 = g + 1 := ⟨f2 - 1, by omega⟩
    refine ⟨false, ?_, fun a => ?_⟩
    · show am_owesRent_b2 (am_owesRent_l2 f1) C 0 (nI i) = _
      unfold am_owesRent_b2
      rw [h4, if_pos (nI_le (by omega) (by omega))]
      rfl
    · show mo_owesRent_b4 (mo_owesRent_l4 f2) R 0 (pm_b a) (nI i) = _
      unfold mo_owesRent_b4
      rw [h11, if_pos (nI_le (by omega) (by omega)), pu_g (by cases a <;> decide), Bool.or_false]
  | succ d ih =>
    intro i f1 f2 hi hf1 hf2
    obtain ⟨f1, rfl⟩ : ∃ g, f1 = g + 1 := ⟨f1 - 1, by omega⟩
    obtain ⟨f2, rfl⟩ : ∃ g, f2 = g + 1 := ⟨f2 - 1, by omega⟩
    obtain ⟨k, av, mv, hB, hC, hR⟩ := qs_of (ho i (by omega))
    have hk := hB.1
    obtain ⟨b, hb1, hb2⟩ := ih (i + 1) f1 f2 (by omega) (by omega) (by omega)
    have eC := pu_ow19 (i := i) hB hC (am_owesRent_l2 f1) k 0 2100 (Nat.zero_add _) (by omega)
    have fC : am_owesRent_l2 (f1 + 1) C 0 (nI i) = am_owesRent_l19 (am_owesRent_l2 f1) 2100 C 0 (nI i) (39 + 3 * i) (nI 0) := by
      show am_owesRent_b2 (am_owesRent_l2 f1) C 0 (nI i) = _
      unfold am_owesRent_b2
      rw [h4, if_neg (nI_ge (by omega) (by omega)), pu_gi (show i < 3 by omega) (by decide), nI_clamp (show i < 2 ^ 31 by omega), pu_lt, show 0 + 12 + 27 + 3 * i = 39 + 3 * i by omega]
      rfl
    have fR : ∀ a : Bool, mo_owesRent_l4 (f2 + 1) R 0 (pm_b a) (nI i) = mo_owesRent_l14 (mo_owesRent_l4 f2) 2100 R 0 (pm_b a) (nI i) (nI 0) := fun a => by
      show mo_owesRent_b4 (mo_owesRent_l4 f2) R 0 (pm_b a) (nI i) = _
      unfold mo_owesRent_b4
      rw [h11, if_neg (nI_ge (by omega) (by omega))]
      rfl
    have iff : (∃ z, 0 ≤ z ∧ z < k ∧ qe_D C (av z) ∧ 2 ≤ mv z) ↔ ∃ z, 0 ≤ z ∧ z < k ∧ qe_D C (av z) ∧ 2 ≤ pm_mk k av mv (av z) := by
      constructor
      · rintro ⟨z, h0, h1, h2, h3⟩
        exact ⟨z, h0, h1, h2, (pm_mk_2 hB).mpr ⟨z, h1, rfl, h3⟩⟩
      · rintro ⟨z, h0, h1, h2, h3⟩
        obtain ⟨y, y1, y2, y3⟩ := (pm_mk_2 hB).mp h3
        exact ⟨y, Nat.zero_le _, y1, by rw [y2]; exact h2, y3⟩
    by_cases hf : ∃ z, 0 ≤ z ∧ z < k ∧ qe_D C (av z) ∧ 2 ≤ mv z
    · refine ⟨true, fC.trans (eC.1 hf), fun a => ?_⟩
      obtain ⟨b', hb', e'⟩ := pu_ow14 (show i < 3 by omega) ha hB hR (mo_owesRent_l4 f2) k 0 2100 a (Nat.zero_add _) (by omega)
      obtain rfl : b' = true := hb'.mpr (Or.inr (iff.mp hf))
      rw [fR, e', hb2 true, Bool.true_or, Bool.or_true]
    · refine ⟨b, fC.trans ((eC.2 hf).trans hb1), fun a => ?_⟩
      obtain ⟨b', hb', e'⟩ := pu_ow14 (show i < 3 by omega) ha hB hR (mo_owesRent_l4 f2) k 0 2100 a (Nat.zero_add _) (by omega)
      obtain rfl : b' = a := by
        cases a with
        | true => exact hb'.mpr (Or.inl rfl)
        | false =>
          cases b' with
          | false => rfl
          | true => exact (hb'.mp rfl).elim (fun z => absurd z (by decide)) (fun z => absurd (iff.mpr z) hf)
      rw [fR, e', hb2 b']
theorem qx_owes {C R : gw_M} (ha : qa_R C R) (ho : qo_R C R) : ∃ b : Bool, am_owesRent_b0 C 0 = some (pm_b b, C) ∧ mo_owesRent_b0 R 0 = some (pm_b b, R) := by
  obtain ⟨n, hn, h4, h11, ho⟩ := ho
  obtain ⟨b, h1, h2⟩ := pu_owL ha hn h4 h11 ho n 0 2100 2100 (Nat.zero_add _) (by omega) (by omega)
  exact ⟨b, h1, h2 false⟩
