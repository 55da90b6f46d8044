theorem qx_can {C R : gw_M} {q : Nat} (hq : q < 4) (h : qp_R C R) : ∃ b : Nat, (b = 0 ∨ b = 1) ∧ am_canRun_b0 C 0 (nI q) = some (nI b, C) ∧ mo_canRun_b0 R 0 (lN q) = some (nI b, R) ∧ (b = 1 → q ≠ 0 → ∃ n, n ≤ 32 ∧ 0 < n ∧ C.1 (21 + 6 * (q - 1)) 5 = nI n ∧ C.1 (21 + 6 * (q - 1)) 6 = 1) := by
  unfold am_canRun_b0 mo_canRun_b0 am_canRun_b16 mo_canRun_b29
  by_cases h0 : q = 0
  · subst h0
    exact ⟨1, Or.inr rfl, by rw [if_pos (show nI 0 = (0 : Int32) from rfl)]; rfl, by rw [if_pos (pu_c0.mpr (show lN 0 = (0 : Int64) from rfl))]; rfl, fun _ z => absurd rfl z⟩
  · obtain ⟨p, rfl⟩ : ∃ p, q = p + 1 := ⟨q - 1, by omega⟩
    obtain ⟨n, hn, hn2, hl, -⟩ := h p (by omega)
    rw [if_neg (show ¬ nI (p + 1) = (0 : Int32) from nI_ne0 (by omega) (by omega)), pu_gi (show p + 1 < 4 by omega) (by decide), nI_clamp (show p + 1 < 2 ^ 31 by omega), if_neg (show ¬ lg_cmp (lN (p + 1)) 0 = 0 by rw [pu_c0, pu_lEq, pu_lNt (by omega), pu_L0]; omega), pu_moin, pu_L1, pu_L3, pu_lNt (show p + 1 < 2 ^ 31 by omega), pu_bd, if_pos (show (1 : Int) ≤ ((p + 1 : Nat) : Int) ∧ ((p + 1 : Nat) : Int) ≤ 3 by omega), if_neg pu_10, show (lN (p + 1)).toInt32 - 1 = nI p by rw [lN_i, nI_succ, Int32.add_sub_cancel], pu_gi (show p < 3 by omega) (by decide), nI_clamp (show p < 2 ^ 31 by omega), Nat.zero_add, show 0 + 1 + 14 + 6 * (p + 1) = 21 + 6 * p by omega, show p + 1 - 1 = p by omega]
    rcases hl with ⟨c, r⟩ | ⟨c, r, hn0, -⟩
    · rw [if_pos c, if_pos r]
      exact ⟨0, Or.inl rfl, rfl, rfl, fun z => absurd z (by decide)⟩
    · rw [if_neg (by rw [c]; decide), if_neg (by rw [r]; decide)]
      exact ⟨1, Or.inr rfl, rfl, rfl, fun _ _ => ⟨n, hn, hn0, hn2.1, c⟩⟩
/-- the programs of the frames up to t -/
def qw_P (C R : gw_M) (t : Nat) (pv : Nat → Nat) : Prop := ∀ s, s ≤ t → pv s < 3 ∧ C.1 (49 + 7 * s) 0 = nI (pv s + 1) ∧ R.1 12 (4 + s) = nI (pv s + 1)
theorem qw_ex {C R : gw_M} {t : Nat} (h : ∀ s, s ≤ t → ∃ p, p < 3 ∧ C.1 (49 + 7 * s) 0 = nI (p + 1) ∧ R.1 12 (4 + s) = nI (p + 1)) : ∃ pv, qw_P C R t pv := ⟨fun s => (C.1 (49 + 7 * s) 0).toNatClampNeg - 1, fun s hs => by
  obtain ⟨p, hp, a, b⟩ := h s hs
  have e : (C.1 (49 + 7 * s) 0).toNatClampNeg - 1 = p := by rw [a, nI_clamp (by omega)]; omega
  show (C.1 (49 + 7 * s) 0).toNatClampNeg - 1 < 3 ∧ C.1 (49 + 7 * s) 0 = nI ((C.1 (49 + 7 * s) 0).toNatClampNeg - 1 + 1) ∧ R.1 12 (4 + s) = nI ((C.1 (49 + 7 * s) 0).toNatClampNeg - 1 + 1)
  rw [e]
  exact ⟨hp, a, b⟩⟩
theorem pu_underL {C R : gw_M} {t q : Nat} {pv : Nat → Nat} (ht : t < 4) (hq : q < 4) (h : qw_P C R t pv) (h6 : C.1 0 6 = nI (t + 1)) : ∀ (d s f : Nat), s + d = t + 1 → d < f → ((∃ z, s ≤ z ∧ z ≤ t ∧ pv z + 1 = q) → am_isUnderWay_l2 f C 0 (nI q) (nI s) = some (1, C)) ∧ ((¬ ∃ z, s ≤ z ∧ z ≤ t ∧ pv z + 1 = q) → am_isUnderWay_l2 f C 0 (nI q) (nI s) = some (0, C)) := by
  intro d
  induction d with
  | zero =>
    intro s f hs hf
    obtain ⟨f, rfl⟩ : ∃ g, f = g + 1 := ⟨f - 1, by omega⟩
    refine ⟨fun ⟨z, z1, z2, _⟩ => absurd z2 (by omega), fun _ => ?_⟩
    show am_isUnderWay_b2 (am_isUnderWay_l2 f) C 0 (nI q) (nI s) = _
    unfold am_isUnderWay_b2
    rw [h6, if_pos (nI_le (by omega) (by omega))]
  | succ d ih =>
    intro s f hs hf
    obtain ⟨f, rfl⟩ : ∃ g, f = g + 1 := ⟨f - 1, by omega⟩
    obtain ⟨hp, hc, -⟩ := h s (by omega)
    have e1 : am_isUnderWay_l2 (f + 1) C 0 (nI q) (nI s) = if pv s + 1 = q then some (1, C) else am_isUnderWay_l2 f C 0 (nI q) (nI (s + 1)) := by
      show am_isUnderWay_b2 (am_isUnderWay_l2 f) C 0 (nI q) (nI s) = _
      unfold am_isUnderWay_b2
      rw [h6, if_neg (nI_ge (by omega) (by omega)), pu_gi (show s < 4 by omega) (by decide), nI_clamp (show s < 2 ^ 31 by omega), show 0 + 13 + 35 + 7 * s + 1 = 49 + 7 * s by omega, hc, nI_1]
      by_cases he : pv s + 1 = q
      · rw [if_pos he, if_pos (by rw [he])]
      · rw [if_neg he, if_neg (fun z => he ((nI_eq (by omega) (by omega)).mp z))]
    rw [e1]
    have := ih (s + 1) f (by omega) (by omega)
    by_cases he : pv s + 1 = q
    · rw [if_pos he]
      exact ⟨fun _ => rfl, fun z => absurd ⟨s, Nat.le_refl _, by omega, he⟩ z⟩
    · rw [if_neg he]
      refine ⟨fun ⟨z, z1, z2, z3⟩ => this.1 ⟨z, ?_, z2, z3⟩, fun z => this.2 (fun ⟨y, y1, y2, y3⟩ => z ⟨y, by omega, y2, y3⟩)⟩
      rcases Nat.lt_or_ge s z with hh | hh
      · omega
      · exact absurd (show pv s + 1 = q by rw [show s = z by omega]; exact z3) he
/-- program q stands below the running one, not being it -/
def qw_A (q t : Nat) (pv : Nat → Nat) : Prop := q ≠ 0 ∧ q ≠ pv t + 1 ∧ ∃ z, z ≤ t ∧ pv z + 1 = q
theorem pu_rl {C R : gw_M} {t q : Nat} {pv : Nat → Nat} (ht : t < 4) (hq : q < 4) (h : qw_P C R t pv) (h6 : C.1 0 6 = nI (t + 1)) : (qw_A q t pv → pm_rl C (48 + 7 * t) (nI q) = some (11, C)) ∧ (¬ qw_A q t pv → pm_rl C (48 + 7 * t) (nI q) = some (if t < 3 then 0 else 12, C)) := by
  have e112 : am_refusal_b112 C 0 = some (if t < 3 then 0 else 12, C) := by
    unfold am_refusal_b112
    rw [h6, pu_lit 4]
    by_cases h3 : t < 3
    · rw [if_pos h3, if_pos (nI_lt (by omega) (by omega))]
    · rw [if_neg h3, if_neg (nI_nlt (by omega) (by omega))]
  obtain ⟨hp, hc, -⟩ := h t (Nat.le_refl _)
  have hu := pu_underL ht hq h h6 (t + 1) 0 2100 (Nat.zero_add _) (by omega)
  unfold pm_rl
  rw [e112, show 48 + 7 * t + 1 = 49 + 7 * t by omega, hc]
  by_cases h0 : q = 0
  · subst h0
    rw [if_pos (show nI 0 = (0 : Int32) from rfl)]
    exact ⟨fun z => absurd rfl z.1, fun _ => rfl⟩
  · rw [if_neg (show ¬ nI q = (0 : Int32) from nI_ne0 (by omega) (by omega))]
    by_cases ho : q = pv t + 1
    · rw [if_pos (by rw [ho])]
      exact ⟨fun z => absurd ho z.2.1, fun _ => rfl⟩
    · rw [if_neg (fun z => ho ((nI_eq (by omega) (by omega)).mp z))]
      constructor
      · intro ⟨_, _, z, z1, z2⟩
        rw [show am_isUnderWay_b0 C 0 (nI q) = some (1, C) from hu.1 ⟨z, Nat.zero_le _, z1, z2⟩, pu_bd, if_neg pu_10]
      · intro z
        rw [show am_isUnderWay_b0 C 0 (nI q) = some (0, C) from hu.2 (fun ⟨y, _, y1, y2⟩ => z ⟨h0, ho, y, y1, y2⟩), pu_bd, if_pos rfl, e112]
theorem pu_againL {C R : gw_M} {t q : Nat} {pv : Nat → Nat} {v4 : Int32} (ht : t < 4) (hq : q < 4) (h : qw_P C R t pv) : ∀ (d s f : Nat) (a : Bool), s + d = t + 1 → d < f → ∃ (g : Nat) (b : Bool), (b = true ↔ a = true ∨ (q ≠ 0 ∧ q ≠ pv t + 1 ∧ ∃ z, s ≤ z ∧ z ≤ t ∧ pv z + 1 = q)) ∧ mo_invoke_l55 f R 0 (nI (t + 1)) (lN q) v4 (pm_b a) (nI (s + 1)) = mo_invoke_b55 (mo_invoke_l55 g) R 0 (nI (t + 1)) (lN q) v4 (pm_b b) (nI (t + 2)) := by
  intro d
  induction d with
  | zero =>
    intro s f a hs hf
    obtain ⟨f, rfl⟩ : ∃ g, f = g + 1 := ⟨f - 1, by omega⟩
    obtain rfl : s = t + 1 := by omega
    exact ⟨f, a, ⟨fun z => Or.inl z, fun z => z.elim id (fun ⟨_, _, y, y1, y2, _⟩ => absurd y2 (by omega))⟩, rfl⟩
  | succ d ih =>
    intro s f a hs hf
    obtain ⟨f, rfl⟩ : ∃ g, f = g + 1 := ⟨f - 1, by omega⟩
    obtain ⟨hp, -, hr⟩ := h s (by omega)
    obtain ⟨hpt, -, hrt⟩ := h t (Nat.le_refl _)
    have e1 : ∃ b : Bool, (b = true ↔ a = true ∨ (q ≠ 0 ∧ q ≠ pv t + 1 ∧ pv s + 1 = q)) ∧ mo_invoke_l55 (f + 1) R 0 (nI (t + 1)) (lN q) v4 (pm_b a) (nI (s + 1)) = mo_invoke_l55 f R 0 (nI (t + 1)) (lN q) v4 (pm_b b) (nI (s + 1 + 1)) := by
      show ∃ b : Bool, _ ∧ mo_invoke_b55 (mo_invoke_l55 f) R 0 (nI (t + 1)) (lN q) v4 (pm_b a) (nI (s + 1)) = _
      unfold mo_invoke_b55 mo_invoke_b101 mo_invoke_b105 mo_invoke_b106
      rw [if_neg (nI_nlt (show s + 1 ≤ t + 1 by omega) (by omega)), nI_1]
      cases a with
      | true =>
        rw [if_neg (by decide)]
        exact ⟨true, ⟨fun _ => Or.inl rfl, fun _ => rfl⟩, rfl⟩
      | false =>
        rw [if_pos (show pm_b false = 0 from rfl)]
        by_cases h0 : q = 0
        · subst h0
          rw [if_pos (pu_cle.mpr (by decide))]
          exact ⟨false, ⟨fun z => absurd z (by decide), fun z => z.elim id (fun y => absurd rfl y.1)⟩, rfl⟩
        · rw [if_neg (fun z => h0 (by have := pu_lLe.mp (pu_cle.mp z); rw [pu_lNt (by omega), pu_L0] at this; omega)), show (3 : Int32) + nI (s + 1) = nI (4 + s) by rw [pu_lit 3, nI_add]; congr 1; omega, pu_gi (show 4 + s < 9 by omega) (by decide), nI_clamp (show 4 + s < 2 ^ 31 by omega), Nat.zero_add, hr, show (3 : Int32) + nI (t + 1) = nI (4 + t) by rw [pu_lit 3, nI_add]; congr 1; omega, pu_gi (show 4 + t < 9 by omega) (by decide), nI_clamp (show 4 + t < 2 ^ 31 by omega), hrt, nI_l (by omega), nI_l (by omega)]
          by_cases he : pv s + 1 = q
          · rw [if_pos (pu_c0.mpr (by rw [he]))]
            by_cases ho : q = pv t + 1
            · rw [if_pos (pu_c0.mpr (by rw [ho]))]
              exact ⟨false, ⟨fun z => absurd z (by decide), fun z => z.elim id (fun y => absurd ho y.2.1)⟩, rfl⟩
            · rw [if_neg (fun z => ho (by have := pu_lEq.mp (pu_c0.mp z); rw [pu_lNt (by omega), pu_lNt (by omega)] at this; omega))]
              exact ⟨true, ⟨fun _ => Or.inr ⟨h0, ho, he⟩, fun _ => rfl⟩, rfl⟩
          · rw [if_neg (fun z => he (by have := pu_lEq.mp (pu_c0.mp z); rw [pu_lNt (by omega), pu_lNt (by omega)] at this; omega))]
            exact ⟨false, ⟨fun z => absurd z (by decide), fun z => z.elim id (fun y => absurd y.2.2 he)⟩, rfl⟩
    obtain ⟨b, hb, e1⟩ := e1
    obtain ⟨g, b2, hb2, e2⟩ := ih (s + 1) f b (by omega) (by omega)
    refine ⟨g, b2, hb2.trans ?_, e1.trans e2⟩
    rw [hb]
    constructor
    · rintro ((z | ⟨z1, z2, z3⟩) | ⟨z1, z2, y, y1, y2, y3⟩)
      · exact Or.inl z
      · exact Or.inr ⟨z1, z2, s, Nat.le_refl _, by omega, z3⟩
      · exact Or.inr ⟨z1, z2, y, by omega, y2, y3⟩
    · rintro (z | ⟨z1, z2, y, y1, y2, y3⟩)
      · exact Or.inl (Or.inl z)
      · by_cases hy : y = s
        · subst hy
          exact Or.inl (Or.inr ⟨z1, z2, y3⟩)
        · exact Or.inr ⟨z1, z2, y, by omega, y2, y3⟩
