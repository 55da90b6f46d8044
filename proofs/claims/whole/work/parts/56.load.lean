/-! load: the loops, the call -/
def pm_dn (rs : Nat → Int32) : Nat → Int32 → Int32
  | 0, a => a
  | i + 1, a => pm_dn rs i (if rs i = 0 then a else (100 : Int32) * nI i + rs i)
theorem pm_dn_s {rs : Nat → Int32} {i : Nat} {a : Int32} : pm_dn rs (i + 1) a = pm_dn rs i (if rs i = 0 then a else (100 : Int32) * nI i + rs i) := rfl
theorem pm_dn_chk {rs : Nat → Int32} : ∀ (i d : Nat), pm_dn rs i (pm_chk rs d i) = pm_chk rs (i + d) 0 := by
  intro i
  induction i with
  | zero =>
    intro d
    rw [Nat.zero_add]
    rfl
  | succ i ih =>
    intro d
    rw [pm_dn_s, ← pm_chk_s, ih (d + 1), show i + (d + 1) = i + 1 + d by omega]
theorem pu_vn0 : vp_nar .boolean (0 : Int32) = 0 := rfl
theorem pu_vn1 : vp_nar .boolean (1 : Int32) = 1 := rfl
theorem pu_loadL {R : gw_M} {p n : Nat} (hp : p < 3) (hn : n ≤ 32) {rs : Nat → Int32} (hr : ∀ j, ∃ r : Nat, r < 6 ∧ rs j = nI r) (hrs : ∀ i, i < n → mo_reason_b0 R 0 (nI (p + 1)) (nI i) = some (rs i, R)) : ∀ (i f : Nat) (a : Int32), i ≤ n → i < f → mo_load_l42 f R 0 (nI (p + 1)) a (nI i - 1) = some (pm_dn rs i a, gw_sI R 6 p (if pm_dn rs i a = 0 then 1 else 0)) := by
  intro i
  induction i with
  | zero =>
    intro f a _ hf
    obtain ⟨f, rfl⟩ : ∃ g, f = g + 1 := ⟨f - 1, by omega⟩
    have hu : mo_load_l42 (f + 1) R 0 (nI (p + 1)) a (nI 0 - 1) = mo_load_b42 (mo_load_l42 f) R 0 (nI (p + 1)) a (nI 0 - 1) := rfl
    rw [hu]
    unfold mo_load_b42 mo_load_b93
    rw [if_pos (show nI 0 - 1 < 0 by decide)]
    show _ = some (a, gw_sI R 6 p (if a = 0 then 1 else 0))
    simp only [nI_pred, pu_gi (show p < 3 from hp) (by decide), nI_clamp (show p < 2 ^ 31 by omega), Nat.zero_add, pu_lt, pu_vn0, pu_vn1]
    by_cases h0 : a = 0
    · simp only [if_pos h0]
    · simp only [if_neg h0]
  | succ i ih =>
    intro f a hi hf
    obtain ⟨f, rfl⟩ : ∃ g, f = g + 1 := ⟨f - 1, by omega⟩
    have hu : mo_load_l42 (f + 1) R 0 (nI (p + 1)) a (nI (i + 1) - 1) = mo_load_b42 (mo_load_l42 f) R 0 (nI (p + 1)) a (nI (i + 1) - 1) := rfl
    rw [hu, nI_pred]
    unfold mo_load_b42 mo_load_b70
    rw [if_neg (nI_pos (by omega)), hrs i (by omega), pu_bd]
    have e1 : nI i + (-1) = nI i - 1 := by rw [Int32.sub_eq_add_neg]
    rw [e1, pm_dn_s]
    obtain ⟨r, hr1, hr2⟩ := hr i
    by_cases h0 : rs i = 0
    · rw [if_pos h0, if_pos (by rw [h0]; decide)]
      exact ih f a (by omega) (by omega)
    · rw [if_neg h0, if_neg]
      · exact ih f _ (by omega) (by omega)
      · rw [hr2] at h0 ⊢
        refine nI_nle ?_ (by omega)
        cases r with
        | zero => exact absurd rfl h0
        | succ r => omega
theorem pm_rsn_ok {C : gw_M} {p n i : Nat} (h : pm_rsn (C.1 (22 + 6 * p) i) (C.1 (23 + 6 * p) i) (C.1 (24 + 6 * p) i) (C.1 (25 + 6 * p) i) (C.1 (26 + 6 * p) i) i n = 0) : qv_R C p n i := by
  unfold pm_rsn at h
  by_cases h1 : ¬ (0 ≤ (C.1 (22 + 6 * p) i).toInt ∧ (C.1 (22 + 6 * p) i).toInt ≤ 15) ∨ ¬ (0 ≤ (C.1 (23 + 6 * p) i).toInt ∧ (C.1 (23 + 6 * p) i).toInt ≤ 9) ∨ ¬ (0 ≤ (C.1 (24 + 6 * p) i).toInt ∧ (C.1 (24 + 6 * p) i).toInt ≤ 9)
  · rw [if_pos h1] at h
    exact absurd h (by decide)
  rw [if_neg h1] at h
  by_cases h2 : pm_bad (C.1 (22 + 6 * p) i).toInt (C.1 (25 + 6 * p) i).toInt i n = true
  · rw [if_pos h2] at h
    exact absurd h (by decide)
  rw [if_neg h2] at h
  simp only [pm_bad, decide_eq_true_eq] at h2
  by_cases h3 : ((C.1 (22 + 6 * p) i).toInt = 6 ∧ (C.1 (26 + 6 * p) i).toInt = 0) ∨ ((C.1 (22 + 6 * p) i).toInt = 7 ∧ ¬ (0 ≤ (C.1 (26 + 6 * p) i).toInt ∧ (C.1 (26 + 6 * p) i).toInt ≤ 63))
  · rw [if_pos h3] at h
    exact absurd h (by decide)
  rw [if_neg h3] at h
  by_cases h4 : (C.1 (22 + 6 * p) i).toInt = 14 ∧ ¬ (0 ≤ (C.1 (26 + 6 * p) i).toInt ∧ (C.1 (26 + 6 * p) i).toInt ≤ 3)
  · rw [if_pos h4] at h
    exact absurd h (by decide)
  obtain ⟨k, hk, ek⟩ := pu_of (v := C.1 (22 + 6 * p) i) (n := 16) (by omega) (by omega)
  obtain ⟨d, hd, ed⟩ := pu_of (v := C.1 (23 + 6 * p) i) (n := 10) (by omega) (by omega)
  obtain ⟨s, hs, es⟩ := pu_of (v := C.1 (24 + 6 * p) i) (n := 10) (by omega) (by omega)
  have tk : (C.1 (22 + 6 * p) i).toInt = k := by rw [ek]; exact nI_toInt (by omega)
  rw [tk] at h2 h3 h4
  refine ⟨k, d, s, ⟨hk, hd, hs⟩, ⟨ek, ed, es⟩, ?_, ?_, ?_, ?_, ?_⟩
  · intro a b; omega
  · intro a b; omega
  · intro a q
    rw [pu_iEq, pu_T0] at q
    omega
  · intro a; omega
  · intro a; omega
theorem pm_rsn_of {C : gw_M} {p n i : Nat} (h : qv_R C p n i) : pm_rsn (C.1 (22 + 6 * p) i) (C.1 (23 + 6 * p) i) (C.1 (24 + 6 * p) i) (C.1 (25 + 6 * p) i) (C.1 (26 + 6 * p) i) i n = 0 := by
  obtain ⟨k, d, s, ⟨hk, hd, hs⟩, ⟨ek, ed, es⟩, g1, g2, g3, g4, g5⟩ := h
  rw [pu_iEq, pu_T0] at g3
  unfold pm_rsn
  rw [ek, ed, es, nI_toInt (by omega), nI_toInt (by omega), nI_toInt (by omega), if_neg (by omega)]
  have h2 : ¬ pm_bad (k : Int) (C.1 (25 + 6 * p) i).toInt i n = true := by
    simp only [pm_bad, decide_eq_true_eq]
    intro q
    rcases q with ⟨q1, q2, q3⟩ | ⟨q1, q2, q3⟩
    · exact q3 (g2 (by omega) (by omega))
    · exact q3 (g1 (by omega) (by omega))
  rw [if_neg h2, if_neg, if_neg]
  · intro ⟨q1, q2⟩
    exact q2 (g5 (by omega))
  · intro q
    rcases q with ⟨q1, q2⟩ | ⟨q1, q2⟩
    · exact g3 (by omega) q2
    · exact q2 (g4 (by omega))
theorem qu_load (x1 : Int32) (C R : gw_M) (h : qq_R C R) : ∃ (r : Int32) (C1 R1 : gw_M), am_load_b0 C 0 x1 = some (r, C1) ∧ mo_load_b0 R 0 x1 = some (r, R1) ∧ qq_R C1 R1 := by
  by_cases hx : 0 < x1.toInt ∧ x1.toInt < 4
  · obtain ⟨p, hp, rfl⟩ := pu_of13 hx
    obtain ⟨n, hn, ⟨e1, e2⟩, hs, hi⟩ := h.2.1 p hp
    have eo : 0 + 1 + 14 + 6 * (p + 1) = 21 + 6 * p := by omega
    have ca : am_load_b0 C 0 (nI (p + 1)) = gw_bd (pr_check_b0 C (21 + 6 * p)) (fun r13 M13 => some (r13, M13)) := by
      unfold am_load_b0
      rw [pu_hasCode, if_pos hx, pu_bd, if_neg pu_10]
      simp only [pu_gi (show p + 1 < 4 by omega) (by decide), nI_clamp (show p + 1 < 2 ^ 31 by omega), eo]
    have cb : mo_load_b0 R 0 (nI (p + 1)) = mo_load_l42 2100 R 0 (nI (p + 1)) (if n = 0 then 1 else 0) (nI n - 1) := by
      unfold mo_load_b0 mo_load_b30
      rw [pu_moin13, if_pos hx, pu_bd, if_neg pu_10]
      simp only [nI_pred, pu_gi (show p < 3 from hp) (by decide), nI_clamp (show p < 2 ^ 31 by omega), Nat.zero_add, e2, pu_lt]
      by_cases h0 : n = 0
      · rw [if_pos h0, if_pos (by rw [h0]; rfl)]
      · rw [if_neg h0, if_neg (nI_ne0 (by omega) (by omega))]
    have hrR : ∀ i, i < n → mo_reason_b0 R 0 (nI (p + 1)) (nI i) = some (pm_rsn (C.1 (22 + 6 * p) i) (C.1 (23 + 6 * p) i) (C.1 (24 + 6 * p) i) (C.1 (25 + 6 * p) i) (C.1 (26 + 6 * p) i) i n, R) := by
      intro i hin
      rw [pu_reason R p i n hp hin hn e2, ← (hi i hin).1, ← (hi i hin).2.1, ← (hi i hin).2.2.1, ← (hi i hin).2.2.2.1, ← (hi i hin).2.2.2.2]
    have hrC : ∀ i, i < n → pr_reasonAt_b0 C (21 + 6 * p) (nI i) = some (pm_rsn (C.1 (22 + 6 * p) i) (C.1 (23 + 6 * p) i) (C.1 (24 + 6 * p) i) (C.1 (25 + 6 * p) i) (C.1 (26 + 6 * p) i) i n, C) := by
      intro i hin
      rw [pu_reasonAt C (21 + 6 * p) i n hin hn e1, show 21 + 6 * p + 1 = 22 + 6 * p by omega, show 21 + 6 * p + 2 = 23 + 6 * p by omega, show 21 + 6 * p + 3 = 24 + 6 * p by omega, show 21 + 6 * p + 4 = 25 + 6 * p by omega, show 21 + 6 * p + 5 = 26 + 6 * p by omega]
    obtain ⟨rs, hrs⟩ : ∃ rs : Nat → Int32, rs = fun i => pm_rsn (C.1 (22 + 6 * p) i) (C.1 (23 + 6 * p) i) (C.1 (24 + 6 * p) i) (C.1 (25 + 6 * p) i) (C.1 (26 + 6 * p) i) i n := ⟨_, rfl⟩
    have hsm : ∀ j, ∃ r : Nat, r < 6 ∧ rs j = nI r := fun j => by rw [hrs]; exact pm_rsn_small _ _ _ _ _ _ _
    have hL := pu_loadL (rs := rs) hp hn hsm (fun i hin => by rw [hrs]; exact hrR i hin) n 2100 (if n = 0 then 1 else 0) (Nat.le_refl _) (by omega)
    have qaR : ∀ v : Int32, qa_R C (gw_sI R 6 p v) := fun v => qa_cong h.1 rfl rfl rfl rfl (by simp (disch := omega) only [gw_sI_1]) (by simp (disch := omega) only [gw_sI_1]) (by simp (disch := omega) only [gw_sI_1]) (by simp (disch := omega) only [gw_sI_1])
    have keep : ∀ (C1 : gw_M) (v : Int32), (∀ k, k ≠ 21 + 6 * p → C1.1 k = C.1 k) → C1.2 = C.2 → qp_R1 C1 (gw_sI R 6 p v) p → qq_R C1 (gw_sI R 6 p v) := by
      intro C1 v hk h2 hq
      refine ⟨qa_cong (qaR v) (hk _ (by omega)) (hk _ (by omega)) (hk _ (by omega)) (hk _ (by omega)) rfl rfl rfl rfl, fun q hq1 => ?_, ?_, ?_⟩
      · by_cases hqp : q = p
        · rw [hqp]; exact hq
        · exact qp_cong1 (h.2.1 q hq1) (fun k a b => hk k (by omega)) (by simp (disch := omega) only [gw_sI_1]) (by simp (disch := omega) only [pu_r3]) (fun k i a b c d => by simp (disch := omega) only [gw_sI_1])
      · exact qo_cong h.2.2.1 (by rw [hk 0 (by omega)]) (fun k a b => hk k (by omega)) (by simp (disch := omega) only [gw_sI_1]) (fun q hq => by simp (disch := omega) only [gw_sI_1, and_self]) (fun q hq => by simp (disch := omega) only [gw_sI_1, and_self])
      · exact qm_cong h.2.2.2 (by rw [hk 0 (by omega)]) (by rw [h2]) (by rw [hk 0 (by omega)]) (by rw [h2]) (by simp (disch := omega) only [gw_sI_1]) rfl (by simp (disch := omega) only [gw_sI_1]) rfl
    have hold : ∀ v : Int32, ∀ i, i < n → C.1 (22 + 6 * p) i = (gw_sI R 6 p v).1 7 (32 * p + i) ∧ C.1 (23 + 6 * p) i = (gw_sI R 6 p v).1 8 (32 * p + i) ∧ C.1 (24 + 6 * p) i = (gw_sI R 6 p v).1 9 (32 * p + i) ∧ C.1 (25 + 6 * p) i = (gw_sI R 6 p v).1 10 (32 * p + i) ∧ C.1 (26 + 6 * p) i = (gw_sI R 6 p v).1 11 (32 * p + i) := by
      intro v i hin
      simp (disch := omega) only [gw_sI_1]
      exact hi i hin
    by_cases h0 : n = 0
    · subst h0
      refine ⟨1, C, gw_sI R 6 p 0, ?_, ?_, keep C 0 (fun _ _ => rfl) rfl ⟨0, hn, ⟨e1, by simp (disch := omega) only [gw_sI_1]; exact e2⟩, Or.inl ⟨?_, by simp (disch := omega) only [pu_r2]⟩, hold 0⟩⟩
      · rw [ca]
        unfold pr_check_b0
        rw [e1, if_pos (show nI 0 = 0 from rfl), pu_bd]
      · rw [cb, hL]
        rfl
      · rcases hs with hs | hs
        · exact hs.1
        · exact absurd hs.2.2.1 (by omega)
    · rw [if_neg h0] at hL cb
      have hdn : pm_dn rs n 0 = pm_chk rs n 0 := by
        have := @pm_dn_chk rs n 0
        rw [Nat.add_zero] at this
        exact this
      rw [hdn] at hL
      obtain ⟨c1, c2⟩ := pu_check (rs := rs) hn e1 (fun i hin => by rw [hrs]; exact hrC i hin) 2100 n 0 (Nat.zero_add _) (by omega)
      have cc : pr_check_b0 C (21 + 6 * p) = pr_check_l11 2100 C (21 + 6 * p) (nI 0) := by
        unfold pr_check_b0
        rw [e1, if_neg (nI_ne0 (by omega) (by omega))]
        rfl
      by_cases hall : ∀ j, 0 ≤ j → j < n → rs j = 0
      · have hz : pm_chk rs n 0 = 0 := pm_chk_0 n 0 (fun j a b => hall j a (by omega))
        rw [hz, if_pos rfl] at hL
        refine ⟨0, gw_sI C (21 + 6 * p) 6 1, gw_sI R 6 p 1, ?_, ?_, keep _ 1 (fun k hk => gw_sI_1 k hk) rfl ⟨n, hn, ⟨?_, ?_⟩, Or.inr ⟨?_, ?_, by omega, fun i hin => ?_⟩, fun i hin => ?_⟩⟩
        · rw [ca, cc, c1 hall, pu_bd]
        · rw [cb, hL]
        · simp (disch := omega) only [pu_r3]; exact e1
        · simp (disch := omega) only [gw_sI_1]; exact e2
        · simp (disch := omega) only [pu_r2]
        · simp (disch := omega) only [pu_r2]
        · have hv := pm_rsn_ok (C := C) (p := p) (n := n) (i := i) (by have := hall i (Nat.zero_le _) hin; rw [hrs] at this; exact this)
          unfold qv_R at hv ⊢
          simp (disch := omega) only [gw_sI_1]
          exact hv
        · have := hold 1 i hin
          simp (disch := omega) only [gw_sI_1] at this ⊢
          exact this
      · have hne : ¬ pm_chk rs n 0 = 0 := fun q => hall (fun j a b => pm_chk_1 hsm n 0 (by omega) q j a (by omega))
        rw [if_neg hne] at hL
        refine ⟨pm_chk rs n 0, C, gw_sI R 6 p 0, ?_, ?_, keep C 0 (fun _ _ => rfl) rfl ⟨n, hn, ⟨e1, ?_⟩, Or.inl ⟨?_, ?_⟩, hold 0⟩⟩
        · rw [ca, cc, c2 hall, pu_bd]
        · rw [cb, hL]
        · simp (disch := omega) only [gw_sI_1]; exact e2
        · rcases hs with hs | hs
          · exact hs.1
          · exfalso
            apply hall
            intro j _ hj
            rw [hrs]
            exact pm_rsn_of (hs.2.2.2 j hj)
        · simp (disch := omega) only [pu_r2]
  · refine ⟨-1, C, R, ?_, ?_, h⟩
    · unfold am_load_b0
      rw [pu_hasCode, if_neg hx, pu_bd, if_pos rfl]
    · unfold mo_load_b0
      rw [pu_moin13, if_neg hx, pu_bd, if_pos rfl]
