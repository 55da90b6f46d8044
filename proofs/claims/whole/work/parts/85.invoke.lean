/-- qm_R with a bound of the meter -/
def qm_L (C R : gw_M) (b : Nat) : Prop := qt_R C R b ∧ C.2 0 10 = R.2 0 25 ∧ ∃ n : Nat, n ≤ 30 ∧ C.1 0 9 = nI n ∧ R.1 0 27 = nI n ∧ ∀ i, i < n → C.2 14 i = R.2 23 i
theorem qm_L.mo {C R : gw_M} {b b1 : Nat} (h : qm_L C R b) (hb : b ≤ b1) : qm_L C R b1 := by
  obtain ⟨⟨m, hm, h1⟩, h2⟩ := h
  exact ⟨⟨m, Nat.le_trans hm hb, h1⟩, h2⟩
theorem qm_L.r {C R : gw_M} {b : Nat} (h : qm_L C R b) (hb : b ≤ 2000) : qm_R C R := h.mo hb
theorem qm_L.cg {C R C1 R1 : gw_M} {b : Nat} (h : qm_L C R b) (h1 : C1.1 0 = C.1 0) (h2 : C1.2 0 = C.2 0) (h4 : C1.2 14 = C.2 14) (g1 : R1.1 0 24 = R.1 0 24) (g3 : R1.1 0 27 = R.1 0 27) (g2 : R1.2 0 = R.2 0) (g4 : R1.2 23 = R.2 23) : qm_L C1 R1 b := by
  unfold qm_L qt_R at h ⊢
  rw [h1, h2, h4, g1, g2, g3, g4]
  exact h
theorem sk_L {C R C1 R1 : gw_M} {t b : Nat} (h : qm_L C R b) (hC : sk_C C C1 t) (hR : sk_R R R1 t) : qm_L C1 R1 b := h.cg (hC.2.1 0 (by decide)) hC.2.2.1 hC.2.2.2 (congrFun (hR.2.1 0 (by decide)) _) (congrFun (hR.2.1 0 (by decide)) _) hR.2.2.1 hR.2.2.2
/-- between two steps: depth d -/
def rr_R (C R : gw_M) (d : Nat) : Prop := d ≤ 4 ∧ (C.1 0 6 = nI d ∧ R.1 0 17 = nI d) ∧ qa_R C R ∧ (∀ s, s + 1 < d → ff_R C R s 1) ∧ (0 < d → ff_R C R (d - 1) 0)
/-- what a step leaves -/
def rs_R (C R C1 R1 : gw_M) (w b : Nat) : Prop := w < 15 ∧ (fk_C C C1 0 ∧ fk_R R R1 0) ∧ qm_L C1 R1 b ∧ (w = 0 → ∃ d, rr_R C1 R1 d)
/-- within a step of frame t: the system has gone on to the next place -/
def re_R (C R : gw_M) (t p n c k x : Nat) (av mv : Nat → Nat) : Prop := t < 4 ∧ ff_B C R t p n c k av mv ∧ qf_Z C t k av ∧ (C.1 (48 + 7 * t) 5 = nI (x + 1) ∧ R.1 17 (t + 1) = nI x) ∧ (C.1 0 6 = nI (t + 1) ∧ R.1 0 17 = nI (t + 1)) ∧ (∀ s, s < t → ff_R C R s 1) ∧ qa_R C R
theorem rs_sk {C R C1 R1 : gw_M} {t p n c k x w b : Nat} {av mv : Nat → Nat} (h : re_R C R t p n c k x av mv) (hm : qm_L C R b) (hC : sk_C C C1 t) (hR : sk_R R R1 t) (hw : w < 15) (hf : w = 0 → ff_R C1 R1 t 0) : rs_R C R C1 R1 w b := by
  obtain ⟨ht, -, -, -, hd, hs, ha⟩ := h
  refine ⟨hw, ⟨hC.1.mo (Nat.zero_le _), hR.1.mo (Nat.zero_le _)⟩, sk_L hm hC hR, fun z => ⟨t + 1, by omega, ⟨?_, ?_⟩, sk_a ha hC hR, fun s h1 => ff_w (hs s (by omega)) hC.1 hR.1 (by omega), fun _ => hf z⟩⟩
  · rw [hC.2.1 0 (by decide)]; exact hd.1
  · rw [hR.2.1 0 (by decide)]; exact hd.2
theorem re_pv {C R : gw_M} {t p n c k x : Nat} {av mv : Nat → Nat} (h : re_R C R t p n c k x av mv) : ∃ pv, qw_P C R t pv := by
  obtain ⟨ht, hB, -, -, -, hs, -⟩ := h
  refine qw_ex (fun s h1 => ?_)
  by_cases he : s = t
  · subst he
    exact ⟨p, hB.1.1.1, hB.1.2.1.1, hB.1.2.1.2⟩
  · obtain ⟨p', n', c', x', k', av', mv', hB', -⟩ := hs s (by omega)
    exact ⟨p', hB'.1.1.1, hB'.1.2.1.1, hB'.1.2.1.2⟩
theorem fm_R.f {R R1 : gw_M} {t : Nat} (h : fm_R R R1 (4 + t)) : fk_R R R1 t := by
  obtain ⟨h1, h2, h3, h4⟩ := h
  refine ⟨fun k k1 k2 => h1 k (by omega) (by omega) (by omega), congrFun (h1 0 (by decide) (by decide) (by decide)) _, ⟨fun k i k1 k2 _ => congrFun (h1 k (by omega) (by omega) (by omega)) _, fun i _ => congrFun (h1 4 (by decide) (by decide) (by decide)) _⟩, fun k q k1 k2 hq => ?_, fun k i k1 k2 hi => ?_, fun k i k1 _ => congrFun (h1 k (by omega) (by omega) (by omega)) _, fun i _ => congrFun (h1 19 (by decide) (by decide) (by decide)) _, fun i _ => by rw [h2], fun i _ => by rw [h2], fun i _ => by rw [h2]⟩
  · by_cases hk : k = 14
    · subst hk
      exact h3 q (by omega)
    · exact congrFun (h1 k hk (by omega) (by omega)) _
  · have := h4 i (Or.inl (by omega))
    by_cases hk : k = 15
    · subst hk
      exact this.1
    · obtain rfl : k = 16 := by omega
      exact this.2
/-- the frame t waits, whatever happened above it -/
theorem re_w {C R C1 R1 : gw_M} {t p n c k x : Nat} {av mv : Nat → Nat} (h : re_R C R t p n c k x av mv) (hx : x + 1 < n) (hC : fk_C C C1 (t + 1)) (hR : fk_R R R1 (t + 1)) : ff_R C1 R1 t 1 := by
  obtain ⟨ht, hB, -, h5, -, -, -⟩ := h
  refine ⟨p, n, c, x, k, av, mv, fo_B hB (hC.o (Nat.lt_succ_self _)) (hR.o (Nat.lt_succ_self _)), ⟨hx, ?_, ?_⟩, fun z => absurd z (by decide)⟩
  · rw [(hC.1 _ (by omega) (by omega)).1]; exact h5.1
  · rw [hR.2.2.2.2.2.1 17 _ (Or.inl rfl) (by omega)]; exact h5.2
theorem re_ws {C R C1 R1 : gw_M} {t p n c k x : Nat} {av mv : Nat → Nat} (h : re_R C R t p n c k x av mv) (hx : x + 1 < n) (hC : fk_C C C1 (t + 1)) (hR : fk_R R R1 (t + 1)) : ∀ s, s < t + 1 → ff_R C1 R1 s 1 := by
  intro s hs
  by_cases he : s = t
  · subst he
    exact re_w h hx hC hR
  · exact ff_w (h.2.2.2.2.2.1 s (by omega)) hC hR hs
