/-! The frames while a run goes on. -/
/-- nothing has changed that a step of frame lo leaves alone -/
def fk_C (C C1 : gw_M) (lo : Nat) : Prop := (∀ k, 8 ≤ k → k < 48 + 7 * lo → C1.1 k = C.1 k ∧ (k ≠ 14 → C1.2 k = C.2 k)) ∧ C1.1 0 4 = C.1 0 4
def fk_R (R R1 : gw_M) (lo : Nat) : Prop := (∀ k, 5 ≤ k → k < 12 → R1.1 k = R.1 k) ∧ R1.1 0 11 = R.1 0 11 ∧ ((∀ k i, 1 ≤ k → k < 4 → 8 ≤ i → R1.1 k i = R.1 k i) ∧ ∀ i, 32 ≤ i → R1.1 4 i = R.1 4 i) ∧ (∀ k q, 12 ≤ k → k < 15 → q < 4 + lo → R1.1 k q = R.1 k q) ∧ (∀ k i, 15 ≤ k → k < 17 → i < 4 * (4 + lo) → R1.1 k i = R.1 k i) ∧ (∀ k i, (k = 17 ∨ k = 20) → i < lo + 1 → R1.1 k i = R.1 k i) ∧ (∀ i, i < 4 * (lo + 1) → R1.1 19 i = R.1 19 i) ∧ (∀ i, i < 10 * (lo + 1) → R1.2 18 i = R.2 18 i) ∧ (∀ i, i < 16 * (lo + 1) → R1.2 21 i = R.2 21 i) ∧ ∀ i, i < 40 * (lo + 1) → R1.2 22 i = R.2 22 i
theorem fk_C.rf {C : gw_M} {lo : Nat} : fk_C C C lo := ⟨fun _ _ _ => ⟨rfl, fun _ => rfl⟩, rfl⟩
theorem fk_R.rf {R : gw_M} {lo : Nat} : fk_R R R lo := ⟨fun _ _ _ => rfl, rfl, ⟨fun _ _ _ _ _ => rfl, fun _ _ => rfl⟩, fun _ _ _ _ _ => rfl, fun _ _ _ _ _ => rfl, fun _ _ _ _ => rfl, fun _ _ => rfl, fun _ _ => rfl, fun _ _ => rfl, fun _ _ => rfl⟩
theorem fk_C.tr {A B C : gw_M} {lo : Nat} (h : fk_C A B lo) (g : fk_C B C lo) : fk_C A C lo := ⟨fun k a b => ⟨(g.1 k a b).1.trans (h.1 k a b).1, fun c => ((g.1 k a b).2 c).trans ((h.1 k a b).2 c)⟩, g.2.trans h.2⟩
theorem fk_R.tr {A B C : gw_M} {lo : Nat} (h : fk_R A B lo) (g : fk_R B C lo) : fk_R A C lo := by
  obtain ⟨h1, h2, ⟨h3, h4⟩, h5, h6, h7, h8, h9, h10, h11⟩ := h
  obtain ⟨g1, g2, ⟨g3, g4⟩, g5, g6, g7, g8, g9, g10, g11⟩ := g
  exact ⟨fun k a b => (g1 k a b).trans (h1 k a b), g2.trans h2, ⟨fun k i a b c => (g3 k i a b c).trans (h3 k i a b c), fun i a => (g4 i a).trans (h4 i a)⟩, fun k i a b c => (g5 k i a b c).trans (h5 k i a b c), fun k i a b c => (g6 k i a b c).trans (h6 k i a b c), fun k i a b => (g7 k i a b).trans (h7 k i a b), fun i a => (g8 i a).trans (h8 i a), fun i a => (g9 i a).trans (h9 i a), fun i a => (g10 i a).trans (h10 i a), fun i a => (g11 i a).trans (h11 i a)⟩
theorem fk_C.mo {C C1 : gw_M} {lo l : Nat} (h : fk_C C C1 lo) (hl : l ≤ lo) : fk_C C C1 l := ⟨fun k a b => h.1 k a (by omega), h.2⟩
theorem fk_R.mo {C C1 : gw_M} {lo l : Nat} (h : fk_R C C1 lo) (hl : l ≤ lo) : fk_R C C1 l := by
  obtain ⟨h1, h2, h3, h5, h6, h7, h8, h9, h10, h11⟩ := h
  exact ⟨h1, h2, h3, fun k i a b c => h5 k i a b (by omega), fun k i a b c => h6 k i a b (by omega), fun k i a b => h7 k i a (by omega), fun i a => h8 i (by omega), fun i a => h9 i (by omega), fun i a => h10 i (by omega), fun i a => h11 i (by omega)⟩
theorem pu_sIn {M : gw_M} {k j a b : Nat} {x : Int32} (h : a = k → b ≠ j) : (gw_sI M k j x).1 a b = M.1 a b := by
  by_cases h1 : a = k
  · exact pu_r3 (h h1)
  · rw [gw_sI_1 a h1]
theorem pu_sLn {M : gw_M} {k j a b : Nat} {x : Int64} (h : a = k → b ≠ j) : (gw_sL M k j x).2 a b = M.2 a b := by
  by_cases h1 : a = k
  · exact pu_q3 (h h1)
  · rw [pu_q1 h1]
theorem fk_C.i {C : gw_M} {lo k j : Nat} {x : Int32} (h : (k = 0 ∧ j ≠ 4) ∨ (1 ≤ k ∧ k < 8) ∨ 48 + 7 * lo ≤ k) : fk_C C (gw_sI C k j x) lo :=
  ⟨fun a h1 h2 => ⟨gw_sI_1 a (by omega), fun _ => rfl⟩, pu_sIn (by omega)⟩
theorem fk_C.l {C : gw_M} {lo k j : Nat} {x : Int64} (h : k < 8 ∨ k = 14 ∨ 48 + 7 * lo ≤ k) : fk_C C (gw_sL C k j x) lo :=
  ⟨fun a h1 h2 => ⟨rfl, fun h3 => pu_q1 (by omega)⟩, rfl⟩
theorem fk_R.i {R : gw_M} {lo k j : Nat} {x : Int32} (h : (k = 0 ∧ j ≠ 11) ∨ (1 ≤ k ∧ k < 4 ∧ j < 8) ∨ (k = 4 ∧ j < 32) ∨ (12 ≤ k ∧ k < 15 ∧ 4 + lo ≤ j) ∨ (15 ≤ k ∧ k < 17 ∧ 4 * (4 + lo) ≤ j) ∨ ((k = 17 ∨ k = 20) ∧ lo + 1 ≤ j) ∨ (k = 19 ∧ 4 * (lo + 1) ≤ j)) : fk_R R (gw_sI R k j x) lo :=
  ⟨fun a h1 h2 => gw_sI_1 a (by omega), pu_sIn (by omega), ⟨fun a b h1 h2 h3 => pu_sIn (by omega), fun b h1 => pu_sIn (by omega)⟩, fun a b h1 h2 h3 => pu_sIn (by omega), fun a b h1 h2 h3 => pu_sIn (by omega), fun a b h1 h2 => pu_sIn (by omega), fun b h1 => pu_sIn (by omega), fun _ _ => rfl, fun _ _ => rfl, fun _ _ => rfl⟩
theorem fk_R.l {R : gw_M} {lo k j : Nat} {x : Int64} (h : k = 0 ∨ k = 23 ∨ (k = 18 ∧ 10 * (lo + 1) ≤ j) ∨ (k = 21 ∧ 16 * (lo + 1) ≤ j) ∨ (k = 22 ∧ 40 * (lo + 1) ≤ j)) : fk_R R (gw_sL R k j x) lo :=
  ⟨fun _ _ _ => rfl, rfl, ⟨fun _ _ _ _ _ => rfl, fun _ _ => rfl⟩, fun _ _ _ _ _ => rfl, fun _ _ _ _ _ => rfl, fun _ _ _ _ => rfl, fun _ _ => rfl, fun b h1 => pu_sLn (by omega), fun b h1 => pu_sLn (by omega), fun b h1 => pu_sLn (by omega)⟩
theorem fa_C.k {C C1 : gw_M} {lo : Nat} (h : fa_C C C1) : fk_C C C1 lo := ⟨fun a h1 h2 => ⟨h.1 a (by omega) (by omega) (by omega) (by omega) (by omega), fun _ => by rw [h.2.2]⟩, h.2.1 4 (by decide)⟩
theorem fa_R.k {R R1 : gw_M} {lo : Nat} (h : fa_R R R1) : fk_R R R1 lo := by
  obtain ⟨h1, h2, h3, h4, h5⟩ := h
  exact ⟨fun a b c => h1 a b, h2 11 (by decide), ⟨h3, h4⟩, fun a b c d e => by rw [h1 a (by omega)], fun a b c d e => by rw [h1 a (by omega)], fun a b c d => by rw [h1 a (by omega)], fun b c => by rw [h1 19 (by decide)], fun b c => by rw [h5], fun b c => by rw [h5], fun b c => by rw [h5]⟩
theorem fl_C.k {C C1 : gw_M} {t : Nat} (h : fl_C C C1 t) : fk_C C C1 t := ⟨fun a h1 h2 => ⟨by rw [h.1], fun _ => h.2.1 a (by omega)⟩, by rw [h.1]⟩
theorem fl_R.k {R R1 : gw_M} {t : Nat} (h : fl_R R R1 t) : fk_R R R1 t := by
  obtain ⟨h1, h2, h3⟩ := h
  exact ⟨fun a b c => by rw [h1], by rw [h1], ⟨fun a b c d e => by rw [h1], fun b c => by rw [h1]⟩, fun a b c d e => by rw [h1], fun a b c d e => by rw [h1], fun a b c d => by rw [h1], fun b c => by rw [h1], fun b c => by rw [h2 18 (by decide)], fun b c => by rw [h2 21 (by decide)], fun b c => h3 b (by omega)⟩
theorem fb_C.k {C C1 : gw_M} {t : Nat} (h : fb_C C C1 t) : fk_C C C1 t := ⟨fun a h1 h2 => ⟨h.1 a (by omega), fun _ => h.2.2 a (by omega) (by omega)⟩, by rw [h.1 0 (by omega)]⟩
theorem fb_R.k {R R1 : gw_M} {t : Nat} (h : fb_R R R1 t) : fk_R R R1 t := by
  obtain ⟨h1, h2, h3, h4, h5, h6⟩ := h
  refine ⟨fun a b c => h1 a (by omega) (by omega), by rw [h1 0 (by decide) (by decide)], ⟨fun a b c d e => by rw [h1 a (by omega) (by omega)], fun b c => by rw [h1 4 (by decide) (by decide)]⟩, fun a b c d e => by rw [h1 a (by omega) (by omega)], fun a b c d e => by rw [h1 a (by omega) (by omega)], fun a b c d => ?_, fun b c => by rw [h1 19 (by decide) (by decide)], fun b c => h4 b (by omega), fun b c => h5 b (by omega), fun b c => h6 b (by omega)⟩
  rcases c with rfl | rfl
  · exact (h2 b (by omega)).1
  · exact (h2 b (by omega)).2
/-- what a run keeps all the time -/
theorem fk_p {C R C1 R1 : gw_M} {lo : Nat} (h : qp_R C R) (hC : fk_C C C1 lo) (hR : fk_R R R1 lo) : qp_R C1 R1 := qp_cong h (fun k a b => (hC.1 k (by omega) (by omega)).1) hR.1
theorem fk_o {C R C1 R1 : gw_M} {lo : Nat} (h : qo_R C R) (hC : fk_C C C1 lo) (hR : fk_R R R1 lo) : qo_R C1 R1 :=
  qo_cong h hC.2 (fun k a b => (hC.1 k (by omega) (by omega)).1) hR.2.1 (fun q hq => ⟨hR.2.2.2.1 12 q (by decide) (by decide) (by omega), hR.2.2.2.1 13 q (by decide) (by decide) (by omega), hR.2.2.2.1 14 q (by decide) (by decide) (by omega)⟩) (fun q hq => ⟨hR.2.2.2.2.1 15 q (by decide) (by decide) (by omega), hR.2.2.2.2.1 16 q (by decide) (by decide) (by omega)⟩)
/-- a frame: its program p + 1 of n instructions, sound -/
def ff_P (C R : gw_M) (t p n : Nat) : Prop := (p < 3 ∧ n ≤ 32) ∧ (C.1 (49 + 7 * t) 0 = nI (p + 1) ∧ R.1 12 (4 + t) = nI (p + 1)) ∧ C.1 (21 + 6 * p) 5 = nI n ∧ C.1 (21 + 6 * p) 6 = 1
/-- the places that it remembers -/
def ff_Q (C R : gw_M) (t n c : Nat) : Prop := c ≤ 4 ∧ (C.1 (48 + 7 * t) 4 = nI c ∧ R.1 20 (t + 1) = nI c) ∧ ∀ j, j < c → ∃ y : Nat, y < n ∧ C.1 (54 + 7 * t) j = nI y ∧ R.1 19 (4 * (t + 1) + j) = nI y
/-- its order, and what it sees -/
def ff_S (C R : gw_M) (t k : Nat) (av mv : Nat → Nat) : Prop := qs_B k av mv ∧ qs_C C (49 + 7 * t) k av mv ∧ qs_R R (4 + t) k av mv ∧ qf_M C R t ∧ qf_N C t k av ∧ qf_K C t k av mv
def ff_B (C R : gw_M) (t p n c k : Nat) (av mv : Nat → Nat) : Prop := ff_P C R t p n ∧ ff_Q C R t n c ∧ ff_S C R t k av mv ∧ qf_G C R t
def ff_X (C R : gw_M) (t n x e : Nat) : Prop := x + e < n ∧ C.1 (48 + 7 * t) 5 = nI (x + e) ∧ R.1 17 (t + 1) = nI x
/-- e is 1 while it waits in INVOKE, else 0 -/
def ff_R (C R : gw_M) (t e : Nat) : Prop := ∃ (p n c x k : Nat) (av mv : Nat → Nat), ff_B C R t p n c k av mv ∧ ff_X C R t n x e ∧ (e = 0 → qf_Z C t k av)
/-- what a frame's relation looks at -/
def fo_C (C C1 : gw_M) (t : Nat) : Prop := (∀ k, 21 ≤ k → k < 39 → C1.1 k = C.1 k) ∧ (∀ k, 49 + 7 * t ≤ k → k < 52 + 7 * t → C1.1 k = C.1 k) ∧ C1.1 (48 + 7 * t) 4 = C.1 (48 + 7 * t) 4 ∧ C1.1 (54 + 7 * t) = C.1 (54 + 7 * t) ∧ C1.2 (52 + 7 * t) = C.2 (52 + 7 * t) ∧ C1.2 (53 + 7 * t) = C.2 (53 + 7 * t)
def fo_R (R R1 : gw_M) (t : Nat) : Prop := (R1.1 12 (4 + t) = R.1 12 (4 + t) ∧ R1.1 14 (4 + t) = R.1 14 (4 + t)) ∧ (∀ j, j < 4 → R1.1 15 (4 * (4 + t) + j) = R.1 15 (4 * (4 + t) + j) ∧ R1.1 16 (4 * (4 + t) + j) = R.1 16 (4 * (4 + t) + j)) ∧ R1.1 20 (t + 1) = R.1 20 (t + 1) ∧ (∀ j, j < 4 → R1.1 19 (4 * (t + 1) + j) = R.1 19 (4 * (t + 1) + j)) ∧ (∀ j, j < 10 → R1.2 18 (10 * (t + 1) + j) = R.2 18 (10 * (t + 1) + j)) ∧ (∀ j, j < 16 → R1.2 21 (16 * (t + 1) + j) = R.2 21 (16 * (t + 1) + j)) ∧ ∀ j, j < 40 → R1.2 22 (40 * (t + 1) + j) = R.2 22 (40 * (t + 1) + j)
theorem fo_C.rf {C : gw_M} {t : Nat} : fo_C C C t := ⟨fun _ _ _ => rfl, fun _ _ _ => rfl, rfl, rfl, rfl, rfl⟩
theorem fo_R.rf {R : gw_M} {t : Nat} : fo_R R R t := ⟨⟨rfl, rfl⟩, fun _ _ => ⟨rfl, rfl⟩, rfl, fun _ _ => rfl, fun _ _ => rfl, fun _ _ => rfl, fun _ _ => rfl⟩
theorem fo_C.tr {A B C : gw_M} {t : Nat} (h : fo_C A B t) (g : fo_C B C t) : fo_C A C t := ⟨fun k a b => (g.1 k a b).trans (h.1 k a b), fun k a b => (g.2.1 k a b).trans (h.2.1 k a b), g.2.2.1.trans h.2.2.1, g.2.2.2.1.trans h.2.2.2.1, g.2.2.2.2.1.trans h.2.2.2.2.1, g.2.2.2.2.2.trans h.2.2.2.2.2⟩
theorem fo_R.tr {A B C : gw_M} {t : Nat} (h : fo_R A B t) (g : fo_R B C t) : fo_R A C t := by
  obtain ⟨⟨h1, h2⟩, h3, h4, h5, h6, h7, h8⟩ := h
  obtain ⟨⟨g1, g2⟩, g3, g4, g5, g6, g7, g8⟩ := g
  exact ⟨⟨g1.trans h1, g2.trans h2⟩, fun j hj => ⟨(g3 j hj).1.trans (h3 j hj).1, (g3 j hj).2.trans (h3 j hj).2⟩, g4.trans h4, fun j hj => (g5 j hj).trans (h5 j hj), fun j hj => (g6 j hj).trans (h6 j hj), fun j hj => (g7 j hj).trans (h7 j hj), fun j hj => (g8 j hj).trans (h8 j hj)⟩
theorem fk_C.o {C C1 : gw_M} {lo t : Nat} (h : fk_C C C1 lo) (ht : t < lo) : fo_C C C1 t := ⟨fun k a b => (h.1 k (by omega) (by omega)).1, fun k a b => (h.1 k (by omega) (by omega)).1, by rw [(h.1 (48 + 7 * t) (by omega) (by omega)).1], (h.1 (54 + 7 * t) (by omega) (by omega)).1, (h.1 (52 + 7 * t) (by omega) (by omega)).2 (by omega), (h.1 (53 + 7 * t) (by omega) (by omega)).2 (by omega)⟩
theorem fk_R.o {R R1 : gw_M} {lo t : Nat} (h : fk_R R R1 lo) (ht : t < lo) : fo_R R R1 t := by
  obtain ⟨h1, h2, h3, h5, h6, h7, h8, h9, h10, h11⟩ := h
  exact ⟨⟨h5 12 _ (by decide) (by decide) (by omega), h5 14 _ (by decide) (by decide) (by omega)⟩, fun j hj => ⟨h6 15 _ (by decide) (by decide) (by omega), h6 16 _ (by decide) (by decide) (by omega)⟩, h7 20 _ (Or.inr rfl) (by omega), fun j hj => h8 _ (by omega), fun j hj => h9 _ (by omega), fun j hj => h10 _ (by omega), fun j hj => h11 _ (by omega)⟩
theorem fo_P {C R C1 R1 : gw_M} {t p n : Nat} (h : ff_P C R t p n) (hC : fo_C C C1 t) (hR : fo_R R R1 t) : ff_P C1 R1 t p n := by
  obtain ⟨⟨h1, h2⟩, ⟨h3, h4⟩, h5, h6⟩ := h
  exact ⟨⟨h1, h2⟩, ⟨by rw [hC.2.1 _ (by omega) (by omega)]; exact h3, by rw [hR.1.1]; exact h4⟩, by rw [hC.1 _ (by omega) (by omega)]; exact h5, by rw [hC.1 _ (by omega) (by omega)]; exact h6⟩
theorem fo_Q {C R C1 R1 : gw_M} {t n c : Nat} (h : ff_Q C R t n c) (hC : fo_C C C1 t) (hR : fo_R R R1 t) : ff_Q C1 R1 t n c := by
  obtain ⟨h1, ⟨h2, h3⟩, h4⟩ := h
  refine ⟨h1, ⟨hC.2.2.1.trans h2, hR.2.2.1.trans h3⟩, fun j hj => ?_⟩
  rw [hC.2.2.2.1, hR.2.2.2.1 j (by omega)]
  exact h4 j hj
theorem fo_qs {C R C1 R1 : gw_M} {t k : Nat} {av mv : Nat → Nat} (hB : qs_B k av mv) (h2 : qs_C C (49 + 7 * t) k av mv) (h3 : qs_R R (4 + t) k av mv) (hC : fo_C C C1 t) (hR : fo_R R R1 t) : qs_C C1 (49 + 7 * t) k av mv ∧ qs_R R1 (4 + t) k av mv := by
  have h1 := hB.1
  refine ⟨qs_Cc h2 (hC.2.1 _ (by omega) (by omega)) (hC.2.1 _ (by omega) (by omega)) (hC.2.1 _ (by omega) (by omega)), hR.1.2.trans h3.1, fun j hj => ?_⟩
  rw [(hR.2.1 j (by omega)).1, (hR.2.1 j (by omega)).2]
  exact h3.2 j hj
theorem fo_S {C R C1 R1 : gw_M} {t k : Nat} {av mv : Nat → Nat} (h : ff_S C R t k av mv) (hC : fo_C C C1 t) (hR : fo_R R R1 t) : ff_S C1 R1 t k av mv := by
  obtain ⟨h1, h2, h3, h4, h5, h6⟩ := h
  have hq := fo_qs h1 h2 h3 hC hR
  refine ⟨h1, hq.1, hq.2, fun x hx => ?_, fun i hi => ?_, fun i hi => ?_⟩
  · rw [hC.2.2.2.2.2, hR.2.2.2.2.2.2 x hx]
    exact h4 x hx
  · rw [hC.2.2.2.2.2]
    exact h5 i hi
  · rw [hC.2.2.2.2.2]
    exact h6 i hi
theorem fo_G {C R C1 R1 : gw_M} {t : Nat} (h : qf_G C R t) (hC : fo_C C C1 t) (hR : fo_R R R1 t) : qf_G C1 R1 t := by
  refine ⟨fun r hr => ?_, fun x hx => ?_⟩
  · rw [hC.2.2.2.2.1, hR.2.2.2.2.1 r hr]
    exact h.1 r hr
  · rw [hC.2.2.2.2.2, hR.2.2.2.2.2.1 x hx]
    exact h.2 x hx
theorem fo_B {C R C1 R1 : gw_M} {t p n c k : Nat} {av mv : Nat → Nat} (h : ff_B C R t p n c k av mv) (hC : fo_C C C1 t) (hR : fo_R R R1 t) : ff_B C1 R1 t p n c k av mv := ⟨fo_P h.1 hC hR, fo_Q h.2.1 hC hR, fo_S h.2.2.1 hC hR, fo_G h.2.2.2 hC hR⟩
theorem fo_Z {C C1 : gw_M} {t k : Nat} {av : Nat → Nat} (h : qf_Z C t k av) (hC : fo_C C C1 t) (h5 : C1.1 5 = C.1 5) : qf_Z C1 t k av := fun i h1 h2 => by
  rw [h5, hC.2.2.2.2.2]
  exact h i h1 h2
/-- a frame that waits is left alone -/
theorem ff_w {C R C1 R1 : gw_M} {lo t : Nat} (h : ff_R C R t 1) (hC : fk_C C C1 lo) (hR : fk_R R R1 lo) (ht : t < lo) : ff_R C1 R1 t 1 := by
  obtain ⟨p, n, c, x, k, av, mv, hB, hX, _⟩ := h
  refine ⟨p, n, c, x, k, av, mv, fo_B hB (hC.o ht) (hR.o ht), ⟨hX.1, ?_, ?_⟩, fun e => absurd e (by decide)⟩
  · rw [(hC.1 (48 + 7 * t) (by omega) (by omega)).1]
    exact hX.2.1
  · rw [hR.2.2.2.2.2.1 17 (t + 1) (Or.inl rfl) (by omega)]
    exact hX.2.2
