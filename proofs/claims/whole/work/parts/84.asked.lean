theorem pu_bc {ρ β : Type} {o : Option (ρ × gw_M)} {f g : ρ → gw_M → Option β} (h : ∀ r N, f r N = g r N) : gw_bd o f = gw_bd o g := congrArg _ (funext fun r => funext fun N => h r N)
/-- the reference's invoke, behind the looks -/
def pm_ss (N : gw_M) (t q : Nat) : gw_M := gw_sI (gw_sI N 12 (4 + (t + 1)) (nI q)) 13 (4 + (t + 1)) (N.2 18 (10 * (t + 1) + 3)).toInt32
def pm_t2 (N : gw_M) (t q : Nat) : Option (Int32 × gw_M) :=
  if q = 0 then gw_bd (mo_system_b0 (pm_ss N t q) 0 (nI (4 + (t + 1)))) (fun r M => if r = (0 : Int32) then gw_bd (mo_comeBack_b0 M 0 (nI (t + 1))) (fun _ M2 => some (r, M2)) else some (r, M))
  else gw_bd (mo_begin_b0 (gw_sI (pm_ss N t q) 0 17 (nI (t + 2))) 0 (nI (t + 2))) (fun _ M => some ((0 : Int32), M))
def pm_tl (R : gw_M) (t q : Nat) : Option (Int32 × gw_M) := gw_bd (mo_handBack_b0 R 0 (nI (t + 1))) (fun r N => if r ≤ (0 : Int32) then pm_t2 N t q else some (r, N))
theorem pu_tl {R : gw_M} {t q : Nat} (ht : t < 4) (hq : q < 4) (K : gw_M → Nat → Int32 → Int64 → Int32 → Int32 → Int32 → Option (Int32 × gw_M)) : mo_invoke_b55 K R 0 (nI (t + 1)) (lN q) (pm_b false) (pm_b false) (nI (t + 2)) = pm_tl R t q := by
  unfold mo_invoke_b55 pm_tl
  rw [if_pos (nI_lt (show t + 1 < t + 2 by omega) (by omega)), if_pos (show pm_b false = 0 from rfl), if_pos (show pm_b false = 0 from rfl)]
  refine pu_bc (fun r N => ?_)
  by_cases hr : r ≤ (0 : Int32)
  · have e0 : (lg_cmp (lN q) (0 : Int64) ≤ (0 : Int32)) ↔ q = 0 := by
      rw [pu_cle, pu_lLe, pu_lNt (by omega), pu_L0]; omega
    rw [if_pos hr, if_pos hr, show (4 : Int32) + nI (t + 1) = nI (4 + (t + 1)) by rw [pu_lit 4, nI_add], pu_gi (show 4 + (t + 1) < 9 by omega) (by decide), nI_clamp (show 4 + (t + 1) < 2 ^ 31 by omega), pu_lt, show (10 : Int32) * nI (t + 1) + (3 : Int32) = nI (10 * (t + 1) + 3) by rw [pu_lit 10, pk_mul, pu_lit 3, nI_add], pu_gi (show 10 * (t + 1) + 3 < 50 by omega) (by decide), pu_gi (show 4 + (t + 1) < 9 by omega) (by decide), nI_clamp (show 10 * (t + 1) + 3 < 2 ^ 31 by omega), pu_lt, lN_i, pu_lt, nI_1]
    unfold pm_t2
    by_cases h0 : q = 0
    · rw [if_pos (e0.mpr h0), if_pos h0]
      rfl
    · rw [if_neg (fun z => h0 (e0.mp z)), if_neg h0, Nat.zero_add, show (gw_sI (gw_sI (gw_sI N 12 (4 + (t + 1)) (nI q)) (0 + 13) (4 + (t + 1)) ((gw_sI N 12 (4 + (t + 1)) (nI q)).2 (0 + 18) (10 * (t + 1) + 3)).toInt32) 0 17 (nI (t + 1 + 1))).1 0 17 = nI (t + 2) from pu_r2 rfl rfl]
      rfl
  · rw [if_neg hr, if_neg hr]
theorem pu_b0 {b : Bool} : pm_b b = 0 ↔ ¬ b = true := pm_b_t
theorem qx_asked {C R : gw_M} {t p k q : Nat} {av mv pv : Nat → Nat} (ht : t < 4) (hp : p < 3) (hq : q < 4) (hB : qs_B k av mv) (hC : qs_C C (49 + 7 * t) k av mv) (hR : qs_R R (4 + t) k av mv) (hG : qf_G C R t) (h49 : C.1 (49 + 7 * t) 0 = nI (p + 1)) (h12 : R.1 12 (4 + t) = nI (p + 1)) (hW : qw_P C R t pv) (h6 : C.1 0 6 = nI (t + 1)) : (∃ (w : Nat) (R2 : gw_M), 0 < w ∧ w < 15 ∧ am_refusal_b0 C 0 (48 + 7 * t) (nI q) = some (nI w, C) ∧ mo_invoke_b32 R 0 (nI (t + 1)) (lN q) (pm_b (decide (t = 3))) = some (nI w, R2) ∧ sk_R R R2 t) ∨ (t < 3 ∧ am_refusal_b0 C 0 (48 + 7 * t) (nI q) = some (nI 0, C) ∧ ∃ (cnt : Nat) (R2 : gw_M), qn_A (C.2 (52 + 7 * t) 2) cnt ∧ qn_9 (C.2 (52 + 7 * t) 2) cnt k ∧ fm_R R R2 (4 + (t + 1)) ∧ qs_R R2 (4 + (t + 1)) cnt (fun j => av (pm_by (C.2 (52 + 7 * t) 2) j % 4)) (fun j => pm_by (C.2 (52 + 7 * t) 2) j / 4 % 4) ∧ mo_invoke_b32 R 0 (nI (t + 1)) (lN q) (pm_b (decide (t = 3))) = pm_tl R2 t q) := by
  obtain ⟨cnt, hn⟩ := qn_ex (C.2 (52 + 7 * t) 2)
  have e34 : 3 + (t + 1) = 4 + t := by omega
  have hc := pu_refusal (C := C) (o := 48 + 7 * t) (q := nI q) (A := C.2 (52 + 7 * t) 2) (r4 := C.2 (52 + 7 * t) 4) hp hB (by rw [show 48 + 7 * t + 1 = 49 + 7 * t by omega]; exact hC) (by rw [show 48 + 7 * t + 1 = 49 + 7 * t by omega]; exact h49) (by rw [show 48 + 7 * t + 4 = 52 + 7 * t by omega]) (by rw [show 48 + 7 * t + 4 = 52 + 7 * t by omega]) hn
  obtain ⟨w, R2, a1, a2, a3, a4⟩ := pu_make (R := R) (u := t + 1) (A := C.2 (52 + 7 * t) 2) (r4 := C.2 (52 + 7 * t) 4) (by omega) hp hB hn (by rw [e34]; exact hR) (by rw [e34]; exact h12) (hG.1 2 (by decide)).symm (hG.1 4 (by decide)).symm
  have e32 : mo_invoke_b32 R 0 (nI (t + 1)) (lN q) (pm_b (decide (t = 3))) = if nI w ≤ (0 : Int32) then mo_invoke_l55 2100 R2 0 (nI (t + 1)) (lN q) (pm_b (decide (t = 3))) (0 : Int32) (1 : Int32) else some (nI w, R2) := by
    unfold mo_invoke_b32
    rw [a1, pu_bd]
  by_cases y9 : qn_9 (C.2 (52 + 7 * t) 2) cnt k
  · obtain ⟨b1, b2, b3⟩ := a4 y9
    by_cases y10 : qn_10 (C.2 (52 + 7 * t) 2) (C.2 (52 + 7 * t) 4) cnt k p av mv
    · have hw := b1 y10
      subst hw
      have hW2 : qw_P C R2 t pv := fun s hs => ⟨(hW s hs).1, (hW s hs).2.1, (congrFun (a2.1 12 (by decide) (by decide) (by decide)) _).trans (hW s hs).2.2⟩
      obtain ⟨g, b, hb, e55⟩ := pu_againL (v4 := pm_b (decide (t = 3))) ht hq hW2 (t + 1) 0 2100 false (Nat.zero_add _) (by omega)
      have hl := pu_rl ht hq hW h6
      rw [if_pos (by decide), show mo_invoke_l55 2100 R2 0 (nI (t + 1)) (lN q) (pm_b (decide (t = 3))) (0 : Int32) (1 : Int32) = mo_invoke_l55 2100 R2 0 (nI (t + 1)) (lN q) (pm_b (decide (t = 3))) (pm_b false) (nI (0 + 1)) from rfl, e55] at e32
      have hbA : b = true ↔ qw_A q t pv := hb.trans ⟨fun z => z.elim (fun y => absurd y (by decide)) (fun ⟨y1, y2, y, _, y3, y4⟩ => ⟨y1, y2, y, y3, y4⟩), fun ⟨y1, y2, y, y3, y4⟩ => Or.inr ⟨y1, y2, y, Nat.zero_le _, y3, y4⟩⟩
      by_cases hA : qw_A q t pv
      · obtain rfl : b = true := hbA.mpr hA
        refine Or.inl ⟨11, R2, by decide, by decide, ((hc.2 y9).2 y10).trans (hl.1 hA), e32.trans ?_, a2.k⟩
        unfold mo_invoke_b55
        rw [if_pos (nI_lt (show t + 1 < t + 2 by omega) (by omega)), if_neg (by decide)]
        rfl
      · obtain rfl : b = false := by
          cases b with
          | false => rfl
          | true => exact absurd (hbA.mp rfl) hA
        by_cases h3 : t < 3
        · refine Or.inr ⟨h3, ((hc.2 y9).2 y10).trans ((hl.2 hA).trans (by rw [if_pos h3]; rfl)), cnt, R2, hn, y9, a2, ⟨b3.1, b3.2⟩, e32.trans ?_⟩
          rw [decide_eq_false (show ¬ t = 3 by omega), pu_tl ht hq]
        · refine Or.inl ⟨12, R2, by decide, by decide, ((hc.2 y9).2 y10).trans ((hl.2 hA).trans (by rw [if_neg h3]; rfl)), e32.trans ?_, a2.k⟩
          unfold mo_invoke_b55
          rw [if_pos (nI_lt (show t + 1 < t + 2 by omega) (by omega)), if_pos (show pm_b false = 0 from rfl), decide_eq_true (show t = 3 by omega), if_neg (by decide)]
          rfl
    · have hw := b2 y10
      subst hw
      exact Or.inl ⟨10, R2, by decide, by decide, (hc.2 y9).1 y10, e32.trans (by rw [if_neg (by decide)]), a2.k⟩
  · have hw := a3 y9
    subst hw
    exact Or.inl ⟨9, R2, by decide, by decide, hc.1 y9, e32.trans (by rw [if_neg (by decide)]), a2.k⟩
