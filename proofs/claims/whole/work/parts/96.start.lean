theorem lw_c1z {k j : Nat} (h3 : k ≠ 3) (h8 : k ≠ 8) : lw_C1.1 k j = 0 := by
  show (if k = 7 + 1 then (fun j => if j < 8 then (100 : Int32) else (bw_fl lw_Z0 (2 + 1) 8 (100 : Int32)).1 (7 + 1) j) else (if k = 2 + 1 then (fun j => if j < 8 then (100 : Int32) else lw_Z0.1 (2 + 1) j) else lw_Z0.1 k)) j = 0
  rw [if_neg h8, if_neg h3]
  rfl
theorem lw_r1z {k j : Nat} (h : k ≠ 1) : lw_R1.1 k j = 0 := by
  unfold lw_R1
  simp only [gw_sI_1 _ h]
  rfl
theorem lw_c13 : ∀ a, a < 8 → lw_C1.1 3 a = nI 100 := by decide
theorem lw_r11 : ∀ a, a < 8 → lw_R1.1 1 a = nI 100 := by decide
theorem qq_start : qq_R lw_C1 lw_R1 := by
  refine ⟨fun a ha => ⟨100, 0, 0, ⟨by decide, by decide, by decide⟩, ⟨lw_c13 a ha, lw_r11 a ha⟩, ⟨lw_c1z (by decide) (by decide), lw_r1z (by decide)⟩, ⟨lw_c1z (by decide) (by decide), lw_r1z (by decide)⟩, fun w hw => ⟨(lw_c1z (by decide) (by decide)).trans (lw_r1z (by decide)).symm, fun _ => lw_c1z (by decide) (by decide)⟩⟩, fun p hp => ⟨0, by decide, ⟨lw_c1z (by omega) (by omega), lw_r1z (by decide)⟩, Or.inl ⟨lw_c1z (by omega) (by omega), lw_r1z (by decide)⟩, fun i hi => absurd hi (by omega)⟩, ⟨0, by decide, lw_c1z (by decide) (by decide), lw_r1z (by decide), fun i hi => absurd hi (by omega)⟩, ⟨0, by decide, lw_c1z (by decide) (by decide), lw_r1z (by decide)⟩, rfl, 0, by decide, lw_c1z (by decide) (by decide), lw_r1z (by decide), fun i hi => absurd hi (by omega)⟩
theorem qq_ops : lw_ops qq_R := ⟨qu_code, qu_wipe, qu_load, qu_order, qu_slot, qu_run, qu_units, qu_result, qu_log, qu_logged, qu_account, qu_data⟩
