/-! The bytes of the number that asks for slots. -/
theorem pu_lshr (a s : Int64) (k : Nat) (hs : (s.toBitVec.smod 64).toNat = k) : (a >>> s).toInt = a.toInt / ((2 ^ k : Nat) : Int) := by
  show (a.toBitVec.sshiftRight (s.toBitVec.smod 64).toNat).toInt = _
  rw [hs, BitVec.toInt_sshiftRight, Int.shiftRight_eq_div_pow]
  rfl
theorem pu_low (X : Int64) : ((X.toBitVec.toNat : Nat) : Int) % 256 = X.toInt % 256 := by
  have h : X.toInt = X.toBitVec.toInt := rfl
  rw [h, BitVec.toInt_eq_toNat_cond]
  by_cases c : 2 * X.toBitVec.toNat < 2 ^ 64
  · rw [if_pos c]
  · rw [if_neg c]
    omega
theorem pu_land (X : Int64) : X &&& 3 = lN (X.toBitVec.toNat % 4) := by
  apply Int64.toBitVec_inj.mp
  apply BitVec.eq_of_toNat_eq
  rw [Int64.toBitVec_and, BitVec.toNat_and, show (3 : Int64).toBitVec.toNat = 2 ^ 2 - 1 from rfl, Nat.and_two_pow_sub_one_eq_mod]
  show _ = (BitVec.ofNat 64 _).toNat
  rw [BitVec.toNat_ofNat]
  omega
theorem pu_land16 (X : Int64) : X &&& 16 = 0 ↔ X.toBitVec.toNat / 16 % 2 = 0 := by
  have h : (X &&& 16).toBitVec.toNat = X.toBitVec.toNat / 16 % 2 * 16 := by
    have hd : ∀ y, y < 32 → y &&& 16 = y / 16 % 2 * 16 := by decide
    rw [Int64.toBitVec_and, BitVec.toNat_and, show (16 : Int64).toBitVec.toNat = (2 ^ 5 - 1) &&& 16 from rfl, ← Nat.and_assoc, Nat.and_two_pow_sub_one_eq_mod, hd _ (by omega)]
    omega
  constructor
  · intro q
    rw [q] at h
    have h0 : (0 : Int64).toBitVec.toNat = 0 := rfl
    omega
  · intro q
    apply Int64.toBitVec_inj.mp
    apply BitVec.eq_of_toNat_eq
    rw [h, q]
    rfl
theorem pu_li (X : Int64) : X.toInt32 &&& 255 = nI (X.toBitVec.toNat % 256) := by
  rw [pk_and _ 8 (show (255 : Int32).toBitVec.toNat = 2 ^ 8 - 1 from rfl)]
  have h : X.toInt32.toBitVec.toNat = X.toBitVec.toNat % 2 ^ 32 := by
    rw [Int64.toBitVec_toInt32, BitVec.signExtend_eq_setWidth_of_le _ (by decide), BitVec.toNat_setWidth]
  rw [h]
  congr 1
  omega
/-- byte i of the number -/
def pm_pw : Nat → Nat
  | 0 => 1
  | 1 => 256
  | 2 => 65536
  | _ => 16777216
def pm_by (A : Int64) (i : Nat) : Nat := (A.toInt / ((pm_pw i : Nat) : Int) % 256).toNat
theorem pm_by_lt (A : Int64) (i : Nat) : pm_by A i < 256 := by
  unfold pm_by
  omega
theorem pu_sh0 : ∀ i, i < 4 → ((((8 : Int32) * nI i).toInt64 &&& 63).toBitVec.smod 64).toNat = 8 * i ∧ ((((8 : Int32) * nI i + 2).toInt64 &&& 63).toBitVec.smod 64).toNat = 8 * i + 2 := by decide
theorem pu_byX (A : Int64) {i : Nat} (hi : i < 4) : (A >>> (((8 : Int32) * nI i).toInt64 &&& 63)).toBitVec.toNat % 256 = pm_by A i := by
  have h := pu_lshr A _ _ (pu_sh0 i hi).1
  have g := pu_low (A >>> (((8 : Int32) * nI i).toInt64 &&& 63))
  rw [h] at g
  unfold pm_by
  have hc : i = 0 ∨ i = 1 ∨ i = 2 ∨ i = 3 := by omega
  rcases hc with rfl | rfl | rfl | rfl
  · rw [show (pm_pw 0 : Nat) = 2 ^ (8 * 0) from rfl]; omega
  · rw [show (pm_pw 1 : Nat) = 2 ^ (8 * 1) from rfl]; omega
  · rw [show (pm_pw 2 : Nat) = 2 ^ (8 * 2) from rfl]; omega
  · rw [show (pm_pw 3 : Nat) = 2 ^ (8 * 3) from rfl]; omega
theorem pu_byM (A : Int64) {i : Nat} (hi : i < 4) : (A >>> (((8 : Int32) * nI i + 2).toInt64 &&& 63)).toBitVec.toNat % 4 = pm_by A i / 4 % 4 := by
  have h := pu_lshr A _ _ (pu_sh0 i hi).2
  have g := pu_low (A >>> (((8 : Int32) * nI i + 2).toInt64 &&& 63))
  rw [h] at g
  unfold pm_by
  have hc : i = 0 ∨ i = 1 ∨ i = 2 ∨ i = 3 := by omega
  rcases hc with rfl | rfl | rfl | rfl
  · rw [show (pm_pw 0 : Nat) = 1 from rfl]
    rw [show (2 ^ (8 * 0 + 2) : Nat) = 4 from rfl] at g
    omega
  · rw [show (pm_pw 1 : Nat) = 256 from rfl]
    rw [show (2 ^ (8 * 1 + 2) : Nat) = 1024 from rfl] at g
    omega
  · rw [show (pm_pw 2 : Nat) = 65536 from rfl]
    rw [show (2 ^ (8 * 2 + 2) : Nat) = 262144 from rfl] at g
    omega
  · rw [show (pm_pw 3 : Nat) = 16777216 from rfl]
    rw [show (2 ^ (8 * 3 + 2) : Nat) = 67108864 from rfl] at g
    omega
theorem pu_by16 (A : Int64) {i : Nat} (hi : i < 4) : lg_cmp ((A >>> (((8 : Int32) * nI i).toInt64 &&& 63)) &&& 16) 0 = 0 ↔ pm_by A i / 16 % 2 = 0 := by
  rw [pu_c0, pu_land16, ← pu_byX A hi]
  omega
theorem pu_slotOf (M : gw_M) (A : Int64) {i : Nat} (hi : i < 4) : am_askedSlot_b0 M A (nI i) = some (nI (pm_by A i % 4), M) := by
  unfold am_askedSlot_b0
  rw [pu_land, lN_i, ← pu_byX A hi, show (A >>> (((8 : Int32) * nI i).toInt64 &&& 63)).toBitVec.toNat % 256 % 4 = (A >>> (((8 : Int32) * nI i).toInt64 &&& 63)).toBitVec.toNat % 4 by omega]
theorem pu_marksOf (M : gw_M) (A : Int64) {i : Nat} (hi : i < 4) : am_askedMarks_b0 M A (nI i) = some (nI (pm_by A i / 4 % 4), M) := by
  unfold am_askedMarks_b0
  rw [pu_land, lN_i, pu_byM A hi]
theorem pu_byR (A : Int64) {i : Nat} (hi : i < 4) : (A >>> (((8 : Int32) * nI i).toInt64 &&& 63)).toInt32 &&& 255 = nI (pm_by A i) := by
  rw [pu_li, pu_byX A hi]
set_option maxRecDepth 100000 in
theorem pu_bits : ∀ b, b < 256 → ((nI b &&& (16 : Int32) = 0 ↔ b / 16 % 2 = 0) ∧ nI b &&& (3 : Int32) = nI (b % 4)) ∧ (nI b &&& (4 : Int32) = 0 ↔ b / 4 % 2 = 0) ∧ (nI b &&& (8 : Int32) = 0 ↔ b / 8 % 2 = 0) ∧ (nI b >>> ((2 : Int32) &&& 31)) &&& (3 : Int32) = nI (b / 4 % 4) := by decide
