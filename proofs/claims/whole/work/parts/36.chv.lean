/-! A CHARACTER out of a long is below 256 (pure) -/
theorem chW_lt (x : Int64) (t : Nat) : (chW x t).toUInt32.toNat < 256 := by
  unfold chW
  generalize (x.toUInt64 >>> ((nI (8 * t)).toInt64.toUInt64 &&& Int64.toUInt64 63)).toInt64 = y
  have h1 : ((y &&& (255 : Int64)).toInt32).toBitVec = ((y &&& (255 : Int64)).toBitVec).signExtend 32 := rfl
  show ((y &&& (255 : Int64)).toInt32).toBitVec.toNat < 256
  have h2 : ((y &&& (255 : Int64)).toInt32).toBitVec.toNat = ((y &&& (255 : Int64)).toBitVec).toNat % 2 ^ 32 := by
    rw [h1, BitVec.signExtend_eq_setWidth_of_le _ (by decide), BitVec.toNat_setWidth]
  have h3 : (y &&& (255 : Int64)).toBitVec = y.toBitVec &&& 255#64 := rfl
  have h4 : (y.toBitVec &&& 255#64).toNat ≤ 255 := by
    rw [BitVec.toNat_and]
    exact Nat.and_le_right
  rw [h2, h3]
  omega
theorem chV_W (x : Int64) (t : Nat) : chV x t = chW x t := by
  have h := chW_lt x t
  have e : ((chW x t).toUInt32 % 65536).toInt32 = chW x t := by
    have e1 : (chW x t).toUInt32 % 65536 = (chW x t).toUInt32 := UInt32.toNat_inj.mp (by
      rw [UInt32.toNat_mod]
      exact Nat.mod_eq_of_lt (by show _ < 65536; omega))
    rw [e1]
    rfl
  show vp_nar .char (((chW x t).toUInt32 % 65536).toInt32) = chW x t
  rw [e]
  exact e
theorem apF_M (f : Nat → Int32) (L : Nat) (x : Int64) (w : Nat) : ∀ j, apF f L x w j = apM f L x w j
  | 0 => rfl
  | j + 1 => by rw [apF, apM, apF_M f L x w j, chV_W]
