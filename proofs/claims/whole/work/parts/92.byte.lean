/-! bytes of a packed number -/
def bv (p : Int32) (k : Nat) : Nat := p.toUInt32.toNat / 2 ^ (24 - 8 * k) % 256
theorem nI_self (x : Int32) : nI x.toUInt32.toNat = x := by
  refine Int32.toBitVec_inj.mp ?_
  refine BitVec.eq_of_toNat_eq ?_
  show (BitVec.ofNat 32 x.toBitVec.toNat).toNat = x.toBitVec.toNat
  rw [BitVec.toNat_ofNat]
  exact Nat.mod_eq_of_lt x.toBitVec.isLt
theorem bv_lt (p : Int32) (k : Nat) : bv p k < 256 := Nat.mod_lt _ (by decide)
theorem nI_iI {n : Nat} (h : n < 2 ^ 31) : nI n = iI (n : Int) := by
  rw [← Int32.toInt_inj, nI_toInt h, iI_toInt (by omega)]
theorem mask8 (x : Int32) : x &&& 255 = iI ((x.toUInt32.toNat % 256 : Nat) : Int) := by
  have h := fa_mask x.toUInt32.toNat 8
  rw [nI_self] at h
  rw [← nI_iI (by omega)]
  exact h
theorem byteC (p : Int32) (k : Nat) (hk : k < 4) : (p.toUInt32 >>> ((iI (24 - 8 * (k : Int))).toUInt32 &&& Int32.toUInt32 31)).toInt32 &&& (255 : Int32) = iI (bv p k) := by
  rw [mask8]
  have e : ((iI (24 - 8 * (k : Int))).toUInt32 &&& Int32.toUInt32 31) = UInt32.ofNat (24 - 8 * k) := by
    rcases (show k = 0 ∨ k = 1 ∨ k = 2 ∨ k = 3 by omega) with rfl | rfl | rfl | rfl <;> decide
  rw [e]
  congr 2
  unfold bv
  rw [UInt32.toUInt32_toInt32, UInt32.toNat_shiftRight]
  rcases (show k = 0 ∨ k = 1 ∨ k = 2 ∨ k = 3 by omega) with rfl | rfl | rfl | rfl <;> simp [Nat.shiftRight_eq_div_pow]
theorem byteM_one (p : Int32) (n : Nat) (s : Int32) (hs : (p >>> s).toBitVec = p.toBitVec.sshiftRight n) (hn : n = 0 ∨ n = 8 ∨ n = 16 ∨ n = 24) : (p >>> s).toUInt32.toNat % 256 = p.toUInt32.toNat / 2 ^ n % 256 := by
  show (p >>> s).toBitVec.toNat % 256 = p.toBitVec.toNat / 2 ^ n % 256
  rw [hs]
  have h1 := BitVec.toInt_sshiftRight (x := p.toBitVec) (n := n)
  have h2 := BitVec.toInt_eq_toNat_cond (p.toBitVec.sshiftRight n)
  have h3 := BitVec.toInt_eq_toNat_cond p.toBitVec
  have h4 := (p.toBitVec.sshiftRight n).isLt
  have h5 := p.toBitVec.isLt
  rw [Int.shiftRight_eq_div_pow] at h1
  generalize (p.toBitVec.sshiftRight n).toNat = a at *
  generalize (p.toBitVec.sshiftRight n).toInt = b at *
  generalize p.toBitVec.toNat = c at *
  generalize p.toBitVec.toInt = d at *
  rcases hn with rfl | rfl | rfl | rfl <;> (simp at h1; split at h2 <;> split at h3 <;> omega)
theorem byteM (p : Int32) (k : Nat) (hk : k < 4) : (p >>> (iI (24 - 8 * (k : Int)) &&& 31)) &&& (255 : Int32) = iI (bv p k) := by
  rw [mask8]
  have e : (iI (24 - 8 * (k : Int)) &&& 31) = iI (24 - 8 * (k : Int)) := by
    rcases (show k = 0 ∨ k = 1 ∨ k = 2 ∨ k = 3 by omega) with rfl | rfl | rfl | rfl <;> decide
  rw [e]
  congr 2
  unfold bv
  rcases (show k = 0 ∨ k = 1 ∨ k = 2 ∨ k = 3 by omega) with rfl | rfl | rfl | rfl
  · exact byteM_one p 24 _ rfl (by omega)
  · exact byteM_one p 16 _ rfl (by omega)
  · exact byteM_one p 8 _ rfl (by omega)
  · exact byteM_one p 0 _ rfl (by omega)
