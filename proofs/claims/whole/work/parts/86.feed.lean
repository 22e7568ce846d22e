/-! layer 2: feed -/
section Feed
variable {d : Nat} {cs : Nat → Nat × (Nat → Int32)} {f f' f1 f2 : Nat → Nat → Int32} {P : am_T} {x n w v bs from0 : Int32}
theorem bv_byte {n : Nat} (hn : n ≤ 24) (X : BitVec 32) : (X >>> n).setWidth 8 = ((X.sshiftRight n) &&& 255#32).setWidth 8 := by
  refine BitVec.eq_of_getLsbD_eq (fun i hi => ?_)
  have h255 : (255#32).getLsbD i = true := by
    rcases (show i = 0 ∨ i = 1 ∨ i = 2 ∨ i = 3 ∨ i = 4 ∨ i = 5 ∨ i = 6 ∨ i = 7 by omega) with rfl | rfl | rfl | rfl | rfl | rfl | rfl | rfl <;> decide
  rw [BitVec.getLsbD_setWidth, BitVec.getLsbD_setWidth, BitVec.getLsbD_ushiftRight, BitVec.getLsbD_and, BitVec.getLsbD_sshiftRight, h255]
  simp [hi, show n + i < 32 by omega, show ¬ 32 ≤ i by omega]
def shu (x : Int32) (k : Nat) : Int32 := (x.toUInt32 >>> ((8 * Int32.ofNat k).toUInt32 &&& Int32.toUInt32 31)).toInt32
def shb (x : Int32) (k : Nat) : Int32 := (x >>> ((8 * Int32.ofNat k) &&& 31)) &&& 255
theorem byt {k : Nat} (hk : k < 4) : (shu x k).toInt8 = (shb x k).toInt8 := by
  have q := fun n hn => bv_byte (n := n) hn x.toBitVec
  apply Int8.toBitVec_inj.mp
  rw [Int32.toBitVec_toInt8, Int32.toBitVec_toInt8, BitVec.signExtend_eq_setWidth_of_le _ (by decide), BitVec.signExtend_eq_setWidth_of_le _ (by decide)]
  rcases (show k = 0 ∨ k = 1 ∨ k = 2 ∨ k = 3 by omega) with rfl | rfl | rfl | rfl
  · exact q 0 (by decide)
  · exact q 8 (by decide)
  · exact q 16 (by decide)
  · exact q 24 (by decide)
theorem shb_in {k : Nat} : vp_in (shb x k) 256 := by
  have e : (shb x k).toInt = (shb x k).toBitVec.toInt := rfl
  have l : (shb x k).toBitVec.toNat ≤ 255 := by
    unfold shb
    rw [Int32.toBitVec_and, BitVec.toNat_and]
    exact Nat.and_le_right
  refine vp_in_iff.mpr ?_
  rw [e, BitVec.toInt_eq_toNat_of_lt (by omega)]
  omega
theorem nar_b {y : Int8} : vp_nar .byte y.toInt32 = y.toInt32 := by
  show (y.toInt32).toInt8.toInt32 = y.toInt32
  rw [Int8.toInt8_toInt32]
end Feed
