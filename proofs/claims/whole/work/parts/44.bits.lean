/-! ===== red ===== -/
def bt (p : Nat) : Int32 := iI 1 <<< (iI p &&& iI 31)
theorem bt_e (p : Nat) : iI 1 <<< (iI p &&& iI 31) = bt p := rfl
theorem m1_bv : (iI (-1)).toBitVec = BitVec.allOnes 32 := by decide
theorem and_nor (a b c : Int32) : a &&& (b ^^^ iI (-1)) &&& (c ^^^ iI (-1)) = a &&& ((b ||| c) ^^^ iI (-1)) := by
  apply Int32.toBitVec_inj.mp
  simp only [Int32.toBitVec_and, Int32.toBitVec_xor, Int32.toBitVec_or, m1_bv]
  ext i hi
  simp only [BitVec.getElem_and, BitVec.getElem_xor, BitVec.getElem_or, BitVec.getElem_allOnes]
  cases a.toBitVec[i] <;> cases b.toBitVec[i] <;> cases c.toBitVec[i] <;> rfl
theorem and_m1 (a : Int32) : a &&& (iI 0 ^^^ iI (-1)) = a := by
  rw [show iI 0 ^^^ iI (-1) = iI (-1) by decide]
  apply Int32.toBitVec_inj.mp
  simp only [Int32.toBitVec_and, m1_bv]
  ext i hi
  simp only [BitVec.getElem_and, BitVec.getElem_allOnes, Bool.and_true]
