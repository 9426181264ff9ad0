variable {Mb : SMem}
def bt (x s : Int32) : Int32 := (x >>> (s &&& 31)) &&& 255
section
variable {N : Nat} {I : kInts} {L : kLngs} {n : Nat} {T : Nat → Nat}
theorem bt_num (x s : Int32) : ∃ v, v ≤ 255 ∧ bt x s = nI v := by
  refine ⟨(bt x s).toBitVec.toNat, ?_, ?_⟩
  · unfold bt
    rw [Int32.toBitVec_and, BitVec.toNat_and]
    exact Nat.and_le_right
  · apply Int32.toBitVec_inj.mp
    show (bt x s).toBitVec = (Int32.ofNat _).toBitVec
    simp
theorem b255 (i : Nat) : (255 : Int32).toBitVec.getLsbD i = decide (i < 8) := by
  by_cases h : i < 32
  · revert h
    revert i
    decide
  · rw [BitVec.getLsbD_of_ge _ _ (by omega)]
    simp
    omega
theorem bt_u (x : Int32) {s : Int32} (h : s = 24 ∨ s = 16 ∨ s = 8 ∨ s = 0) : ((x.toUInt32 >>> (s.toUInt32 &&& Int32.toUInt32 31)).toInt32) &&& 255 = bt x s := by
  unfold bt
  apply Int32.toBitVec_inj.mp
  rw [Int32.toBitVec_and, Int32.toBitVec_and]
  apply BitVec.eq_of_getLsbD_eq
  intro i hi
  rw [BitVec.getLsbD_and, BitVec.getLsbD_and, b255]
  by_cases c : i < 8
  · have key : ∀ k : Nat, k ≤ 24 → (x.toBitVec >>> k).getLsbD i = (x.toBitVec.sshiftRight k).getLsbD i := by
      intro k hk
      rw [BitVec.getLsbD_ushiftRight, BitVec.getLsbD_sshiftRight]
      rw [if_pos (by omega)]
      simp
      omega
    rcases h with rfl | rfl | rfl | rfl
    · have a1 : ((24 : Int32).toUInt32 &&& Int32.toUInt32 31) = 24 := by decide
      have a2 : ((24 : Int32) &&& 31) = 24 := by decide
      have e1 : ((x.toUInt32 >>> (24 : UInt32)).toInt32).toBitVec = x.toBitVec >>> 24 := rfl
      have e2 : (x >>> (24 : Int32)).toBitVec = x.toBitVec.sshiftRight 24 := rfl
      rw [a1, a2, e1, e2, key 24 (by omega)]
    · have a1 : ((16 : Int32).toUInt32 &&& Int32.toUInt32 31) = 16 := by decide
      have a2 : ((16 : Int32) &&& 31) = 16 := by decide
      have e1 : ((x.toUInt32 >>> (16 : UInt32)).toInt32).toBitVec = x.toBitVec >>> 16 := rfl
      have e2 : (x >>> (16 : Int32)).toBitVec = x.toBitVec.sshiftRight 16 := rfl
      rw [a1, a2, e1, e2, key 16 (by omega)]
    · have a1 : ((8 : Int32).toUInt32 &&& Int32.toUInt32 31) = 8 := by decide
      have a2 : ((8 : Int32) &&& 31) = 8 := by decide
      have e1 : ((x.toUInt32 >>> (8 : UInt32)).toInt32).toBitVec = x.toBitVec >>> 8 := rfl
      have e2 : (x >>> (8 : Int32)).toBitVec = x.toBitVec.sshiftRight 8 := rfl
      rw [a1, a2, e1, e2, key 8 (by omega)]
    · have a1 : ((0 : Int32).toUInt32 &&& Int32.toUInt32 31) = 0 := by decide
      have a2 : ((0 : Int32) &&& 31) = 0 := by decide
      have e1 : ((x.toUInt32 >>> (0 : UInt32)).toInt32).toBitVec = x.toBitVec >>> 0 := rfl
      have e2 : (x >>> (0 : Int32)).toBitVec = x.toBitVec.sshiftRight 0 := rfl
      rw [a1, a2, e1, e2, key 0 (by omega)]
  · simp [c]
end
