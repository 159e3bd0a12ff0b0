/-! bits of ints, of the streets -/
def bt (e : Int32) (j : Nat) : Bool := e.toBitVec.getLsbD j
theorem bv_and_one {x : BitVec 32} : x &&& 1#32 = 1#32 ↔ x.getLsbD 0 = true := by
  constructor
  · intro h
    have := congrArg (fun v => v.getLsbD 0) h
    simpa using this
  · intro h
    apply BitVec.eq_of_getLsbD_eq
    intro i hi
    rw [BitVec.getLsbD_and]
    by_cases h0 : i = 0
    · subst h0
      simp [h]
    · simp [BitVec.getLsbD_one, h0]
theorem nI_31 : ∀ j : Fin 32, ((nI j.val &&& 31).toBitVec.smod 32).toNat = j.val := by decide +kernel
theorem bt_shr {e : Int32} {j : Nat} (hj : j < 32) : iShr e (nI j) &&& 1 = 1 ↔ bt e j = true := by
  unfold iShr bt
  rw [← Int32.toBitVec_inj, Int32.toBitVec_and, Int32.toBitVec_shiftRight]
  have h1 : (1 : Int32).toBitVec = 1#32 := rfl
  rw [h1, bv_and_one, BitVec.sshiftRight_eq', nI_31 ⟨j, hj⟩]
  show (e.toBitVec.sshiftRight j).getLsbD 0 = true ↔ _
  rw [BitVec.getLsbD_sshiftRight]
  simp [hj]
theorem bt_or (a b : Int32) (j : Nat) : bt (a ||| b) j = (bt a j || bt b j) := by
  unfold bt
  rw [Int32.toBitVec_or, BitVec.getLsbD_or]
theorem bt_and (a b : Int32) (j : Nat) : bt (a &&& b) j = (bt a j && bt b j) := by
  unfold bt
  rw [Int32.toBitVec_and, BitVec.getLsbD_and]
theorem bt_xor (a b : Int32) (j : Nat) : bt (a ^^^ b) j = (bt a j ^^ bt b j) := by
  unfold bt
  rw [Int32.toBitVec_xor, BitVec.getLsbD_xor]
theorem bt_m1 {j : Nat} (hj : j < 32) : bt (-1) j = true := by
  have : ∀ j : Fin 32, bt (-1) j.val = true := by decide +kernel
  exact this ⟨j, hj⟩
theorem bt_not (a : Int32) {j : Nat} (hj : j < 32) : bt (a ^^^ (-1)) j = !bt a j := by
  rw [bt_xor, bt_m1 hj]
  cases bt a j <;> rfl
theorem bt_0 (j : Nat) : bt 0 j = false := by
  unfold bt
  show (0#32).getLsbD j = false
  simp
theorem bt_shl {i j : Nat} (hi : i < 32) (hj : j < 32) : bt (iShl 1 (nI i)) j = decide (j = i) := by
  have : ∀ i j : Fin 32, bt (iShl 1 (nI i.val)) j.val = decide (j.val = i.val) := by decide +kernel
  exact this ⟨i, hi⟩ ⟨j, hj⟩
theorem bt_255 {j : Nat} (hj : j < 32) : bt 255 j = decide (j < 8) := by
  have : ∀ j : Fin 32, bt 255 j.val = decide (j.val < 8) := by decide +kernel
  exact this ⟨j, hj⟩
theorem bt_ext {a b : Int32} (h : ∀ j, j < 32 → bt a j = bt b j) : a = b := by
  rw [← Int32.toBitVec_inj]
  exact BitVec.eq_of_getLsbD_eq h
/-- a street from i to j -/
def aj (l : Int64) (i j : Nat) : Bool := l.toBitVec.getLsbD (i * 8 + j)
theorem ush_63 : ∀ i : Fin 8, (((nI i.val * 8).toInt64.toUInt64 &&& Int64.toUInt64 63).toBitVec % 64).toNat = i.val * 8 := by decide +kernel
theorem bt_nb (l : Int64) {i j : Nat} (hi : i < 8) (hj : j < 32) : bt (nb l (nI i)) j = (decide (j < 8) && aj l i j) := by
  unfold nb
  rw [bt_and, bt_255 hj, Bool.and_comm]
  by_cases h8 : j < 8
  · simp only [h8, decide_true, Bool.true_and]
    unfold bt lUshr aj
    rw [Int64.toBitVec_toInt32, UInt64.toBitVec_toInt64, UInt64.toBitVec_shiftRight, Int64.toBitVec_toUInt64]
    rw [BitVec.getLsbD_signExtend, BitVec.ushiftRight_eq', ush_63 ⟨i, hi⟩, BitVec.getLsbD_ushiftRight]
    simp [hj, show j < 64 by omega]
  · simp [h8]
