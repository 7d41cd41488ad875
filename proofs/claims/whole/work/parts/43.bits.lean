def clrN (V j : Nat) : Nat := if V.testBit j then V - 2 ^ j else V
def setN (V j : Nat) : Nat := if V.testBit j then V else V + 2 ^ j
theorem na_ (a b : Nat) : nI a &&& nI b = nI (a &&& b) := by
  apply Int32.toBitVec_inj.mp
  apply BitVec.eq_of_toNat_eq
  show ((BitVec.ofNat 32 a) &&& (BitVec.ofNat 32 b)).toNat = (BitVec.ofNat 32 (a &&& b)).toNat
  simp [BitVec.toNat_and, BitVec.toNat_ofNat, Nat.and_mod_two_pow]
theorem no_ (a b : Nat) : nI a ||| nI b = nI (a ||| b) := by
  apply Int32.toBitVec_inj.mp
  apply BitVec.eq_of_toNat_eq
  show ((BitVec.ofNat 32 a) ||| (BitVec.ofNat 32 b)).toNat = (BitVec.ofNat 32 (a ||| b)).toNat
  simp [BitVec.toNat_or, BitVec.toNat_ofNat, Nat.or_mod_two_pow]
theorem bc_0 : ∀ j, j < 10 → (1 : Int32) <<< (nI j &&& 31) = nI (2 ^ j) ∧ ((1 : Int32) <<< (nI j &&& 31)) ^^^ (-1 : Int32) = nI (4294967295 - 2 ^ j) ∧ (0 : Int32) <<< (nI j &&& 31) = nI 0 := by decide +kernel
theorem bn_1 : ∀ j, j < 10 → ∀ V, V < 1024 → V &&& (4294967295 - 2 ^ j) = clrN V j := by decide +kernel
theorem bn_2 : ∀ j, j < 10 → ∀ V, V < 1024 → V ||| 2 ^ j = setN V j := by decide +kernel
theorem bn_3 : ∀ j, j < 10 → ∀ V, V < 1024 → clrN V j < 1024 ∧ setN V j < 1024 ∧ setN (clrN V j) j = setN V j := by decide +kernel
theorem clr_tb {V q a : Nat} (hV : V < 1024) (hq : q < 10) (ha : a < 10) : (clrN V q).testBit a = true ↔ (V.testBit a = true ∧ a ≠ q) := by
  have e : (4294967295 - 2 ^ q).testBit a = decide (a ≠ q) := (by decide +kernel : ∀ q : Nat, q < 10 → ∀ a : Nat, a < 10 → ((4294967295 : Nat) - 2 ^ q).testBit a = decide (a ≠ q)) q hq a ha
  rw [← bn_1 q hq V hV, Nat.testBit_and, e, Bool.and_eq_true, decide_eq_true_iff]
theorem set_tb {V q a : Nat} (hV : V < 1024) (hq : q < 10) (ha : a < 10) : (setN V q).testBit a = true ↔ (V.testBit a = true ∨ a = q) := by
  have e : (2 ^ q).testBit a = decide (a = q) := (by decide +kernel : ∀ q : Nat, q < 10 → ∀ a : Nat, a < 10 → ((2 : Nat) ^ q).testBit a = decide (a = q)) q hq a ha
  rw [← bn_2 q hq V hV, Nat.testBit_or, e, Bool.or_eq_true, decide_eq_true_iff]
theorem bc_1 {V j : Nat} (hV : V < 1024) (hj : j < 10) : nI V &&& (((1 : Int32) <<< (nI j &&& 31)) ^^^ (-1 : Int32)) = nI (clrN V j) := by rw [(bc_0 j hj).2.1, na_, bn_1 j hj V hV]
theorem bc_2 {V j : Nat} (hV : V < 1024) (hj : j < 10) : nI V ||| ((1 : Int32) <<< (nI j &&& 31)) = nI (setN V j) := by rw [(bc_0 j hj).1, no_, bn_2 j hj V hV]
theorem bc_3 {V j : Nat} (hV : V < 1024) (hj : j < 10) : (nI (clrN V j) ||| ((1 : Int32) <<< (nI j &&& 31))) = nI (setN V j) ∧ (nI (clrN V j) ||| ((0 : Int32) <<< (nI j &&& 31))) = nI (clrN V j) := by
  have h := bn_3 j hj V hV
  refine ⟨?_, ?_⟩
  · rw [bc_2 h.1 hj, h.2.2]
  · rw [(bc_0 j hj).2.2, no_, Nat.or_zero]
