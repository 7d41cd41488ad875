/-! ===== lN n to 2^64: shifts, and, or, masks, one bit ===== -/
theorem wb_tb (n : Nat) : (lN n).toBitVec = BitVec.ofNat 64 n := rfl
theorem wb_inj {a b : Int64} (h : a.toBitVec = b.toBitVec) : a = b := Int64.toBitVec_inj.mp h
theorem wb_tn {n : Nat} (h : n < 2 ^ 64) : (lN n).toBitVec.toNat = n := by rw [wb_tb, BitVec.toNat_ofNat, Nat.mod_eq_of_lt h]
theorem wb_of (x : Int64) : ∃ n, n < 2 ^ 64 ∧ x = lN n := ⟨x.toBitVec.toNat, x.toBitVec.isLt, wb_inj (by rw [wb_tb]; simp)⟩
theorem wb_of32 (x : Int32) : ∃ n, n < 2 ^ 32 ∧ x = nI n := ⟨x.toBitVec.toNat, x.toBitVec.isLt, Int32.toBitVec_inj.mp (by show _ = BitVec.ofNat 32 _; simp)⟩
theorem wb_c : ∀ k, k < 64 → ((nI k).toInt64 &&& 63) = lN k := by decide +kernel
theorem wb_cu : ∀ k, k < 64 → ((nI k).toInt64.toUInt64 &&& Int64.toUInt64 63) = UInt64.ofNat k := by decide +kernel
theorem wb_sm : ∀ k, k < 64 → (BitVec.ofNat 64 k).smod 64 = BitVec.ofNat 64 k := by decide +kernel
theorem wb_pw {a b : Nat} (h : a ≤ b) : 2 ^ b = 2 ^ a * 2 ^ (b - a) := by rw [← Nat.pow_add]; congr 1; omega
theorem wb_lt2 {a b : Nat} (h : a < b) : 2 ^ a < 2 ^ b := Nat.pow_lt_pow_right (by decide) h
theorem wb_mod (n : Nat) : lN n = lN (n % 2 ^ 64) := wb_inj (by rw [wb_tb, wb_tb]; apply BitVec.eq_of_toNat_eq; rw [BitVec.toNat_ofNat, BitVec.toNat_ofNat, Nat.mod_mod])
theorem wb_shr {n k : Nat} (hn : n < 2 ^ 64) (hk : k < 64) : ((lN n).toUInt64 >>> ((nI k).toInt64.toUInt64 &&& Int64.toUInt64 63)).toInt64 = lN (n / 2 ^ k) := by
  rw [wb_cu k hk]
  apply wb_inj
  apply BitVec.eq_of_toNat_eq
  show ((lN n).toUInt64 >>> UInt64.ofNat k).toNat = (BitVec.ofNat 64 _).toNat
  have h1 : (UInt64.ofNat k).toNat = k := by
    show (BitVec.ofNat 64 k).toNat = k
    rw [BitVec.toNat_ofNat, Nat.mod_eq_of_lt (by omega)]
  have h2 : (lN n).toUInt64.toNat = n := wb_tn hn
  rw [UInt64.toNat_shiftRight, h1, h2, Nat.mod_eq_of_lt hk, Nat.shiftRight_eq_div_pow, BitVec.toNat_ofNat, Nat.mod_eq_of_lt (Nat.lt_of_le_of_lt (Nat.div_le_self _ _) hn)]
theorem wb_shl (n : Nat) {k : Nat} (hk : k < 64) : lN n <<< ((nI k).toInt64 &&& 63) = lN (n * 2 ^ k) := by
  rw [wb_c k hk]
  apply wb_inj
  rw [Int64.toBitVec_shiftLeft, wb_tb, wb_tb, wb_tb, wb_sm k hk]
  apply BitVec.eq_of_toNat_eq
  rw [BitVec.shiftLeft_eq', BitVec.toNat_shiftLeft, BitVec.toNat_ofNat, BitVec.toNat_ofNat, BitVec.toNat_ofNat, Nat.mod_eq_of_lt (show k < 2 ^ 64 by omega), Nat.shiftLeft_eq, Nat.mul_mod, Nat.mod_mod, ← Nat.mul_mod]
theorem wb_and {a b : Nat} (ha : a < 2 ^ 64) (hb : b < 2 ^ 64) : lN a &&& lN b = lN (a &&& b) := by
  apply wb_inj
  rw [Int64.toBitVec_and, wb_tb, wb_tb, wb_tb]
  apply BitVec.eq_of_toNat_eq
  rw [BitVec.toNat_and, BitVec.toNat_ofNat, BitVec.toNat_ofNat, BitVec.toNat_ofNat, Nat.mod_eq_of_lt ha, Nat.mod_eq_of_lt hb, Nat.mod_eq_of_lt (Nat.and_lt_two_pow _ hb)]
theorem wb_or {a b : Nat} (ha : a < 2 ^ 64) (hb : b < 2 ^ 64) : lN a ||| lN b = lN (a ||| b) := by
  apply wb_inj
  rw [Int64.toBitVec_or, wb_tb, wb_tb, wb_tb]
  apply BitVec.eq_of_toNat_eq
  rw [BitVec.toNat_or, BitVec.toNat_ofNat, BitVec.toNat_ofNat, BitVec.toNat_ofNat, Nat.mod_eq_of_lt ha, Nat.mod_eq_of_lt hb, Nat.mod_eq_of_lt (Nat.or_lt_two_pow ha hb)]
theorem lus_ {n k : Nat} (hn : n < 2 ^ 64) (hk : k < 64) : lush_ (lN n) (nI k) = lN (n / 2 ^ k) := wb_shr hn hk
set_option maxHeartbeats 2000000 in
theorem bc64 {n : Nat} {G : GS} {Q : Int32 → GS → Prop} (hn : n < 2 ^ 62) (h : Q (nI (pn_ 64 n)) G) : wp_J13_bitCount (lN n) G Q := by
  have c1 : (6148914691236517205 : Int64) = lN (mk_ 0x55 8) := rfl
  have c2 : (3689348814741910323 : Int64) = lN (mk_ 0x33 8) := rfl
  have c3 : (1085102592571150095 : Int64) = lN (mk_ 0x0f 8) := rfl
  obtain ⟨k1, k2, k3, k4⟩ := g4_ 8 n (by omega)
  have s1 : ∀ m, m < 2 ^ 64 → lush_ (lN m) 1 = lN (m / 2) := fun m hm => lus_ (k := 1) hm (by omega)
  have s2 : ∀ m, m < 2 ^ 64 → lush_ (lN m) 2 = lN (m / 4) := fun m hm => lus_ (k := 2) hm (by omega)
  have s4 : ∀ m, m < 2 ^ 64 → lush_ (lN m) 4 = lN (m / 16) := fun m hm => lus_ (k := 4) hm (by omega)
  have s8 : ∀ m, m < 2 ^ 64 → lush_ (lN m) 8 = lN (m / 256) := fun m hm => lus_ (k := 8) hm (by omega)
  have s16 : ∀ m, m < 2 ^ 64 → lush_ (lN m) 16 = lN (m / 65536) := fun m hm => lus_ (k := 16) hm (by omega)
  have s32 : ∀ m, m < 2 ^ 64 → lush_ (lN m) 32 = lN (m / 4294967296) := fun m hm => lus_ (k := 32) hm (by omega)
  have m1 : mk_ 0x55 8 < 2 ^ 64 := by decide
  have m2 : mk_ 0x33 8 < 2 ^ 64 := by decide
  have m3 : mk_ 0x0f 8 < 2 ^ 64 := by decide
  have d1 := Nat.div_le_self n 2
  unfold wp_J13_bitCount
  rw [c1, c2, c3, s1 n (by omega), wb_and (by omega) m1, lN_sub k1]
  generalize hA : n - (n / 2 &&& mk_ 0x55 8) = A at k2 k3 k4 ⊢
  have k2' : A < 2 ^ 64 := k2
  have d2 := Nat.div_le_self A 4
  rw [s2 A (by omega), wb_and (by omega) m2, wb_and (by omega) m2, lN_add]
  generalize hB : (A &&& mk_ 0x33 8) + (A / 4 &&& mk_ 0x33 8) = B at k3 k4 ⊢
  have k3' : B < 2 ^ 64 := k3
  have hw : lN (B + B / 16) &&& lN (mk_ 0x0f 8) = lN (bm_ (pn_ 8) 8 n) := by
    rw [wb_mod (B + B / 16), wb_and (Nat.mod_lt _ (by decide)) m3, ← k4]
    congr 1
    have e1 : mk_ 0x0f 8 = mk_ 0x0f 8 % 2 ^ 64 := by decide
    have e2 : (B + B / 16 &&& mk_ 0x0f 8) % 2 ^ 64 = (B + B / 16) % 2 ^ 64 &&& mk_ 0x0f 8 % 2 ^ 64 := Nat.and_mod_two_pow
    rw [← e1] at e2
    rw [← e2, Nat.mod_eq_of_lt]
    exact Nat.and_lt_two_pow _ m3
  rw [s4 B (by omega), lN_add, hw]
  have e : bm_ (pn_ 8) 8 n = pn_ 8 (n % 256) + 256 * (pn_ 8 (n / 256 % 256) + 256 * (pn_ 8 (n / 256 / 256 % 256) + 256 * (pn_ 8 (n / 256 / 256 / 256 % 256) + 256 * (pn_ 8 (n / 256 / 256 / 256 / 256 % 256) + 256 * (pn_ 8 (n / 256 / 256 / 256 / 256 / 256 % 256) + 256 * (pn_ 8 (n / 256 / 256 / 256 / 256 / 256 / 256 % 256) + 256 * (pn_ 8 (n / 256 / 256 / 256 / 256 / 256 / 256 / 256 % 256) + 256 * 0))))))) := rfl
  have p : pn_ 64 n = pn_ 8 (n % 256) + (pn_ 8 (n / 256 % 256) + (pn_ 8 (n / 256 / 256 % 256) + (pn_ 8 (n / 256 / 256 / 256 % 256) + (pn_ 8 (n / 256 / 256 / 256 / 256 % 256) + (pn_ 8 (n / 256 / 256 / 256 / 256 / 256 % 256) + (pn_ 8 (n / 256 / 256 / 256 / 256 / 256 / 256 % 256) + pn_ 8 (n / 256 / 256 / 256 / 256 / 256 / 256 / 256 % 256))))))) := by
    rw [show (64 : Nat) = 8 + 56 from rfl, pc_split, show (56 : Nat) = 8 + 48 from rfl, pc_split, show (48 : Nat) = 8 + 40 from rfl, pc_split, show (40 : Nat) = 8 + 32 from rfl, pc_split, show (32 : Nat) = 8 + 24 from rfl, pc_split, show (24 : Nat) = 8 + 16 from rfl, pc_split, show (16 : Nat) = 8 + 8 from rfl, pc_split]
    have z : n / 2 ^ 8 / 2 ^ 8 / 2 ^ 8 / 2 ^ 8 / 2 ^ 8 / 2 ^ 8 / 2 ^ 8 % 256 = n / 2 ^ 8 / 2 ^ 8 / 2 ^ 8 / 2 ^ 8 / 2 ^ 8 / 2 ^ 8 / 2 ^ 8 := Nat.mod_eq_of_lt (by omega)
    rw [show (256 : Nat) = 2 ^ 8 from rfl] at z ⊢
    rw [z]
  rw [e]
  have q0 := pc_le 8 (n % 256)
  have q1 := pc_le 8 (n / 256 % 256)
  have q2 := pc_le 8 (n / 256 / 256 % 256)
  have q3 := pc_le 8 (n / 256 / 256 / 256 % 256)
  have q4 := pc_le 8 (n / 256 / 256 / 256 / 256 % 256)
  have q5 := pc_le 8 (n / 256 / 256 / 256 / 256 / 256 % 256)
  have q6 := pc_le 8 (n / 256 / 256 / 256 / 256 / 256 / 256 % 256)
  have q7 := pc_le 8 (n / 256 / 256 / 256 / 256 / 256 / 256 / 256 % 256)
  rw [p] at h
  clear e p hw k4 k3 k3' k2 k2' k1 hA hB d1 d2 hn
  generalize pn_ 8 (n % 256) = p0 at *
  generalize pn_ 8 (n / 256 % 256) = p1 at *
  generalize pn_ 8 (n / 256 / 256 % 256) = p2 at *
  generalize pn_ 8 (n / 256 / 256 / 256 % 256) = p3 at *
  generalize pn_ 8 (n / 256 / 256 / 256 / 256 % 256) = p4 at *
  generalize pn_ 8 (n / 256 / 256 / 256 / 256 / 256 % 256) = p5 at *
  generalize pn_ 8 (n / 256 / 256 / 256 / 256 / 256 / 256 % 256) = p6 at *
  generalize pn_ 8 (n / 256 / 256 / 256 / 256 / 256 / 256 / 256 % 256) = p7 at *
  generalize hY : p0 + 256 * (p1 + 256 * (p2 + 256 * (p3 + 256 * (p4 + 256 * (p5 + 256 * (p6 + 256 * (p7 + 256 * 0))))))) = Y
  rw [s8 Y (by omega), lN_add]
  have y1 : Y / 256 = p1 + 256 * (p2 + 256 * (p3 + 256 * (p4 + 256 * (p5 + 256 * (p6 + 256 * p7))))) := by omega
  have z1 : Y + Y / 256 = (p0 + p1) + 256 * ((p1 + p2) + 256 * ((p2 + p3) + 256 * ((p3 + p4) + 256 * ((p4 + p5) + 256 * ((p5 + p6) + 256 * ((p6 + p7) + 256 * p7)))))) := by omega
  generalize Y + Y / 256 = Z at z1 ⊢
  rw [s16 Z (by omega), lN_add]
  have z2 : Z / 65536 = (p2 + p3) + 256 * ((p3 + p4) + 256 * ((p4 + p5) + 256 * ((p5 + p6) + 256 * ((p6 + p7) + 256 * p7)))) := by omega
  have w1 : Z + Z / 65536 = (p0 + p1 + p2 + p3) + 256 * ((p1 + p2 + p3 + p4) + 256 * ((p2 + p3 + p4 + p5) + 256 * ((p3 + p4 + p5 + p6) + 256 * ((p4 + p5 + p6 + p7) + 256 * ((p5 + p6 + p7) + 256 * ((p6 + p7) + 256 * p7)))))) := by omega
  generalize Z + Z / 65536 = W at w1 ⊢
  rw [s32 W (by omega), lN_add, lN_i]
  have w2 : W / 4294967296 = (p4 + p5 + p6 + p7) + 256 * ((p5 + p6 + p7) + 256 * ((p6 + p7) + 256 * p7)) := by omega
  rw [show (127 : Int32) = nI 127 from rfl, na_]
  have t : W + W / 4294967296 &&& 127 = (W + W / 4294967296) % 128 := Nat.and_two_pow_sub_one_eq_mod _ 7
  have t2 : (W + W / 4294967296) % 128 = p0 + (p1 + (p2 + (p3 + (p4 + (p5 + (p6 + p7)))))) := by
    rw [w2, w1]
    clear w1 w2 t z1 z2 y1 hY
    omega
  rw [t, t2]
  exact h
/-- bits counted one by one -/
theorem pn_sm : ∀ k n, pn_ k n = smN (fun w => if n.testBit w then 1 else 0) k
  | 0, _ => rfl
  | k + 1, n => by
    have e : pn_ (k + 1) n = pn_ k (n % 2 ^ k) + pn_ 1 (n / 2 ^ k) := pc_split k 1 n
    rw [e, pn_sm k]
    show _ = smN _ k + (if n.testBit k then 1 else 0)
    have e1 : pn_ 1 (n / 2 ^ k) = n / 2 ^ k % 2 := by show n / 2 ^ k % 2 + 0 = _; omega
    rw [e1]
    congr 1
    · refine smN_cg k (fun i hi => ?_)
      rw [Nat.testBit_mod_two_pow, decide_eq_true hi, Bool.true_and]
    · rw [Nat.testBit_eq_decide_div_mod_eq]
      rcases Nat.mod_two_eq_zero_or_one (n / 2 ^ k) with h1 | h1 <;> rw [h1] <;> decide
