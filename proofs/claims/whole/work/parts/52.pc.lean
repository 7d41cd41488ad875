/-! HOW MANY BITS -/
def pn_ : Nat → Nat → Nat
  | 0, _ => 0
  | k + 1, n => n % 2 + pn_ k (n / 2)
theorem pn_s (k n : Nat) : pn_ (k + 1) n = n % 2 + pn_ k (n / 2) := rfl
theorem pc_0 : ∀ k, pn_ k 0 = 0
  | 0 => rfl
  | k + 1 => by unfold pn_; rw [Nat.zero_div, pc_0 k]
theorem pc_le : ∀ k n, pn_ k n ≤ k
  | 0, _ => Nat.le_refl _
  | k + 1, n => by
    unfold pn_
    have := pc_le k (n / 2)
    omega
theorem pc_split : ∀ (a k n : Nat), pn_ (a + k) n = pn_ a (n % 2 ^ a) + pn_ k (n / 2 ^ a)
  | 0, k, n => by
    rw [Nat.zero_add]
    show _ = 0 + pn_ k (n / 2 ^ 0)
    rw [Nat.zero_add, Nat.pow_zero, Nat.div_one]
  | a + 1, k, n => by
    have e : a + 1 + k = a + k + 1 := by omega
    rw [e, pn_s, pn_s, pc_split a k (n / 2)]
    have e1 : n % 2 ^ (a + 1) % 2 = n % 2 := by rw [Nat.pow_succ, Nat.mul_comm, Nat.mod_mul_right_mod]
    have e2 : n % 2 ^ (a + 1) / 2 = n / 2 % 2 ^ a := by rw [Nat.pow_succ, Nat.mul_comm, Nat.mod_mul_right_div_self]
    have e3 : n / 2 / 2 ^ a = n / 2 ^ (a + 1) := by rw [Nat.div_div_eq_div_mul, Nat.pow_succ, Nat.mul_comm]
    rw [e1, e2, e3]
    omega
/-- more places change nothing -/
theorem pc_more {a n : Nat} (h : n < 2 ^ a) (k : Nat) : pn_ (a + k) n = pn_ a n := by
  rw [pc_split, Nat.mod_eq_of_lt h, Nat.div_eq_of_lt h, pc_0]
  omega
theorem and8 (x y : Nat) : x &&& y = ((x % 256) &&& (y % 256)) + 256 * ((x / 256) &&& (y / 256)) := by
  have h1 : (x &&& y) % 2 ^ 8 = x % 2 ^ 8 &&& y % 2 ^ 8 := Nat.and_mod_two_pow
  have h2 : (x &&& y) / 2 ^ 8 = x / 2 ^ 8 &&& y / 2 ^ 8 := Nat.and_div_two_pow
  have h3 : (256 : Nat) = 2 ^ 8 := rfl
  rw [h3, ← h1, ← h2]
  omega
def bm_ (f : Nat → Nat) : Nat → Nat → Nat
  | 0, _ => 0
  | k + 1, n => f (n % 256) + 256 * bm_ f k (n / 256)
theorem bm_s (f : Nat → Nat) (k n : Nat) : bm_ f (k + 1) n = f (n % 256) + 256 * bm_ f k (n / 256) := rfl
theorem bm_lt {f : Nat → Nat} (h : ∀ b, b < 256 → f b < 256) : ∀ k n, bm_ f k n < 256 ^ k
  | 0, _ => by simp [bm_]
  | k + 1, n => by
    have h1 := bm_lt h k (n / 256)
    have h2 := h (n % 256) (Nat.mod_lt _ (by omega))
    rw [Nat.pow_succ]
    unfold bm_
    omega
theorem bm_bm {f g : Nat → Nat} (h : ∀ b, b < 256 → g b < 256) : ∀ k n, bm_ f k (bm_ g k n) = bm_ (fun b => f (g b)) k n
  | 0, _ => rfl
  | k + 1, n => by
    have h2 := h (n % 256) (Nat.mod_lt _ (by omega))
    rw [bm_s, bm_s, bm_s]
    have e1 : (g (n % 256) + 256 * bm_ g k (n / 256)) % 256 = g (n % 256) := by omega
    have e2 : (g (n % 256) + 256 * bm_ g k (n / 256)) / 256 = bm_ g k (n / 256) := by omega
    rw [e1, e2, bm_bm h k]
theorem bm_cg {f g : Nat → Nat} (h : ∀ b, b < 256 → f b = g b) : ∀ k n, bm_ f k n = bm_ g k n
  | 0, _ => rfl
  | k + 1, n => by
    unfold bm_
    rw [h _ (Nat.mod_lt _ (by omega)), bm_cg h k]
def mk_ (m : Nat) : Nat → Nat
  | 0 => 0
  | k + 1 => m + 256 * mk_ m k
def f1_ (b : Nat) : Nat := b - ((b / 2) &&& 0x55)
def f2_ (b : Nat) : Nat := (b &&& 0x33) + ((b / 4) &&& 0x33)
def f3_ (b : Nat) : Nat := (b + b / 16) &&& 0x0f
theorem fb_1 : ∀ b, b < 256 → ((b / 2) &&& 0x55) ≤ b ∧ f1_ b < 256 := by decide +kernel
theorem fb_2 : ∀ b, b < 256 → f2_ (f1_ b) < 256 ∧ f2_ (f1_ b) % 16 ≤ 4 ∧ f2_ (f1_ b) / 16 ≤ 4 := by decide +kernel
theorem fb_3 : ∀ b, b < 256 → f3_ (f2_ (f1_ b)) = pn_ 8 b := by decide +kernel
theorem low1 : ∀ a, a < 128 → ∀ c, c < 2 → (a + 128 * c) &&& 0x55 = a &&& 0x55 := by decide +kernel
theorem low2 : ∀ a, a < 64 → ∀ c, c < 4 → (a + 64 * c) &&& 0x33 = a &&& 0x33 := by decide +kernel
theorem low3 : ∀ a, a < 256 → a &&& 0x0f = a % 16 := by decide +kernel
theorem g1_ : ∀ k n, n < 256 ^ k → ((n / 2) &&& mk_ 0x55 k) ≤ n ∧ n - ((n / 2) &&& mk_ 0x55 k) = bm_ f1_ k n
  | 0, n, h => by
    rw [Nat.pow_zero] at h
    have : n = 0 := by omega
    subst this
    exact ⟨by decide, by decide⟩
  | k + 1, n, h => by
    rw [Nat.pow_succ] at h
    obtain ⟨i1, i2⟩ := g1_ k (n / 256) (by omega)
    have hb : n % 256 < 256 := Nat.mod_lt _ (by omega)
    obtain ⟨j1, j2⟩ := fb_1 (n % 256) hb
    have e : (n / 2) &&& mk_ 0x55 (k + 1) = ((n % 256 / 2) &&& 0x55) + 256 * ((n / 256 / 2) &&& mk_ 0x55 k) := by
      rw [and8]
      have m1 : mk_ 0x55 (k + 1) % 256 = 0x55 := by rw [show mk_ 0x55 (k + 1) = 0x55 + 256 * mk_ 0x55 k from rfl]; omega
      have m2 : mk_ 0x55 (k + 1) / 256 = mk_ 0x55 k := by rw [show mk_ 0x55 (k + 1) = 0x55 + 256 * mk_ 0x55 k from rfl]; omega
      have m3 : n / 2 % 256 = n % 256 / 2 + 128 * (n / 256 % 2) := by omega
      have m4 : n / 2 / 256 = n / 256 / 2 := by omega
      rw [m1, m2, m3, m4, low1 _ (by omega) _ (by omega)]
    rw [e]
    show _ ∧ _ = f1_ (n % 256) + 256 * bm_ f1_ k (n / 256)
    rw [← i2]
    unfold f1_
    omega
theorem g2_ : ∀ k n, n < 256 ^ k → (n &&& mk_ 0x33 k) + ((n / 4) &&& mk_ 0x33 k) = bm_ f2_ k n
  | 0, n, h => by
    rw [Nat.pow_zero] at h
    have : n = 0 := by omega
    subst this
    decide
  | k + 1, n, h => by
    rw [Nat.pow_succ] at h
    have i2 := g2_ k (n / 256) (by omega)
    have hb : n % 256 < 256 := Nat.mod_lt _ (by omega)
    have m1 : mk_ 0x33 (k + 1) % 256 = 0x33 := by rw [show mk_ 0x33 (k + 1) = 0x33 + 256 * mk_ 0x33 k from rfl]; omega
    have m2 : mk_ 0x33 (k + 1) / 256 = mk_ 0x33 k := by rw [show mk_ 0x33 (k + 1) = 0x33 + 256 * mk_ 0x33 k from rfl]; omega
    have e : (n / 4) &&& mk_ 0x33 (k + 1) = ((n % 256 / 4) &&& 0x33) + 256 * ((n / 256 / 4) &&& mk_ 0x33 k) := by
      rw [and8]
      have m3 : n / 4 % 256 = n % 256 / 4 + 64 * (n / 256 % 4) := by omega
      have m4 : n / 4 / 256 = n / 256 / 4 := by omega
      rw [m1, m2, m3, m4, low2 _ (by omega) _ (by omega)]
    have e2 : n &&& mk_ 0x33 (k + 1) = ((n % 256) &&& 0x33) + 256 * ((n / 256) &&& mk_ 0x33 k) := by
      rw [and8, m1, m2]
    rw [e, e2]
    show _ = f2_ (n % 256) + 256 * bm_ f2_ k (n / 256)
    rw [← i2]
    unfold f2_
    omega
/-- bytes whose halves are at most 4 -/
def ok4_ : Nat → Nat → Prop
  | 0, _ => True
  | k + 1, n => (n % 256 % 16 ≤ 4 ∧ n % 256 / 16 ≤ 4) ∧ ok4_ k (n / 256)
theorem g3_ : ∀ k n, n < 256 ^ k → ok4_ k n → (n + n / 16) &&& mk_ 0x0f k = bm_ f3_ k n
  | 0, n, h, _ => by
    rw [Nat.pow_zero] at h
    have : n = 0 := by omega
    subst this
    decide
  | k + 1, n, h, ok => by
    rw [Nat.pow_succ] at h
    obtain ⟨⟨o1, o2⟩, o3⟩ := ok
    have i2 := g3_ k (n / 256) (by omega) o3
    have hb : n % 256 < 256 := Nat.mod_lt _ (by omega)
    have m1 : mk_ 0x0f (k + 1) % 256 = 0x0f := by rw [show mk_ 0x0f (k + 1) = 0x0f + 256 * mk_ 0x0f k from rfl]; omega
    have m2 : mk_ 0x0f (k + 1) / 256 = mk_ 0x0f k := by rw [show mk_ 0x0f (k + 1) = 0x0f + 256 * mk_ 0x0f k from rfl]; omega
    have hx : n / 256 % 16 ≤ 4 := by
      cases k with
      | zero => rw [Nat.pow_zero] at h; omega
      | succ k => have := o3.1.1; omega
    have m3 : (n + n / 16) % 256 = n % 256 + n % 256 / 16 + 16 * (n / 256 % 16) := by omega
    have m4 : (n + n / 16) / 256 = n / 256 + n / 256 / 16 := by omega
    rw [and8, m1, m2, m3, m4, i2, low3 _ (by omega)]
    show _ = f3_ (n % 256) + 256 * bm_ f3_ k (n / 256)
    unfold f3_
    rw [low3 _ (by omega)]
    omega
theorem ok4_bm : ∀ k n, ok4_ k (bm_ (fun b => f2_ (f1_ b)) k n)
  | 0, _ => trivial
  | k + 1, n => by
    have h2 := fb_2 (n % 256) (Nat.mod_lt _ (by omega))
    have e1 : (bm_ (fun b => f2_ (f1_ b)) (k + 1) n) % 256 = f2_ (f1_ (n % 256)) := by rw [bm_s]; omega
    have e2 : (bm_ (fun b => f2_ (f1_ b)) (k + 1) n) / 256 = bm_ (fun b => f2_ (f1_ b)) k (n / 256) := by rw [bm_s]; omega
    unfold ok4_
    rw [e1, e2]
    exact ⟨h2.2, ok4_bm k _⟩
/-- the bytes' counts -/
theorem g4_ (k n : Nat) (h : n < 256 ^ k) :
    ((n / 2) &&& mk_ 0x55 k) ≤ n ∧ n - ((n / 2) &&& mk_ 0x55 k) < 256 ^ k ∧
    (((n - ((n / 2) &&& mk_ 0x55 k)) &&& mk_ 0x33 k) + (((n - ((n / 2) &&& mk_ 0x55 k)) / 4) &&& mk_ 0x33 k)) < 256 ^ k ∧
    (((((n - ((n / 2) &&& mk_ 0x55 k)) &&& mk_ 0x33 k) + (((n - ((n / 2) &&& mk_ 0x55 k)) / 4) &&& mk_ 0x33 k)) + (((n - ((n / 2) &&& mk_ 0x55 k)) &&& mk_ 0x33 k) + (((n - ((n / 2) &&& mk_ 0x55 k)) / 4) &&& mk_ 0x33 k)) / 16) &&& mk_ 0x0f k) = bm_ (pn_ 8) k n := by
  obtain ⟨a1, a2⟩ := g1_ k n h
  have b1 : bm_ f1_ k n < 256 ^ k := bm_lt (fun b hb => (fb_1 b hb).2) k n
  have b2 : bm_ (fun b => f2_ (f1_ b)) k n < 256 ^ k := bm_lt (fun b hb => (fb_2 b hb).1) k n
  refine ⟨a1, by rw [a2]; exact b1, ?_, ?_⟩
  · rw [a2, g2_ k _ b1, bm_bm (fun b hb => (fb_1 b hb).2)]; exact b2
  · rw [a2, g2_ k _ b1, bm_bm (fun b hb => (fb_1 b hb).2), g3_ k _ b2 (ok4_bm k n), bm_bm (fun b hb => (fb_2 b hb).1)]
    exact bm_cg fb_3 k n
theorem usN {n k : Nat} (hn : n < 2 ^ 32) (hk : k < 32) : ush_ (nI n) (nI k) = nI (n / 2 ^ k) := by
  refine pk_ushrN hn _ k ?_
  exact (by decide +kernel : ∀ k, k < 32 → ((((nI k).toUInt32 &&& Int32.toUInt32 31).toBitVec % 32).toNat = k)) k hk
set_option maxHeartbeats 1000000 in
theorem bc32 {n : Nat} {G : GS} {Q : Int32 → GS → Prop} (hn : n < 2 ^ 31) (h : Q (nI (pn_ 32 n)) G) : wp_J6_bitCount (nI n) G Q := by
  have c1 : (1431655765 : Int32) = nI (mk_ 0x55 4) := rfl
  have c2 : (858993459 : Int32) = nI (mk_ 0x33 4) := rfl
  have c3 : (252645135 : Int32) = nI (mk_ 0x0f 4) := rfl
  obtain ⟨k1, k2, k3, k4⟩ := g4_ 4 n (by omega)
  have s1 : ∀ m, m < 2 ^ 32 → ush_ (nI m) 1 = nI (m / 2) := fun m hm => usN (k := 1) hm (by omega)
  have s2 : ∀ m, m < 2 ^ 32 → ush_ (nI m) 2 = nI (m / 4) := fun m hm => usN (k := 2) hm (by omega)
  have s4 : ∀ m, m < 2 ^ 32 → ush_ (nI m) 4 = nI (m / 16) := fun m hm => usN (k := 4) hm (by omega)
  have s8 : ∀ m, m < 2 ^ 32 → ush_ (nI m) 8 = nI (m / 256) := fun m hm => usN (k := 8) hm (by omega)
  have s16 : ∀ m, m < 2 ^ 32 → ush_ (nI m) 16 = nI (m / 65536) := fun m hm => usN (k := 16) hm (by omega)
  unfold wp_J6_bitCount
  rw [c1, c2, c3, s1 n (by omega), na_, pk_sub k1]
  generalize hA : n - (n / 2 &&& mk_ 0x55 4) = A at k2 k3 k4 ⊢
  rw [s2 A (by omega), na_, na_, nI_add]
  generalize hB : (A &&& mk_ 0x33 4) + (A / 4 &&& mk_ 0x33 4) = B at k3 k4 ⊢
  rw [s4 B (by omega), nI_add, na_, k4]
  have e : bm_ (pn_ 8) 4 n = pn_ 8 (n % 256) + 256 * (pn_ 8 (n / 256 % 256) + 256 * (pn_ 8 (n / 256 / 256 % 256) + 256 * (pn_ 8 (n / 256 / 256 / 256 % 256) + 256 * 0))) := rfl
  have p : pn_ 32 n = pn_ 8 (n % 256) + (pn_ 8 (n / 256 % 256) + (pn_ 8 (n / 256 / 256 % 256) + pn_ 8 (n / 256 / 256 / 256 % 256))) := by
    rw [show (32 : Nat) = 8 + 24 from rfl, pc_split, show (24 : Nat) = 8 + 16 from rfl, pc_split, show (16 : Nat) = 8 + 8 from rfl, pc_split]
    have z : n / 2 ^ 8 / 2 ^ 8 / 2 ^ 8 % 256 = n / 2 ^ 8 / 2 ^ 8 / 2 ^ 8 := Nat.mod_eq_of_lt (by omega)
    rw [show (256 : Nat) = 2 ^ 8 from rfl] at z ⊢
    rw [z]
  rw [e]
  have q0 := pc_le 8 (n % 256)
  have q1 := pc_le 8 (n / 256 % 256)
  have q2 := pc_le 8 (n / 256 / 256 % 256)
  have q3 := pc_le 8 (n / 256 / 256 / 256 % 256)
  rw [p] at h
  generalize pn_ 8 (n % 256) = p0 at *
  generalize pn_ 8 (n / 256 % 256) = p1 at *
  generalize pn_ 8 (n / 256 / 256 % 256) = p2 at *
  generalize pn_ 8 (n / 256 / 256 / 256 % 256) = p3 at *
  generalize hY : p0 + 256 * (p1 + 256 * (p2 + 256 * (p3 + 256 * 0))) = Y
  rw [s8 Y (by omega), nI_add]
  generalize hZ : Y + Y / 256 = Z
  rw [s16 Z (by omega), nI_add, show (63 : Int32) = nI 63 from rfl, na_]
  have t : Z + Z / 65536 &&& 63 = (Z + Z / 65536) % 64 := Nat.and_two_pow_sub_one_eq_mod _ 6
  have y1 : Y / 256 = p1 + 256 * p2 + 65536 * p3 := by omega
  have z1 : Z = (p0 + p1) + 256 * (p1 + p2) + 65536 * ((p2 + p3) + 256 * p3) := by omega
  have z2 : Z / 65536 = (p2 + p3) + 256 * p3 := by omega
  have t2 : (Z + Z / 65536) % 64 = p0 + (p1 + (p2 + p3)) := by
    rw [z2, z1]
    clear z1 z2 t hZ
    omega
  rw [t, t2]
  exact h
/-- the least bit goes -/
theorem pc_drop : ∀ k n, 0 < n → n < 2 ^ k → pn_ k (n &&& (n - 1)) + 1 = pn_ k n ∧ n &&& (n - 1) < n
  | 0, n, h0, h => by rw [Nat.pow_zero] at h; omega
  | k + 1, n, h0, h => by
    rw [Nat.pow_succ] at h
    have d : (n &&& (n - 1)) / 2 = n / 2 &&& ((n - 1) / 2) := Nat.and_div_two_pow (n := 1)
    have m : (n &&& (n - 1)) % 2 = 0 := by
      have : (n &&& (n - 1)) % 2 ^ 1 = n % 2 ^ 1 &&& (n - 1) % 2 ^ 1 := Nat.and_mod_two_pow
      rw [Nat.pow_one] at this
      rw [this]
      rcases Nat.mod_two_eq_zero_or_one n with e | e
      · rw [e, Nat.zero_and]
      · have : (n - 1) % 2 = 0 := by omega
        rw [this, Nat.and_zero]
    unfold pn_
    rw [d, m]
    rcases Nat.mod_two_eq_zero_or_one n with e | e
    · have e1 : (n - 1) / 2 = n / 2 - 1 := by omega
      obtain ⟨i1, i2⟩ := pc_drop k (n / 2) (by omega) (by omega)
      rw [e1]
      refine ⟨by omega, ?_⟩
      have : (n &&& (n - 1)) = 2 * (n / 2 &&& (n / 2 - 1)) := by rw [← e1, ← d]; omega
      omega
    · have e1 : (n - 1) / 2 = n / 2 := by omega
      rw [e1, Nat.and_self]
      refine ⟨by omega, ?_⟩
      have : (n &&& (n - 1)) = 2 * (n / 2) := by
        have := d
        rw [e1, Nat.and_self] at this
        omega
      omega
theorem on_loop {G : GS} {Q : Int32 → GS → Prop} {t : Nat} (h : Q (nI t) G) : ∀ (r n c : Nat), n ≤ r → n < 2 ^ 31 → c + pn_ 32 n = t → lp_X10_ones_4 Q (r + 1) (nI c) (nI n) G := by
  intro r
  induction r with
  | zero =>
    intro n c hr hn hc
    have : n = 0 := by omega
    subst this
    rw [pc_0, Nat.add_zero] at hc
    subst hc
    exact ⟨fun _ => h, fun z => absurd rfl z⟩
  | succ r ih =>
    intro n c hr hn hc
    by_cases h0 : n = 0
    · subst h0
      rw [pc_0, Nat.add_zero] at hc
      subst hc
      exact ⟨fun _ => h, fun z => absurd rfl z⟩
    · obtain ⟨d1, d2⟩ := pc_drop 32 n (by omega) (by omega)
      refine ⟨fun z => absurd z (nI_ne0 (by omega) hn), fun _ => ?_⟩
      have e1 : nI n - 1 = nI (n - 1) := by
        have := nI_pred (n - 1)
        rwa [Nat.sub_add_cancel (by omega)] at this
      rw [nI_1, e1, na_]
      exact ih _ _ (by omega) (by omega) (by omega)
theorem on_ {n : Nat} {G : GS} {Q : Int32 → GS → Prop} (hn : n < 2 ^ 31) (h : Q (nI (pn_ 32 n)) G) : wp_X10_ones (nI n) G Q :=
  ⟨n + 1, on_loop h n n 0 (Nat.le_refl _) hn (by omega)⟩
