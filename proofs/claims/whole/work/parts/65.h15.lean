/-! the image -/
/-- cells 1 to 13 of c' hold what matters of those of c -/
def CP_ (c c' : GS) : Prop := (∀ j, j ∈ [0, 1, 4, 5, 6, 9, 12] → c' 1 j = c 1 j) ∧ (∀ i, i < 10 → c' 2 i = c 2 i) ∧ (∀ i, i < 10 → c' 3 i = c 3 i) ∧ (∀ i, i < 48 → c' 4 i = c 4 i) ∧ (∀ i, i < 4 → c' 5 i = c 5 i) ∧ (∀ i, i < 8 → c' 6 i = c 6 i) ∧ (∀ i, i < 8 → c' 7 i = c 7 i) ∧ (∀ i, i < 15 → c' 8 i = c 8 i) ∧ (∀ j, j ∈ [0, 1, 3] → c' 9 j = c 9 j) ∧ (∀ i, i < 16 → c' 10 i = c 10 i) ∧ (∀ i, i < (c 9 3).toNatClampNeg → c' 11 i = c 11 i) ∧ c' 12 0 = c 12 0 ∧ (∀ i, i < 5 * (c 12 0).toNatClampNeg → c' 13 i = c 13 i)
def FQ_ (s s' : Nat → Int32) (f f' : Nat → Nat → Int32) : Prop := (∀ k, k < 6 → s' k = s k) ∧ (∀ i, i < 13 → f' 0 i = f 0 i) ∧ (∀ i, i < 10 → f' 1 i = f 1 i) ∧ (∀ i, i < 500 → f' 2 i = f 2 i) ∧ (∀ i, i < 4 → f' 3 i = f 3 i) ∧ (∀ i, i < 48 → f' 4 i = f 4 i) ∧ (∀ i, i < 8 → f' 5 i = f 5 i) ∧ (∀ i, i < 8 → f' 6 i = f 6 i) ∧ (∀ i, i < 15 → f' 7 i = f 7 i) ∧ (∀ i, i < 16 → f' 8 i = f 8 i) ∧ (∀ i, i < 16 → f' 9 i = f 9 i) ∧ (∀ i, i < 16 → f' 10 i = f 10 i) ∧ (∀ i, i < 400 → f' 11 i = f 11 i) ∧ (∀ i, i < 400 → f' 12 i = f 12 i)
theorem WT_.cg {op op' ar ar' : Nat → Int32} {b e : Nat} (h : WT_ op ar b e) (h1 : ∀ i, i < e → op' i = op i) (h2 : ∀ i, i < e → ar' i = ar i) : WT_ op' ar' b e := by
  obtain ⟨f, a, b, c⟩ := h
  refine ⟨f, a, b, fun j h3 h4 => ?_⟩
  rw [h1 j h4, h2 j h4]
  exact c j h3 h4
set_option maxHeartbeats 1000000 in
theorem WR_.pw {c c' : GS} {s s' : Nat → Int32} {f f' : Nat → Nat → Int32} (h : WR_ c s f) (hc : CP_ c c') (hf : FQ_ s s' f f') : WR_ c' s' f' := by
  obtain ⟨hA, hB, hC, hD, hE, hF, hG, hH, hIt, hJ, hK, hL, hV⟩ := h
  obtain ⟨c1, c2, c3, c4, c5, c6, c7, c8, c9, c10, c11, c12, c13⟩ := hc
  obtain ⟨s0, f0, f1, f2, f3, f4, f5, f6, f7, f8, f9, f10, f11, f12⟩ := hf
  refine ⟨?_, ?_, ?_, ?_, ?_, ?_, ?_, ?_, ?_, ?_, ?_, ?_, ?_⟩
  · rw [c1 1 (by decide), s0 0 (by omega)]; exact hA
  · rw [c1 4 (by decide), s0 1 (by omega)]; exact hB
  · rw [c1 5 (by decide), s0 2 (by omega)]; exact hC
  · rw [c1 6 (by decide), f0 11 (by omega)]; exact hD
  · rw [c1 0 (by decide), f0 12 (by omega)]; exact hE
  · intro i hi
    rw [f0 i (by omega), c2 i hi]; exact hF i hi
  · obtain ⟨P, a1, a2, a3⟩ := hG
    refine ⟨P, a1, by rw [c1 1 (by decide)]; exact a2, fun i hi => ?_⟩
    rw [c3 i hi, f1 i hi]; exact a3 i hi
  · obtain ⟨n, a1, a2, a3, a4⟩ := hH
    refine ⟨n, a1, by rw [c12]; exact a2, by rw [f0 10 (by omega)]; exact a3, fun j hj => ?_⟩
    rw [c13 j (by rw [a2, nI_clamp (by omega)]; exact hj), f2 j (by omega)]; exact a4 j hj
  · intro t ht
    obtain ⟨n, a1, a2, a3, a4⟩ := hIt t ht
    refine ⟨n, a1, by rw [c5 t ht]; exact a2, by rw [f3 t ht]; exact a3, fun i hi => ?_⟩
    rw [c4 _ (by omega), f4 _ (by omega)]; exact a4 i hi
  · obtain ⟨P, n, a1, a2, a3, a4, a5, a6⟩ := hJ
    refine ⟨P, n, a1, by rw [c1 1 (by decide)]; exact a2, a3, by rw [c1 9 (by decide)]; exact a4, by rw [s0 3 (by omega)]; exact a5, fun i hi => ?_⟩
    rw [c6 i (by omega), c7 i (by omega), f5 i (by omega), f6 i (by omega)]; exact a6 i hi
  · obtain ⟨n, a1, a2, a3, a4⟩ := hK
    refine ⟨n, a1, by rw [c1 12 (by decide)]; exact a2, by rw [s0 4 (by omega)]; exact a3, fun i hi => ?_⟩
    rw [c8 i (by omega), f7 i (by omega)]; exact a4 i hi
  · obtain ⟨n, M, e, l1, l2, l3, l4, l5, l6, l7, l8, l9, l10⟩ := hL
    have mono : ∀ d k, k + d ≤ n → e k ≤ e (k + d) := by
      intro d
      induction d with
      | zero => intro k _; exact Nat.le_refl _
      | succ d ih =>
        intro k hk
        have i1 := ih k (by omega)
        have i2 := l8 (k + d) (by omega)
        rw [show k + (d + 1) = k + d + 1 by omega]; omega
    refine ⟨n, M, e, l1, l2, by rw [c9 0 (by decide)]; exact l3, by rw [s0 5 (by omega)]; exact l4, by rw [c9 3 (by decide)]; exact l5, by rw [c9 1 (by decide)]; exact l6, l7, l8, l9, fun l hl => ?_⟩
    obtain ⟨k1, k2, k3, k4, k5, k6, k7⟩ := l10 l hl
    have en := l9 (l + 1) (by omega)
    have e2 := mono (n - (l + 1)) (l + 1) (by omega)
    rw [show l + 1 + (n - (l + 1)) = n by omega] at e2
    have e3 := l9 n (Nat.le_refl _)
    rw [c10 l (by omega), f8 l (by omega), f9 l (by omega), f10 l (by omega)]
    refine ⟨k1, k2, k3, k4.elim Or.inl (fun z => Or.inr (z.cg (fun i hi => f11 i (by omega)) (fun i hi => f12 i (by omega)))), fun j h1 h2 => ?_, k6, k7⟩
    rw [c11 j (by rw [l5, nI_clamp (by omega)]; omega), f11 j (by omega), f12 j (by omega)]
    exact k5 j h1 h2
  · intro i hi hb
    rw [s0 1 (by omega)] at hb
    rw [s0 0 (by omega), f0 i (by omega)]
    exact hV i hi hb
def L13_ : List Nat := [1, 2, 3, 4, 5, 6, 7, 8, 9, 10, 11, 12, 13]
def L26_ : List Nat := [14, 15, 16, 17, 18, 19, 20, 21, 22, 23, 24, 25, 26]
section IMC
variable {Q : Int32 → GS → Prop} {G : GS} {z m : Nat}
theorem cpz_ {g f : Nat → Int32} {n i : Nat} (h : i < n) : va_cpy g f 0 0 n i = g i := by
  rw [cy_in (Nat.zero_le _) (by omega)]
  congr 1; omega
theorem cpk_ {n : Nat} (hn : n ≤ 2000) {N : Nat} (h : n ≤ N) : cp_ (0 : Int32) (0 : Int32) (nI n) N N := by
  refine ⟨by decide, by decide, nI_pos (by omega), ?_, ?_⟩ <;> rw [nI_clamp (by omega), show (0 : Int32).toNatClampNeg = 0 from by decide] <;> omega
theorem jm7_ {p : Nat → Prop} (h0 : p 0) (h1 : p 1) (h4 : p 4) (h5 : p 5) (h6 : p 6) (h9 : p 9) (h12 : p 12) : ∀ j, j ∈ [0, 1, 4, 5, 6, 9, 12] → p j := by
  intro j hj
  simp only [List.mem_cons, List.not_mem_nil, or_false] at hj
  rcases hj with h | h | h | h | h | h | h <;> subst h <;> assumption
theorem jm3_ {p : Nat → Prop} (h0 : p 0) (h1 : p 1) (h3 : p 3) : ∀ j, j ∈ [0, 1, 3] → p j := by
  intro j hj
  simp only [List.mem_cons, List.not_mem_nil, or_false] at hj
  rcases hj with h | h | h <;> subst h <;> assumption
theorem cpf_t1 {K : GS → Prop} (hK : ∀ G1, FR L26_ G G1 → (∀ k, k ∈ [22, 23, 24, 25, 26] → G1 k = G k) → (∀ j, j ∈ [0, 1, 4, 5, 6, 9, 12] → G1 14 j = G 1 j) → (∀ i, i < 10 → G1 15 i = G 2 i) → (∀ i, i < 10 → G1 16 i = G 3 i) → (∀ i, i < 48 → G1 17 i = G 4 i) → (∀ i, i < 4 → G1 18 i = G 5 i) → (∀ i, i < 8 → G1 19 i = G 6 i) → (∀ i, i < 8 → G1 20 i = G 7 i) → (∀ i, i < 15 → G1 21 i = G 8 i) → K G1) : K (gf_ (gu_ (gf_ (gf_ (gu_ (gf_ (gf_ (gu_ (gu_ (gu_ (gf_ (gf_ (gu_ (gu_ (G) 14 0 (G 1 0)) 14 1 (G 1 1)) 15 (va_cpy (G 2) (G 15) 0 0 10)) 16 (va_cpy (G 3) (G 16) 0 0 10)) 14 4 (G 1 4)) 14 5 (G 1 5)) 14 6 (G 1 6)) 17 (va_cpy (G 4) (G 17) 0 0 48)) 18 (va_cpy (G 5) (G 18) 0 0 4)) 14 9 (G 1 9)) 19 (va_cpy (G 6) (G 19) 0 0 8)) 20 (va_cpy (G 7) (G 20) 0 0 8)) 14 12 (G 1 12)) 21 (va_cpy (G 8) (G 21) 0 0 15)) := by
  refine hK _ ?_ ?_ (jm7_ rfl rfl rfl rfl rfl rfl rfl) (fun i hi => cpz_ hi) (fun i hi => cpz_ hi) (fun i hi => cpz_ hi) (fun i hi => cpz_ hi) (fun i hi => cpz_ hi) (fun i hi => cpz_ hi) (fun i hi => cpz_ hi)
  · exact FR.gf (FR.gu (FR.gf (FR.gf (FR.gu (FR.gf (FR.gf (FR.gu (FR.gu (FR.gu (FR.gf (FR.gf (FR.gu (FR.gu (FR.rf _ G) _ (by decide)) _ (by decide)) _ (by decide)) _ (by decide)) _ (by decide)) _ (by decide)) _ (by decide)) _ (by decide)) _ (by decide)) _ (by decide)) _ (by decide)) _ (by decide)) _ (by decide)) _ (by decide)
  · intro k hk
    simp only [List.mem_cons, List.not_mem_nil, or_false] at hk
    rcases hk with h | h | h | h | h <;> subst h <;> rfl
theorem cpf_t2 (hz : z ≤ 400) (ez : G 9 3 = nI z) (hQ : ∀ G1, FR L26_ G G1 → (∀ k, k ∈ [14, 15, 16, 17, 18, 19, 20, 21, 25, 26] → G1 k = G k) → (∀ j, j ∈ [0, 1, 3] → G1 22 j = G 9 j) → (∀ i, i < 16 → G1 23 i = G 10 i) → (∀ i, i < z → G1 24 i = G 11 i) → Q 0 G1) : wp_X4_copyFrom_22_9 G Q := by
  refine ⟨by rw [ez]; exact cpk_ (by omega) hz, hQ _ ?_ ?_ (jm3_ rfl rfl rfl) (fun i hi => cpz_ hi) (fun i hi => ?_)⟩
  · exact FR.gf (FR.gu (FR.gf (FR.gu (FR.gu (FR.rf _ G) _ (by decide)) _ (by decide)) _ (by decide)) _ (by decide)) _ (by decide)
  · intro k hk
    simp only [List.mem_cons, List.not_mem_nil, or_false] at hk
    rcases hk with h | h | h | h | h | h | h | h | h | h <;> subst h <;> rfl
  · show va_cpy (G 11) (G 24) 0 0 (G 9 3).toNatClampNeg i = _
    rw [ez, nI_clamp (by omega)]
    exact cpz_ hi
theorem cpf_t3 (hm : m ≤ 100) (em : G 12 0 = nI m) (hQ : ∀ G1, FR [25, 26] G G1 → G1 25 0 = G 12 0 → (∀ i, i < 5 * m → G1 26 i = G 13 i) → Q 0 G1) : wp_X0_copyFrom_25_12 G Q := by
  have m5 : nI m * (5 : Int32) = nI (5 * m) := by rw [show (5 : Int32) = nI 5 from rfl, pk_mul, Nat.mul_comm]
  refine ⟨by rw [em, m5]; exact cpk_ (by omega) (by omega), hQ _ ?_ rfl (fun i hi => ?_)⟩
  · exact FR.gf (FR.gu (FR.rf _ G) _ (by decide)) _ (by decide)
  · show va_cpy (G 13) (G 26) 0 0 (G 12 0 * 5).toNatClampNeg i = _
    rw [em, m5, nI_clamp (by omega)]
    exact cpz_ hi
theorem cpf_t (hz : z ≤ 400) (ez : G 9 3 = nI z) (hm : m ≤ 100) (em : G 12 0 = nI m) (hQ : ∀ G', FR L26_ G G' → CP_ G (fun k => G' (k + 13)) → Q 0 G') : wp_X8_copyFrom_14_1 G Q := by
  unfold wp_X8_copyFrom_14_1
  refine cpf_t1 (K := fun S => wp_X4_copyFrom_22_9 S (fun _ G2 => wp_X0_copyFrom_25_12 G2 (fun _ G4 => Q 0 G4))) (fun G1 f1 u1 a1 a2 a3 a4 a5 a6 a7 a8 => ?_)
  have o8 : G1 9 = G 9 := f1 9 (by decide)
  have o9 : G1 10 = G 10 := f1 10 (by decide)
  have o10 : G1 11 = G 11 := f1 11 (by decide)
  refine cpf_t2 hz (by rw [o8]; exact ez) (fun G2 f2 u2 b1 b2 b3 => ?_)
  have o11 : G2 12 = G 12 := (f2 12 (by decide)).trans (f1 12 (by decide))
  have o12 : G2 13 = G 13 := (f2 13 (by decide)).trans (f1 13 (by decide))
  refine cpf_t3 hm (by rw [o11]; exact em) (fun G3 f3 c1 c2 => hQ G3 ((f1.tr f2).tr (f3.sub (by decide))) ?_)
  have p : ∀ k, k ∈ [14, 15, 16, 17, 18, 19, 20, 21] → G3 k = G1 k := fun k hk => by
    rw [f3 k (fun y => (by decide : ∀ k, k ∈ [25, 26] → k ∈ [14, 15, 16, 17, 18, 19, 20, 21] → False) k y hk)]
    exact u2 k ((by decide : ∀ k, k ∈ [14, 15, 16, 17, 18, 19, 20, 21] → k ∈ [14, 15, 16, 17, 18, 19, 20, 21, 25, 26]) k hk)
  refine ⟨?_, ?_, ?_, ?_, ?_, ?_, ?_, ?_, ?_, ?_, ?_, ?_, ?_⟩
  · show ∀ j, _ → G3 14 j = G 1 j
    rw [p 14 (by decide)]; exact a1
  · show ∀ j, _ → G3 15 j = G 2 j
    rw [p 15 (by decide)]; exact a2
  · show ∀ j, _ → G3 16 j = G 3 j
    rw [p 16 (by decide)]; exact a3
  · show ∀ j, _ → G3 17 j = G 4 j
    rw [p 17 (by decide)]; exact a4
  · show ∀ j, _ → G3 18 j = G 5 j
    rw [p 18 (by decide)]; exact a5
  · show ∀ j, _ → G3 19 j = G 6 j
    rw [p 19 (by decide)]; exact a6
  · show ∀ j, _ → G3 20 j = G 7 j
    rw [p 20 (by decide)]; exact a7
  · show ∀ j, _ → G3 21 j = G 8 j
    rw [p 21 (by decide)]; exact a8
  · show ∀ j, _ → G3 22 j = G 9 j
    rw [f3 22 (by decide), ← o8]; exact b1
  · show ∀ j, _ → G3 23 j = G 10 j
    rw [f3 23 (by decide), ← o9]; exact b2
  · show ∀ j, j < (G 9 3).toNatClampNeg → G3 24 j = G 11 j
    rw [f3 24 (by decide), ← o10, ez, nI_clamp (by omega)]; exact b3
  · show G3 25 0 = G 12 0
    rw [c1, o11]
  · show ∀ j, j < 5 * (G 12 0).toNatClampNeg → G3 26 j = G 13 j
    rw [← o12, em, nI_clamp (by omega)]; exact c2
theorem cpf_b1 {K : GS → Prop} (hK : ∀ G1, FR L13_ G G1 → (∀ k, k ∈ [9, 10, 11, 12, 13] → G1 k = G k) → (∀ j, j ∈ [0, 1, 4, 5, 6, 9, 12] → G1 1 j = G 14 j) → (∀ i, i < 10 → G1 2 i = G 15 i) → (∀ i, i < 10 → G1 3 i = G 16 i) → (∀ i, i < 48 → G1 4 i = G 17 i) → (∀ i, i < 4 → G1 5 i = G 18 i) → (∀ i, i < 8 → G1 6 i = G 19 i) → (∀ i, i < 8 → G1 7 i = G 20 i) → (∀ i, i < 15 → G1 8 i = G 21 i) → K G1) : K (gf_ (gu_ (gf_ (gf_ (gu_ (gf_ (gf_ (gu_ (gu_ (gu_ (gf_ (gf_ (gu_ (gu_ (G) 1 0 (G 14 0)) 1 1 (G 14 1)) 2 (va_cpy (G 15) (G 2) 0 0 10)) 3 (va_cpy (G 16) (G 3) 0 0 10)) 1 4 (G 14 4)) 1 5 (G 14 5)) 1 6 (G 14 6)) 4 (va_cpy (G 17) (G 4) 0 0 48)) 5 (va_cpy (G 18) (G 5) 0 0 4)) 1 9 (G 14 9)) 6 (va_cpy (G 19) (G 6) 0 0 8)) 7 (va_cpy (G 20) (G 7) 0 0 8)) 1 12 (G 14 12)) 8 (va_cpy (G 21) (G 8) 0 0 15)) := by
  refine hK _ ?_ ?_ (jm7_ rfl rfl rfl rfl rfl rfl rfl) (fun i hi => cpz_ hi) (fun i hi => cpz_ hi) (fun i hi => cpz_ hi) (fun i hi => cpz_ hi) (fun i hi => cpz_ hi) (fun i hi => cpz_ hi) (fun i hi => cpz_ hi)
  · exact FR.gf (FR.gu (FR.gf (FR.gf (FR.gu (FR.gf (FR.gf (FR.gu (FR.gu (FR.gu (FR.gf (FR.gf (FR.gu (FR.gu (FR.rf _ G) _ (by decide)) _ (by decide)) _ (by decide)) _ (by decide)) _ (by decide)) _ (by decide)) _ (by decide)) _ (by decide)) _ (by decide)) _ (by decide)) _ (by decide)) _ (by decide)) _ (by decide)) _ (by decide)
  · intro k hk
    simp only [List.mem_cons, List.not_mem_nil, or_false] at hk
    rcases hk with h | h | h | h | h <;> subst h <;> rfl
theorem cpf_b2 (hz : z ≤ 400) (ez : G 22 3 = nI z) (hQ : ∀ G1, FR L13_ G G1 → (∀ k, k ∈ [1, 2, 3, 4, 5, 6, 7, 8, 12, 13] → G1 k = G k) → (∀ j, j ∈ [0, 1, 3] → G1 9 j = G 22 j) → (∀ i, i < 16 → G1 10 i = G 23 i) → (∀ i, i < z → G1 11 i = G 24 i) → Q 0 G1) : wp_X4_copyFrom_9_22 G Q := by
  refine ⟨by rw [ez]; exact cpk_ (by omega) hz, hQ _ ?_ ?_ (jm3_ rfl rfl rfl) (fun i hi => cpz_ hi) (fun i hi => ?_)⟩
  · exact FR.gf (FR.gu (FR.gf (FR.gu (FR.gu (FR.rf _ G) _ (by decide)) _ (by decide)) _ (by decide)) _ (by decide)) _ (by decide)
  · intro k hk
    simp only [List.mem_cons, List.not_mem_nil, or_false] at hk
    rcases hk with h | h | h | h | h | h | h | h | h | h <;> subst h <;> rfl
  · show va_cpy (G 24) (G 11) 0 0 (G 22 3).toNatClampNeg i = _
    rw [ez, nI_clamp (by omega)]
    exact cpz_ hi
theorem cpf_b3 (hm : m ≤ 100) (em : G 25 0 = nI m) (hQ : ∀ G1, FR [12, 13] G G1 → G1 12 0 = G 25 0 → (∀ i, i < 5 * m → G1 13 i = G 26 i) → Q 0 G1) : wp_X0_copyFrom_12_25 G Q := by
  have m5 : nI m * (5 : Int32) = nI (5 * m) := by rw [show (5 : Int32) = nI 5 from rfl, pk_mul, Nat.mul_comm]
  refine ⟨by rw [em, m5]; exact cpk_ (by omega) (by omega), hQ _ ?_ rfl (fun i hi => ?_)⟩
  · exact FR.gf (FR.gu (FR.rf _ G) _ (by decide)) _ (by decide)
  · show va_cpy (G 26) (G 13) 0 0 (G 25 0 * 5).toNatClampNeg i = _
    rw [em, m5, nI_clamp (by omega)]
    exact cpz_ hi
theorem cpf_b (hz : z ≤ 400) (ez : G 22 3 = nI z) (hm : m ≤ 100) (em : G 25 0 = nI m) (hQ : ∀ G', FR L13_ G G' → CP_ (fun k => G (k + 13)) G' → Q 0 G') : wp_X8_copyFrom_1_14 G Q := by
  unfold wp_X8_copyFrom_1_14
  refine cpf_b1 (K := fun S => wp_X4_copyFrom_9_22 S (fun _ G2 => wp_X0_copyFrom_12_25 G2 (fun _ G4 => Q 0 G4))) (fun G1 f1 u1 a1 a2 a3 a4 a5 a6 a7 a8 => ?_)
  have o8 : G1 22 = G 22 := f1 22 (by decide)
  have o9 : G1 23 = G 23 := f1 23 (by decide)
  have o10 : G1 24 = G 24 := f1 24 (by decide)
  refine cpf_b2 hz (by rw [o8]; exact ez) (fun G2 f2 u2 b1 b2 b3 => ?_)
  have o11 : G2 25 = G 25 := (f2 25 (by decide)).trans (f1 25 (by decide))
  have o12 : G2 26 = G 26 := (f2 26 (by decide)).trans (f1 26 (by decide))
  refine cpf_b3 hm (by rw [o11]; exact em) (fun G3 f3 c1 c2 => hQ G3 ((f1.tr f2).tr (f3.sub (by decide))) ?_)
  have p : ∀ k, k ∈ [1, 2, 3, 4, 5, 6, 7, 8] → G3 k = G1 k := fun k hk => by
    rw [f3 k (fun y => (by decide : ∀ k, k ∈ [12, 13] → k ∈ [1, 2, 3, 4, 5, 6, 7, 8] → False) k y hk)]
    exact u2 k ((by decide : ∀ k, k ∈ [1, 2, 3, 4, 5, 6, 7, 8] → k ∈ [1, 2, 3, 4, 5, 6, 7, 8, 12, 13]) k hk)
  refine ⟨?_, ?_, ?_, ?_, ?_, ?_, ?_, ?_, ?_, ?_, ?_, ?_, ?_⟩
  · show ∀ j, _ → G3 1 j = G 14 j
    rw [p 1 (by decide)]; exact a1
  · show ∀ j, _ → G3 2 j = G 15 j
    rw [p 2 (by decide)]; exact a2
  · show ∀ j, _ → G3 3 j = G 16 j
    rw [p 3 (by decide)]; exact a3
  · show ∀ j, _ → G3 4 j = G 17 j
    rw [p 4 (by decide)]; exact a4
  · show ∀ j, _ → G3 5 j = G 18 j
    rw [p 5 (by decide)]; exact a5
  · show ∀ j, _ → G3 6 j = G 19 j
    rw [p 6 (by decide)]; exact a6
  · show ∀ j, _ → G3 7 j = G 20 j
    rw [p 7 (by decide)]; exact a7
  · show ∀ j, _ → G3 8 j = G 21 j
    rw [p 8 (by decide)]; exact a8
  · show ∀ j, _ → G3 9 j = G 22 j
    rw [f3 9 (by decide), ← o8]; exact b1
  · show ∀ j, _ → G3 10 j = G 23 j
    rw [f3 10 (by decide), ← o9]; exact b2
  · show ∀ j, j < (G 22 3).toNatClampNeg → G3 11 j = G 24 j
    rw [f3 11 (by decide), ← o10, ez, nI_clamp (by omega)]; exact b3
  · show G3 12 0 = G 25 0
    rw [c1, o11]
  · show ∀ j, j < 5 * (G 25 0).toNatClampNeg → G3 13 j = G 26 j
    rw [← o12, em, nI_clamp (by omega)]; exact c2
end IMC
/-! the reference's image: number by number -/
def loc_ (p : Nat) : Nat × Nat :=
  if p < 13 then (50, p) else if p = 13 then (49, 4) else if p = 14 then (49, 5) else if p < 25 then (52, p - 15) else if p = 25 then (49, 7) else if p < 526 then (53, p - 26) else if p < 530 then (65, p - 526) else if p < 578 then (66, p - 530) else if p = 578 then (49, 35) else if p < 595 then (67 + (p - 579) % 2, (p - 579) / 2) else if p = 595 then (49, 39) else if p < 611 then (70, p - 596) else if p = 611 then (49, 16) else if p < 660 then (56 + (p - 612) % 3, (p - 612) / 3) else (59 + (p - 660) % 2, (p - 660) / 2)
def pos_ (c j : Nat) : Nat :=
  if c = 50 then j else if c = 49 then (if j = 4 then 13 else if j = 5 then 14 else if j = 7 then 25 else if j = 35 then 578 else if j = 39 then 595 else 611) else if c = 52 then 15 + j else if c = 53 then 26 + j else if c = 65 then 526 + j else if c = 66 then 530 + j else if c = 67 then 579 + 2 * j else if c = 68 then 580 + 2 * j else if c = 70 then 596 + j else if c = 56 then 612 + 3 * j else if c = 57 then 613 + 3 * j else if c = 58 then 614 + 3 * j else if c = 59 then 660 + 2 * j else 661 + 2 * j
theorem pos_loc : ∀ p, p < 1460 → pos_ (loc_ p).1 (loc_ p).2 = p := by decide +kernel
def lc_ : List Nat := [49, 50, 52, 53, 56, 57, 58, 59, 60, 65, 66, 67, 68, 70]
theorem loc_c : ∀ p, p < 1460 → (loc_ p).1 ∈ lc_ ∧ ((loc_ p).1 = 49 → (loc_ p).2 ∈ [4, 5, 7, 16, 35, 39]) := by decide +kernel
theorem loc_ne {k p : Nat} (hk : k < p) (hp : p < 1460) : loc_ k ≠ loc_ p := by
  intro e
  have h1 := pos_loc k (by omega)
  rw [e, pos_loc p hp] at h1
  omega
/-- after p numbers -/
def SI_ (tk : Int32) (G : GS) (p : Nat) (G' : GS) : Prop := G' 49 46 = nI p ∧ G' 49 44 = tk ∧ (∀ c, c ∉ lc_ → c ≠ 74 → G' c = G c) ∧ (∀ j, j ∉ [4, 5, 7, 16, 35, 39] → j ≠ 46 → G' 49 j = G 49 j) ∧
  ((tk = 1 ∧ (∀ c j, (c, j) ≠ (49, 46) → c ≠ 74 → G' c j = G c j) ∧ ∀ k, k < p → G' 74 k = G (loc_ k).1 (loc_ k).2) ∨ (tk = 0 ∧ G' 74 = G 74 ∧ ∀ k, k < p → G' (loc_ k).1 (loc_ k).2 = G 74 k))
section IMR
variable {G : GS} {tk : Int32}
set_option maxHeartbeats 1000000 in
theorem kep_ {K : GS → Prop} {G' : GS} {p c j : Nat} (hS : SI_ tk G p G') (hp : p < 1460) (hl : loc_ p = (c, j)) (h : ∀ G'', SI_ tk G (p + 1) G'' → K G'') : wp_X10_kept (G' c j) G' (fun r G2 => K (gu_ G2 c j r)) := by
  obtain ⟨s1, s2, s3, s4, s5⟩ := hS
  have hc := loc_c p hp
  rw [hl] at hc
  have hc1 : c ∈ lc_ := hc.1
  have hc2 : c = 49 → j ∈ [4, 5, 7, 16, 35, 39] := hc.2
  have c74 : c ≠ 74 := fun e => (by decide : ∀ c, c ∈ lc_ → c = 74 → False) c hc1 e
  have cj46 : (c, j) ≠ (49, 46) := fun e => by
    have e1 : c = 49 := congrArg Prod.fst e
    have e2 : j = 46 := congrArg Prod.snd e
    exact (by decide : ∀ j, j ∈ [4, 5, 7, 16, 35, 39] → j = 46 → False) j (hc2 e1) e2
  have cj44 : (c, j) ≠ (49, 44) := fun e => by
    have e1 : c = 49 := congrArg Prod.fst e
    have e2 : j = 44 := congrArg Prod.snd e
    exact (by decide : ∀ j, j ∈ [4, 5, 7, 16, 35, 39] → j = 44 → False) j (hc2 e1) e2
  have fr : ∀ (H : GS) (v : Int32) (a b : Nat), (a, b) ≠ (c, j) → gu_ H c j v a b = H a b := fun H v a b hn => by
    rw [gu_ap]
    by_cases e : a = c
    · rw [if_pos e, if_neg (fun e2 => hn (by rw [e, e2])), e]
    · rw [if_neg e]
  have fr2 : ∀ (H : GS) (v : Int32) (a : Nat), a ≠ c → gu_ H c j v a = H a := fun H v a hn => gf_ne _ _ hn
  have hit : ∀ (H : GS) (v : Int32), gu_ H c j v c j = v := fun H v => by rw [gu_ap, if_pos rfl, if_pos rfl]
  unfold wp_X10_kept
  rw [s1, s2, nI_1, nI_pred, nI_clamp (by omega)]
  refine ⟨fun z => ⟨vp_in_nI (by omega) (by omega), h _ ?_⟩, fun z => ⟨vp_in_nI (by omega) (by omega), h _ ?_⟩⟩
  · rcases s5 with ⟨t1, t2, t3⟩ | ⟨t1, -⟩
    · have key : ∀ a b, (a, b) ≠ (49, 46) → a ≠ 74 → gu_ (gu_ (gu_ G' 49 46 (nI (p + 1))) 74 p (G' c j)) c j (G' c j) a b = G' a b := by
        intro a b n1 n2
        by_cases e : (a, b) = (c, j)
        · have e1 : a = c := congrArg Prod.fst e
          have e2 : b = j := congrArg Prod.snd e
          subst e1 e2
          exact hit _ _
        · rw [fr _ _ _ _ e, gu_ap, if_neg n2, gu_ap]
          by_cases e3 : a = 49
          · rw [if_pos e3, if_neg (fun e4 => n1 (by rw [e3, e4])), e3]
          · rw [if_neg e3]
      refine ⟨?_, ?_, ?_, ?_, Or.inl ⟨t1, ?_, ?_⟩⟩
      · rw [fr _ _ _ _ (Ne.symm cj46)]; rfl
      · rw [key 49 44 (by decide) (by decide)]; exact s2
      · intro a n1 n2
        rw [fr2 _ _ _ (fun e => n1 (by rw [e]; exact hc1)), gu_rw, if_neg n2, gu_rw, if_neg (fun e => n1 (by rw [e]; decide))]
        exact s3 a n1 n2
      · intro b n1 n2
        rw [key 49 b (fun e => n2 (congrArg Prod.snd e)) (by decide)]
        exact s4 b n1 n2
      · intro a b n1 n2
        rw [key a b n1 n2]; exact t2 a b n1 n2
      · intro k hk
        rw [fr2 _ _ _ (Ne.symm c74), gu_ap, if_pos rfl]
        by_cases e : k = p
        · rw [if_pos e, e, hl]
          exact t2 c j cj46 c74
        · rw [if_neg e]
          exact t3 k (by omega)
    · exact absurd t1 z
  · rcases s5 with ⟨t1, -⟩ | ⟨t1, t2, t3⟩
    · exact absurd (t1.symm.trans z) (by decide)
    · have key : ∀ a b, (a, b) ≠ (49, 46) → (a, b) ≠ (c, j) → gu_ (gu_ G' 49 46 (nI (p + 1))) c j (G' 74 p) a b = G' a b := by
        intro a b n1 n2
        rw [fr _ _ _ _ n2, gu_ap]
        by_cases e3 : a = 49
        · rw [if_pos e3, if_neg (fun e4 => n1 (by rw [e3, e4])), e3]
        · rw [if_neg e3]
      refine ⟨?_, ?_, ?_, ?_, Or.inr ⟨t1, ?_, ?_⟩⟩
      · rw [fr _ _ _ _ (Ne.symm cj46)]; rfl
      · rw [key 49 44 (by decide) (Ne.symm cj44)]; exact s2
      · intro a n1 n2
        rw [fr2 _ _ _ (fun e => n1 (by rw [e]; exact hc1)), gu_rw, if_neg (fun e => n1 (by rw [e]; decide))]
        exact s3 a n1 n2
      · intro b n1 n2
        rw [key 49 b (fun e => n2 (congrArg Prod.snd e)) (fun e => n1 (by have e1 : 49 = c := congrArg Prod.fst e; have e2 : b = j := congrArg Prod.snd e; rw [e2]; exact hc2 e1.symm))]
        exact s4 b n1 n2
      · rw [fr2 _ _ _ (Ne.symm c74), gu_rw, if_neg (by decide)]; exact t2
      · intro k hk
        by_cases e : k = p
        · rw [e, hl, hit, t2]
        · have hkp : k < p := by omega
          have hck := loc_c k (by omega)
          rw [key _ _ (fun e => ?_) (by rw [← hl]; exact loc_ne hkp hp)]
          · exact t3 k hkp
          · have e1 : (loc_ k).1 = 49 := congrArg Prod.fst e
            have e2 : (loc_ k).2 = 46 := congrArg Prod.snd e
            exact (by decide : ∀ j, j ∈ [4, 5, 7, 16, 35, 39] → j = 46 → False) _ (hck.2 e1) e2
end IMR
