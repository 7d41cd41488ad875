/-! safe words -/
def SY_ (G : GS) (a b w : Nat) : Prop := hm_ G a ≠ 0 ∧ hm_ G b ≠ 0 ∧ w = wd_ G a b
def SA_ (G : GS) (a b w : Nat) : Prop := ∃ x y, y < x ∧ (x < a ∨ (x = a ∧ y < b)) ∧ SY_ G x y w
theorem SA_s {G : GS} {a b w : Nat} : SA_ G a (b + 1) w ↔ (SA_ G a b w ∨ (b < a ∧ SY_ G a b w)) := by
  constructor
  · rintro ⟨x, y, h1, h3, h4⟩
    by_cases c : x = a ∧ y = b
    · obtain ⟨rfl, rfl⟩ := c
      exact Or.inr ⟨h1, h4⟩
    · exact Or.inl ⟨x, y, h1, by omega, h4⟩
  · rintro (⟨x, y, h1, h3, h4⟩ | ⟨h1, h3⟩)
    · exact ⟨x, y, h1, by omega, h4⟩
    · exact ⟨a, b, h1, by omega, h3⟩
theorem SA_a {G : GS} {a w : Nat} : SA_ G a a w ↔ SA_ G (a + 1) 0 w := by
  constructor
  · rintro ⟨x, y, h1, h3, h4⟩
    exact ⟨x, y, h1, by omega, h4⟩
  · rintro ⟨x, y, h1, h3, h4⟩
    exact ⟨x, y, h1, by omega, h4⟩
theorem SA_0 {G : GS} {w : Nat} : ¬ SA_ G 0 0 w := by
  rintro ⟨x, y, h1, h3, h4⟩
  omega
theorem sh1_ : ∀ w, w < 31 → (1 : Int32) <<< (nI w &&& 31) = nI (2 ^ w) := by decide +kernel
/-- a set of words 1 .. 24 -/
def SW_ (G : GS) (a b W : Nat) : Prop := W < 2 ^ 25 ∧ ∀ w, W.testBit w = true ↔ (1 ≤ w ∧ w ≤ 24 ∧ SA_ G a b w)
section SAF
variable {Q : Int32 → GS → Prop} {G : GS} {P V : Nat}
set_option maxHeartbeats 2000000 in
theorem say_c1 (hF : HF_ G P V) {a : Nat} (ha : a < P) {R : Int32 → Int32 → GS → Prop} (h : ∀ W, SW_ G (a + 1) 0 W → R (nI W) (nI (a + 1)) G) : ∀ (r b W : Nat), b + r = a → SW_ G a b W → lp_X8_wordsSayable_14 Q R (r + 1) (nI W) (nI a) (nI b) G := by
  have hP := hF.1
  intro r
  induction r with
  | zero =>
    intro b W hb hg
    have : b = a := by omega
    subst this
    refine ⟨fun _ => ?_, fun z => absurd (Int32.le_refl _) z⟩
    rw [nI_1]
    exact h W ⟨hg.1, fun w => by rw [← SA_a]; exact hg.2 w⟩
  | succ r ih =>
    intro b W hb hg
    have ha1 := hm61 hF ha
    have hb1 := hm61 hF (i := b) (by omega)
    obtain ⟨-, -, -, f4, f5, -⟩ := pf_ ha hP
    obtain ⟨-, -, -, f6, f7, -⟩ := pf_ (j := b) (P := P) (by omega) hP
    have no : (∀ w, 1 ≤ w → w ≤ 24 → ¬ SY_ G a b w) → lp_X8_wordsSayable_14 Q R (r + 1) (nI W) (nI a) (nI b + 1) G := by
      intro hn
      rw [nI_1]
      refine ih (b + 1) W (by omega) ⟨hg.1, fun w => (hg.2 w).trans ?_⟩
      rw [SA_s]
      exact ⟨fun z => ⟨z.1, z.2.1, Or.inl z.2.2⟩, fun z => ⟨z.1, z.2.1, z.2.2.elim id (fun y => absurd y.2 (hn w z.1 z.2.1))⟩⟩
    refine ⟨fun z => absurd z (nI_ge (by omega) (by omega)), fun _ => ⟨f4, f6, ?_⟩⟩
    rw [f5, f7, (hF.2.2.2.1 a (by omega)).2.2, (hF.2.2.2.1 b (by omega)).2.2, (shf_ (by omega) (by omega)).2.2, ab_ (by omega) (by omega)]
    refine hh_ hF ha (fun ca => ⟨fun z => absurd z (by decide), fun _ => ?_⟩) (fun ca => ⟨fun _ => no (fun w _ _ s => s.1 ca), fun z => absurd rfl z⟩)
    refine hh_ hF (by omega) (fun cb => ⟨fun z => absurd z (by decide), fun _ => ?_⟩) (fun cb => ⟨fun _ => no (fun w _ _ s => s.2.1 cb), fun z => absurd rfl z⟩)
    show (nI (wd_ G a b) < 1 → _) ∧ (¬ nI (wd_ G a b) < 1 → ((24 < nI (wd_ G a b) → _) ∧ (¬ 24 < nI (wd_ G a b) → lp_X8_wordsSayable_14 Q R (r + 1) (nI W ||| ((1 : Int32) <<< (nI (wd_ G a b) &&& 31))) (nI a) (nI b + 1) G)))
    have hw : wd_ G a b ≤ 61 := by unfold wd_; omega
    refine ⟨fun z => no (fun w h1 h2 s => ?_), fun z => ⟨fun y => no (fun w h1 h2 s => ?_), fun y => ?_⟩⟩
    · rw [← s.2.2] at z
      exact nI_nlt (b := 1) h1 (by omega) z
    · rw [← s.2.2] at y
      exact nI_nlt (a := 24) h2 (by omega) y
    · have h1 : 1 ≤ wd_ G a b := by
        rcases Nat.lt_or_ge (wd_ G a b) 1 with h | h
        · exact absurd (nI_lt (b := 1) h (by omega)) z
        · exact h
      have h2 : wd_ G a b ≤ 24 := by
        rcases Nat.lt_or_ge 24 (wd_ G a b) with h | h
        · exact absurd (nI_lt (a := 24) h (by omega)) y
        · exact h
      rw [sh1_ _ (by omega), no_, nI_1]
      refine ih (b + 1) _ (by omega) ⟨Nat.or_lt_two_pow hg.1 (Nat.pow_lt_pow_right (by decide) (by omega)), fun w => ?_⟩
      rw [Nat.testBit_or, Bool.or_eq_true, hg.2 w, Nat.testBit_two_pow, decide_eq_true_iff, SA_s]
      constructor
      · rintro (x | x)
        · exact ⟨x.1, x.2.1, Or.inl x.2.2⟩
        · subst x
          exact ⟨h1, h2, Or.inr ⟨by omega, ca, cb, rfl⟩⟩
      · rintro ⟨x1, x2, x3 | x3⟩
        · exact Or.inl ⟨x1, x2, x3⟩
        · exact Or.inr x3.2.2.2.symm
theorem say_c (hF : HF_ G P V) (h : ∀ W, SW_ G P 0 W → Q (nI W) G) : wp_X8_wordsSayable G Q := by
  have hP := hF.1
  have p1 := hF.2.1
  have key : ∀ (r a W : Nat), a + r = P → SW_ G a 0 W → lp_X8_wordsSayable_4 Q (r + 1) (nI W) (nI a) G := by
    intro r
    induction r with
    | zero =>
      intro a W ha hg
      have : a = P := by omega
      subst this
      refine ⟨fun _ => h W hg, fun z => absurd ?_ z⟩
      rw [p1]; exact Int32.le_refl _
    | succ r ih =>
      intro a W ha hg
      refine ⟨fun z => absurd z ?_, fun _ => ⟨a + 1, say_c1 hF (by omega) (fun W hg => ih (a + 1) W (by omega) hg) a 0 W (by omega) hg⟩⟩
      rw [p1]; exact nI_ge (by omega) (by omega)
  exact ⟨P + 1, key P 0 0 (by omega) ⟨by decide, fun w => ⟨fun z => absurd z (by rw [Nat.zero_testBit]; decide), fun z => absurd z.2.2 SA_0⟩⟩⟩
set_option maxHeartbeats 2000000 in
theorem say_r (hF : HF_ G P V) {w : Nat} (hw : w ≤ 24) (h1 : SA_ G P 0 w → Q 1 G) (h0 : ¬ SA_ G P 0 w → Q 0 G) : wp_X10_canSay (nI w) G Q := by
  have hP := hF.1
  have p2 := hF.2.2.1
  have up : ∀ x y, y < x → x < P → SY_ G x y w → SA_ G P 0 w := fun x y h1 h2 h3 => ⟨x, y, h1, by omega, h3⟩
  have k1 : ∀ (a : Nat), a < P → ∀ (R : Int32 → Int32 → GS → Prop), (¬ SA_ G (a + 1) 0 w → R (nI w) (nI (a + 1)) G) → ∀ (r b : Nat), b + r = a → ¬ SA_ G a b w → lp_X10_canSay_12 Q R (r + 1) (nI w) (nI a) (nI b) G := by
    intro a ha R hR r
    induction r with
    | zero =>
      intro b hb hg
      have : b = a := by omega
      subst this
      refine ⟨fun _ => ?_, fun z => absurd (Int32.le_refl _) z⟩
      rw [nI_1]
      exact hR (fun z => hg (SA_a.mpr z))
    | succ r ih =>
      intro b hb hg
      have ha1 := hm61 hF ha
      have hb1 := hm61 hF (i := b) (by omega)
      have no : ¬ SY_ G a b w → lp_X10_canSay_12 Q R (r + 1) (nI w) (nI a) (nI b + 1) G := by
        intro hn
        rw [nI_1]
        refine ih (b + 1) (by omega) (fun z => ?_)
        rcases SA_s.mp z with y | y
        · exact hg y
        · exact hn y.2
      refine ⟨fun z => absurd z (nI_ge (by omega) (by omega)), fun _ => ?_⟩
      refine hu_r hF ha ⟨fun z => no (fun s => s.1 ((hne_ ha1).mp z)), fun ca => ?_⟩
      refine hu_r hF (by omega) ⟨fun z => no (fun s => s.2.1 ((hne_ hb1).mp z)), fun cb => ?_⟩
      refine hu_r hF ha ?_
      refine hu_r hF (by omega) ?_
      rw [(shf_ (by omega) (by omega)).2.2]
      refine wou_ (by omega) (by omega) ?_
      rw [nI_eq (by omega) (by omega)]
      refine ⟨fun z => no (fun s => z s.2.2.symm), fun z => h1 (up a b (by omega) ha ⟨fun c => ca ((hne_ ha1).mpr c), fun c => cb ((hne_ hb1).mpr c), z.symm⟩)⟩
  have key : ∀ (r a : Nat), a + r = P → ¬ SA_ G a 0 w → lp_X10_canSay_2 Q (r + 1) (nI w) (nI a) G := by
    intro r
    induction r with
    | zero =>
      intro a ha hg
      have : a = P := by omega
      subst this
      refine ⟨fun _ => h0 hg, fun z => absurd ?_ z⟩
      rw [p2]; exact Int32.le_refl _
    | succ r ih =>
      intro a ha hg
      refine ⟨fun z => absurd z ?_, fun _ => ⟨a + 1, k1 a (by omega) _ (fun hg => ih (a + 1) (by omega) hg) a 0 (by omega) hg⟩⟩
      rw [p2]; exact nI_ge (by omega) (by omega)
  exact ⟨P + 1, key P 0 (by omega) SA_0⟩
def sf_ (A : Nat → Bool) : Nat → Nat → Nat → Nat → Nat
  | 0, _, _, C => C
  | r + 1, w, nx, C => if nx ≤ w ∧ A w = true then sf_ A r (w + 1) (w + 3) (C ||| 2 ^ w) else sf_ A r (w + 1) nx C
theorem sf_lt (A : Nat → Bool) : ∀ r w nx C, w + r ≤ 25 → C < 2 ^ 25 → sf_ A r w nx C < 2 ^ 25
  | 0, _, _, _, _, h => h
  | r + 1, w, nx, C, hw, h => by
    unfold sf_
    split
    · exact sf_lt A r (w + 1) (w + 3) _ (by omega) (Nat.or_lt_two_pow h (Nat.pow_lt_pow_right (by decide) (by omega)))
    · exact sf_lt A r (w + 1) nx C (by omega) h
theorem fsw_c {W : Nat} (hW : W < 2 ^ 25) {C1 : Nat} (h : Q (nI C1) G) : ∀ (r w nx C : Nat), w + r = 25 → nx ≤ 30 → sf_ (fun w => W.testBit w) r w nx C = C1 → lp_X9_firstSafeWords_6 Q (r + 1) (nI W) (nI C) (nI nx) (nI w) G := by
  intro r
  induction r with
  | zero =>
    intro w nx C hw hx hs
    have hs : C = C1 := hs
    subst hs
    exact ⟨fun _ => h, fun z => absurd (nI_lt (a := 24) (by omega) (by omega)) z⟩
  | succ r ih =>
    intro w nx C hw hx hs
    have no : ¬ (nx ≤ w ∧ W.testBit w = true) → lp_X9_firstSafeWords_6 Q (r + 1) (nI W) (nI C) (nI nx) (nI w + 1) G := by
      intro hn
      rw [nI_1]
      refine ih (w + 1) nx C (by omega) hx ?_
      rw [← hs]
      conv => rhs; unfold sf_
      rw [if_neg hn]
    refine ⟨fun z => absurd z (nI_nlt (a := 24) (by omega) (by omega)), fun _ => ⟨fun z => no (fun y => ?_), fun z => ?_⟩⟩
    · rw [nI_ltI (by omega) (by omega)] at z; omega
    rw [nI_ltI (by omega) (by omega)] at z
    rw [tb_1 (by omega) (by omega)]
    refine ⟨fun y => no (fun x => y x.2), fun y => ?_⟩
    rw [sh1_ _ (by omega), no_, nI_1, show (3 : Int32) = nI 3 from rfl, nI_add]
    refine ih (w + 1) (w + 3) _ (by omega) (by omega) ?_
    rw [← hs]
    conv => rhs; unfold sf_
    rw [if_pos ⟨by omega, y⟩]
set_option maxHeartbeats 2000000 in
theorem fsw_r (hF : HF_ G P V) {A : Nat → Bool} {x1 : Int32} (hA : ∀ w, 1 ≤ w → w ≤ 24 → (A w = true ↔ SA_ G P 0 w)) {C1 : Nat} (hC1 : C1 < 2 ^ 25) (h : Q (if x1 = 0 then nI (pn_ 32 C1) else nI C1) G) : ∀ (r w nx C : Nat) (x3 : Int32), 1 ≤ w → w + r = 25 → (nx = 1 ∧ x3 = -3 ∨ ∃ l, l ≤ 24 ∧ nx = l + 3 ∧ x3 = nI l) → sf_ A r w nx C = C1 → lp_X10_safe_25 Q (r + 1) x1 (nI C) x3 (nI w) G := by
  intro r
  induction r with
  | zero =>
    intro w nx C x3 hw1 hw hx hs
    have hs : C = C1 := hs
    subst hs
    refine ⟨fun _ => ⟨fun z => by rw [if_neg z] at h; exact h, fun z => on_ (by omega) (by rw [if_pos z] at h; exact h)⟩, fun z => absurd (nI_lt (a := 24) (by omega) (by omega)) z⟩
  | succ r ih =>
    intro w nx C x3 hw1 hw hx hs
    have no : ¬ (nx ≤ w ∧ A w = true) → lp_X10_safe_25 Q (r + 1) x1 (nI C) x3 (nI w + 1) G := by
      intro hn
      rw [nI_1]
      refine ih (w + 1) nx C x3 (by omega) (by omega) hx ?_
      rw [← hs]
      conv => rhs; unfold sf_
      rw [if_neg hn]
    have hc : (nI w - x3 < 3) ↔ w < nx := by
      rcases hx with ⟨e1, e2⟩ | ⟨l, hl, e1, e2⟩
      · rw [e1, e2]
        have : nI w - (-3) = nI (w + 3) := by rw [Int32.sub_eq_add_neg, show -(-3 : Int32) = nI 3 from by decide, nI_add]
        rw [this]
        exact ⟨fun z => absurd z (nI_nlt (b := 3) (by omega) (by omega)), fun z => absurd z (by omega)⟩
      · rw [e1, e2, iL, pk_sub_toInt (by omega) (by omega), show (3 : Int32).toInt = 3 from by decide]
        omega
    refine ⟨fun z => absurd z (nI_nlt (a := 24) (by omega) (by omega)), fun _ => ?_⟩
    rw [hc]
    refine ⟨fun z => no (fun y => by omega), fun z => ?_⟩
    refine say_r hF (by omega) (fun s => ⟨fun _ => ?_, fun z => absurd z (by decide)⟩) (fun s => ⟨fun z => absurd rfl z, fun _ => no (fun y => s ((hA w hw1 (by omega)).mp y.2))⟩)
    rw [sh1_ _ (by omega), no_, nI_1]
    refine ih (w + 1) (w + 3) _ (nI w) (by omega) (by omega) (Or.inr ⟨w, by omega, rfl, rfl⟩) ?_
    rw [← hs]
    conv => rhs; unfold sf_
    rw [if_pos ⟨by omega, (hA w hw1 (by omega)).mpr s⟩]
end SAF
section STA
variable {G : GS} {K : Int32 → Int32 → GS → Prop}
theorem st_safe (a : Int32) (hI : Inv G) (hK : ∀ r G2, Inv G2 → K r r G2) : wp_X9_safe a G (fun r G1 => wp_X10_safe a G1 (fun r' G2 => K r r' G2)) := by
  have hN : Inv (gu_ G 49 0 0) := hI.sc (Sc.rf G).t0
  obtain ⟨P, V, hF⟩ := hf_of hI.1
  have hF1 : HF_ (gu_ G 49 0 0) P V := hF
  have bad : (a < 0 ∨ 1 < a) → wp_X10_safe a G (fun r' G2 => K (-1) r' G2) := fun hb =>
    isin_ (fun y1 y2 => absurd hb (fun z => z.elim y1 y2)) (fun _ => ⟨fun z => absurd rfl z, fun _ => hK _ _ hN⟩)
  refine ⟨fun z => bad (Or.inl z), fun y1 => ⟨fun y2 => ?_, fun z => bad (Or.inr (Int32.not_le.mp z))⟩⟩
  refine say_c hF (fun W hW => ⟨25, ?_⟩)
  have hl := sf_lt (fun w => W.testBit w) 24 1 1 0 (by omega) (by decide)
  refine fsw_c hW.1 (C1 := sf_ (fun w => W.testBit w) 24 1 1 0) ?_ 24 1 1 0 (by omega) (by omega) rfl
  have fin : ∀ r : Int32, (if a = 0 then nI (pn_ 32 (sf_ (fun w => W.testBit w) 24 1 1 0)) else nI (sf_ (fun w => W.testBit w) 24 1 1 0)) = r → wp_X10_safe a G (fun r' G2 => K r r' G2) := by
    intro r er
    refine isin_ (fun _ _ => ⟨fun _ => ⟨25, ?_⟩, fun z => absurd z (by decide)⟩) (fun z => absurd z (fun z => z.elim y1 (Int32.not_lt.mpr y2)))
    refine fsw_r hF1 (A := fun w => W.testBit w) (fun w h1 h2 => (hW.2 w).trans ⟨fun z => z.2.2, fun z => ⟨h1, h2, z⟩⟩) hl ?_ 24 1 1 0 (-3) (by omega) (by omega) (Or.inl ⟨rfl, rfl⟩) rfl
    rw [er]
    exact hK _ _ hN
  refine ⟨fun z => fin _ (if_neg z), fun z => ?_⟩
  exact bc32 (by omega) (fin _ (if_pos z))
end STA
