/-! couples and words by the reference -/
def wd_ (G : GS) (a b : Nat) : Nat := hm_ G a - hm_ G b + (hm_ G b - hm_ G a)
theorem wd_sw (G : GS) (a b : Nat) : wd_ G a b = wd_ G b a := by unfold wd_; omega
def CW_ (G : GS) (q V P a b w : Nat) : Prop := ∃ x y, x < y ∧ y < P ∧ (x < a ∨ (x = a ∧ y < b)) ∧ tt_ G q V x y = 1 ∧ w = wd_ G x y
theorem CW_s {G : GS} {q V P a b w : Nat} : CW_ G q V P a (b + 1) w ↔ (CW_ G q V P a b w ∨ (a < b ∧ b < P ∧ tt_ G q V a b = 1 ∧ w = wd_ G a b)) := by
  constructor
  · rintro ⟨x, y, h1, h2, h3, h4, h5⟩
    by_cases c : x = a ∧ y = b
    · obtain ⟨rfl, rfl⟩ := c
      exact Or.inr ⟨h1, h2, h4, h5⟩
    · exact Or.inl ⟨x, y, h1, h2, by omega, h4, h5⟩
  · rintro (⟨x, y, h1, h2, h3, h4, h5⟩ | ⟨h1, h2, h3, h4⟩)
    · exact ⟨x, y, h1, h2, by omega, h4, h5⟩
    · exact ⟨a, b, h1, h2, by omega, h3, h4⟩
theorem CW_n {G : GS} {q V P a b w : Nat} (h : tt_ G q V a b = 0) : CW_ G q V P a b w ↔ CW_ G q V P a (b + 1) w := by
  rw [CW_s]
  exact ⟨Or.inl, fun z => z.elim id (fun z => absurd (h.symm.trans z.2.2.1) (by decide))⟩
theorem CW_P {G : GS} {q V P a w : Nat} : CW_ G q V P a P w ↔ CW_ G q V P (a + 1) 0 w := by
  constructor
  · rintro ⟨x, y, h1, h2, h3, h4, h5⟩
    exact ⟨x, y, h1, h2, by omega, h4, h5⟩
  · rintro ⟨x, y, h1, h2, h3, h4, h5⟩
    exact ⟨x, y, h1, h2, by omega, h4, h5⟩
theorem CW_0 {G : GS} {q V P a w : Nat} : CW_ G q V P a 0 w ↔ CW_ G q V P a (a + 1) w := by
  constructor
  · rintro ⟨x, y, h1, h2, h3, h4, h5⟩
    exact ⟨x, y, h1, h2, by omega, h4, h5⟩
  · rintro ⟨x, y, h1, h2, h3, h4, h5⟩
    exact ⟨x, y, h1, h2, by omega, h4, h5⟩
def GW_ (G : GS) (q V P a b : Nat) (g : Nat → Int32) : Prop := ∀ w, w < 61 → (g w = 0 ↔ ¬ CW_ G q V P a b w)
theorem tt_no {G : GS} {q V a b : Nat} (hV : V < 1024) (hq : q < 10) (ha : a < 10) (hb : b < 10) (h : ¬ (a ≠ q ∧ b ≠ q ∧ V.testBit a = true ∧ V.testBit b = true ∧ hn_ G q V a b = 1)) : tt_ G q V a b = 0 := by
  unfold tt_
  exact if_neg (fun z => h ⟨((clr_tb hV hq ha).mp z.1.1).2, ((clr_tb hV hq hb).mp z.1.2).2, ((clr_tb hV hq ha).mp z.1.1).1, ((clr_tb hV hq hb).mp z.1.2).1, z.2⟩)
theorem tt_ye {G : GS} {q V a b : Nat} (hV : V < 1024) (hq : q < 10) (ha : a < 10) (hb : b < 10) (h : a ≠ q ∧ b ≠ q ∧ V.testBit a = true ∧ V.testBit b = true ∧ hn_ G q V a b = 1) : tt_ G q V a b = 1 := by
  unfold tt_
  exact if_pos ⟨⟨(clr_tb hV hq ha).mpr ⟨h.2.2.1, h.1⟩, (clr_tb hV hq hb).mpr ⟨h.2.2.2.1, h.2.1⟩⟩, h.2.2.2.2⟩
theorem sm_lo (T : Nat → Nat) (a : Nat) : ∀ m, m ≤ a + 1 → smN (fun b => if a < b then T b else 0) m = 0
  | 0, _ => rfl
  | m + 1, h => by
    show smN _ m + (if a < m then T m else 0) = 0
    rw [sm_lo T a m (by omega), if_neg (by omega)]
section COR
variable {Q : Int32 → GS → Prop} {G : GS} {P V V0 q : Nat}
set_option maxHeartbeats 2000000 in
theorem cou_r1 (hF : HF_ G P V0) (hq : q < P) (hV : V < 1024) (hs : ∀ i, i < 10 → V.testBit i = true → hm_ G i ≠ 0) {a n : Nat} (ha : a < P) {R : Int32 → Int32 → Int32 → Int32 → GS → Prop} (h : ∀ c f g, GW_ G q V P (a + 1) 0 g → R (nI q) (nI V) (nI (n + smN (fun b => if a < b then tt_ G q V a b else 0) P)) (nI (a + 1)) (rT G c f g)) :
    ∀ (r b : Nat) (c f g : Nat → Int32), b + r = P → a < b → GW_ G q V P a b g → lp_X10_couplesOf_44 Q R (r + 1) (nI q) (nI V) (nI (n + smN (fun b => if a < b then tt_ G q V a b else 0) b)) (nI a) (nI b) (rT G c f g) := by
  have hP := hF.1
  have p2 := hF.2.2.1
  intro r
  induction r with
  | zero =>
    intro b c f g hb hab hg
    have : b = P := by omega
    subst this
    refine ⟨fun _ => ?_, fun z => absurd ?_ z⟩
    · rw [nI_1]
      exact h c f g (fun w hw => (hg w hw).trans (not_congr CW_P))
    · show G 49 4 ≤ nI b
      rw [p2]; exact Int32.le_refl _
  | succ r ih =>
    intro b c f g hb hab hg
    have hsm : smN (fun b => if a < b then tt_ G q V a b else 0) (b + 1) = smN (fun b => if a < b then tt_ G q V a b else 0) b + tt_ G q V a b := by
      show smN _ b + (if a < b then tt_ G q V a b else 0) = _
      rw [if_pos hab]
    have no : tt_ G q V a b = 0 → ∀ c f, lp_X10_couplesOf_44 Q R (r + 1) (nI q) (nI V) (nI (n + smN (fun b => if a < b then tt_ G q V a b else 0) b)) (nI a) (nI b + 1) (rT G c f g) := by
      intro ht c f
      have := ih (b + 1) c f g (by omega) (by omega) (fun w hw => (hg w hw).trans (not_congr (CW_n ht)))
      rw [hsm, ht, Nat.add_zero] at this
      rw [nI_1]; exact this
    have nt := @tt_no G q V a b hV (by omega) (by omega) (by omega)
    refine ⟨fun z => absurd z ?_, fun _ => ?_⟩
    · show ¬ G 49 4 ≤ nI b
      rw [p2]; exact nI_ge (by omega) (by omega)
    refine ⟨fun z => no (nt (fun y => y.1 ((nI_eq (by omega) (by omega)).mp z))) c f, fun z1 => ?_⟩
    refine ⟨fun z => no (nt (fun y => y.2.1 ((nI_eq (by omega) (by omega)).mp z))) c f, fun z2 => ?_⟩
    rw [tb_0 hV (by omega), tb_0 hV (by omega)]
    refine ⟨fun z => no (nt (fun y => z y.2.2.1)) c f, fun z3 => ?_⟩
    refine ⟨fun z => no (nt (fun y => z y.2.2.2.1)) c f, fun z4 => ?_⟩
    have z3 := Decidable.not_not.mp z3
    have z4 := Decidable.not_not.mp z4
    have ha0 := hs a (by omega) z3
    have hb0 := hs b (by omega) z4
    have ha1 := hm61 hF ha
    have hb1 := hm61 hF (i := b) (by omega)
    refine hnw_r (G := rT G c f g) hF hq ha (by omega) hV (fun c' f' => ?_)
    rw [rS_rT]
    refine ⟨fun y => ?_, fun y => no (nt (fun x => absurd (x.2.2.2.2.symm.trans y) (by decide))) c' f'⟩
    have ht : tt_ G q V a b = 1 := tt_ye hV (by omega) (by omega) (by omega) ⟨fun e => z1 (by rw [e]), fun e => z2 (by rw [e]), z3, z4, (hv_01 G q a b V _ _).resolve_left y⟩
    have hF2 : HF_ (rT G c' f' g) P V0 := hF
    refine hu_r hF2 ha ?_
    refine hu_r hF2 (by omega) ?_
    have eh : ∀ i, hm_ (rT G c' f' g) i = hm_ G i := fun _ => rfl
    rw [eh, eh, (shf_ (by omega) (by omega)).2.2]
    refine wou_ (by omega) (by omega) ?_
    refine ⟨vp_in_nI (by omega) (by omega), ?_⟩
    rw [nI_clamp (by omega), rT_u, nI_1, nI_1, show vp_nar .boolean (1 : Int32) = 1 from by decide]
    have := ih (b + 1) c' f' (upd g (wd_ G a b) 1) (by omega) (by omega) (fun w hw => ?_)
    · rw [hsm, ht, ← Nat.add_assoc] at this
      exact this
    · rw [CW_s]
      by_cases e : w = wd_ G a b
      · rw [e, up_hit]
        exact ⟨fun z => absurd z (by decide), fun z => absurd (Or.inr ⟨hab, by omega, ht, rfl⟩) z⟩
      · rw [up_miss _ _ e, hg w hw]
        exact not_congr ⟨Or.inl, fun z => z.elim id (fun z => absurd z.2.2.2 e)⟩
theorem cou_r (hF : HF_ G P V0) (hq : q < P) (hV : V < 1024) (hs : ∀ i, i < 10 → V.testBit i = true → hm_ G i ≠ 0) (h : ∀ c f g, GW_ G q V P P 0 g → Q (nI (CN_ G q V P)) (rT G c f g)) : wp_X10_couplesOf (nI q) (nI V) G Q := by
  have hP := hF.1
  have p2 := hF.2.2.1
  rw [CN_r hP (by omega) hV] at h
  have key : ∀ (r a : Nat) (c f g : Nat → Int32), a + r = P → GW_ G q V P a 0 g → lp_X10_couplesOf_29 Q (r + 1) (nI q) (nI V) (nI (smN (fun a => smN (fun b => if a < b then tt_ G q V a b else 0) P) a)) (nI a) (rT G c f g) := by
    intro r
    induction r with
    | zero =>
      intro a c f g ha hg
      have : a = P := by omega
      subst this
      refine ⟨fun _ => h c f g hg, fun z => absurd ?_ z⟩
      show G 49 4 ≤ nI a
      rw [p2]; exact Int32.le_refl _
    | succ r ih =>
      intro a c f g ha hg
      refine ⟨fun z => absurd z ?_, fun _ => ⟨P - (a + 1) + 1, ?_⟩⟩
      · show ¬ G 49 4 ≤ nI a
        rw [p2]; exact nI_ge (by omega) (by omega)
      · have := cou_r1 (Q := Q) (n := smN (fun a => smN (fun b => if a < b then tt_ G q V a b else 0) P) a) hF hq hV hs (a := a) (by omega) (R := fun y1 y2 y3 y4 G => lp_X10_couplesOf_29 Q (r + 1) y1 y2 y3 y4 G) (fun c f g hg => ih (a + 1) c f g (by omega) hg) (P - (a + 1)) (a + 1) c f g (by omega) (by omega) (fun w hw => (hg w hw).trans (not_congr CW_0))
        rw [sm_lo _ a (a + 1) (Nat.le_refl _), Nat.add_zero] at this
        rw [nI_1]; exact this
  have k0 : ∀ (r w : Nat) (g : Nat → Int32), w + r = 61 → (∀ i, i < w → g i = 0) → lp_X10_couplesOf_5 Q (r + 1) (nI q) (nI V) 0 (nI w) (gf_ G 64 g) := by
    intro r
    induction r with
    | zero =>
      intro w g hw hg
      have : w = 61 := by omega
      subst this
      refine ⟨fun _ => ⟨P + 1, ?_⟩, fun z => absurd (Int32.le_refl _) z⟩
      have := key P 0 (G 62) (G 63) g (by omega) (fun w hw => ⟨fun _ z => ?_, fun _ => hg w hw⟩)
      · have e : rT G (G 62) (G 63) g = gf_ G 64 g := by unfold rT; rw [gf_id, gf_id]
        rw [e] at this
        exact this
      · obtain ⟨x, y, h1, h2, h3, h4, h5⟩ := z
        omega
    | succ r ih =>
      intro w g hw hg
      refine ⟨fun z => absurd z (nI_ge (b := 61) (by omega) (by omega)), fun _ => ⟨vp_in_nI (by omega) (by omega), ?_⟩⟩
      rw [nI_clamp (by omega), gf_u, nI_1, show vp_nar .boolean (0 : Int32) = 0 from by decide]
      refine ih (w + 1) _ (by omega) (fun i hi => ?_)
      by_cases e : i = w
      · rw [e, up_hit]
      · rw [up_miss _ _ e]; exact hg i (by omega)
  have := k0 61 0 (G 64) (by omega) (fun i hi => absurd hi (by omega))
  rw [gf_id] at this
  exact ⟨62, this⟩
/-- how many unlike words -/
def WN_ (G : GS) (q V P : Nat) (p : (w : Nat) → Decidable (CW_ G q V P P 0 w)) : Nat := smN (fun w => @ite _ (CW_ G q V P P 0 w) (p w) 1 0) 61
theorem wor_r (hF : HF_ G P V) (hq : q < P) (p : (w : Nat) → Decidable (CW_ G q V P P 0 w)) (h : ∀ c f g, Q (nI (WN_ G q V P p)) (rT G c f g)) : wp_X10_wordsOf (nI q) G Q := by
  have hV := hF.2.2.2.2.2.2.1
  unfold wp_X10_wordsOf
  rw [hV.2.2.1]
  refine cou_r hF hq hV.1 (fun i hi hb => (hV.2.2.2 i hi hb).2) (fun c f g hg => ⟨62, ?_⟩)
  have key : ∀ (r w : Nat), w + r = 61 → lp_X10_wordsOf_14 Q (r + 1) (nI (smN (fun w => @ite _ (CW_ G q V P P 0 w) (p w) 1 0) w)) (nI w) (rT G c f g) := by
    intro r
    induction r with
    | zero =>
      intro w hw
      have : w = 61 := by omega
      subst this
      exact ⟨fun _ => h c f g, fun z => absurd (Int32.le_refl _) z⟩
    | succ r ih =>
      intro w hw
      have ihw := ih (w + 1) (by omega)
      have e : smN (fun w => @ite _ (CW_ G q V P P 0 w) (p w) 1 0) (w + 1) = smN (fun w => @ite _ (CW_ G q V P P 0 w) (p w) 1 0) w + @ite _ (CW_ G q V P P 0 w) (p w) 1 0 := rfl
      rw [e] at ihw
      refine ⟨fun z => absurd z (nI_ge (b := 61) (by omega) (by omega)), fun _ => ⟨vp_in_nI (by omega) (by omega), ?_⟩⟩
      have eg : (rT G c f g) 64 (nI w).toNatClampNeg = g w := by rw [nI_clamp (by omega)]; rfl
      rw [eg, hg w (by omega), nI_1 w]
      refine ⟨fun z => ?_, fun z => ?_⟩
      · rw [if_neg z] at ihw; exact ihw
      · rw [if_pos (Classical.not_not.mp z)] at ihw
        rw [nI_1]; exact ihw
  exact key 61 0 (by omega)
/-- the words of couples by the greater one -/
def CT_ (G : GS) (q V a b w : Nat) : Prop := ∃ x y, y < x ∧ (x < a ∨ (x = a ∧ y < b)) ∧ tt_ G q V x y = 1 ∧ w = wd_ G x y
theorem CT_s {a b w : Nat} : CT_ G q V a (b + 1) w ↔ (CT_ G q V a b w ∨ (b < a ∧ tt_ G q V a b = 1 ∧ w = wd_ G a b)) := by
  constructor
  · rintro ⟨x, y, h1, h3, h4, h5⟩
    by_cases c : x = a ∧ y = b
    · obtain ⟨rfl, rfl⟩ := c
      exact Or.inr ⟨h1, h4, h5⟩
    · exact Or.inl ⟨x, y, h1, by omega, h4, h5⟩
  · rintro (⟨x, y, h1, h3, h4, h5⟩ | ⟨h1, h3, h4⟩)
    · exact ⟨x, y, h1, by omega, h4, h5⟩
    · exact ⟨a, b, h1, by omega, h3, h4⟩
theorem CT_a {a w : Nat} : CT_ G q V a a w ↔ CT_ G q V (a + 1) 0 w := by
  constructor
  · rintro ⟨x, y, h1, h3, h4, h5⟩
    exact ⟨x, y, h1, by omega, h4, h5⟩
  · rintro ⟨x, y, h1, h3, h4, h5⟩
    exact ⟨x, y, h1, by omega, h4, h5⟩
theorem CT_CS (hP : P ≤ 10) (hq : q < 10) (hV : V < 1024) {w : Nat} : CT_ G q V P 0 w ↔ CW_ G q V P P 0 w := by
  constructor
  · rintro ⟨x, y, h1, h3, h4, h5⟩
    refine ⟨y, x, h1, by omega, by omega, ?_, by rw [h5, wd_sw]⟩
    rw [tt_sw hV hq (by omega) (by omega)]; exact h4
  · rintro ⟨x, y, h1, h2, h3, h4, h5⟩
    refine ⟨y, x, h1, by omega, ?_, by rw [h5, wd_sw]⟩
    rw [tt_sw hV hq (by omega) (by omega)]; exact h4
def WB_ (G : GS) (q V a b W : Nat) : Prop := W < 2 ^ 61 ∧ ∀ w, W.testBit w = true ↔ CT_ G q V a b w
theorem WB_s {a b W w : Nat} (h : WB_ G q V a b W) (hb : b < a) (ht : tt_ G q V a b = 1) (hw : w = wd_ G a b) (hl : w < 61) : WB_ G q V a (b + 1) (W ||| 2 ^ w) := by
  refine ⟨Nat.or_lt_two_pow h.1 (Nat.pow_lt_pow_right (by decide) hl), fun i => ?_⟩
  rw [Nat.testBit_or, Bool.or_eq_true, h.2 i, Nat.testBit_two_pow, decide_eq_true_iff, CT_s]
  constructor
  · rintro (z | z)
    · exact Or.inl z
    · exact Or.inr ⟨hb, ht, by rw [← z, hw]⟩
  · rintro (z | z)
    · exact Or.inl z
    · exact Or.inr (by rw [z.2.2, hw])
theorem WB_n {a b W : Nat} (h : WB_ G q V a b W) (ht : tt_ G q V a b = 0) : WB_ G q V a (b + 1) W :=
  ⟨h.1, fun w => (h.2 w).trans ((CT_s (G := G)).trans ⟨fun z => z.elim id (fun z => absurd (ht.symm.trans z.2.1) (by decide)), Or.inl⟩).symm⟩
set_option maxHeartbeats 2000000 in
theorem wor_c1 (hF : HF_ G P V0) (hq : q < P) (hV : V < 1024) (hv1 : G 1 4 = nI V) (hs : ∀ i, i < 10 → V.testBit i = true → hm_ G i ≠ 0) {a : Nat} (ha : a < P) {R : Int32 → Int64 → Int32 → Int32 → GS → Prop} (h : ∀ W c f, WB_ G q V (a + 1) 0 W → R (nI q) (lN W) (nI (clrN V q)) (nI (a + 1)) (eS G c f)) :
    ∀ (r b W : Nat) (c f : Nat → Int32), b + r = a → WB_ G q V a b W → lp_X2_wordsHeard_29 Q R (r + 1) (nI q) (lN W) (nI (clrN V q)) (nI a) (nI b) (eS G c f) := by
  have hP := hF.1
  have hW := (bn_3 q (by omega) V hV).1
  intro r
  induction r with
  | zero =>
    intro b W c f hb hg
    have : b = a := by omega
    subst this
    refine ⟨fun _ => ?_, fun z => absurd (Int32.le_refl _) z⟩
    rw [nI_1]
    exact h W c f ⟨hg.1, fun w => (hg.2 w).trans CT_a⟩
  | succ r ih =>
    intro b W c f hb hg
    have no : tt_ G q V a b = 0 → ∀ c f, lp_X2_wordsHeard_29 Q R (r + 1) (nI q) (lN W) (nI (clrN V q)) (nI a) (nI b + 1) (eS G c f) := by
      intro ht c f
      rw [nI_1]; exact ih (b + 1) W c f (by omega) (WB_n hg ht)
    refine ⟨fun z => absurd z (nI_ge (by omega) (by omega)), fun _ => ?_⟩
    rw [tb_2 hW (by omega) (by omega)]
    refine ⟨fun z => no (by unfold tt_; rw [if_neg (fun y => z y.1)]) c f, fun z => ?_⟩
    have za := (clr_tb hV (q := q) (a := a) (by omega) (by omega)).mp z.1
    have zb := (clr_tb hV (q := q) (a := b) (by omega) (by omega)).mp z.2
    have ha0 := hs a (by omega) za.1
    have hb0 := hs b (by omega) zb.1
    have ha1 := hm61 hF ha
    have hb1 := hm61 hF (i := b) (by omega)
    have e4 : (eS G c f) 1 4 = nI V := hv1
    rw [e4]
    refine hnw_c (G := eS G c f) hF hq ha (by omega) hV (fun c' f' => ?_)
    rw [eS_eS]
    refine ⟨fun y => no (by unfold tt_; rw [if_neg (fun x => absurd (x.2.symm.trans y) (by decide))]) c' f', fun y => ?_⟩
    have ht : tt_ G q V a b = 1 := by
      unfold tt_
      rw [if_pos ⟨z, (hv_01 G q a b V _ _).resolve_left y⟩]
    obtain ⟨-, -, -, f4, f5, -⟩ := pf_ ha hP
    obtain ⟨-, -, -, f6, f7, -⟩ := pf_ (j := b) (P := P) (by omega) hP
    refine ⟨f4, f6, ?_⟩
    have ea : (eS G c' f') 2 (nI a).toNatClampNeg = nI (hm_ G a) - 1 := by rw [f5]; exact (hF.2.2.2.1 a (by omega)).2.2
    have eb : (eS G c' f') 2 (nI b).toNatClampNeg = nI (hm_ G b) - 1 := by rw [f7]; exact (hF.2.2.2.1 b (by omega)).2.2
    rw [ea, eb, (shf_ (by omega) (by omega)).2.2, ab_ (by omega) (by omega)]
    have hl : wd_ G a b < 61 := by unfold wd_; omega
    have e1 : lN W ||| (1 : Int64) <<< ((nI (wd_ G a b)).toInt64 &&& 63) = lN (W ||| 2 ^ wd_ G a b) := by
      have : (1 : Int64) <<< ((nI (wd_ G a b)).toInt64 &&& 63) = lN (2 ^ wd_ G a b) := by
        have := wb_shl 1 (k := wd_ G a b) (by omega)
        rw [Nat.one_mul] at this
        exact this
      rw [this, wb_or (by have := hg.1; omega) (Nat.pow_lt_pow_right (by decide) (by omega))]
    have e2 : hm_ G a - hm_ G b + (hm_ G b - hm_ G a) = wd_ G a b := rfl
    rw [e2]
    show lp_X2_wordsHeard_29 Q R (r + 1) (nI q) (lN W ||| (1 : Int64) <<< ((nI (wd_ G a b)).toInt64 &&& 63)) (nI (clrN V q)) (nI a) (nI b + 1) (eS G c' f')
    rw [e1, nI_1]
    exact ih (b + 1) _ c' f' (by omega) (WB_s hg (by omega) ht rfl hl)
theorem wor_c (hF : HF_ G P V0) (hq : q < P) (hV : V < 1024) (hv1 : G 1 4 = nI V) (hs : ∀ i, i < 10 → V.testBit i = true → hm_ G i ≠ 0) (p : (w : Nat) → Decidable (CW_ G q V P P 0 w)) (h : ∀ c f, Q (nI (WN_ G q V P p)) (eS G c f)) : wp_X2_wordsHeard (nI q) G Q := by
  have hP := hF.1
  have p1 := hF.2.1
  unfold wp_X2_wordsHeard
  rw [hv1, bc_1 hV (by omega)]
  refine ⟨P + 1, ?_⟩
  have key : ∀ (r a W : Nat) (c f : Nat → Int32), a + r = P → WB_ G q V a 0 W → lp_X2_wordsHeard_17 Q (r + 1) (nI q) (lN W) (nI (clrN V q)) (nI a) (eS G c f) := by
    intro r
    induction r with
    | zero =>
      intro a W c f ha hg
      have : a = P := by omega
      subst this
      refine ⟨fun _ => ?_, fun z => absurd ?_ z⟩
      · refine bc64 (by have := hg.1; omega) ?_
        have e : pn_ 64 W = WN_ G q V a p := by
          have e1 : pn_ 64 W = pn_ 61 W := pc_more (a := 61) hg.1 3
          rw [e1, pn_sm]
          unfold WN_
          refine smN_cg 61 (fun w hw => ?_)
          by_cases c : CW_ G q V a a 0 w
          · rw [if_pos c, if_pos ((hg.2 w).mpr ((CT_CS hP (by omega) hV).mpr c))]
          · rw [if_neg c, if_neg (fun z => c ((CT_CS hP (by omega) hV).mp ((hg.2 w).mp z)))]
        rw [e]
        exact h c f
      · show G 1 1 ≤ nI a
        rw [p1]; exact Int32.le_refl _
    | succ r ih =>
      intro a W c f ha hg
      refine ⟨fun z => absurd z ?_, fun _ => ⟨a + 1, ?_⟩⟩
      · show ¬ G 1 1 ≤ nI a
        rw [p1]; exact nI_ge (by omega) (by omega)
      · exact wor_c1 hF hq hV hv1 hs (by omega) (fun W c f hg => ih (a + 1) W c f (by omega) hg) a 0 W c f (by omega) hg
  have := key P 0 0 (G 38) (G 39) (by omega) ⟨by decide, fun w => ⟨fun z => absurd z (by rw [Nat.zero_testBit]; decide), fun z => by obtain ⟨x, y, h1, h3, h4, h5⟩ := z; omega⟩⟩
  rw [eS_id] at this
  exact this
end COR
section ST8
variable {G : GS} {K : Int32 → Int32 → GS → Prop}
theorem of5 (b : Int32) : b = 0 ∨ b = 1 ∨ b = 2 ∨ b = 3 ∨ b = 4 ∨ (¬ b = 0 ∧ ¬ b = 1 ∧ ¬ b = 2 ∧ ¬ b = 3 ∧ ¬ b = 4) := by
  by_cases h0 : b = 0
  · exact Or.inl h0
  by_cases h1 : b = 1
  · exact Or.inr (Or.inl h1)
  by_cases h2 : b = 2
  · exact Or.inr (Or.inr (Or.inl h2))
  by_cases h3 : b = 3
  · exact Or.inr (Or.inr (Or.inr (Or.inl h3)))
  by_cases h4 : b = 4
  · exact Or.inr (Or.inr (Or.inr (Or.inr (Or.inl h4))))
  exact Or.inr (Or.inr (Or.inr (Or.inr (Or.inr ⟨h0, h1, h2, h3, h4⟩))))
set_option maxHeartbeats 2000000 in
theorem st_of (a b : Int32) (hI : Inv G) (hK : ∀ r G2, Inv G2 → K r r G2) : wp_X9_of a b G (fun r G1 => wp_X10_of a b G1 (fun r' G2 => K r r' G2)) := by
  obtain ⟨P, V, hF⟩ := hf_of hI.1
  have hP := hF.1
  have hV := hF.2.2.2.2.2.2.1
  have hs : ∀ i, i < 10 → V.testBit i = true → hm_ G i ≠ 0 := fun i hi hb => (hV.2.2.2 i hi hb).2
  have hF1 : HF_ (gu_ G 49 0 0) P V := hF
  have hN : Inv (gu_ G 49 0 0) := hI.sc (Sc.rf G).t0
  refine per_c hF (fun i hi ea => ⟨fun _ => ?_, fun z => absurd z (by decide)⟩) (fun hn => ⟨fun z => absurd rfl z, fun _ => ?_⟩)
  · subst ea
    obtain ⟨-, -, -, f4, f5, -⟩ := pf_ hi hP
    have lead : ∀ (G1 : GS) (K2 : Int32 → GS → Prop), HF_ (gu_ G1 49 0 0) P V → (((¬ b = 0 → ((¬ b = (1 : Int32) → ((¬ b = (2 : Int32) → ((¬ b = (3 : Int32) → ((¬ b = (4 : Int32) → K2 (-2 : Int32) (gu_ G1 49 0 0)) ∧ (b = (4 : Int32) → wp_X10_wordsOf (nI i) (gu_ G1 49 0 0) K2))) ∧ (b = (3 : Int32) → wp_X10_couplesOf (nI i) ((gu_ G1 49 0 0) 49 5) (gu_ G1 49 0 0) K2))) ∧ (b = (2 : Int32) → (vp_in (nI i) 10 ∧ K2 (((gu_ G1 49 0 0) 52 (nI i).toNatClampNeg) + (5 : Int32)) (gu_ G1 49 0 0))))) ∧ (b = (1 : Int32) → K2 ((((gu_ G1 49 0 0) 49 5) >>> (nI i &&& 31)) &&& (1 : Int32)) (gu_ G1 49 0 0)))) ∧ (b = 0 → wp_X10_humOf (nI i) (gu_ G1 49 0 0) K2))) → wp_X10_of (nI i) b G1 K2 := by
      intro G1 K2 hF2 h
      exact rp_ hF2 hi ⟨fun _ => h, fun z => absurd z (by decide)⟩
    rcases of5 b with rfl | rfl | rfl | rfl | rfl | ⟨b0, b1, b2, b3, b4⟩
    · refine ⟨fun _ => ⟨f4, ?_⟩, fun z => absurd z (by decide), fun z => absurd z (by decide), fun z => absurd z (by decide), fun z => absurd z (by decide), fun z => absurd rfl z⟩
      refine lead G _ hF1 ⟨fun z => absurd rfl z, fun _ => hu_r hF1 hi ?_⟩
      rw [f5, (hF.2.2.2.1 i (by omega)).2.2]
      exact hK _ _ hN
    · refine ⟨fun z => absurd z (by decide), fun _ => ?_, fun z => absurd z (by decide), fun z => absurd z (by decide), fun z => absurd z (by decide), fun _ z => absurd rfl z⟩
      refine lead G _ hF1 ⟨fun _ => ⟨fun z => absurd rfl z, fun _ => ?_⟩, fun z => absurd z (by decide)⟩
      have e : (gu_ G 49 0 0) 49 5 = G 1 4 := hV.2.2.1.trans hV.2.1.symm
      rw [e]
      exact hK _ _ hN
    · refine ⟨fun z => absurd z (by decide), fun z => absurd z (by decide), fun _ => ⟨f4, ?_⟩, fun z => absurd z (by decide), fun z => absurd z (by decide), fun _ _ z => absurd rfl z⟩
      refine lead G _ hF1 ⟨fun _ => ⟨fun _ => ⟨fun z => absurd rfl z, fun _ => ⟨f4, ?_⟩⟩, fun z => absurd z (by decide)⟩, fun z => absurd z (by decide)⟩
      have e : (gu_ G 49 0 0) 52 (nI i).toNatClampNeg + 5 = G 3 (nI i).toNatClampNeg := by
        obtain ⟨d1, d2, d3⟩ := hF.2.2.2.2.1 i (by omega)
        rw [f5, d2]
        show G 52 i + 5 = _
        rw [d3, Int32.sub_add_cancel]
      rw [e]
      exact hK _ _ hN
    · refine ⟨fun z => absurd z (by decide), fun z => absurd z (by decide), fun z => absurd z (by decide), fun _ => ?_, fun z => absurd z (by decide), fun _ _ _ z => absurd rfl z⟩
      rw [hV.2.1]
      refine cou_c hF hi hV.1 (fun c f => ?_)
      have hF2 : HF_ (gu_ (eS G c f) 49 0 0) P V := hF
      refine lead _ _ hF2 ⟨fun _ => ⟨fun _ => ⟨fun _ => ⟨fun z => absurd rfl z, fun _ => ?_⟩, fun z => absurd z (by decide)⟩, fun z => absurd z (by decide)⟩, fun z => absurd z (by decide)⟩
      have e5 : (gu_ (eS G c f) 49 0 0) 49 5 = nI V := hV.2.2.1
      rw [e5]
      exact cou_r hF2 hi hV.1 hs (fun c' f' g' _ => hK _ _ (hI.sc ((((Sc.rf G).eS c f).t0).rT c' f' g')))
    · refine ⟨fun z => absurd z (by decide), fun z => absurd z (by decide), fun z => absurd z (by decide), fun z => absurd z (by decide), fun _ => ?_, fun _ _ _ _ z => absurd rfl z⟩
      refine wor_c hF hi hV.1 hV.2.1 hs (fun w => Classical.propDecidable _) (fun c f => ?_)
      have hF2 : HF_ (gu_ (eS G c f) 49 0 0) P V := hF
      refine lead _ _ hF2 ⟨fun _ => ⟨fun _ => ⟨fun _ => ⟨fun _ => ⟨fun z => absurd rfl z, fun _ => ?_⟩, fun z => absurd z (by decide)⟩, fun z => absurd z (by decide)⟩, fun z => absurd z (by decide)⟩, fun z => absurd z (by decide)⟩
      exact wor_r hF2 hi (fun w => Classical.propDecidable _) (fun c' f' g' => hK _ _ (hI.sc ((((Sc.rf G).eS c f).t0).rT c' f' g')))
    · refine ⟨fun z => absurd z b0, fun z => absurd z b1, fun z => absurd z b2, fun z => absurd z b3, fun z => absurd z b4, fun _ _ _ _ _ => ?_⟩
      exact lead G _ hF1 ⟨fun _ => ⟨fun _ => ⟨fun _ => ⟨fun _ => ⟨fun _ => hK _ _ hN, fun z => absurd z b4⟩, fun z => absurd z b3⟩, fun z => absurd z b2⟩, fun z => absurd z b1⟩, fun z => absurd z b0⟩
  · exact per_r hF1 (fun i hi e => absurd e (hn i hi)) (fun _ => ⟨fun z => absurd rfl z, fun _ => hK _ _ hN⟩)
set_option maxHeartbeats 2000000 in
theorem st_deaf (a b : Int32) (hI : Inv G) (hK : ∀ r G2, Inv G2 → K r r G2) : wp_X9_deaf a b G (fun r G1 => wp_X10_deaf a b G1 (fun r' G2 => K r r' G2)) := by
  obtain ⟨P, V, hF⟩ := hf_of hI.1
  have hP := hF.1
  have hV := hF.2.2.2.2.2.2.1
  have hs : ∀ i, i < 10 → V.testBit i = true → hm_ G i ≠ 0 := fun i hi hb => (hV.2.2.2 i hi hb).2
  have hF1 : HF_ (gu_ G 49 0 0) P V := hF
  have hN : Inv (gu_ G 49 0 0) := hI.sc (Sc.rf G).t0
  refine ⟨fun e => ?_, fun ne => per_c hF (fun i hi ea => ⟨fun z => absurd z (by decide), fun _ => per_c hF (fun j hj eb => ⟨fun _ => ?_, fun z => absurd z (by decide)⟩) (fun hn => ⟨fun z => absurd rfl z, fun _ => ?_⟩)⟩) (fun hn => ⟨fun _ => ?_, fun z => absurd rfl z⟩)⟩
  · refine per_r hF1 (fun i hi ea => ⟨fun z => absurd z (by decide), fun _ => per_r hF1 (fun j hj eb => ⟨fun z => absurd z (by decide), fun _ => ⟨fun z => absurd e z, fun _ => hK _ _ hN⟩⟩) (fun _ => ⟨fun _ => hK _ _ hN, fun z => absurd rfl z⟩)⟩) (fun _ => ⟨fun _ => hK _ _ hN, fun z => absurd rfl z⟩)
  · subst ea eb
    have h2 := bn_3 j (by omega) V hV.1
    have hs2 : ∀ i, i < 10 → (clrN V j).testBit i = true → hm_ G i ≠ 0 := fun i hi hb => hs i hi ((clr_tb hV.1 (by omega) hi).mp hb).1
    rw [hV.2.1]
    refine cou_c hF hi hV.1 (fun c f => ?_)
    rw [bc_1 hV.1 (by omega)]
    refine cou_c (G := eS G c f) hF hi h2.1 (fun c' f' => ?_)
    rw [eS_eS]
    have hF2 : HF_ (gu_ (eS G c' f') 49 0 0) P V := hF
    refine rp_ hF2 hi ⟨fun z => absurd z (by decide), fun _ => rp_ hF2 hj ⟨fun z => absurd z (by decide), fun _ => ⟨fun _ => ?_, fun z => absurd z ne⟩⟩⟩
    have e5 : (gu_ (eS G c' f') 49 0 0) 49 5 = nI V := hV.2.2.1
    rw [e5]
    refine cou_r hF2 hi hV.1 hs (fun c2 f2 g2 _ => ?_)
    have e6 : (rT (gu_ (eS G c' f') 49 0 0) c2 f2 g2) 49 5 = nI V := hV.2.2.1
    rw [e6, bc_1 hV.1 (by omega)]
    refine cou_r (G := rT (gu_ (eS G c' f') 49 0 0) c2 f2 g2) hF2 hi h2.1 hs2 (fun c3 f3 g3 _ => ?_)
    exact hK _ _ (hI.sc (((((Sc.rf G).eS c' f').t0).rT c2 f2 g2).rT c3 f3 g3))
  · subst ea
    exact rp_ hF1 hi ⟨fun z => absurd z (by decide), fun _ => per_r hF1 (fun j hj e => absurd e (hn j hj)) (fun _ => ⟨fun _ => hK _ _ hN, fun z => absurd rfl z⟩)⟩
  · exact per_r hF1 (fun j hj e => absurd e (hn j hj)) (fun _ => ⟨fun _ => hK _ _ hN, fun z => absurd rfl z⟩)
end ST8
