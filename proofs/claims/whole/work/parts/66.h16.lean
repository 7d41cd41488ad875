theorem l52_ : ∀ j, j < 10 → loc_ (15 + j) = (52, j) := by decide +kernel
theorem l53_ : ∀ j, j < 500 → loc_ (26 + j) = (53, j) := by decide +kernel
theorem l65_ : ∀ j, j < 4 → loc_ (526 + j) = (65, j) := by decide +kernel
theorem l66_ : ∀ j, j < 48 → loc_ (530 + j) = (66, j) := by decide +kernel
theorem l67_ : ∀ j, j < 8 → loc_ (579 + 2 * j) = (67, j) ∧ loc_ (579 + 2 * j + 1) = (68, j) := by decide +kernel
theorem l70_ : ∀ j, j < 15 → loc_ (596 + j) = (70, j) := by decide +kernel
theorem l56_ : ∀ j, j < 16 → loc_ (612 + 3 * j) = (56, j) ∧ loc_ (612 + 3 * j + 1) = (57, j) ∧ loc_ (612 + 3 * j + 1 + 1) = (58, j) := by decide +kernel
theorem l59_ : ∀ j, j < 400 → loc_ (660 + 2 * j) = (59, j) ∧ loc_ (660 + 2 * j + 1) = (60, j) := by decide +kernel
section IML
variable {G : GS} {tk : Int32} {Q : Int32 → GS → Prop}

theorem i76_ (h : ∀ G', SI_ tk G 1460 G' → Q 0 G') : ∀ (r k : Nat) (G' : GS), k + r = 400 → SI_ tk G (660 + 2 * k) G' → lp_X10_keepsLaw_76 Q (r + 1) (nI k) G' := by
  intro r
  induction r with
  | zero =>
    intro k G' hk hS
    have : k = 400 := by omega
    subst this
    exact ⟨fun _ => h G' hS, fun z => absurd (Int32.le_refl _) z⟩
  | succ r ih =>
    intro k G' hk hS
    refine ⟨fun z => absurd z (nI_ge (b := 400) (by omega) (by omega)), fun _ => ⟨vp_in_nI (by omega) (by omega), ?_⟩⟩
    rw [nI_clamp (by omega), nI_1]
    refine kep_ (K := fun S => wp_X10_kept (S 60 k) S (fun v G2 => lp_X10_keepsLaw_76 Q (r + 1) (nI (k + 1)) (gu_ G2 60 k v))) hS (by omega) (l59_ k (by omega)).1 (fun G1 hS1 => ?_)
    refine kep_ (K := fun S => lp_X10_keepsLaw_76 Q (r + 1) (nI (k + 1)) S) hS1 (by omega) (l59_ k (by omega)).2 (fun G2 hS2 => ?_)
    refine ih (k + 1) G2 (by omega) ?_
    rw [show 660 + 2 * (k + 1) = 660 + 2 * k + 1 + 1 by omega]
    exact hS2

theorem i14_ (h : ∀ G', SI_ tk G 660 G' → (∃ kf, lp_X10_keepsLaw_76 Q kf (0 : Int32) G')) : ∀ (r k : Nat) (G' : GS), k + r = 16 → SI_ tk G (612 + 3 * k) G' → lp_X10_keepsLaw_14 Q (r + 1) (nI k) G' := by
  intro r
  induction r with
  | zero =>
    intro k G' hk hS
    have : k = 16 := by omega
    subst this
    exact ⟨fun _ => h G' hS, fun z => absurd (Int32.le_refl _) z⟩
  | succ r ih =>
    intro k G' hk hS
    refine ⟨fun z => absurd z (nI_ge (b := 16) (by omega) (by omega)), fun _ => ⟨vp_in_nI (by omega) (by omega), ?_⟩⟩
    rw [nI_clamp (by omega), nI_1]
    refine kep_ (K := fun S => wp_X10_kept (S 57 k) S (fun v G2 => wp_X10_kept ((gu_ G2 57 k v) 58 k) (gu_ G2 57 k v) (fun v G2 => lp_X10_keepsLaw_14 Q (r + 1) (nI (k + 1)) (gu_ G2 58 k v)))) hS (by omega) (l56_ k (by omega)).1 (fun G1 hS1 => ?_)
    refine kep_ (K := fun S => wp_X10_kept (S 58 k) S (fun v G2 => lp_X10_keepsLaw_14 Q (r + 1) (nI (k + 1)) (gu_ G2 58 k v))) hS1 (by omega) (l56_ k (by omega)).2.1 (fun G2 hS2 => ?_)
    refine kep_ (K := fun S => lp_X10_keepsLaw_14 Q (r + 1) (nI (k + 1)) S) hS2 (by omega) (l56_ k (by omega)).2.2 (fun G3 hS3 => ?_)
    refine ih (k + 1) G3 (by omega) ?_
    rw [show 612 + 3 * (k + 1) = 612 + 3 * k + 1 + 1 + 1 by omega]
    exact hS3

theorem kla_ (h : ∀ G', SI_ tk G 1460 G' → Q 0 G') {G' : GS} (hS : SI_ tk G 611 G') : wp_X10_keepsLaw G' Q := by
  refine kep_ (K := fun S => ∃ kf, lp_X10_keepsLaw_14 Q kf (0 : Int32) S) hS (by omega) (by decide) (fun G1 h1 => ⟨17, i14_ (fun G2 h2 => ⟨401, i76_ h 400 0 G2 (by omega) h2⟩) 16 0 G1 (by omega) h1⟩)

theorem r131_ (h : ∀ G', SI_ tk G 611 G' → Q 0 G') : ∀ (r k : Nat) (G' : GS), k + r = 15 → SI_ tk G (596 + k) G' → lp_X10_keepsRows_131 Q (r + 1) (nI k) G' := by
  intro r
  induction r with
  | zero =>
    intro k G' hk hS
    have : k = 15 := by omega
    subst this
    exact ⟨fun _ => h G' hS, fun z => absurd (Int32.le_refl _) z⟩
  | succ r ih =>
    intro k G' hk hS
    refine ⟨fun z => absurd z (nI_ge (b := 15) (by omega) (by omega)), fun _ => ⟨vp_in_nI (by omega) (by omega), ?_⟩⟩
    rw [nI_clamp (by omega), nI_1]
    refine kep_ (K := fun S => lp_X10_keepsRows_131 Q (r + 1) (nI (k + 1)) S) hS (by omega) (l70_ k (by omega)) (fun G1 hS1 => ?_)
    exact ih (k + 1) G1 (by omega) hS1

theorem r73_ (h : ∀ G', SI_ tk G 595 G' → wp_X10_kept (G' 49 39) G' (fun r9 G10 => (∃ kf, lp_X10_keepsRows_131 Q kf (0 : Int32) (gu_ G10 49 39 r9)))) : ∀ (r k : Nat) (G' : GS), k + r = 8 → SI_ tk G (579 + 2 * k) G' → lp_X10_keepsRows_73 Q (r + 1) (nI k) G' := by
  intro r
  induction r with
  | zero =>
    intro k G' hk hS
    have : k = 8 := by omega
    subst this
    exact ⟨fun _ => h G' hS, fun z => absurd (Int32.le_refl _) z⟩
  | succ r ih =>
    intro k G' hk hS
    refine ⟨fun z => absurd z (nI_ge (b := 8) (by omega) (by omega)), fun _ => ⟨vp_in_nI (by omega) (by omega), ?_⟩⟩
    rw [nI_clamp (by omega), nI_1]
    refine kep_ (K := fun S => wp_X10_kept (S 68 k) S (fun v G2 => lp_X10_keepsRows_73 Q (r + 1) (nI (k + 1)) (gu_ G2 68 k v))) hS (by omega) (l67_ k (by omega)).1 (fun G1 hS1 => ?_)
    refine kep_ (K := fun S => lp_X10_keepsRows_73 Q (r + 1) (nI (k + 1)) S) hS1 (by omega) (l67_ k (by omega)).2 (fun G2 hS2 => ?_)
    refine ih (k + 1) G2 (by omega) ?_
    rw [show 579 + 2 * (k + 1) = 579 + 2 * k + 1 + 1 by omega]
    exact hS2

theorem r31_ (h : ∀ G', SI_ tk G 578 G' → wp_X10_kept (G' 49 35) G' (fun r4 G5 => (∃ kf, lp_X10_keepsRows_73 Q kf (0 : Int32) (gu_ G5 49 35 r4)))) : ∀ (r k : Nat) (G' : GS), k + r = 48 → SI_ tk G (530 + k) G' → lp_X10_keepsRows_31 Q (r + 1) (nI k) G' := by
  intro r
  induction r with
  | zero =>
    intro k G' hk hS
    have : k = 48 := by omega
    subst this
    exact ⟨fun _ => h G' hS, fun z => absurd (Int32.le_refl _) z⟩
  | succ r ih =>
    intro k G' hk hS
    refine ⟨fun z => absurd z (nI_ge (b := 48) (by omega) (by omega)), fun _ => ⟨vp_in_nI (by omega) (by omega), ?_⟩⟩
    rw [nI_clamp (by omega), nI_1]
    refine kep_ (K := fun S => lp_X10_keepsRows_31 Q (r + 1) (nI (k + 1)) S) hS (by omega) (l66_ k (by omega)) (fun G1 hS1 => ?_)
    exact ih (k + 1) G1 (by omega) hS1

theorem r2_ (h : ∀ G', SI_ tk G 530 G' → (∃ kf, lp_X10_keepsRows_31 Q kf (0 : Int32) G')) : ∀ (r k : Nat) (G' : GS), k + r = 4 → SI_ tk G (526 + k) G' → lp_X10_keepsRows_2 Q (r + 1) (nI k) G' := by
  intro r
  induction r with
  | zero =>
    intro k G' hk hS
    have : k = 4 := by omega
    subst this
    exact ⟨fun _ => h G' hS, fun z => absurd (Int32.le_refl _) z⟩
  | succ r ih =>
    intro k G' hk hS
    refine ⟨fun z => absurd z (nI_ge (b := 4) (by omega) (by omega)), fun _ => ⟨vp_in_nI (by omega) (by omega), ?_⟩⟩
    rw [nI_clamp (by omega), nI_1]
    refine kep_ (K := fun S => lp_X10_keepsRows_2 Q (r + 1) (nI (k + 1)) S) hS (by omega) (l65_ k (by omega)) (fun G1 hS1 => ?_)
    exact ih (k + 1) G1 (by omega) hS1

theorem kro_ (h : ∀ G', SI_ tk G 611 G' → Q 0 G') {G' : GS} (hS : SI_ tk G 526 G') : wp_X10_keepsRows G' Q := by
  refine ⟨5, r2_ (fun G1 h1 => ⟨49, r31_ (fun G2 h2 => ?_) 48 0 G1 (by omega) h1⟩) 4 0 G' (by omega) hS⟩
  refine kep_ (K := fun S => ∃ kf, lp_X10_keepsRows_73 Q kf (0 : Int32) S) h2 (by omega) (by decide) (fun G3 h3 => ⟨9, r73_ (fun G4 h4 => ?_) 8 0 G3 (by omega) h3⟩)
  exact kep_ (K := fun S => ∃ kf, lp_X10_keepsRows_131 Q kf (0 : Int32) S) h4 (by omega) (by decide) (fun G5 h5 => ⟨16, r131_ h 15 0 G5 (by omega) h5⟩)

theorem m131_ {a1 : Int32} (h : ∀ G', SI_ tk G 526 G' → wp_X10_keepsRows G' (fun _ G16 => wp_X10_keepsLaw G16 (fun _ G18 => ((¬ a1 = 0 → Q (1 : Int32) G18) ∧ (a1 = 0 → Q (1 : Int32) (gu_ G18 49 3 (0 : Int32))))))) : ∀ (r k : Nat) (G' : GS), k + r = 500 → SI_ tk G (26 + k) G' → lp_X10_image_131 Q (r + 1) a1 (nI k) G' := by
  intro r
  induction r with
  | zero =>
    intro k G' hk hS
    have : k = 500 := by omega
    subst this
    exact ⟨fun _ => h G' hS, fun z => absurd (Int32.le_refl _) z⟩
  | succ r ih =>
    intro k G' hk hS
    refine ⟨fun z => absurd z (nI_ge (b := 500) (by omega) (by omega)), fun _ => ⟨vp_in_nI (by omega) (by omega), ?_⟩⟩
    rw [nI_clamp (by omega), nI_1]
    refine kep_ (K := fun S => lp_X10_image_131 Q (r + 1) a1 (nI (k + 1)) S) hS (by omega) (l53_ k (by omega)) (fun G1 hS1 => ?_)
    exact ih (k + 1) G1 (by omega) hS1

theorem m89_ {a1 : Int32} (h : ∀ G', SI_ tk G 25 G' → wp_X10_kept (G' 49 7) G' (fun r10 G11 => (∃ kf, lp_X10_image_131 Q kf a1 (0 : Int32) (gu_ G11 49 7 r10)))) : ∀ (r k : Nat) (G' : GS), k + r = 10 → SI_ tk G (15 + k) G' → lp_X10_image_89 Q (r + 1) a1 (nI k) G' := by
  intro r
  induction r with
  | zero =>
    intro k G' hk hS
    have : k = 10 := by omega
    subst this
    exact ⟨fun _ => h G' hS, fun z => absurd (Int32.le_refl _) z⟩
  | succ r ih =>
    intro k G' hk hS
    refine ⟨fun z => absurd z (nI_ge (b := 10) (by omega) (by omega)), fun _ => ⟨vp_in_nI (by omega) (by omega), ?_⟩⟩
    rw [nI_clamp (by omega), nI_1]
    refine kep_ (K := fun S => lp_X10_image_89 Q (r + 1) a1 (nI (k + 1)) S) hS (by omega) (l52_ k (by omega)) (fun G1 hS1 => ?_)
    exact ih (k + 1) G1 (by omega) hS1

theorem m35_ {a1 : Int32} (h : ∀ G', SI_ tk G 13 G' → wp_X10_kept (G' 49 4) G' (fun r3 G4 => wp_X10_kept (G4 49 5) (gu_ G4 49 4 r3) (fun r5 G6 => (∃ kf, lp_X10_image_89 Q kf a1 (0 : Int32) (gu_ G6 49 5 r5))))) : ∀ (r k : Nat) (G' : GS), k + r = 13 → SI_ tk G (k) G' → lp_X10_image_35 Q (r + 1) a1 (nI k) G' := by
  intro r
  induction r with
  | zero =>
    intro k G' hk hS
    have : k = 13 := by omega
    subst this
    exact ⟨fun _ => h G' hS, fun z => absurd (Int32.le_refl _) z⟩
  | succ r ih =>
    intro k G' hk hS
    refine ⟨fun z => absurd z (nI_ge (b := 13) (by omega) (by omega)), fun _ => ⟨vp_in_nI (by omega) (by omega), ?_⟩⟩
    rw [nI_clamp (by omega), nI_1]
    refine kep_ (K := fun S => lp_X10_image_35 Q (r + 1) a1 (nI (k + 1)) S) hS (by omega) (if_pos (by omega)) (fun G1 hS1 => ?_)
    exact ih (k + 1) G1 (by omega) hS1

theorem img_ {a1 : Int32} (h : ∀ G', SI_ tk G 1460 G' → ((¬ a1 = 0 → Q (1 : Int32) G') ∧ (a1 = 0 → Q (1 : Int32) (gu_ G' 49 3 (0 : Int32))))) {G' : GS} (hS : SI_ tk G 0 G') : ∃ kf, lp_X10_image_35 Q kf a1 (0 : Int32) G' := by
  refine ⟨14, m35_ (fun G1 h1 => ?_) 13 0 G' (by omega) hS⟩
  refine kep_ (K := fun S => wp_X10_kept (S 49 5) S (fun r5 G6 => (∃ kf, lp_X10_image_89 Q kf a1 (0 : Int32) (gu_ G6 49 5 r5)))) h1 (by omega) (by decide) (fun G2 h2 => ?_)
  refine kep_ (K := fun S => ∃ kf, lp_X10_image_89 Q kf a1 (0 : Int32) S) h2 (by omega) (by decide) (fun G3 h3 => ⟨11, m89_ (fun G4 h4 => ?_) 10 0 G3 (by omega) h3⟩)
  refine kep_ (K := fun S => ∃ kf, lp_X10_image_131 Q kf a1 (0 : Int32) S) h4 (by omega) (by decide) (fun G5 h5 => ⟨501, m131_ (fun G6 h6 => ?_) 500 0 G5 (by omega) h5⟩)
  exact kro_ (fun G7 h7 => kla_ h h7) h6
end IML
theorem FQ_.sy {s s' : Nat → Int32} {f f' : Nat → Nat → Int32} (h : FQ_ s s' f f') : FQ_ s' s f' f := by
  obtain ⟨s0, f0, f1, f2, f3, f4, f5, f6, f7, f8, f9, f10, f11, f12⟩ := h
  exact ⟨fun k hk => (s0 k hk).symm, fun k hk => (f0 k hk).symm, fun k hk => (f1 k hk).symm, fun k hk => (f2 k hk).symm, fun k hk => (f3 k hk).symm, fun k hk => (f4 k hk).symm, fun k hk => (f5 k hk).symm, fun k hk => (f6 k hk).symm, fun k hk => (f7 k hk).symm, fun k hk => (f8 k hk).symm, fun k hk => (f9 k hk).symm, fun k hk => (f10 k hk).symm, fun k hk => (f11 k hk).symm, fun k hk => (f12 k hk).symm⟩
theorem fq_of {m : Nat → Int32} {Y : GS} (h : ∀ k, k < 1460 → m k = Y (loc_ k).1 (loc_ k).2) : FQ_ (rs_ Y) (is_ m) (rf_ Y) (if_ m) := by
  have hl : ∀ k c j, k < 1460 → loc_ k = (c, j) → m k = Y c j := fun k c j hk e => by rw [h k hk, e]
  refine ⟨fun k hk => ?_, fun i hi => hl i 50 i (by omega) (if_pos hi), fun i hi => hl _ 52 i (by omega) (l52_ i hi), fun i hi => hl _ 53 i (by omega) (l53_ i hi), fun i hi => hl _ 65 i (by omega) (l65_ i hi), fun i hi => hl _ 66 i (by omega) (l66_ i hi), fun i hi => hl _ 67 i (by omega) (l67_ i hi).1, fun i hi => ?_, fun i hi => hl _ 70 i (by omega) (l70_ i hi), fun i hi => hl _ 56 i (by omega) (l56_ i hi).1, fun i hi => ?_, fun i hi => ?_, fun i hi => hl _ 59 i (by omega) (l59_ i hi).1, fun i hi => ?_⟩
  · rcases (show k = 0 ∨ k = 1 ∨ k = 2 ∨ k = 3 ∨ k = 4 ∨ k = 5 by omega) with e | e | e | e | e | e <;> subst e
    · exact hl 13 49 4 (by omega) (by decide)
    · exact hl 14 49 5 (by omega) (by decide)
    · exact hl 25 49 7 (by omega) (by decide)
    · exact hl 578 49 35 (by omega) (by decide)
    · exact hl 595 49 39 (by omega) (by decide)
    · exact hl 611 49 16 (by omega) (by decide)
  · have := hl (579 + 2 * i + 1) 68 i (by omega) (l67_ i hi).2
    rw [show 579 + 2 * i + 1 = 580 + 2 * i by omega] at this
    exact this
  · have := hl (612 + 3 * i + 1) 57 i (by omega) (l56_ i hi).2.1
    rw [show 612 + 3 * i + 1 = 613 + 3 * i by omega] at this
    exact this
  · have := hl (612 + 3 * i + 1 + 1) 58 i (by omega) (l56_ i hi).2.2
    rw [show 612 + 3 * i + 1 + 1 = 614 + 3 * i by omega] at this
    exact this
  · have := hl (660 + 2 * i + 1) 60 i (by omega) (l59_ i hi).2
    rw [show 660 + 2 * i + 1 = 661 + 2 * i by omega] at this
    exact this
theorem CP_.cg {c c' c2 : GS} (h : CP_ c c') (p : ∀ k, 1 ≤ k → k < 14 → c2 k = c' k) : CP_ c c2 := by
  unfold CP_ at h ⊢
  rw [p 1 (by omega) (by omega), p 2 (by omega) (by omega), p 3 (by omega) (by omega), p 4 (by omega) (by omega), p 5 (by omega) (by omega), p 6 (by omega) (by omega), p 7 (by omega) (by omega), p 8 (by omega) (by omega), p 9 (by omega) (by omega), p 10 (by omega) (by omega), p 11 (by omega) (by omega), p 12 (by omega) (by omega), p 13 (by omega) (by omega)]
  exact h
section STI
variable {G : GS} {K : Int32 → Int32 → GS → Prop}
/-- what the copying wants of a world -/
theorem wr_sz {c : GS} {s : Nat → Int32} {f : Nat → Nat → Int32} (h : WR_ c s f) : ∃ z m : Nat, z ≤ 400 ∧ c 9 3 = nI z ∧ m ≤ 100 ∧ c 12 0 = nI m := by
  obtain ⟨hA, hB, hC, hD, hE, hF, hG, ⟨m, m1, m2, -⟩, hIt, hJ, hK, ⟨n, M, e, l1, l2, l3, l4, l5, l6, l7, l8, l9, l10⟩, hV⟩ := h
  exact ⟨e n, m, l9 n (Nat.le_refl _), l5, m1, m2⟩
set_option maxHeartbeats 1000000 in
theorem st_image1 {F : Int32 → GS → Prop} (hI : Inv G) (hK : ∀ r G2, Inv G2 → K r r G2) (hF : ∀ r G1, wp_X10_image 1 G1 (fun r' G2 => K r r' G2) → F r G1) : wp_X9_image 1 G F := by
  obtain ⟨z, m, hz, ez, hm, em⟩ := wr_sz hI.1
  refine ⟨fun e => absurd e (by decide), fun _ => cpf_t hz ez hm em (fun G1 f1 cp => ?_)⟩
  refine hF _ _ ?_
  have d1 : bz_ 1 := Or.inr rfl
  generalize hS : gu_ (gu_ (gu_ (gu_ (gu_ G1 0 2 1) 49 0 0) 49 44 1) 49 45 1) 49 46 0 = S
  refine ⟨fun _ => ⟨d1, ?_⟩, fun e => absurd e (by decide)⟩
  rw [hS]
  have e44 : S 49 44 = 1 := by rw [← hS]; rfl
  have e45 : S 49 45 = 1 := by rw [← hS]; rfl
  have e46 : S 49 46 = nI 0 := by rw [← hS]; rfl
  have e02 : S 0 2 = 1 := by rw [← hS]; rfl
  have e0 : ∀ j, j ≠ 2 → S 0 j = G 0 j := fun j hj => by
    rw [← hS]
    show upd (G1 0) 2 1 j = _
    rw [up_miss _ _ hj, f1 0 (by decide)]
  have e49 : ∀ j, j ∈ [3, 4, 5, 7, 10, 16, 28, 29, 35, 39] → S 49 j = G 49 j := fun j hj => by
    rw [← hS]
    show upd (upd (upd (upd (G1 49) 0 0) 44 1) 45 1) 46 0 j = _
    have n : j ≠ 0 ∧ j ≠ 44 ∧ j ≠ 45 ∧ j ≠ 46 := (by decide : ∀ j, j ∈ [3, 4, 5, 7, 10, 16, 28, 29, 35, 39] → j ≠ 0 ∧ j ≠ 44 ∧ j ≠ 45 ∧ j ≠ 46) j hj
    rw [up_miss _ _ n.2.2.2, up_miss _ _ n.2.2.1, up_miss _ _ n.2.1, up_miss _ _ n.1, f1 49 (by decide)]
  have ek : ∀ k, k ≠ 0 → k ≠ 49 → S k = G1 k := fun k h0 h9 => by
    rw [← hS]
    rw [gu_rw, if_neg h9, gu_rw, if_neg h9, gu_rw, if_neg h9, gu_rw, if_neg h9, gu_rw, if_neg h0]
  refine img_ (G := S) (tk := 1) (fun G' s => ⟨fun _ => hK _ _ ?_, fun e => absurd e (by decide)⟩) ⟨e46, e44, fun _ _ _ => rfl, fun _ _ _ => rfl, Or.inl ⟨rfl, fun _ _ _ _ => rfl, fun k hk => absurd hk (by omega)⟩⟩
  obtain ⟨-, -, -, -, s5⟩ := s
  rcases s5 with ⟨-, t2, t3⟩ | ⟨t1, -⟩
  · have t2' : ∀ c, c ≠ 49 → c ≠ 74 → G' c = S c := fun c h1 h2 => funext (fun j => t2 c j (fun e => h1 (congrArg Prod.fst e)) h2)
    have g49 : ∀ j, j ∈ [3, 4, 5, 7, 10, 16, 28, 29, 35, 39] → G' 49 j = G 49 j := fun j hj => by
      rw [t2 49 j (fun e => (by decide : ∀ j, j ∈ [3, 4, 5, 7, 10, 16, 28, 29, 35, 39] → j = 46 → False) j hj (congrArg Prod.snd e)) (by decide)]
      exact e49 j hj
    have gk : ∀ k, k ≠ 0 → k ≠ 49 → k ≠ 74 → k ∉ L26_ → G' k = G k := fun k h0 h9 h74 hL => by
      rw [t2' k h9 h74, ek k h0 h9, f1 k hL]
    have q : ∀ k, 1 ≤ k → k < 14 → G' k = G k := fun k h1 h2 => gk k (by omega) (by omega) (by omega) (fun y => absurd h2 ((by decide : ∀ k, k ∈ L26_ → ¬ k < 14) k y))
    have q27 : ∀ k, 27 ≤ k → k < 33 → G' k = G k := fun k h1 h2 => gk k (by omega) (by omega) (by omega) (fun y => absurd h1 ((by decide : ∀ k, k ∈ L26_ → ¬ 27 ≤ k) k y))
    have qr : ∀ k, 50 ≤ k → k < 74 → G' k = G k := fun k h1 h2 => gk k (by omega) (by omega) (by omega) (fun y => absurd h1 ((by decide : ∀ k, k ∈ L26_ → ¬ 50 ≤ k) k y))
    have r1 : ∀ k, rs_ G' k = rs_ G k := by
      intro k
      unfold rs_
      split <;> exact g49 _ (by decide)
    have r2 : ∀ k, rf_ G' k = rf_ G k := by
      intro k
      unfold rf_
      split <;> exact qr _ (by decide) (by decide)
    have hW := hI.1
    obtain ⟨-, a2, a3, a4, -, a6, a7⟩ := hI
    have c0 : ∀ j, j ≠ 2 → G' 0 j = G 0 j := fun j hj => by rw [t2' 0 (by decide) (by decide)]; exact e0 j hj
    refine ⟨hW.cg1 q r1 r2, ?_, ?_, ?_, Or.inr ⟨?_, ?_, ?_⟩, ?_, ?_⟩
    · rw [c0 5 (by decide), q27 32 (by omega) (by omega), qr 54 (by omega) (by omega), g49 10 (by decide)]; exact a2
    · rw [c0 6 (by decide), c0 7 (by decide), g49 28 (by decide), g49 29 (by decide)]; exact a3
    · rw [q27 27 (by omega) (by omega), q 12 (by omega) (by omega), q27 28 (by omega) (by omega), q27 29 (by omega) (by omega), q27 30 (by omega) (by omega), q27 31 (by omega) (by omega), qr 51 (by omega) (by omega), g49 3 (by decide)]; exact a4
    · rw [t2' 0 (by decide) (by decide)]; exact e02
    · rw [t2 49 45 (by decide) (by decide)]; exact e45
    · refine hW.pw ?_ (fq_of (fun k hk => ?_))
      · have e : (fun k => G' (k + 13)) = fun k => G' (k + 13) := rfl
        have p : ∀ k, 1 ≤ k → k < 14 → G' (k + 13) = G1 (k + 13) := fun k h1 h2 => by
          rw [t2' _ (by omega) (by omega)]
          exact ek _ (by omega) (by omega)
        exact cp.cg p
      · rw [t3 k hk]
        have hc := loc_c k hk
        by_cases c49 : (loc_ k).1 = 49
        · rw [c49]
          exact e49 _ ((by decide : ∀ j, j ∈ [4, 5, 7, 16, 35, 39] → j ∈ [3, 4, 5, 7, 10, 16, 28, 29, 35, 39]) _ (hc.2 c49))
        · have := (by decide : ∀ c, c ∈ lc_ → c ≠ 0 ∧ c ∉ L26_) _ hc.1
          rw [ek _ this.1 c49, f1 _ this.2]
    · rw [qr 55 (by omega) (by omega)]; exact a6
    · rw [g49 5 (by decide), g49 3 (by decide), qr 51 (by omega) (by omega)]; exact a7
  · exact absurd t1 (by decide)
set_option maxHeartbeats 1000000 in
theorem st_image0 {F : Int32 → GS → Prop} (hI : Inv G) (hK : ∀ r G2, Inv G2 → K r r G2) (hF : ∀ r G1, wp_X10_image 0 G1 (fun r' G2 => K r r' G2) → F r G1) : wp_X9_image 0 G F := by
  have hN : Inv (gu_ G 49 0 0) := hI.sc (Sc.rf G).t0
  have hI' := hI
  obtain ⟨-, a2, a3, a4, a5, a6, a7⟩ := hI'
  rcases a5 with ⟨b1, b2⟩ | ⟨b1, b2, hW⟩
  · refine ⟨fun _ => ⟨fun n => absurd b1 n, fun _ => ?_⟩, fun n => absurd rfl n⟩
    refine hF _ _ ?_
    exact ⟨fun n => absurd rfl n, fun _ => ⟨fun n => absurd b2 n, fun _ => hK _ _ hN⟩⟩
  · obtain ⟨z, m, hz, ez, hm, em⟩ := wr_sz hW
    refine ⟨fun _ => ⟨fun _ => cpf_b hz ez hm em (fun G1 f1 cp => ?_), fun e => absurd (b1.symm.trans e) (by decide)⟩, fun n => absurd rfl n⟩
    have d1 : bz_ 0 := Or.inl rfl
    have x45 : (gu_ G1 27 1 0) 49 45 = 1 := by
      show G1 49 45 = 1
      rw [f1 49 (by decide)]; exact b2
    show F 1 (gu_ G1 27 1 0)
    refine hF _ _ ?_
    generalize hS : gu_ (gu_ (gu_ (gu_ (gu_ G1 27 1 0) 49 0 0) 49 44 0) 49 45 1) 49 46 0 = S
    refine ⟨fun n => absurd rfl n, fun _ => ⟨fun _ => ⟨d1, ?_⟩, fun e => absurd (x45.symm.trans e) (by decide)⟩⟩
    rw [hS]
    have e44 : S 49 44 = 0 := by rw [← hS]; rfl
    have e45 : S 49 45 = 1 := by rw [← hS]; rfl
    have e46 : S 49 46 = nI 0 := by rw [← hS]; rfl
    have e271 : S 27 1 = 0 := by rw [← hS]; rfl
    have e270 : S 27 0 = G 27 0 := by
      rw [← hS]
      show G1 27 0 = _
      rw [f1 27 (by decide)]
    have e49 : ∀ j, j ∈ [3, 4, 5, 7, 10, 16, 28, 29, 35, 39] → S 49 j = G 49 j := fun j hj => by
      rw [← hS]
      show upd (upd (upd (upd (G1 49) 0 0) 44 0) 45 1) 46 0 j = _
      have n : j ≠ 0 ∧ j ≠ 44 ∧ j ≠ 45 ∧ j ≠ 46 := (by decide : ∀ j, j ∈ [3, 4, 5, 7, 10, 16, 28, 29, 35, 39] → j ≠ 0 ∧ j ≠ 44 ∧ j ≠ 45 ∧ j ≠ 46) j hj
      rw [up_miss _ _ n.2.2.2, up_miss _ _ n.2.2.1, up_miss _ _ n.2.1, up_miss _ _ n.1, f1 49 (by decide)]
    have ek : ∀ k, k ≠ 27 → k ≠ 49 → S k = G1 k := fun k h0 h9 => by
      rw [← hS]
      rw [gu_rw, if_neg h9, gu_rw, if_neg h9, gu_rw, if_neg h9, gu_rw, if_neg h9, gu_rw, if_neg h0]
    refine img_ (G := S) (tk := 0) (fun G' s => ⟨fun n => absurd rfl n, fun _ => hK _ _ ?_⟩) ⟨e46, e44, fun _ _ _ => rfl, fun _ _ _ => rfl, Or.inr ⟨rfl, rfl, fun k hk => absurd hk (by omega)⟩⟩
    obtain ⟨-, -, s3, s4, s5⟩ := s
    rcases s5 with ⟨t1, -⟩ | ⟨-, t2, t3⟩
    · exact absurd t1 (by decide)
    · have v49 : ∀ j, j ∈ [10, 28, 29] → (gu_ G' 49 3 0) 49 j = G 49 j := fun j hj => by
        have n := (by decide : ∀ j, j ∈ [10, 28, 29] → j ≠ 3 ∧ j ∉ [4, 5, 7, 16, 35, 39] ∧ j ≠ 46 ∧ j ∈ [3, 4, 5, 7, 10, 16, 28, 29, 35, 39]) j hj
        show upd (G' 49) 3 0 j = _
        rw [up_miss _ _ n.1, s4 j n.2.1 n.2.2.1]
        exact e49 j n.2.2.2
      have v45 : (gu_ G' 49 3 0) 49 45 = 1 := by
        show upd (G' 49) 3 0 45 = _
        rw [up_miss _ _ (by decide), s4 45 (by decide) (by decide)]
        exact e45
      have gk : ∀ k, k ∉ lc_ → k ≠ 74 → k ≠ 27 → k ∉ L13_ → (gu_ G' 49 3 0) k = G k := fun k h1 h2 h3 h4 => by
        have h9 : k ≠ 49 := fun e => h1 (by rw [e]; decide)
        rw [gu_rw, if_neg h9, s3 k h1 h2, ek k h3 h9, f1 k h4]
      have g13 : ∀ k, 1 ≤ k → k < 14 → (gu_ G' 49 3 0) k = G1 k := fun k h1 h2 => by
        rw [gu_rw, if_neg (by omega), s3 k (fun y => absurd h2 ((by decide : ∀ k, k ∈ lc_ → ¬ k < 14) k y)) (by omega), ek k (by omega) (by omega)]
      have v74 : (gu_ G' 49 3 0) 74 = G 74 := by
        rw [gu_rw, if_neg (by decide), t2, ek 74 (by decide) (by decide), f1 74 (by decide)]
      have cp2 : CP_ (fun k => G (k + 13)) (gu_ G' 49 3 0) := by
        exact cp.cg g13
      have hW2 : WR_ (gu_ G' 49 3 0) (rs_ (gu_ G' 49 3 0)) (rf_ (gu_ G' 49 3 0)) := by
        refine hW.pw cp2 (fq_of (fun k hk => ?_)).sy
        have hc := loc_c k hk
        have e1 : (gu_ G' 49 3 0) (loc_ k).1 (loc_ k).2 = G' (loc_ k).1 (loc_ k).2 := by
          rw [gu_ap]
          by_cases c49 : (loc_ k).1 = 49
          · rw [if_pos c49, if_neg (fun e => (by decide : ∀ j, j ∈ [4, 5, 7, 16, 35, 39] → j = 3 → False) _ (hc.2 c49) e), c49]
          · rw [if_neg c49]
        rw [e1, t3 k hk, ek 74 (by decide) (by decide), f1 74 (by decide)]
      have r1 : ∀ k, 27 ≤ k → k < 33 → k ≠ 27 → (gu_ G' 49 3 0) k = G k := fun k h1 h2 h3 => gk k (fun y => absurd h2 ((by decide : ∀ k, k ∈ lc_ → ¬ k < 33) k y)) (by omega) h3 (fun y => absurd h1 ((by decide : ∀ k, k ∈ L13_ → ¬ 27 ≤ k) k y))
      have hru : ∃ nx : Nat, nx < 8 ∧ G 27 0 = nI nx := by
        obtain ⟨nx, c, bs, h1, h2, h3, h4, -⟩ := a4
        exact ⟨nx, h1, h4⟩
      obtain ⟨nx, hnx, enx⟩ := hru
      obtain ⟨z2, m2, -, -, hm2, em2⟩ := wr_sz hW2
      refine ⟨hW2, ?_, ?_, ?_, Or.inr ⟨?_, v45, ?_⟩, ?_, UV_0⟩
      · rw [gk 0 (by decide) (by decide) (by decide) (by decide), r1 32 (by omega) (by omega) (by omega), gk 54 (by decide) (by decide) (by decide) (by decide), v49 10 (by decide)]; exact a2
      · rw [gk 0 (by decide) (by decide) (by decide) (by decide), v49 28 (by decide), v49 29 (by decide)]; exact a3
      · have e27 : (gu_ G' 49 3 0) 27 = S 27 := by rw [gu_rw, if_neg (by decide), s3 27 (by decide) (by decide)]
        rw [e27, e271]
        exact RU_0 hnx (e270.trans enx) hm2 em2
      · rw [gk 0 (by decide) (by decide) (by decide) (by decide)]; exact b1
      · rw [v74]
        refine hW.cg1 (fun k h1 h2 => ?_) (fun _ => rfl) (fun _ => rfl)
        have h3 := (by decide : ∀ k, k < 14 → 1 ≤ k → k + 13 ∉ lc_ ∧ k + 13 ∉ L13_) k h2 h1
        exact gk (k + 13) h3.1 (by omega) (by omega) h3.2
      · rw [gk 55 (by decide) (by decide) (by decide) (by decide)]; exact a6
end STI
