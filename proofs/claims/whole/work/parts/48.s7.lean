/-- the steps of two tunes agree, taken w times -/
def ag_ (f : Nat → Int32) (s t : Nat) (w : Int32) (n : Nat) : Prop := ∀ i, i + 1 < n → f (12 * s + (i + 1)) - f (12 * s + i) = w * (f (12 * t + (i + 1)) - f (12 * t + i))
theorem sa_loop {Q : Int32 → GS → Prop} {G : GS} {s t n : Nat} {w : Int32} (hs : s < 4) (ht : t < 4) (hn : n ≤ 12) (h1 : ag_ (G 4) s t w n → Q 1 G) (h0 : ¬ ag_ (G 4) s t w n → Q 0 G) : ∀ (r i : Nat), i + 1 + r = n → (∀ q, q < i → (G 4) (12 * s + (q + 1)) - (G 4) (12 * s + q) = w * ((G 4) (12 * t + (q + 1)) - (G 4) (12 * t + q))) → lp_X9_stepsAgree_3 Q (r + 1) (nI s) (nI t) (nI n) w (nI (i + 1)) G := by
  intro r
  induction r with
  | zero =>
    intro i hi hq
    have e : i + 1 = n := by omega
    subst e
    exact ⟨fun _ => h1 (fun q hq2 => hq q (by omega)), fun z => absurd (Int32.le_refl _) z⟩
  | succ r ih =>
    intro i hi hq
    refine ⟨fun z => absurd z (nI_ge (by omega) (by omega)), fun _ => ?_⟩
    have v : ∀ u k, u < 4 → k < 12 → vp_in (nI u * (12 : Int32) + nI k) 48 ∧ (nI u * (12 : Int32) + nI k).toNatClampNeg = 12 * u + k := by
      intro u k hu hk
      rw [(ti_ u k).1]
      exact ⟨vp_in_nI (by omega) (by omega), nI_clamp (by omega)⟩
    rw [nI_pred]
    obtain ⟨a1, a2⟩ := v s (i + 1) hs (by omega)
    obtain ⟨a3, a4⟩ := v s i hs (by omega)
    obtain ⟨a5, a6⟩ := v t (i + 1) ht (by omega)
    obtain ⟨a7, a8⟩ := v t i ht (by omega)
    refine ⟨a1, a3, a5, a7, ?_⟩
    rw [a2, a4, a6, a8, nI_1]
    refine ⟨fun c => ih (i + 1) (by omega) (fun q hq2 => ?_), fun c => h0 (fun ha => c (ha i (by omega)))⟩
    by_cases hqi : q = i
    · subst hqi; exact c
    · exact hq q (by omega)
theorem sa_c {Q : Int32 → GS → Prop} {G : GS} {s t n : Nat} {w : Int32} (hs : s < 4) (ht : t < 4) (hn : n ≤ 12) (hn1 : 1 ≤ n) (h1 : ag_ (G 4) s t w n → Q 1 G) (h0 : ¬ ag_ (G 4) s t w n → Q 0 G) : wp_X9_stepsAgree (nI s) (nI t) (nI n) w G Q :=
  ⟨n - 1 + 1, sa_loop hs ht hn h1 h0 (n - 1) 0 (by omega) (fun q hq => absurd hq (by omega))⟩
theorem sr_loop {Q : Int32 → GS → Prop} {G : GS} {s t n : Nat} {w : Int32} (hs : s < 4) (ht : t < 4) (hn : n ≤ 12) (e : G 65 s = nI n) (h1 : ag_ (G 66) s t w n → Q 1 G) (h0 : ¬ ag_ (G 66) s t w n → Q 0 G) : ∀ (r i : Nat), i + 1 + r = n → (∀ q, q < i → (G 66) (12 * s + (q + 1)) - (G 66) (12 * s + q) = w * ((G 66) (12 * t + (q + 1)) - (G 66) (12 * t + q))) → lp_X10_hasSteps_3 Q (r + 1) (nI s) (nI t) w (nI (i + 1)) G := by
  have c0 : (nI s).toNatClampNeg = s := nI_clamp (by omega)
  intro r
  induction r with
  | zero =>
    intro i hi hq
    have e3 : i + 1 = n := by omega
    subst e3
    refine ⟨vp_in_nI hs (by omega), fun _ => h1 (fun q hq2 => hq q (by omega)), fun z => absurd ?_ z⟩
    rw [c0, e]
    exact Int32.le_refl _
  | succ r ih =>
    intro i hi hq
    refine ⟨vp_in_nI hs (by omega), fun z => absurd z (by rw [c0, e]; exact nI_ge (by omega) (by omega)), fun _ => ?_⟩
    have v : ∀ u k, u < 4 → k < 12 → vp_in (nI (12 * u + k)) 48 ∧ (nI (12 * u + k)).toNatClampNeg = 12 * u + k := by
      intro u k hu hk
      exact ⟨vp_in_nI (by omega) (by omega), nI_clamp (by omega)⟩
    have p : ∀ u k, (12 : Int32) * nI u + nI (k + 1) - 1 = nI (12 * u + k) := by
      intro u k
      rw [(ti_ u (k + 1)).2, show 12 * u + (k + 1) = 12 * u + k + 1 from rfl, nI_pred]
    obtain ⟨a1, a2⟩ := v s (i + 1) hs (by omega)
    obtain ⟨a3, a4⟩ := v s i hs (by omega)
    obtain ⟨a5, a6⟩ := v t (i + 1) ht (by omega)
    obtain ⟨a7, a8⟩ := v t i ht (by omega)
    rw [p, p, (ti_ s (i + 1)).2, (ti_ t (i + 1)).2, a2, a4, a6, a8, nI_1]
    refine ⟨a1, a3, a5, a7, fun c => ih (i + 1) (by omega) (fun q hq2 => ?_), fun c => h0 (fun ha => c (ha i (by omega)))⟩
    by_cases hqi : q = i
    · subst hqi; exact c
    · exact hq q (by omega)
theorem sr_c {Q : Int32 → GS → Prop} {G : GS} {s t n : Nat} {w : Int32} (hs : s < 4) (ht : t < 4) (hn : n ≤ 12) (hn1 : 1 ≤ n) (e : G 65 s = nI n) (h1 : ag_ (G 66) s t w n → Q 1 G) (h0 : ¬ ag_ (G 66) s t w n → Q 0 G) : wp_X10_hasSteps (nI s) (nI t) w G Q :=
  ⟨n - 1 + 1, sr_loop hs ht hn e h1 h0 (n - 1) 0 (by omega) (fun q hq => absurd hq (by omega))⟩
section ST7
variable {G : GS} {K : Int32 → Int32 → GS → Prop}
set_option maxHeartbeats 4000000 in
theorem st_same (a b : Int32) (hI : Inv G) (hK : ∀ r G2, Inv G2 → K r r G2) : wp_X9_same a b G (fun r G1 => wp_X10_same a b G1 (fun r' G2 => K r r' G2)) := by
  have hJ : Inv (gu_ G 49 0 0) := hI
  obtain ⟨⟨hA, hB, hC, hD, hE, hF, hG, hH, hIt, hr0⟩, hr⟩ := hI
  rcases pk_ix a (n := 4) (by omega) with ha | ha | ⟨s, hs, rfl⟩
  · simp [wp_X9_same, wp_X10_same, wp_X9_isTune, wp_X10_isTune, ha, hK _ _ hJ]
  · have ha : (4 : Int32) ≤ a := ha
    simp [wp_X9_same, wp_X10_same, wp_X9_isTune, wp_X10_isTune, ha, hK _ _ hJ]
  have p1 : ¬ nI s < 0 := nI_pos (by omega)
  have p2 : ¬ (4 : Int32) ≤ nI s := nI_ge (b := 4) hs (by omega)
  have p3 : vp_in (nI s) 4 := vp_in_nI hs (by omega)
  have p4 : (nI s).toNatClampNeg = s := nI_clamp (by omega)
  rcases pk_ix b (n := 4) (by omega) with hb | hb | ⟨t, ht, rfl⟩
  · simp [wp_X9_same, wp_X10_same, wp_X9_isTune, wp_X10_isTune, p1, p2, hb, hK _ _ hJ]
  · have hb : (4 : Int32) ≤ b := hb
    simp [wp_X9_same, wp_X10_same, wp_X9_isTune, wp_X10_isTune, p1, p2, hb, hK _ _ hJ]
  have q1 : ¬ nI t < 0 := nI_pos (by omega)
  have q2 : ¬ (4 : Int32) ≤ nI t := nI_ge (b := 4) ht (by omega)
  have q3 : vp_in (nI t) 4 := vp_in_nI ht (by omega)
  have q4 : (nI t).toNatClampNeg = t := nI_clamp (by omega)
  obtain ⟨n, hn, n1, n2, hv⟩ := hIt s hs
  obtain ⟨m, hm, m1, m2, hw⟩ := hIt t ht
  have n2 : G 65 s = nI n := n2
  have m2 : G 65 t = nI m := m2
  by_cases c0 : n = 0
  · subst c0
    have z : nI 0 = (0 : Int32) := nI_0
    simp [wp_X9_same, wp_X10_same, wp_X9_isTune, wp_X10_isTune, p1, p2, p3, p4, q1, q2, n1, n2, z, gu_ap, hK _ _ hJ]
  have c1 : ¬ nI n = 0 := nI_ne0 (by omega) (by omega)
  by_cases c2 : n = m
  · subst c2
    have hag : ∀ w : Int32, ag_ (G 4) s t w n ↔ ag_ (G 66) s t w n := by
      intro w
      have hs1 : ∀ i, i < n → G 4 (12 * s + i) = G 66 (12 * s + i) := fun i hi => by
        obtain ⟨x, -, h1, h2⟩ := hv i hi
        exact h1.trans h2.symm
      have ht1 : ∀ i, i < n → G 4 (12 * t + i) = G 66 (12 * t + i) := fun i hi => by
        obtain ⟨x, -, h1, h2⟩ := hw i hi
        exact h1.trans h2.symm
      constructor
      · intro h i hi
        rw [← hs1 _ hi, ← hs1 i (by omega), ← ht1 _ hi, ← ht1 i (by omega)]
        exact h i hi
      · intro h i hi
        rw [hs1 _ hi, hs1 i (by omega), ht1 _ hi, ht1 i (by omega)]
        exact h i hi
    have g1 : G 4 (12 * s + 0) = G 66 (12 * s + 0) := by
      obtain ⟨x, -, h1, h2⟩ := hv 0 (by omega)
      exact h1.trans h2.symm
    have g2 : G 4 (12 * t + 0) = G 66 (12 * t + 0) := by
      obtain ⟨x, -, h1, h2⟩ := hw 0 (by omega)
      exact h1.trans h2.symm
    have e0 : (0 : Int32) = nI 0 := rfl
    have i1 : vp_in (nI (12 * s)) 48 := vp_in_nI (by omega) (by omega)
    have i2 : vp_in (nI (12 * t)) 48 := vp_in_nI (by omega) (by omega)
    have i3 : (nI (12 * s)).toNatClampNeg = 12 * s := nI_clamp (by omega)
    have i4 : (nI (12 * t)).toNatClampNeg = 12 * t := nI_clamp (by omega)
    have i5 : (12 : Int32) * nI s = nI (12 * s) := pk_mul 12 s
    have i6 : (12 : Int32) * nI t = nI (12 * t) := pk_mul 12 t
    have i7 : nI s * (12 : Int32) + 0 = nI (12 * s) := (ti_ s 0).1
    have i8 : nI t * (12 : Int32) + 0 = nI (12 * t) := (ti_ t 0).1
    simp only [wp_X9_same, wp_X9_isTune, p1, p2, q1, q2]
    simp
    refine ⟨p3, by rw [p4, n1]; exact fun z => absurd z c1, fun _ => ⟨q3, fun _ => ?_, fun z => absurd (by rw [p4, q4, n1, m1]) z⟩⟩
    rw [p4, n1]
    have refpart : ∀ r : Int32, ((ag_ (G 66) s t 1 n ∧ G 66 (12 * s) = G 66 (12 * t) ∧ r = 3) ∨ (ag_ (G 66) s t 1 n ∧ ¬ G 66 (12 * s) = G 66 (12 * t) ∧ r = 2) ∨ (¬ ag_ (G 66) s t 1 n ∧ ag_ (G 66) s t (-1) n ∧ r = 1) ∨ (¬ ag_ (G 66) s t 1 n ∧ ¬ ag_ (G 66) s t (-1) n ∧ r = 0)) → wp_X10_same (nI s) (nI t) G (fun r' G2 => K r r' G2) := by
      intro r hcase
      simp only [wp_X10_same, wp_X10_isTune, p1, p2, q1, q2]
      simp
      have e65 : gu_ G 49 0 0 65 = G 65 := rfl
      rw [p4, q4, e65, n2, m2]
      refine ⟨p3, fun z => absurd z c1, fun _ => ⟨q3, fun _ => ?_, fun z => absurd rfl z⟩⟩
      rcases hcase with ⟨a1, a2, rfl⟩ | ⟨a1, a2, rfl⟩ | ⟨a1, a2, rfl⟩ | ⟨a1, a2, rfl⟩
      · refine sr_c hs ht hn (by omega) n2 (fun _ => ?_) (fun z => absurd a1 z)
        refine ⟨fun z => absurd z (by decide), fun _ => ?_⟩
        rw [i5, i6, i3, i4]
        exact ⟨i1, i2, fun z => absurd a2 z, fun _ => hK _ _ hJ⟩
      · refine sr_c hs ht hn (by omega) n2 (fun _ => ?_) (fun z => absurd a1 z)
        refine ⟨fun z => absurd z (by decide), fun _ => ?_⟩
        rw [i5, i6, i3, i4]
        exact ⟨i1, i2, fun _ => hK _ _ hJ, fun z => absurd z a2⟩
      · refine sr_c hs ht hn (by omega) n2 (fun z => absurd z a1) (fun _ => ?_)
        refine ⟨fun _ => ?_, fun z => absurd rfl z⟩
        refine sr_c hs ht hn (by omega) n2 (fun _ => ?_) (fun z => absurd a2 z)
        exact ⟨fun z => absurd z (by decide), fun _ => hK _ _ hJ⟩
      · refine sr_c hs ht hn (by omega) n2 (fun z => absurd z a1) (fun _ => ?_)
        refine ⟨fun _ => ?_, fun z => absurd rfl z⟩
        refine sr_c hs ht hn (by omega) n2 (fun z => absurd z a2) (fun _ => ?_)
        exact ⟨fun _ => hK _ _ hJ, fun z => absurd rfl z⟩
    refine sa_c hs ht hn (by omega) (fun h => ⟨fun z => absurd z (by decide), fun _ => ?_⟩) (fun h => ⟨fun _ => ?_, fun z => absurd rfl z⟩)
    · refine ⟨by rw [i7]; exact i1, ?_⟩
      refine ⟨by rw [i8]; exact i2, ?_⟩
      rw [i7, i8, i3, i4]
      refine ⟨fun c => refpart 2 (Or.inr (Or.inl ⟨(hag 1).mp h, ?_, rfl⟩)), fun c => refpart 3 (Or.inl ⟨(hag 1).mp h, ?_, rfl⟩)⟩
      · rw [← (show G 4 (12 * s) = G 66 (12 * s) from g1), ← (show G 4 (12 * t) = G 66 (12 * t) from g2)]; exact c
      · rw [← (show G 4 (12 * s) = G 66 (12 * s) from g1), ← (show G 4 (12 * t) = G 66 (12 * t) from g2)]; exact c
    · refine sa_c hs ht hn (by omega) (fun h2 => ⟨fun z => absurd z (by decide), fun _ => refpart 1 (Or.inr (Or.inr (Or.inl ⟨fun z => h ((hag 1).mpr z), (hag _).mp h2, rfl⟩)))⟩) (fun h2 => ⟨fun _ => refpart 0 (Or.inr (Or.inr (Or.inr ⟨fun z => h ((hag 1).mpr z), fun z => h2 ((hag _).mpr z), rfl⟩))), fun z => absurd rfl z⟩)
  · have c3 : ¬ nI n = nI m := fun z => c2 ((nI_eq (by omega) (by omega)).mp z)
    simp [wp_X9_same, wp_X10_same, wp_X9_isTune, wp_X10_isTune, p1, p2, p3, p4, q1, q2, q3, q4, n1, n2, m1, m2, c1, c3, gu_ap, hK _ _ hJ]
end ST7
