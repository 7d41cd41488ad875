theorem rz_a {n : Nat} (h1 : 1 ≤ n) (h6 : n ≤ 6) : (∀ most, most < rm_l.getD n 0 → n - 1 ≤ most → rz_ n most = none) ∧ rz_ n (rm_l.getD n 0) = some (rt_.getD n []) := by
  rcases Nat.lt_or_ge n 6 with h | h
  · exact rz_1 n h h1
  · have : n = 6 := by omega
    subst this
    exact ⟨fun most a b => rz_2 most a b, rz_3⟩
section INR
variable {Q : Int32 → GS → Prop} {G : GS} {a : Int32} {n : Nat}
theorem inr_x (hn : n ≤ 100) : (a < 10 ∨ nI n ≤ a - 10) ∧ (∀ i, i < n → a ≠ nI (10 + i)) ∧ (a < 10 ∨ (9 : Int32) + nI n < a) ∨ ∃ i, i < n ∧ a = nI (10 + i) ∧ ¬ a < 10 ∧ ¬ nI n ≤ a - 10 ∧ ¬ (9 : Int32) + nI n < a ∧ a - 10 = nI i := by
  have e9 : (9 : Int32) + nI n = nI (9 + n) := by rw [show (9 : Int32) = nI 9 from rfl, nI_add]
  by_cases c : a < 10
  · refine Or.inl ⟨Or.inl c, fun i hi e => ?_, Or.inl c⟩
    rw [e] at c
    exact nI_nlt (b := 10) (by omega) (by omega) c
  · have c10 : ¬ a < 0 := fun z => c (Int32.lt_trans z (by decide))
    obtain ⟨v, hv, rfl⟩ := nI_of c10
    have hv10 : 10 ≤ v := by
      rcases Nat.lt_or_ge v 10 with h | h
      · exact absurd (nI_lt (b := 10) h (by omega)) c
      · exact h
    have es : nI v - 10 = nI (v - 10) := pk_sub (b := 10) hv10
    rcases Nat.lt_or_ge (v - 10) n with h | h
    · refine Or.inr ⟨v - 10, h, by congr 1; omega, c, ?_, ?_, es⟩
      · rw [es]; exact nI_ge h (by omega)
      · rw [e9]; exact nI_nlt (by omega) (by omega)
    · refine Or.inl ⟨Or.inr (by rw [es]; exact nI_le h (by omega)), fun i hi e => ?_, Or.inr (by rw [e9]; exact nI_lt (by omega) hv)⟩
      have := (nI_eq hv (by omega)).mp e
      omega
theorem inr_c (hn : n ≤ 100) (h1 : ∀ i, i < n → a = nI (10 + i) → a - 10 = nI i → Q 1 G) (h0 : (∀ i, i < n → a ≠ nI (10 + i)) → Q 0 G) : wp_X9_isInRow a (nI n) G Q := by
  rcases inr_x (a := a) hn with ⟨k1, k2, -⟩ | ⟨i, hi, e, k1, k2, -, k3⟩
  · exact ⟨fun _ => h0 k2, fun z => ⟨fun _ => h0 k2, fun y => absurd k1 (fun x => x.elim z y)⟩⟩
  · exact ⟨fun z => absurd z k1, fun _ => ⟨fun z => absurd z k2, fun _ => h1 i hi e k3⟩⟩
theorem inr_r (hn : n ≤ 100) (h1 : ∀ i, i < n → a = nI (10 + i) → a - 10 = nI i → Q 1 G) (h0 : (∀ i, i < n → a ≠ nI (10 + i)) → Q 0 G) : wp_X10_isIn a 10 ((9 : Int32) + nI n) G Q := by
  rcases inr_x (a := a) hn with ⟨-, k2, k3⟩ | ⟨i, hi, e, k1, -, k2, k3⟩
  · exact isin_ (fun y1 y2 => absurd k3 (fun z => z.elim y1 y2)) (fun _ => h0 k2)
  · exact isin_ (fun _ _ => h1 i hi e k3) (fun z => absurd z (fun z => z.elim k1 k2))
theorem rf_r (hn : 1 ≤ n) (hn6 : n ≤ 6) (hQ : ∀ G', FR [71, 72] G G' → (∀ i, i < n → G' 71 i = nI ((rt_.getD n []).getD i 0)) → Q 0 G') : wp_X10_findsRuler (nI n) G Q := by
  obtain ⟨z1, z2⟩ := rz_a hn hn6
  have hM : rm_l.getD n 0 ≤ 17 ∧ n - 1 ≤ rm_l.getD n 0 := (by decide : ∀ n, n < 7 → rm_l.getD n 0 ≤ 17 ∧ n - 1 ≤ rm_l.getD n 0) n (by omega)
  have key : ∀ (d most : Nat) (G' : GS), most + d = rm_l.getD n 0 → n - 1 ≤ most → FR [71, 72] G G' → lp_X10_findsRuler_4 Q (d + 1) (nI n) (nI most) G' := by
    intro d
    induction d with
    | zero =>
      intro most G' hm hnm f
      have hm : most = rm_l.getD n 0 := hm
      subst hm
      refine rul_r hn hn6 (by omega) hnm (fun x e G2 f2 hr => hQ G2 (f.tr f2) (fun i hi => ?_)) (fun e => ?_)
      · rw [hr i hi]
        unfold rz_ at z2
        rw [e] at z2
        have z3 : (List.range n).map x = rt_.getD n [] := Option.some.inj z2
        rw [← z3]
        congr 1
        rw [List.getD_eq_getElem?_getD, List.getElem?_map, List.getElem?_range hi]
        rfl
      · unfold rz_ at z2
        rw [e] at z2
        exact absurd z2 (by simp)
    | succ d ih =>
      intro most G' hm hnm f
      refine rul_r hn hn6 (by omega) hnm (fun x e => ?_) (fun e G2 f2 => ih (most + 1) G2 (by omega) (by omega) (f.tr f2))
      have := z1 most (by omega) hnm
      unfold rz_ at this
      rw [e] at this
      exact absurd this (by simp)
  have hp : nI n - 1 = nI (n - 1) := by
    obtain ⟨n', rfl⟩ : ∃ n', n = n' + 1 := ⟨n - 1, by omega⟩
    exact nI_pred n'
  unfold wp_X10_findsRuler
  rw [hp]
  exact ⟨rm_l.getD n 0 - (n - 1) + 1, key _ _ G (by omega) (Nat.le_refl _) (FR.rf _ _)⟩
end INR
theorem ruk_ : ∀ n, n < 7 → 1 ≤ n → ∀ i, i < n → ((nI n * (nI n - 1)) / 2 + nI (10 + i)) - 10 = nI (n * (n - 1) / 2 + i) ∧ n * (n - 1) / 2 + i < 21 ∧ ru_.getD (n * (n - 1) / 2 + i) 0 = nI ((rt_.getD n []).getD i 0) := by decide +kernel
theorem rul_ : ∀ n, n < 7 → 1 ≤ n → ((nI n * (nI n - 1)) / 2 + nI n) - 1 = nI (n * (n - 1) / 2 + (n - 1)) := by decide +kernel
section STR
variable {G : GS} {K : Int32 → Int32 → GS → Prop}
theorem Sc.fr {G G' : GS} {L : List Nat} (h : FR L G G') (hl : ∀ k, k ∈ L → k ∉ kpc_ ∧ k ≠ 49) : Sc G G' := ⟨fun k hk => h k (fun z => (hl k z).1 hk), fun j _ => by rw [h 49 (fun z => (hl 49 z).2 rfl)]⟩
theorem Sc.tr {G G' G2 : GS} (h : Sc G G') (h2 : Sc G' G2) : Sc G G2 := ⟨fun k hk => (h2.1 k hk).trans (h.1 k hk), fun j hj => (h2.2 j hj).trans (h.2 j hj)⟩
set_option maxHeartbeats 1000000 in
theorem st_ruler (a b : Int32) (hI : Inv G) (hK : ∀ r G2, Inv G2 → K r r G2) : wp_X9_ruler a b G (fun r G1 => wp_X10_ruler a b G1 (fun r' G2 => K r r' G2)) := by
  have hN : Inv (gu_ G 49 0 0) := hI.sc (Sc.rf G).t0
  have bad : (a < 1 ∨ 6 < a) → wp_X10_ruler a b G (fun r' G2 => K (-1) r' G2) := fun hb =>
    isin_ (fun y1 y2 => absurd hb (fun z => z.elim y1 y2)) (fun _ => ⟨fun _ => hK _ _ hN, fun z => absurd rfl z⟩)
  refine ⟨fun z => bad (Or.inl z), fun y1 => ⟨fun y2 => ?_, fun z => bad (Or.inr (Int32.not_le.mp z))⟩⟩
  obtain ⟨n, hn6, rfl⟩ := nI_of2 (M := 6) (n := 6) (by decide) (fun z => y1 (Int32.lt_trans z (by decide))) y2
  have hn : 1 ≤ n := by
    rcases Nat.lt_or_ge n 1 with h | h
    · exact absurd (nI_lt (b := 1) h (by omega)) y1
    · exact h
  have hp : nI n - 1 = nI (n - 1) := by
    obtain ⟨n', rfl⟩ : ∃ n', n = n' + 1 := ⟨n - 1, by omega⟩
    exact nI_pred n'
  have lead : ∀ (K2 : Int32 → GS → Prop), ((b = 0 → bk_X10_ruler_36 K2 (nI n) b (gu_ G 49 0 0)) ∧ (¬ b = 0 → wp_X10_isIn b 10 ((9 : Int32) + nI n) (gu_ G 49 0 0) (fun r3 G4 => ((¬ r3 = 0 → bk_X10_ruler_36 K2 (nI n) b G4) ∧ (r3 = 0 → K2 (-1 : Int32) G4))))) → wp_X10_ruler (nI n) b G K2 := by
    intro K2 h
    exact isin_ (fun _ _ => ⟨fun z => absurd z (by decide), fun _ => h⟩) (fun z => absurd z (fun z => z.elim y1 (Int32.not_lt.mpr y2)))
  have fin : ∀ G', FR [71, 72] (gu_ G 49 0 0) G' → Inv G' := fun G' f => hI.sc ((Sc.rf G).t0.tr (Sc.fr f (by decide)))
  refine ⟨fun hb => ?_, fun hb => ?_⟩
  · refine inr_c (by omega) (fun i hi e e10 => ⟨fun z => absurd z (by decide), fun _ => ?_⟩) (fun hno => ⟨fun _ => ?_, fun z => absurd rfl z⟩)
    · obtain ⟨k1, k2, k3⟩ := ruk_ n (by omega) hn i hi
      rw [e, k1, nI_clamp (by omega), k3]
      refine ⟨vp_in_nI k2 (by omega), ?_⟩
      rw [← e]
      refine lead _ ⟨fun z => absurd z hb, fun _ => inr_r (by omega) (fun i2 hi2 e2 e20 => ⟨fun _ => ?_, fun z => absurd z (by decide)⟩) (fun h => absurd e (h i hi))⟩
      refine rf_r hn hn6 (fun G' f h => ⟨fun _ => ?_, fun z => absurd z hb⟩)
      rw [e10, nI_clamp (by omega), h i hi]
      exact ⟨vp_in_nI (by omega) (by omega), hK _ _ (fin G' f)⟩
    · exact lead _ ⟨fun z => absurd z hb, fun _ => inr_r (by omega) (fun i2 hi2 e2 _ => absurd e2 (hno i2 hi2)) (fun _ => ⟨fun z => absurd rfl z, fun _ => hK _ _ hN⟩)⟩
  · obtain ⟨k1, k2, k3⟩ := ruk_ n (by omega) hn (n - 1) (by omega)
    rw [rul_ n (by omega) hn, nI_clamp (by omega), k3]
    refine ⟨vp_in_nI k2 (by omega), ?_⟩
    refine lead _ ⟨fun _ => ?_, fun z => absurd hb z⟩
    refine rf_r hn hn6 (fun G' f h => ⟨fun z => absurd hb z, fun _ => ?_⟩)
    rw [hp, nI_clamp (by omega), h (n - 1) (by omega)]
    exact ⟨vp_in_nI (by omega) (by omega), hK _ _ (fin G' f)⟩
end STR
