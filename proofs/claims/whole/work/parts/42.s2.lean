theorem pf_ {j P : Nat} (hj : j < P) (hP : P ≤ 10) : ¬ nI j < 0 ∧ ¬ nI P ≤ nI j ∧ ¬ (10 : Int32) ≤ nI j ∧ vp_in (nI j) 10 ∧ (nI j).toNatClampNeg = j ∧ ¬ nI j = -1 :=
  ⟨nI_pos (by omega), nI_ge hj (by omega), nI_ge (b := 10) (by omega) (by omega), vp_in_nI (by omega) (by omega), nI_clamp (by omega), fun e => nI_pos (n := j) (by omega) (by rw [e]; decide)⟩
theorem RA_.eq {x y : Int32} {P : Nat} (h : RA_ x y) (e : x = nI P) : y = nI P := by
  obtain ⟨Q, -, h1, h2⟩ := h
  rw [h2, ← h1, e]
section ST2
variable {G : GS} {K : Int32 → Int32 → GS → Prop}
set_option maxHeartbeats 2000000 in
theorem st_pair (a b : Int32) (hI : Inv G) (hK : ∀ r G2, Inv G2 → K r r G2) : wp_X9_pair a b G (fun r G1 => wp_X10_pair a b G1 (fun r' G2 => K r r' G2)) := by
  have hJ : Inv (gu_ G 49 0 0) := hI
  obtain ⟨⟨hA, hB, hC, hD, hE, hF, hG, hH, hIt, ⟨P, n, hP, e0, hn, e1, e2, hv⟩, hKt, hL⟩, hr⟩ := hI
  have e2 : G 49 35 = nI n := e2
  have e3 : G 49 4 = nI P := hA.eq e0
  by_cases c0 : a = -1
  · subst c0
    simp [wp_X9_pair, wp_X10_pair]
    refine hK _ _ ?_
    exact ⟨⟨hA, hB, hC, hD, hE, hF, hG, hH, hIt, ⟨P, 0, hP, e0, by omega, rfl, rfl, fun i hi => absurd hi (by omega)⟩, hKt, hL⟩, hr⟩
  rcases pk_ix a (n := P) (by omega) with ha | ha | ⟨u, hu, rfl⟩
  · simp [wp_X9_pair, wp_X10_pair, wp_X8_isPerson, wp_X10_isPerson, c0, ha, hK _ _ hJ]
  · simp [wp_X9_pair, wp_X10_pair, wp_X8_isPerson, wp_X10_isPerson, c0, ha, e0, e3, gu_ap, hK _ _ hJ]
  · obtain ⟨p1, p2, p3, -⟩ := pf_ hu hP
    by_cases hab : nI u = b
    · subst hab
      simp [wp_X9_pair, wp_X10_pair, wp_X8_isPerson, wp_X10_isPerson, c0, p1, p2, p3, e0, e3, gu_ap, hK _ _ hJ]
    · rcases pk_ix b (n := P) (by omega) with hb | hb | ⟨v, hv2, rfl⟩
      · simp [wp_X9_pair, wp_X10_pair, wp_X8_isPerson, wp_X10_isPerson, c0, hab, hb, p1, p2, p3, e0, e3, gu_ap, hK _ _ hJ]
      · simp [wp_X9_pair, wp_X10_pair, wp_X8_isPerson, wp_X10_isPerson, c0, hab, hb, p1, p2, p3, e0, e3, gu_ap, hK _ _ hJ]
      · obtain ⟨q1, q2, q3, -⟩ := pf_ hv2 hP
        by_cases c3 : n = 8
        · subst c3
          have c4 : ¬ nI 8 < (8 : Int32) := by decide
          have c5 : nI 8 = (8 : Int32) := by decide
          simp [wp_X9_pair, wp_X10_pair, wp_X8_isPerson, wp_X10_isPerson, c0, hab, p1, p2, p3, q1, q2, q3, e0, e1, e2, e3, c4, c5, gu_ap, hK _ _ hJ]
        · have c4 : nI n < (8 : Int32) := nI_lt (b := 8) (by omega) (by omega)
          have c5 : ¬ nI n = (8 : Int32) := fun e => c3 ((nI_eq (b := 8) (by omega) (by omega)).mp e)
          have c6 : vp_in (nI n) 8 := vp_in_nI (by omega) (by omega)
          have c7 : (nI n).toNatClampNeg = n := nI_clamp (by omega)
          simp [wp_X9_pair, wp_X10_pair, wp_X8_isPerson, wp_X10_isPerson, c0, hab, p1, p2, p3, q1, q2, q3, e0, e1, e2, e3, c4, c5, c6, c7, gu_ap]
          refine hK _ _ ?_
          refine ⟨⟨hA, hB, hC, hD, hE, hF, hG, hH, hIt, ⟨P, n + 1, hP, e0, by omega, nI_1 n, nI_1 n, fun i hi => ?_⟩, hKt, hL⟩, hr⟩
          by_cases hi2 : i = n
          · subst hi2
            exact ⟨u, v, hu, hv2, fun e => hab (by rw [e]), up_hit _ _ _, up_hit _ _ _, up_hit _ _ _, up_hit _ _ _⟩
          · obtain ⟨u', v', h1, h2, h3, h4, h5, h6, h7⟩ := hv i (by omega)
            exact ⟨u', v', h1, h2, h3, (up_miss _ _ hi2).trans h4, (up_miss _ _ hi2).trans h5, (up_miss _ _ hi2).trans h6, (up_miss _ _ hi2).trans h7⟩
theorem ti_ (t n : Nat) : nI t * (12 : Int32) + nI n = nI (12 * t + n) ∧ (12 : Int32) * nI t + nI n = nI (12 * t + n) := by
  have e : (12 : Int32) = nI 12 := rfl
  rw [e, pk_mul, pk_mul, nI_add, nI_add, Nat.mul_comm]
  exact ⟨rfl, rfl⟩
set_option maxHeartbeats 2000000 in
theorem st_tune (a b : Int32) (hI : Inv G) (hK : ∀ r G2, Inv G2 → K r r G2) : wp_X9_tune a b G (fun r G1 => wp_X10_tune a b G1 (fun r' G2 => K r r' G2)) := by
  have hJ : Inv (gu_ G 49 0 0) := hI
  obtain ⟨⟨hA, hB, hC, hD, hE, hF, hG, hH, hIt, hr0⟩, hr⟩ := hI
  rcases pk_ix a (n := 4) (by omega) with ha | ha | ⟨t, ht, rfl⟩
  · simp [wp_X9_tune, wp_X10_tune, wp_X9_isTune, wp_X10_isTune, ha, hK _ _ hJ]
  · have ha : (4 : Int32) ≤ a := ha
    simp [wp_X9_tune, wp_X10_tune, wp_X9_isTune, wp_X10_isTune, ha, hK _ _ hJ]
  · have p1 : ¬ nI t < 0 := nI_pos (by omega)
    have p2 : ¬ (4 : Int32) ≤ nI t := nI_ge (b := 4) ht (by omega)
    have p3 : vp_in (nI t) 4 := vp_in_nI ht (by omega)
    have p4 : (nI t).toNatClampNeg = t := nI_clamp (by omega)
    by_cases c1 : b < -1
    · simp [wp_X9_tune, wp_X10_tune, wp_X9_isTune, wp_X10_isTune, wp_X9_isToneOrNone, wp_X10_isIn, p1, p2, c1, hK _ _ hJ]
    · by_cases c2 : 60 < b
      · simp [wp_X9_tune, wp_X10_tune, wp_X9_isTune, wp_X10_isTune, wp_X9_isToneOrNone, wp_X10_isIn, p1, p2, c1, c2, hK _ _ hJ]
      · by_cases c3 : b = -1
        · subst c3
          simp [wp_X9_tune, wp_X10_tune, wp_X9_isTune, wp_X10_isTune, wp_X9_isToneOrNone, wp_X10_isIn, p1, p2, p3, p4]
          refine hK _ _ ?_
          refine ⟨⟨hA, hB, hC, hD, hE, hF, hG, hH, fun s hs => ?_, hr0⟩, hr⟩
          by_cases hst : s = t
          · subst hst
            exact ⟨0, by omega, up_hit _ _ _, up_hit _ _ _, fun i hi => absurd hi (by omega)⟩
          · obtain ⟨m, h1, h2, h3, h4⟩ := hIt s hs
            exact ⟨m, h1, (up_miss _ _ hst).trans h2, (up_miss _ _ hst).trans h3, h4⟩
        · obtain ⟨v, hv, rfl⟩ : ∃ v, v ≤ 60 ∧ b = nI v := by
            simp only [iL, iE, iQ, Int32.reduceToInt] at c1 c2 c3
            exact bd_ (by omega) (by omega)
          obtain ⟨n, hn, e1, e2, hc⟩ := hIt t ht
          have e2 : G 65 t = nI n := e2
          by_cases c4 : n = 12
          · subst c4
            have c5 : ¬ nI 12 < (12 : Int32) := by decide
            have c6 : nI 12 = (12 : Int32) := by decide
            simp [wp_X9_tune, wp_X10_tune, wp_X9_isTune, wp_X10_isTune, wp_X9_isToneOrNone, wp_X10_isIn, p1, p2, p3, p4, c1, c2, c3, e1, e2, c5, c6, gu_ap, hK _ _ hJ]
          · have c5 : nI n < (12 : Int32) := nI_lt (b := 12) (by omega) (by omega)
            have c6 : ¬ nI n = (12 : Int32) := fun e => c4 ((nI_eq (b := 12) (by omega) (by omega)).mp e)
            have c7 : vp_in (nI (12 * t + n)) 48 := vp_in_nI (by omega) (by omega)
            have c8 : (nI (12 * t + n)).toNatClampNeg = 12 * t + n := nI_clamp (by omega)
            simp [wp_X9_tune, wp_X10_tune, wp_X9_isTune, wp_X10_isTune, wp_X9_isToneOrNone, wp_X10_isIn, p1, p2, p3, p4, c1, c2, c3, e1, e2, c5, c6, (ti_ t n).1, (ti_ t n).2, c7, c8, gu_ap]
            refine hK _ _ ?_
            refine ⟨⟨hA, hB, hC, hD, hE, hF, hG, hH, fun s hs => ?_, hr0⟩, hr⟩
            by_cases hst : s = t
            · subst hst
              refine ⟨n + 1, by omega, (up_hit _ _ _).trans (nI_1 n), (up_hit _ _ _).trans (nI_1 n), fun i hi => ?_⟩
              by_cases hi2 : i = n
              · subst hi2
                exact ⟨v, hv, up_hit _ _ _, up_hit _ _ _⟩
              · obtain ⟨w, h1, h2, h3⟩ := hc i (by omega)
                exact ⟨w, h1, (up_miss _ _ (by omega)).trans h2, (up_miss _ _ (by omega)).trans h3⟩
            · obtain ⟨m, h1, h2, h3, h4⟩ := hIt s hs
              refine ⟨m, h1, (up_miss _ _ hst).trans h2, (up_miss _ _ hst).trans h3, fun i hi => ?_⟩
              obtain ⟨w, h5, h6, h7⟩ := h4 i hi
              exact ⟨w, h5, (up_miss _ _ (by omega)).trans h6, (up_miss _ _ (by omega)).trans h7⟩
theorem bi_ (i j : Nat) : nI i * (5 : Int32) + nI j = nI (5 * i + j) ∧ (5 : Int32) * nI i + nI j = nI (5 * i + j) := by
  have e : (5 : Int32) = nI 5 := rfl
  rw [e, pk_mul, pk_mul, nI_add, nI_add, Nat.mul_comm]
  exact ⟨rfl, rfl⟩
set_option maxHeartbeats 2000000 in
theorem st_book (a b : Int32) (hI : Inv G) (hK : ∀ r G2, Inv G2 → K r r G2) : wp_X9_book a b G (fun r G1 => wp_X10_book a b G1 (fun r' G2 => K r r' G2)) := by
  have hJ : Inv (gu_ G 49 0 0) := hI
  obtain ⟨⟨hA, hB, hC, hD, hE, hF, hG, ⟨n, hn, e1, e2, hc⟩, hr0⟩, hr⟩ := hI
  have e2 : G 50 10 = nI n := e2
  rcases pk_ix a (n := n) (by omega) with ha | ha | ⟨i, hi, rfl⟩
  · simp [wp_X9_book, wp_X10_book, wp_X0_read, wp_X10_isIn, ha, hK _ _ hJ]
  · have c1 : nI n - 1 < a := by
      have h1 := nI_toInt (n := n) (by omega)
      by_cases hz : n = 0
      · subst hz
        simp only [iL, iE, nI_0, Int32.reduceToInt] at ha ⊢
        have : ((0 : Int32) - 1).toInt = -1 := by decide
        omega
      · obtain ⟨m, rfl⟩ : ∃ m, n = m + 1 := ⟨n - 1, by omega⟩
        rw [nI_pred]
        have h2 := nI_toInt (n := m) (by omega)
        simp only [iL, iE] at ha ⊢
        omega
    simp [wp_X9_book, wp_X10_book, wp_X0_read, wp_X10_isIn, ha, c1, e1, e2, gu_ap, hK _ _ hJ]
  · have p1 : ¬ nI i < 0 := nI_pos (by omega)
    have p2 : ¬ nI n ≤ nI i := nI_ge hi (by omega)
    have p3 : ¬ nI n - 1 < nI i := by
      obtain ⟨m, rfl⟩ : ∃ m, n = m + 1 := ⟨n - 1, by omega⟩
      rw [nI_pred]
      exact nI_nlt (by omega) (by omega)
    rcases pk_ix b (n := 5) (by omega) with hb | hb | ⟨j, hj, rfl⟩
    · simp [wp_X9_book, wp_X10_book, wp_X0_read, wp_X10_isIn, p1, p2, p3, e1, e2, hb, gu_ap, hK _ _ hJ]
    · have hb1 : ¬ b < (5 : Int32) := by
        have hb2 : (5 : Int32) ≤ b := hb
        grind
      have hb2 : (4 : Int32) < b := by
        have hb2 : (5 : Int32) ≤ b := hb
        grind
      simp [wp_X9_book, wp_X10_book, wp_X0_read, wp_X10_isIn, p1, p2, p3, e1, e2, hb1, hb2, gu_ap, hK _ _ hJ]
    · have q1 : ¬ nI j < 0 := nI_pos (by omega)
      have q2 : nI j < (5 : Int32) := nI_lt (b := 5) hj (by omega)
      have q3 : ¬ (4 : Int32) < nI j := nI_nlt (a := 4) (by omega) (by omega)
      have q4 : vp_in (nI (5 * i + j)) 500 := vp_in_nI (by omega) (by omega)
      have q5 : (nI (5 * i + j)).toNatClampNeg = 5 * i + j := nI_clamp (by omega)
      have q6 : G 13 (5 * i + j) = G 53 (5 * i + j) := hc _ (by omega)
      simp [wp_X9_book, wp_X10_book, wp_X0_read, wp_X10_isIn, p1, p2, p3, e1, e2, q1, q2, q3, (bi_ i j).1, (bi_ i j).2, q4, q5, q6, gu_ap, hK _ _ hJ]
end ST2
