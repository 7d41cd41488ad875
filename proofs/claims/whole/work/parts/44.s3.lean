section ST3
variable {G : GS} {K : Int32 → Int32 → GS → Prop}
set_option maxHeartbeats 2000000 in
theorem st_look (a : Int32) (hI : Inv G) (hK : ∀ r G2, Inv G2 → K r r G2) : wp_X9_look a G (fun r G1 => wp_X10_look a G1 (fun r' G2 => K r r' G2)) := by
  have hJ : Inv (gu_ G 49 0 0) := hI
  obtain ⟨⟨⟨P, -, a1, a2⟩, hB, ⟨S, -, b1, b2⟩, ⟨h, -, d1, d2⟩, hE, hF, hG, ⟨n, -, n1, n2, -⟩, hIt, ⟨-, m, -, -, -, m1, m2, -⟩, ⟨w, -, w1, w2, -⟩, ⟨l, -, -, -, -, l1, l2, -⟩, -⟩, hT, hfa, ⟨-, c, -, -, -, -, -, u1, u2, -⟩, hr⟩ := hI
  have a2 : G 49 4 = nI P := a2
  have b2 : G 49 7 = nI S := b2
  have d2 : G 50 11 = nI h := d2
  have hE : G 1 0 = G 50 12 := hE
  have n2 : G 50 10 = nI n := n2
  have m2 : G 49 35 = nI m := m2
  have w2 : G 49 39 = nI w := w2
  have l2 : G 49 16 = nI l := l2
  by_cases k0 : a = 0
  · subst k0; simp [wp_X9_look, wp_X10_look, a1, a2, hK _ _ hJ]
  by_cases k1 : a = 1
  · subst k1; simp [wp_X9_look, wp_X10_look, d1, d2, hK _ _ hJ]
  by_cases k2 : a = 2
  · subst k2; simp [wp_X9_look, wp_X10_look, n1, n2, hK _ _ hJ]
  by_cases k3 : a = 3
  · subst k3; simp [wp_X9_look, wp_X10_look, b1, b2, hK _ _ hJ]
  by_cases k4 : a = 4
  · subst k4; simp [wp_X9_look, wp_X10_look, hE, hK _ _ hJ]
  by_cases k5 : a = 5
  · subst k5; simp [wp_X9_look, wp_X10_look, l1, l2, hK _ _ hJ]
  by_cases k6 : a = 6
  · subst k6; simp [wp_X9_look, wp_X10_look, u1, u2, hK _ _ hJ]
  by_cases k7 : a = 7
  · subst k7; simp [wp_X9_look, wp_X10_look, m1, m2, hK _ _ hJ]
  by_cases k8 : a = 8
  · subst k8; simp [wp_X9_look, wp_X10_look, w1, w2, hK _ _ hJ]
  by_cases c1 : a < 10
  · simp [wp_X9_look, wp_X10_look, wp_X9_isInRow, wp_X10_isIn, k0, k1, k2, k3, k4, k5, k6, k7, k8, c1, hK _ _ hJ]
  · obtain ⟨t, ht, rfl⟩ : ∃ t, t < 2147483638 ∧ a = nI (t + 10) := by
      have hr := Int32.toInt_lt a
      simp only [iL, Int32.reduceToInt] at c1
      refine ⟨(a.toInt - 10).toNat, by omega, ?_⟩
      rw [iQ, nI_toInt (by omega)]
      omega
    have s1 : nI (t + 10) - (10 : Int32) = nI t := (pk_sub (a := t + 10) (b := 10) (by omega)).trans (by rw [Nat.add_sub_cancel])
    by_cases c2 : t < 4
    · have c3 : ¬ (4 : Int32) ≤ nI t := nI_ge (b := 4) c2 (by omega)
      have c4 : ¬ (13 : Int32) < nI (t + 10) := nI_nlt (a := 13) (by omega) (by omega)
      have c5 : vp_in (nI t) 4 := vp_in_nI c2 (by omega)
      have c6 : (nI t).toNatClampNeg = t := nI_clamp (by omega)
      obtain ⟨q, -, q1, q2, -⟩ := hIt t c2
      have q2 : G 65 t = nI q := q2
      simp [wp_X9_look, wp_X10_look, wp_X9_isInRow, wp_X10_isIn, k0, k1, k2, k3, k4, k5, k6, k7, k8, c1, s1, c3, c4, c5, c6, q1, q2, gu_ap, hK _ _ hJ]
    · have c3 : (4 : Int32) ≤ nI t := nI_le (a := 4) (by omega) (by omega)
      have c4 : (13 : Int32) < nI (t + 10) := nI_lt (a := 13) (by omega) (by omega)
      simp [wp_X9_look, wp_X10_look, wp_X9_isInRow, wp_X10_isIn, k0, k1, k2, k3, k4, k5, k6, k7, k8, c1, s1, c3, c4, gu_ap, hK _ _ hJ]
set_option maxHeartbeats 2000000 in
theorem st_person (a : Int32) (hI : Inv G) (hK : ∀ r G2, Inv G2 → K r r G2) : wp_X9_person a G (fun r G1 => wp_X10_person a G1 (fun r' G2 => K r r' G2)) := by
  have hJ : Inv (gu_ G 49 0 0) := hI
  obtain ⟨⟨⟨P, hP, a1, a2⟩, hB, hC, hD, hE, hF, ⟨P2, hP2, g1, hG⟩, hH, hIt, ⟨P3, n, hP3, j1, hn, j2, j3, hv⟩, hr0⟩, hT, hfa, hU, hr⟩ := hI
  have a2 : G 49 4 = nI P := a2
  by_cases c1 : a < -1
  · simp [wp_X9_person, wp_X10_person, wp_X9_isToneOrNone, wp_X10_isIn, c1, hK _ _ hJ]
  by_cases c2 : 60 < a
  · simp [wp_X9_person, wp_X10_person, wp_X9_isToneOrNone, wp_X10_isIn, c1, c2, hK _ _ hJ]
  by_cases c3 : P = 10
  · subst c3
    have c4 : ¬ nI 10 < (10 : Int32) := by decide
    have c5 : nI 10 = (10 : Int32) := by decide
    simp [wp_X9_person, wp_X10_person, wp_X9_isToneOrNone, wp_X10_isIn, c1, c2, a1, a2, c4, c5, gu_ap, hK _ _ hJ]
  have c4 : nI P < (10 : Int32) := nI_lt (b := 10) (by omega) (by omega)
  have c5 : ¬ nI P = (10 : Int32) := fun e => c3 ((nI_eq (b := 10) (by omega) (by omega)).mp e)
  have c6 : vp_in (nI P) 10 := vp_in_nI (by omega) (by omega)
  have c7 : (nI P).toNatClampNeg = P := nI_clamp (by omega)
  have c8 : vp_in (nI P) 13 := vp_in_nI (by omega) (by omega)
  have c9 : nI P + 1 - 1 = nI P := by rw [nI_1, nI_pred]
  have hh : ∃ h : Nat, h ≤ 61 ∧ a + 1 = nI h ∧ a = nI h - 1 := by
    by_cases c : a = -1
    · subst c
      exact ⟨0, by omega, by decide, by decide⟩
    · simp only [iL, iQ, Int32.reduceToInt] at c1 c2 c
      have e := nI_of_toInt (a := a) (by omega)
      refine ⟨a.toInt.toNat + 1, by omega, ?_, ?_⟩
      · rw [← nI_1, ← e]
      · rw [nI_pred, ← e]
  have eP2 : P = P2 := (nI_eq (by omega) (by omega)).mp (a1.symm.trans g1)
  have eP3 : P = P3 := (nI_eq (by omega) (by omega)).mp (a1.symm.trans j1)
  subst eP2; subst eP3
  simp [wp_X9_person, wp_X10_person, wp_X9_isToneOrNone, wp_X10_isIn, wp_X5_forget, c1, c2, a1, a2, c4, c5, c6, c7, c8, c9, gu_ap]
  refine hK _ _ ?_
  have n10 : upd (G 50) P (a + 1) 10 = G 50 10 := up_miss _ _ (by omega)
  have n11 : upd (G 50) P (a + 1) 11 = G 50 11 := up_miss _ _ (by omega)
  have n12 : upd (G 50) P (a + 1) 12 = G 50 12 := up_miss _ _ (by omega)
  refine ⟨⟨⟨P + 1, by omega, nI_1 P, nI_1 P⟩, hB, hC, (by show RD_ (G 1 6) (upd (G 50) P (a + 1) 11); rw [n11]; exact hD), (by show G 1 0 = upd (G 50) P (a + 1) 12; rw [n12]; exact hE), fun i hi => ?_, ⟨P + 1, by omega, nI_1 P, fun i hi => ?_⟩, (by show RH_ (G 12 0) (upd (G 50) P (a + 1) 10) (G 13) (G 53); rw [n10]; exact hH), hIt, ⟨P + 1, n, by omega, nI_1 P, hn, j2, j3, fun i hi => ?_⟩, hr0.1, hr0.2.1, fun i hi hb => ?_⟩, hT, hfa, hU.clear, hr.1, hr.2.1, UV_0⟩
  · by_cases hi2 : i = P
    · subst hi2
      obtain ⟨h, h1, h2, h3⟩ := hh
      exact ⟨h, h1, (up_hit _ _ _).trans h2, (up_hit _ _ _).trans h3⟩
    · obtain ⟨h, h1, h2, h3⟩ := hF i hi
      exact ⟨h, h1, (up_miss _ _ hi2).trans h2, (up_miss _ _ hi2).trans h3⟩
  · obtain ⟨d, h1, h2, h3, h4⟩ := hG i hi
    by_cases hi2 : i = P
    · subst hi2
      have hd := h4 (Nat.le_refl _)
      subst hd
      exact ⟨5, by omega, h2, (up_hit _ _ _).trans (by decide), fun _ => rfl⟩
    · exact ⟨d, h1, h2, (up_miss _ _ hi2).trans h3, fun h => h4 (by omega)⟩
  · obtain ⟨u, v, h1, h2, h3⟩ := hv i hi
    exact ⟨u, v, by omega, by omega, h3⟩
  · obtain ⟨w1, w2⟩ := hr0.2.2 i hi hb
    have w1 : nI i < G 49 4 := w1
    rw [a2, nI_ltI (by omega) (by omega)] at w1
    refine ⟨?_, ?_⟩
    · show nI i < nI P + 1
      rw [nI_1]
      exact nI_lt (by omega) (by omega)
    · show upd (G 50) P (a + 1) i ≠ 0
      rw [up_miss _ _ (by omega)]
      exact w2
end ST3
