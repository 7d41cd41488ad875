section ST1
variable {G : GS} {K : Int32 → Int32 → GS → Prop}
set_option maxHeartbeats 1000000 in
theorem st_state (a : Int32) (hI : Inv G) (hK : ∀ r G2, Inv G2 → K r r G2) : wp_X9_state a G (fun r G1 => wp_X10_state a G1 (fun r' G2 => K r r' G2)) := by
  obtain ⟨⟨hA, hB, hC, hD, hE, hF, hG, hH, hIt, hJ, hKt, hL⟩, hT, hfa, hU, hM, hW⟩ := hI
  show K (G 1 0) (G 50 12) _
  rw [show G 1 0 = G 50 12 from hE]
  refine hK _ _ ?_
  exact ⟨⟨hA, hB, hC, hD, rfl, hF.up _ (by decide), hG, hH, hIt, hJ, hKt, hL.1, hL.2.up _ (by decide)⟩, hT, hfa, hU.clear, hM, hW.1, UV_0⟩
set_option maxHeartbeats 1000000 in
theorem st_fault (a : Int32) (hI : Inv G) (hK : ∀ r G2, Inv G2 → K r r G2) : wp_X9_fault a G (fun r G1 => wp_X10_fault a G1 (fun r' G2 => K r r' G2)) := by
  have h1 : G 0 6 = G 49 28 := hI.2.2.1.1
  have h2 : G 0 7 = G 49 29 := hI.2.2.1.2
  have hJ : Inv (gu_ G 49 0 0) := hI
  refine ⟨fun c1 => ⟨fun c2 => ⟨fun _ => ⟨fun _ => hK _ _ hJ, fun c => absurd c c2⟩, fun c => absurd c c1⟩, fun c2 => ⟨fun _ => ⟨fun c => absurd c2 c, fun _ => ?_⟩, fun c => absurd c c1⟩⟩, fun c1 => ⟨fun c => absurd c1 c, fun _ => ?_⟩⟩
  · rw [h2]; exact hK _ _ hJ
  · rw [h1]; exact hK _ _ hJ
set_option maxHeartbeats 1000000 in
theorem st_end (a : Int32) (hI : Inv G) (hK : ∀ r G2, Inv G2 → K r r G2) : wp_X9_end a G (fun r G1 => wp_X10_end a G1 (fun r' G2 => K r r' G2)) := by
  have hJ : Inv (gu_ G 49 0 0) := hI
  obtain ⟨hw, ⟨T, hT, e1, e2, hb⟩, hr⟩ := hI
  by_cases c1 : a < 0
  · simp [wp_X9_end, wp_X10_end, wp_X10_isIn, c1, hK _ _ hJ]
  · by_cases c2 : a ≤ nI T
    · have c3 : ¬ nI T < a := by grind
      obtain ⟨j, hj, rfl⟩ : ∃ j, j ≤ T ∧ a = nI j := by
        have := nI_toInt (n := T) (by omega)
        simp only [iL, iE, Int32.reduceToInt] at c1 c2
        exact bd_ (by omega) (by omega)
      simp [wp_X9_end, wp_X10_end, wp_X10_isIn, e1, e2, c1, c2, c3, gu_ap]
      refine hK _ _ ?_
      exact ⟨hw, ⟨j, by omega, rfl, rfl, fun i hi => hb i (by omega)⟩, hr⟩
    · have c3 : nI T < a := by grind
      simp [wp_X9_end, wp_X10_end, wp_X10_isIn, e1, e2, c1, c2, c3, hK _ _ hJ]
set_option maxHeartbeats 1000000 in
theorem st_tell (a : Int32) (hI : Inv G) (hK : ∀ r G2, Inv G2 → K r r G2) : wp_X9_tell a G (fun r G1 => wp_X10_tell a G1 (fun r' G2 => K r r' G2)) := by
  have hJ : Inv (gu_ G 49 0 0) := hI
  obtain ⟨⟨hA, hB, hC, hD, hE, hF, hG, hH, hIt, hJt, ⟨n, hn, e1, e2, hv⟩, hL⟩, hr⟩ := hI
  have e2 : G 49 39 = nI n := e2
  by_cases c0 : a = -1
  · subst c0
    simp [wp_X9_tell, wp_X10_tell]
    refine hK _ _ ?_
    exact ⟨⟨hA, hB, hC, hD, hE, hF, hG, hH, hIt, hJt, ⟨0, by omega, rfl, rfl, fun i hi => absurd hi (by omega)⟩, hL⟩, hr⟩
  · by_cases c1 : a < 1
    · simp [wp_X9_tell, wp_X10_tell, wp_X10_isIn, c0, c1, hK _ _ hJ]
    · by_cases c2 : 24 < a
      · simp [wp_X9_tell, wp_X10_tell, wp_X10_isIn, c0, c1, c2, hK _ _ hJ]
      · obtain ⟨j, hj1, hj, rfl⟩ : ∃ j, 1 ≤ j ∧ j ≤ 24 ∧ a = nI j := by
          simp only [iL, iE, Int32.reduceToInt] at c1 c2
          refine ⟨a.toInt.toNat, by omega, by omega, nI_of_toInt (by omega)⟩
        by_cases c3 : n = 15
        · subst c3
          have c4 : ¬ nI 15 < (15 : Int32) := by decide
          have c5 : nI 15 = (15 : Int32) := by decide
          simp [wp_X9_tell, wp_X10_tell, wp_X10_isIn, c0, c1, c2, e1, e2, c4, c5, gu_ap, hK _ _ hJ]
        · have c4 : nI n < (15 : Int32) := nI_lt (b := 15) (by omega) (by omega)
          have c5 : ¬ nI n = (15 : Int32) := by
            intro e
            exact c3 ((nI_eq (b := 15) (by omega) (by omega)).mp e)
          have c6 : vp_in (nI n) 15 := vp_in_nI (by omega) (by omega)
          have c7 : (nI n).toNatClampNeg = n := nI_clamp (by omega)
          simp [wp_X9_tell, wp_X10_tell, wp_X10_isIn, c0, c1, c2, e1, e2, c4, c5, c6, c7, gu_ap]
          refine hK _ _ ?_
          refine ⟨⟨hA, hB, hC, hD, hE, hF, hG, hH, hIt, hJt, ⟨n + 1, by omega, nI_1 n, nI_1 n, fun i hi => ?_⟩, hL⟩, hr⟩
          by_cases hi2 : i = n
          · subst hi2
            exact ⟨j, hj1, hj, up_hit _ _ _, up_hit _ _ _⟩
          · obtain ⟨v, h1, h2, h3, h4⟩ := hv i (by omega)
            exact ⟨v, h1, h2, (up_miss _ _ hi2).trans h3, (up_miss _ _ hi2).trans h4⟩
end ST1
