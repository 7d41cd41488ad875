section ST4
variable {G : GS} {K : Int32 → Int32 → GS → Prop}
theorem RF_.set {hm nw : Nat → Int32} (hF : RF_ hm nw) {j h : Nat} {x y : Int32} (hh : h ≤ 61) (e1 : y = nI h) (e2 : x = nI h - 1) : RF_ (upd hm j x) (upd nw j y) := fun i hi => by
  by_cases hi2 : i = j
  · subst hi2
    exact ⟨h, hh, (up_hit _ _ _).trans e1, (up_hit _ _ _).trans e2⟩
  · obtain ⟨h', h1, h2, h3⟩ := hF i hi
    exact ⟨h', h1, (up_miss _ _ hi2).trans h2, (up_miss _ _ hi2).trans h3⟩
theorem VH_.clr {p : Int32} {V j : Nat} {nw : Nat → Int32} (h : VH_ p (nI V) nw) (hV : V < 1024) (hj : j < 10) : VH_ p (nI (clrN V j)) nw := fun i hi hb => by
  rw [nI_clamp (by have := (bn_3 j hj V hV).1; omega), clr_tb hV hj hi] at hb
  exact h i hi (by rw [nI_clamp (by omega)]; exact hb.1)
theorem VH_.miss {p x : Int32} {V j : Nat} {nw : Nat → Int32} (h : VH_ p (nI (clrN V j)) nw) (hV : V < 1024) (hj : j < 10) : VH_ p (nI (clrN V j)) (upd nw j x) := fun i hi hb => by
  obtain ⟨h1, h2⟩ := h i hi hb
  rw [nI_clamp (by have := (bn_3 j hj V hV).1; omega), clr_tb hV hj hi] at hb
  exact ⟨h1, by rw [up_miss _ _ hb.2]; exact h2⟩
theorem VH_.hit {p v x : Int32} {j : Nat} {nw : Nat → Int32} (h : VH_ p v nw) (hx : x ≠ 0) : VH_ p v (upd nw j x) := fun i hi hb => by
  obtain ⟨h1, h2⟩ := h i hi hb
  refine ⟨h1, ?_⟩
  by_cases e : i = j
  · rw [e, up_hit]; exact hx
  · rw [up_miss _ _ e]; exact h2
theorem VH_.set {p : Int32} {V j : Nat} {nw : Nat → Int32} (h : VH_ p (nI V) nw) (hV : V < 1024) (hj : j < 10) (hp : nI j < p) (hn : nw j ≠ 0) : VH_ p (nI (setN V j)) nw := fun i hi hb => by
  rw [nI_clamp (by have := (bn_3 j hj V hV).2.1; omega), set_tb hV hj hi] at hb
  rcases hb with hb | hb
  · exact h i hi (by rw [nI_clamp (by omega)]; exact hb)
  · subst hb; exact ⟨hp, hn⟩
set_option maxHeartbeats 4000000 in
theorem st_set (a b c : Int32) (hI : Inv G) (hK : ∀ r G2, Inv G2 → K r r G2) : wp_X9_set a b c G (fun r G1 => wp_X10_set a b c G1 (fun r' G2 => K r r' G2)) := by
  have hJ : Inv (gu_ G 49 0 0) := hI
  obtain ⟨⟨hA, ⟨V, hV, v1, v2⟩, hC, hD, hE, hF, ⟨P, hP, g1, hG⟩, hH, hr0⟩, hT, hfa, hU, hr⟩ := hI
  have v2 : G 49 5 = nI V := v2
  have e3 : G 49 4 = nI P := hA.eq g1
  have hVH : VH_ (G 49 4) (nI V) (G 50) := by rw [← v2]; exact hr0.2.2.2.2
  by_cases k3 : a = 3
  · subst k3
    by_cases c1 : c < 0
    · simp [wp_X9_set, wp_X9_tellSlip, wp_X10_set, wp_X10_canSet, wp_X10_isIn, bz_, c1, hK _ _ hJ]
    by_cases c2 : c ≤ 1000
    · have c3 : ¬ 1000 < c := by grind
      obtain ⟨S, hS, rfl⟩ : ∃ S, S ≤ 1000 ∧ c = nI S := by
        simp only [iL, iE, Int32.reduceToInt] at c1 c2
        exact bd_ (by omega) (by omega)
      simp [wp_X9_set, wp_X9_tellSlip, wp_X5_forget, wp_X10_set, wp_X10_canSet, wp_X10_isIn, bk_X10_set_32, bk_X10_set_55, bk_X10_set_92, bz_, c1, c2, c3]
      refine hK _ _ ?_
      exact ⟨⟨hA, ⟨V, hV, v1, v2⟩, ⟨S, hS, rfl, rfl⟩, hD, hE, hF, ⟨P, hP, g1, hG⟩, hH, hr0⟩, hT, hfa, hU.clear, hr.1, hr.2.1, UV_0⟩
    · have c3 : 1000 < c := by grind
      simp [wp_X9_set, wp_X9_tellSlip, wp_X10_set, wp_X10_canSet, wp_X10_isIn, bz_, c1, c2, c3, hK _ _ hJ]
  rcases pk_ix b (n := P) (by omega) with hb | hb | ⟨j, hj, rfl⟩
  · simp [wp_X9_set, wp_X8_isPerson, wp_X10_set, wp_X10_canSet, wp_X10_isPerson, k3, hb, hK _ _ hJ]
  · simp [wp_X9_set, wp_X8_isPerson, wp_X10_set, wp_X10_canSet, wp_X10_isPerson, k3, hb, g1, e3, gu_ap, hK _ _ hJ]
  obtain ⟨p1, p2, p3, p4, p5, p6⟩ := pf_ hj hP
  have p7 : vp_in (nI j) 13 := vp_in_nI (by omega) (by omega)
  have b1 : nI V &&& ~~~((1 : Int32) <<< (nI j &&& 31)) = nI (clrN V j) := by
    have h := bc_1 hV (show j < 10 by omega)
    simpa using h
  have b2 := bc_2 hV (show j < 10 by omega)
  have b3 := bc_3 hV (show j < 10 by omega)
  obtain ⟨q1, q2, -⟩ := bn_3 j (by omega) V hV
  by_cases k0 : a = 0
  · subst k0
    by_cases c1 : c < -1
    · simp [wp_X9_set, wp_X8_isPerson, wp_X9_tellOfPerson, wp_X9_tellHum, wp_X9_isToneOrNone, wp_X10_set, wp_X10_canSet, wp_X10_isPerson, wp_X10_isIn, bz_, p1, p2, p3, g1, e3, c1, gu_ap, hK _ _ hJ]
    by_cases c2 : 60 < c
    · simp [wp_X9_set, wp_X8_isPerson, wp_X9_tellOfPerson, wp_X9_tellHum, wp_X9_isToneOrNone, wp_X10_set, wp_X10_canSet, wp_X10_isPerson, wp_X10_isIn, bz_, p1, p2, p3, g1, e3, c1, c2, gu_ap, hK _ _ hJ]
    have n10 : upd (G 50) j (c + 1) 10 = G 50 10 := up_miss _ _ (by omega)
    have n11 : upd (G 50) j (c + 1) 11 = G 50 11 := up_miss _ _ (by omega)
    have n12 : upd (G 50) j (c + 1) 12 = G 50 12 := up_miss _ _ (by omega)
    by_cases c3 : c = -1
    · subst c3
      simp [wp_X9_set, wp_X8_isPerson, wp_X9_tellOfPerson, wp_X9_tellHum, wp_X9_isToneOrNone, wp_X5_forget, wp_X10_set, wp_X10_canSet, wp_X10_isPerson, wp_X10_isIn, bk_X10_set_32, bk_X10_set_55, bk_X10_set_92, bz_, p1, p2, p3, p4, p5, p7, g1, e3, v1, v2, b1, gu_ap]
      refine hK _ _ ?_
      exact ⟨⟨hA, ⟨_, q1, rfl, rfl⟩, hC, (by show RD_ (G 1 6) (upd (G 50) j _ 11); rw [up_miss _ _ (by omega)]; exact hD), (by show G 1 0 = upd (G 50) j _ 12; rw [up_miss _ _ (by omega)]; exact hE), hF.set (h := 0) (by omega) (by decide) (by decide), ⟨P, hP, g1, hG⟩, (by show RH_ (G 12 0) (upd (G 50) j _ 10) (G 13) (G 53); rw [up_miss _ _ (by omega)]; exact hH), hr0.1, hr0.2.1, hr0.2.2.1, hr0.2.2.2.1, (hVH.clr hV (by omega)).miss hV (by omega)⟩, hT, hfa, hU.clear, hr.1, hr.2.1, UV_0⟩
    · simp [wp_X9_set, wp_X8_isPerson, wp_X9_tellOfPerson, wp_X9_tellHum, wp_X9_isToneOrNone, wp_X5_forget, wp_X10_set, wp_X10_canSet, wp_X10_isPerson, wp_X10_isIn, bk_X10_set_32, bk_X10_set_55, bk_X10_set_92, bz_, p1, p2, p3, p4, p5, p7, g1, e3, c1, c2, c3, gu_ap]
      obtain ⟨v, hv, rfl⟩ : ∃ v, v ≤ 60 ∧ c = nI v := by
        simp only [iL, iE, iQ, Int32.reduceToInt] at c1 c2 c3
        exact bd_ (by omega) (by omega)
      refine hK _ _ ?_
      exact ⟨⟨hA, ⟨V, hV, v1, v2⟩, hC, (by show RD_ (G 1 6) (upd (G 50) j _ 11); rw [n11]; exact hD), (by show G 1 0 = upd (G 50) j _ 12; rw [n12]; exact hE), hF.set (h := v + 1) (by omega) (nI_1 v) (nI_pred v).symm, ⟨P, hP, g1, hG⟩, (by show RH_ (G 12 0) (upd (G 50) j _ 10) (G 13) (G 53); rw [n10]; exact hH), hr0.1, hr0.2.1, hr0.2.2.1, hr0.2.2.2.1, hr0.2.2.2.2.hit (by rw [nI_1]; exact nI_ne0 (by omega) (by omega))⟩, hT, hfa, hU.clear, hr.1, hr.2.1, UV_0⟩
  by_cases k1 : a = 1
  · subst k1
    by_cases c1 : c = 0
    · subst c1
      simp [wp_X9_set, wp_X8_isPerson, wp_X9_tellOfPerson, wp_X9_tellSounding, wp_X5_forget, wp_X10_set, wp_X10_canSet, wp_X10_isPerson, wp_X10_isIn, bk_X10_set_32, bk_X10_set_55, bk_X10_set_92, bz_, p1, p2, p3, g1, e3, v1, v2, b1, b3.2, gu_ap]
      refine hK _ _ ?_
      exact ⟨⟨hA, ⟨_, q1, rfl, rfl⟩, hC, hD, hE, hF, ⟨P, hP, g1, hG⟩, hH, hr0.1, hr0.2.1, hr0.2.2.1, hr0.2.2.2.1, hVH.clr hV (by omega)⟩, hT, hfa, hU.clear, hr.1, hr.2.1, UV_0⟩
    by_cases c2 : c = 1
    · subst c2
      obtain ⟨h, hh, h1, h2⟩ := hF j (by omega)
      have h1 : G 50 j = nI h := h1
      by_cases c3 : nI h - 1 = -1
      · simp [wp_X9_set, wp_X8_isPerson, wp_X8_hasHum, wp_X9_tellOfPerson, wp_X9_tellSounding, wp_X10_set, wp_X10_canSet, wp_X10_humOf, wp_X10_isPerson, wp_X10_isIn, bz_, p1, p2, p3, p4, p5, p7, g1, e3, h1, h2, c3, gu_ap, hK _ _ hJ]
      · simp [wp_X9_set, wp_X8_isPerson, wp_X8_hasHum, wp_X9_tellOfPerson, wp_X9_tellSounding, wp_X5_forget, wp_X10_set, wp_X10_canSet, wp_X10_humOf, wp_X10_isPerson, wp_X10_isIn, bk_X10_set_32, bk_X10_set_55, bk_X10_set_92, bz_, p1, p2, p3, p4, p5, p7, g1, e3, h1, h2, c3, v1, v2, b1, b2, b3.1, gu_ap]
        refine hK _ _ ?_
        exact ⟨⟨hA, ⟨_, q2, rfl, rfl⟩, hC, hD, hE, hF, ⟨P, hP, g1, hG⟩, hH, hr0.1, hr0.2.1, hr0.2.2.1, hr0.2.2.2.1, hVH.set hV (by omega) (by show nI j < G 49 4; rw [e3]; exact nI_lt hj (by omega)) (by show G 50 j ≠ 0; rw [h1]; intro z; exact c3 (by rw [z]; decide))⟩, hT, hfa, hU.clear, hr.1, hr.2.1, UV_0⟩
    · have c3 : c < 0 ∨ 1 < c := by grind
      rcases c3 with c3 | c3
      · simp [wp_X9_set, wp_X8_isPerson, wp_X9_tellOfPerson, wp_X9_tellSounding, wp_X10_set, wp_X10_canSet, wp_X10_isPerson, wp_X10_isIn, bz_, p1, p2, p3, g1, e3, c1, c2, c3, gu_ap, hK _ _ hJ]
      · simp [wp_X9_set, wp_X8_isPerson, wp_X9_tellOfPerson, wp_X9_tellSounding, wp_X10_set, wp_X10_canSet, wp_X10_isPerson, wp_X10_isIn, bz_, p1, p2, p3, g1, e3, c1, c2, c3, gu_ap, hK _ _ hJ]
  by_cases k2 : a = 2
  · subst k2
    by_cases c1 : c < 0
    · simp [wp_X9_set, wp_X8_isPerson, wp_X9_tellOfPerson, wp_X9_tellLoud, wp_X10_set, wp_X10_canSet, wp_X10_isPerson, wp_X10_isIn, bz_, p1, p2, p3, g1, e3, c1, gu_ap, hK _ _ hJ]
    by_cases c2 : c ≤ 9
    · have c3 : ¬ 9 < c := by grind
      obtain ⟨d, hd, rfl⟩ : ∃ d, d ≤ 9 ∧ c = nI d := by
        simp only [iL, iE, Int32.reduceToInt] at c1 c2
        exact bd_ (by omega) (by omega)
      simp [wp_X9_set, wp_X8_isPerson, wp_X9_tellOfPerson, wp_X9_tellLoud, wp_X5_forget, wp_X10_set, wp_X10_canSet, wp_X10_isPerson, wp_X10_isIn, bk_X10_set_32, bk_X10_set_55, bk_X10_set_92, bz_, p1, p2, p3, p4, p5, g1, e3, c1, c2, c3, gu_ap]
      refine hK _ _ ?_
      refine ⟨⟨hA, ⟨V, hV, v1, v2⟩, hC, hD, hE, hF, ⟨P, hP, g1, fun i hi => ?_⟩, hH, hr0⟩, hT, hfa, hU.clear, hr.1, hr.2.1, UV_0⟩
      by_cases hi2 : i = j
      · subst hi2
        exact ⟨d, hd, up_hit _ _ _, up_hit _ _ _, fun h => absurd h (by omega)⟩
      · obtain ⟨d', h1, h2, h3, h4⟩ := hG i hi
        exact ⟨d', h1, (up_miss _ _ hi2).trans h2, (up_miss _ _ hi2).trans h3, h4⟩
    · have c3 : 9 < c := by grind
      simp [wp_X9_set, wp_X8_isPerson, wp_X9_tellOfPerson, wp_X9_tellLoud, wp_X10_set, wp_X10_canSet, wp_X10_isPerson, wp_X10_isIn, bz_, p1, p2, p3, g1, e3, c1, c2, c3, gu_ap, hK _ _ hJ]
  · simp [wp_X9_set, wp_X8_isPerson, wp_X9_tellOfPerson, wp_X10_set, wp_X10_canSet, wp_X10_isPerson, k0, k1, k2, k3, p1, p2, p3, g1, e3, gu_ap, hK _ _ hJ]
end ST4
