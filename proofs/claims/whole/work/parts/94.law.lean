theorem inv0 : Inv G0_ := by
  have f1 : ∀ i, i < 10 → fl_ 10 (-1) (fun _ => 0) i = -1 := by decide
  have f2 : ∀ i, i < 10 → fl_ 10 5 (fun _ => 0) i = 5 := by decide
  refine ⟨⟨⟨0, by omega, rfl, rfl⟩, ⟨0, by omega, rfl, rfl⟩, ⟨0, by omega, rfl, rfl⟩, ⟨0, by omega, rfl, rfl⟩, rfl, fun i hi => ⟨0, by omega, rfl, ?_⟩, ⟨0, by omega, rfl, fun i hi => ⟨5, by omega, ?_, ?_, fun _ => rfl⟩⟩, ⟨0, by omega, rfl, rfl, fun j hj => absurd hj (by omega)⟩, fun t ht => ⟨0, by omega, rfl, rfl, fun i hi => absurd hi (by omega)⟩, ⟨0, 0, by omega, rfl, by omega, rfl, rfl, fun i hi => absurd hi (by omega)⟩, ⟨0, by omega, rfl, rfl, fun i hi => absurd hi (by omega)⟩, ⟨0, 0, fun _ => 0, by omega, by omega, rfl, rfl, rfl, rfl, rfl, fun l hl => absurd hl (by omega), fun l _ => Nat.zero_le _, fun l hl => absurd hl (by omega)⟩, fun i hi hb => ?_⟩, ⟨0, by omega, rfl, rfl, fun i hi => absurd hi (by omega)⟩, ⟨rfl, rfl⟩, RU_0 (nx := 0) (m := 0) (by omega) rfl (by omega) rfl, Or.inl ⟨rfl, rfl⟩, rfl, UV_0⟩
  · show fl_ 10 (-1) (fun _ => 0) i = _
    rw [f1 i hi]; decide
  · show fl_ 10 5 (fun _ => 0) i = _
    rw [f2 i hi]; decide
  · show (0 : Int32) = _
    decide
  · have hb : (0 : Int32).toNatClampNeg.testBit i = true := hb
    rw [show (0 : Int32).toNatClampNeg = 0 from by decide, Nat.zero_testBit] at hb
    exact absurd hb (by decide)
set_option maxHeartbeats 8000000 in
theorem law_pure (E : EV) (hE : ev_L E ≤ 3072) : ∃ n, lp_L_law_18 E (fun r _ => r = 1) n 0 G0_ := by
  have key : ∀ (d i : Nat) (G : GS), Inv G → ev_L E < 6 * (i + d) + 6 → 6 * i ≤ 6000 → lp_L_law_18 E (fun r _ => r = 1) (d + 1) (nI (6 * i)) G := by
    intro d
    induction d with
    | zero =>
      intro i G hI hd hi
      have hx : nI (ev_L E) - 6 < nI (6 * i) := by
        rw [iL, show (6 : Int32) = nI 6 from rfl, pk_sub_toInt (by omega) (by omega), nI_toInt (by omega)]
        omega
      exact ⟨fun _ => rfl, fun z => absurd hx z⟩
    | succ d ih =>
      intro i G hI hd hi
      by_cases hx : nI (ev_L E) - 6 < nI (6 * i)
      · exact ⟨fun _ => rfl, fun z => absurd hx z⟩
      have hL : 6 * i + 6 ≤ ev_L E := by
        have hx2 := hx
        rw [iL, show (6 : Int32) = nI 6 from rfl, pk_sub_toInt (by omega) (by omega), nI_toInt (by omega)] at hx2
        omega
      have vin : ∀ k, k < 6 → vp_in (nI (6 * i) + nI k) (ev_L E) := fun k hk => by rw [nI_add]; exact vp_in_nI (by omega) (by omega)
      have v1 := vin 1 (by omega)
      have v2 := vin 2 (by omega)
      have v3 := vin 3 (by omega)
      have v4 := vin 4 (by omega)
      have v5 := vin 5 (by omega)
      have e6 : nI (6 * i) + 6 = nI (6 * (i + 1)) := by rw [show (6 : Int32) = nI 6 from rfl, nI_add]; congr 1
      have go : ∀ G2, Inv G2 → lp_L_law_18 E (fun r _ => r = 1) (d + 1) (nI (6 * i) + 6) G2 := fun G2 h2 => by
        rw [e6]; exact ih (i + 1) G2 h2 (by omega) (by omega)
      have nxt : ∀ (r : Int32) (G2 : GS), Inv G2 → (r = r → lp_L_law_18 E (fun r _ => r = 1) (d + 1) (nI (6 * i) + 6) G2) ∧ (¬ r = r → (0 : Int32) = 1) := fun r G2 h2 => ⟨fun _ => go G2 h2, fun z => absurd rfl z⟩
      refine ⟨fun z => absurd z hx, fun _ => ⟨vp_in_nI (by omega) (by omega), ?_⟩⟩
      refine ⟨fun _ => ⟨v1, st_state _ hI nxt⟩, fun _ => ⟨v1, st_person _ hI nxt⟩, fun _ => ⟨v1, v2, v3, st_set _ _ _ hI nxt⟩, fun _ => ⟨v1, v2, v3, v4, v5, st_feed _ _ _ _ _ hI nxt⟩, fun _ => ⟨v1, st_end _ hI nxt⟩, fun _ => st_text hI nxt, fun _ => ⟨v1, st_fault _ hI nxt⟩, fun _ => ⟨v1, v2, st_speak _ _ hI nxt⟩, fun _ => ⟨v1, st_hours _ hI nxt⟩, fun _ => ⟨v1, v2, st_of _ _ hI nxt⟩, fun _ => ⟨v1, v2, v3, st_hears _ _ _ hI nxt⟩, fun _ => ⟨v1, v2, st_deaf _ _ hI nxt⟩, fun _ => ⟨v1, v2, st_book _ _ hI nxt⟩, fun _ => ⟨v1, v2, st_tune _ _ hI nxt⟩, fun _ => ⟨v1, v2, st_same _ _ hI nxt⟩, fun _ => ⟨v1, v2, st_pair _ _ hI nxt⟩, fun _ => ⟨v1, st_turnOf _ hI nxt⟩, fun _ => ⟨v1, st_tell _ hI nxt⟩, fun _ => ⟨v1, v2, st_fit _ _ hI nxt⟩, fun _ => ⟨v1, st_fewest _ hI nxt⟩, fun _ => ⟨v1, v2, st_ruler _ _ hI nxt⟩, fun _ => ⟨v1, v2, v3, v4, v5, st_alone _ _ _ _ _ hI nxt⟩, fun _ => ⟨v1, st_safe _ hI nxt⟩, fun _ => st_undo hI nxt, fun _ => ⟨v1, fun z => ?_, fun z => ?_⟩, fun _ => ⟨v1, st_look _ hI nxt⟩, fun _ _ _ _ _ _ _ _ _ _ _ _ _ _ _ _ _ _ _ _ _ _ _ _ _ _ => go G hI⟩
      · exact st_image0 hI nxt (fun r G1 h => ⟨v1, fun _ => h, fun y => absurd z y⟩)
      · exact st_image1 hI nxt (fun r G1 h => ⟨v1, fun y => absurd y z, fun _ => h⟩)
  exact ⟨ev_L E / 6 + 1 + 1, key (ev_L E / 6 + 1) 0 G0_ inv0 (by omega) (by omega)⟩
