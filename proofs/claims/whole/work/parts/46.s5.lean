theorem gx_1 (G : GS) {k m : Nat} (j i : Nat) (f : Nat → Int32) (x y b : Int32) (h : k ≠ m) : gu_ (gu_ (gu_ (gf_ G k f) m j x) k i b) m j y = gu_ (gf_ G k (upd f i b)) m j y := by
  funext a
  unfold gu_ gf_
  by_cases h1 : a = m
  · subst h1
    have h2 : ¬ a = k := fun e => h e.symm
    simp only [if_true, h2, if_false]
    funext q
    unfold upd
    by_cases hq : q = j
    · simp [hq]
    · simp [hq]
  · by_cases h2 : a = k
    · subst h2
      simp [h1]
    · simp [h1, h2]
theorem gx_2 (G : GS) {k m : Nat} (j : Nat) (f g : Nat → Int32) (x y : Int32) (h : k ≠ m) : gu_ (gf_ (gu_ (gf_ G k f) m j x) k g) m j y = gu_ (gf_ G k g) m j y := by
  funext a
  unfold gu_ gf_
  by_cases h1 : a = m
  · subst h1
    have h2 : ¬ a = k := fun e => h e.symm
    simp only [if_true, h2, if_false]
    funext q
    unfold upd
    by_cases hq : q = j
    · simp [hq]
    · simp [hq]
  · by_cases h2 : a = k
    · subst h2
      simp [h1]
    · simp [h1, h2]
theorem by_low (x : Int32) : ∃ v : Nat, v < 256 ∧ x &&& 255 = nI v ∧ x.toInt8.toInt32 = (nI v).toInt8.toInt32 := by
  refine ⟨x.toBitVec.toNat % 256, Nat.mod_lt _ (by omega), pk_and x (m := 255) 8 (by decide), ?_⟩
  have h : x.toInt8 = (nI (x.toBitVec.toNat % 256)).toInt8 := by
    apply Int8.toBitVec_inj.mp
    apply BitVec.eq_of_toNat_eq
    show (x.toBitVec.signExtend 8).toNat = ((BitVec.ofNat 32 (x.toBitVec.toNat % 256)).signExtend 8).toNat
    rw [BitVec.signExtend_eq_setWidth_of_le _ (by omega), BitVec.signExtend_eq_setWidth_of_le _ (by omega), BitVec.toNat_setWidth, BitVec.toNat_setWidth, BitVec.toNat_ofNat]
    omega
  rw [h]
theorem sh_ : ∀ i, i < 4 → ¬ (24 : Int32) - nI (8 * i) < 0 ∧ (24 : Int32) - nI (8 * i) + (-8) = (24 : Int32) - nI (8 * (i + 1)) := by decide +kernel
theorem pb_loop {Q : Int32 → GS → Prop} {G : GS} {a : Int32} {T : Nat} (hT : T ≤ 396) (h : ∀ f : Nat → Int32, (∀ j, j < T → f j = G 32 j) → (∀ i, i < 4 → f (T + i) = (a >>> (((24 : Int32) - nI (8 * i)) &&& 31)).toInt8.toInt32) → Q 0 (gu_ (gf_ G 32 f) 0 5 (nI (T + 4)))) : ∀ (r i : Nat), i + r = 4 → ∀ f : Nat → Int32, (∀ j, j < T → f j = G 32 j) → (∀ q, q < i → f (T + q) = (a >>> (((24 : Int32) - nI (8 * q)) &&& 31)).toInt8.toInt32) → lp_X9_putBytes_3 Q (r + 1) a ((24 : Int32) - nI (8 * i)) (gu_ (gf_ G 32 f) 0 5 (nI (T + i))) := by
  intro r
  induction r with
  | zero =>
    intro i hi f h1 h2
    have e : i = 4 := by omega
    subst e
    exact ⟨fun _ => h f h1 h2, fun c => absurd (by decide) c⟩
  | succ r ih =>
    intro i hi f h1 h2
    obtain ⟨s1, s2⟩ := sh_ i (by omega)
    refine ⟨fun c => absurd c s1, fun _ => ⟨fun c => absurd c (nI_ge (b := 400) (a := T + i) (by omega) (by omega)), fun _ => ⟨vp_in_nI (n := T + i) (by omega) (by omega), ?_⟩⟩⟩
    have e1 : (gu_ (gf_ G 32 f) 0 5 (nI (T + i))) 0 5 = nI (T + i) := rfl
    rw [e1, nI_clamp (by omega), nI_1, s2, gx_1 G 5 (T + i) f _ _ _ (by decide)]
    refine ih (i + 1) (by omega) _ (fun j hj => (up_miss _ _ (by omega)).trans (h1 j hj)) (fun q hq => ?_)
    by_cases hq2 : q = i
    · subst hq2
      refine (up_hit _ _ _).trans ?_
      exact pk_vb _
    · exact (up_miss _ _ (by omega)).trans (h2 q (by omega))
theorem pb_c {Q : Int32 → GS → Prop} {G : GS} {a : Int32} {T : Nat} (hT : T ≤ 396) (e : G 0 5 = nI T) (h : ∀ f : Nat → Int32, (∀ j, j < T → f j = G 32 j) → (∀ i, i < 4 → f (T + i) = (a >>> (((24 : Int32) - nI (8 * i)) &&& 31)).toInt8.toInt32) → Q 0 (gu_ (gf_ G 32 f) 0 5 (nI (T + 4)))) : wp_X9_putBytes a G Q := by
  have h1 := pb_loop hT h 4 0 (by omega) (G 32) (fun _ _ => rfl) (fun q hq => absurd hq (by omega))
  have e1 : gu_ (gf_ G 32 (G 32)) 0 5 (nI (T + 0)) = G := by
    funext k q
    rw [gu_ap]
    by_cases hk : k = 0
    · subst hk
      rw [if_pos rfl]
      by_cases hq : q = 5
      · subst hq
        rw [if_pos rfl, Nat.add_zero, e]
      · rw [if_neg hq]; rfl
    · rw [if_neg hk]
      unfold gf_
      by_cases hk2 : k = 32
      · subst hk2; rw [if_pos rfl]
      · rw [if_neg hk2]
  rw [e1] at h1
  exact ⟨5, h1⟩
theorem pr_loop {Q : Int32 → GS → Prop} {G : GS} {a : Int32} {T : Nat} (hT : T ≤ 396) (h : ∀ f : Nat → Int32, (∀ j, j < T → f j = G 54 j) → (∀ i, i < 4 → f (T + i) = (a >>> (((24 : Int32) - nI (8 * i)) &&& 31)) &&& 255) → Q 0 (gu_ (gf_ G 54 f) 49 10 (nI (T + 4)))) : ∀ (r i : Nat), i + r = 4 → ∀ f : Nat → Int32, (∀ j, j < T → f j = G 54 j) → (∀ q, q < i → f (T + q) = (a >>> (((24 : Int32) - nI (8 * q)) &&& 31)) &&& 255) → lp_X10_types_3 Q (r + 1) a ((24 : Int32) - nI (8 * i)) (gu_ (gf_ G 54 f) 49 10 (nI (T + i))) := by
  intro r
  induction r with
  | zero =>
    intro i hi f h1 h2
    have e : i = 4 := by omega
    subst e
    exact ⟨fun _ => h f h1 h2, fun c => absurd (by decide) c⟩
  | succ r ih =>
    intro i hi f h1 h2
    obtain ⟨s1, s2⟩ := sh_ i (by omega)
    refine ⟨fun c => absurd c s1, fun _ => ⟨vp_in_nI (n := T + i) (by omega) (by omega), ?_⟩⟩
    have e1 : (gu_ (gf_ G 54 f) 49 10 (nI (T + i))) 49 10 = nI (T + i) := rfl
    rw [e1, nI_clamp (by omega), nI_1, s2, gx_1 G 10 (T + i) f _ _ _ (by decide)]
    refine ih (i + 1) (by omega) _ (fun j hj => (up_miss _ _ (by omega)).trans (h1 j hj)) (fun q hq => ?_)
    by_cases hq2 : q = i
    · subst hq2
      exact up_hit _ _ _
    · exact (up_miss _ _ (by omega)).trans (h2 q (by omega))
theorem pr_c {Q : Int32 → GS → Prop} {G : GS} {a : Int32} {T : Nat} (hT : T ≤ 396) (e : G 49 10 = nI T) (h : ∀ f : Nat → Int32, (∀ j, j < T → f j = G 54 j) → (∀ i, i < 4 → f (T + i) = (a >>> (((24 : Int32) - nI (8 * i)) &&& 31)) &&& 255) → Q 0 (gu_ (gf_ G 54 f) 49 10 (nI (T + 4)))) : wp_X10_types a G Q := by
  have h1 := pr_loop hT h 4 0 (by omega) (G 54) (fun _ _ => rfl) (fun q hq => absurd hq (by omega))
  have e1 : gu_ (gf_ G 54 (G 54)) 49 10 (nI (T + 0)) = G := by
    funext k q
    rw [gu_ap]
    by_cases hk : k = 49
    · subst hk
      rw [if_pos rfl]
      by_cases hq : q = 10
      · subst hq
        rw [if_pos rfl, Nat.add_zero, e]
      · rw [if_neg hq]; rfl
    · rw [if_neg hk]
      unfold gf_
      by_cases hk2 : k = 54
      · subst hk2; rw [if_pos rfl]
      · rw [if_neg hk2]
  rw [e1] at h1
  exact ⟨5, h1⟩
/-- the tapes' relation, four bytes more -/
theorem tp_4 {T : Nat} {a : Int32} {b t b' t' : Nat → Int32} (h : ∀ i, i < T → ∃ v : Nat, v < 256 ∧ t i = nI v ∧ b i = (nI v).toInt8.toInt32) (h1 : ∀ j, j < T → b' j = b j) (h2 : ∀ i, i < 4 → b' (T + i) = (a >>> (((24 : Int32) - nI (8 * i)) &&& 31)).toInt8.toInt32) (h3 : ∀ j, j < T → t' j = t j) (h4 : ∀ i, i < 4 → t' (T + i) = (a >>> (((24 : Int32) - nI (8 * i)) &&& 31)) &&& 255) : ∀ i, i < T + 4 → ∃ v : Nat, v < 256 ∧ t' i = nI v ∧ b' i = (nI v).toInt8.toInt32 := by
  intro i hi
  by_cases hi2 : i < T
  · obtain ⟨v, q1, q2, q3⟩ := h i hi2
    exact ⟨v, q1, (h3 i hi2).trans q2, (h1 i hi2).trans q3⟩
  · obtain ⟨v, q1, q2, q3⟩ := by_low (a >>> (((24 : Int32) - nI (8 * (i - T))) &&& 31))
    have e : T + (i - T) = i := by omega
    have k2 := h2 (i - T) (by omega)
    have k4 := h4 (i - T) (by omega)
    rw [e] at k2 k4
    exact ⟨v, q1, k4.trans q2, k2.trans q3⟩
section ST5
variable {G : GS} {K : Int32 → Int32 → GS → Prop}
set_option maxHeartbeats 4000000 in
theorem st_feed (a b c d e : Int32) (hI : Inv G) (hK : ∀ r G2, Inv G2 → K r r G2) : wp_X9_feed a b c d e G (fun r G1 => wp_X10_feed a b c d e G1 (fun r' G2 => K r r' G2)) := by
  have hJ : Inv (gu_ G 49 0 0) := hI
  obtain ⟨hw, ⟨T, hT, e1, e2, hb⟩, hr⟩ := hI
  by_cases c1 : nI T ≤ 380
  · have c2 : T ≤ 380 := (nI_leI (b := 380) (by omega) (by omega)).mp c1
    refine ⟨fun _ => ?_, fun z => absurd (by rw [e1]; exact c1) z⟩
    refine pb_c (T := T) (by omega) e1 (fun f1 p1 q1 => ?_)
    refine pb_c (T := T + 4) (by omega) rfl (fun f2 p2 q2 => ?_)
    refine pb_c (T := T + 4 + 4) (by omega) rfl (fun f3 p3 q3 => ?_)
    refine pb_c (T := T + 4 + 4 + 4) (by omega) rfl (fun f4 p4 q4 => ?_)
    refine pb_c (T := T + 4 + 4 + 4 + 4) (by omega) rfl (fun f5 p5 q5 => ?_)
    rw [gx_2 G 5 _ _ _ _ (by decide), gx_2 G 5 _ _ _ _ (by decide), gx_2 G 5 _ _ _ _ (by decide), gx_2 G 5 _ _ _ _ (by decide)]
    refine ⟨fun _ => ?_, fun z => absurd (by show G 49 10 ≤ 380; rw [e2]; exact c1) z⟩
    refine pr_c (T := T) (by omega) e2 (fun t1 x1 y1 => ?_)
    refine pr_c (T := T + 4) (by omega) rfl (fun t2 x2 y2 => ?_)
    refine pr_c (T := T + 4 + 4) (by omega) rfl (fun t3 x3 y3 => ?_)
    refine pr_c (T := T + 4 + 4 + 4) (by omega) rfl (fun t4 x4 y4 => ?_)
    refine pr_c (T := T + 4 + 4 + 4 + 4) (by omega) rfl (fun t5 x5 y5 => ?_)
    have r1 := tp_4 hb p1 q1 x1 y1
    have r2 := tp_4 r1 p2 q2 x2 y2
    have r3 := tp_4 r2 p3 q3 x3 y3
    have r4 := tp_4 r3 p4 q4 x4 y4
    have r5 := tp_4 r4 p5 q5 x5 y5
    refine hK _ _ ?_
    exact ⟨hw, ⟨T + 4 + 4 + 4 + 4 + 4, by omega, rfl, rfl, r5⟩, hr⟩
  · refine ⟨fun z => absurd (by rw [← e1]; exact z) c1, fun _ => ⟨fun z => absurd (by rw [← e2]; exact z) c1, fun _ => hK _ _ hJ⟩⟩
end ST5
