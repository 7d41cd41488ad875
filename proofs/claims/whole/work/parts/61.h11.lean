/-! an hour -/
def dr_ (d : Int32) : Int32 := 1664525 * d + 1013904223
def dv_ (d m : Int32) : Int32 := ush_ (dr_ d) 8 - ush_ (dr_ d) 8 / m * m
def mv_ (h : Nat) (up : Prop) [Decidable up] : Nat := if up then min 61 (h + 1) else max 1 (h - 1)
def slp_ (V S : Nat) : Nat → Nat → Int32 → (Nat → Nat) → Nat → Int32 × (Nat → Nat) × Nat
  | 0, _, d, h, n => (d, h, n)
  | r + 1, i, d, h, n => if V.testBit i = true ∧ S ≠ 0 then (if dv_ d 1000 < nI S then slp_ V S r (i + 1) (dr_ (dr_ d)) (at_ i (mv_ (h i) (¬ dv_ (dr_ d) 2 = 0)) h) (n + 1) else slp_ V S r (i + 1) (dr_ d) h n) else slp_ V S r (i + 1) d h n
theorem slp_0 (V : Nat) : ∀ r i d h n, slp_ V 0 r i d h n = (d, h, n)
  | 0, _, _, _, _ => rfl
  | r + 1, i, d, h, n => by
    unfold slp_
    rw [if_neg (fun z => z.2 rfl)]
    exact slp_0 V r (i + 1) d h n
def HB_ (V : Nat) (h : Nat → Nat) : Prop := ∀ i, i < 10 → h i ≤ 61 ∧ (V.testBit i = true → h i ≠ 0)
theorem HB_.at {V : Nat} {h : Nat → Nat} (hb : HB_ V h) (j : Nat) (up : Prop) [Decidable up] : HB_ V (at_ j (mv_ (h j) up) h) := by
  intro i hi
  by_cases c : i = j
  · rw [c, at_h]
    by_cases hj : j < 10
    · have := (hb j hj).1
      unfold mv_
      split
      · exact ⟨by omega, fun _ => by omega⟩
      · exact ⟨by omega, fun _ => by omega⟩
    · omega
  · rw [at_n _ _ c]; exact hb i hi
theorem slp_b {V S : Nat} : ∀ (r i : Nat) (d : Int32) (h : Nat → Nat) (n : Nat), HB_ V h → HB_ V (slp_ V S r i d h n).2.1 ∧ (slp_ V S r i d h n).2.2 ≤ n + r
  | 0, _, _, _, n, hb => ⟨hb, Nat.le_refl _⟩
  | r + 1, i, d, h, n, hb => by
    unfold slp_
    split
    · split
      · have := slp_b (S := S) r (i + 1) (dr_ (dr_ d)) (at_ i (mv_ (h i) (¬ dv_ (dr_ d) 2 = 0)) h) (n + 1) (hb.at i _)
        exact ⟨this.1, by omega⟩
      · have := slp_b (S := S) r (i + 1) (dr_ d) h n hb
        exact ⟨this.1, by omega⟩
    · have := slp_b (S := S) r (i + 1) d h n hb
      exact ⟨this.1, by omega⟩
section HOU
variable {Q : Int32 → GS → Prop} {G : GS}
theorem dra_c {m : Int32} (h1 : (1 : Int32) ≤ m) (h0 : ¬ m = 0) (h : Q (dv_ (G 1 0) m) (gu_ G 1 0 (dr_ (G 1 0)))) : wp_X8_draw m G Q := ⟨fun _ => ⟨h0, h⟩, fun z => absurd h1 z⟩
theorem dra_r {m : Int32} (h0 : ¬ m = 0) (h : Q (dv_ (G 50 12) m) (gu_ G 50 12 (dr_ (G 50 12)))) : wp_X10_draw m G Q := ⟨h0, h⟩
theorem mvc_ : ∀ h : Nat, h < 62 → h ≠ 0 → (if (0 : Int32) < (if nI h - 1 + 1 < (60 : Int32) then nI h - 1 + 1 else (60 : Int32)) then (if nI h - 1 + 1 < (60 : Int32) then nI h - 1 + 1 else (60 : Int32)) else (0 : Int32)) = nI (mv_ h True) - 1 ∧ (if (0 : Int32) < (if nI h - 1 - 1 < (60 : Int32) then nI h - 1 - 1 else (60 : Int32)) then (if nI h - 1 - 1 < (60 : Int32) then nI h - 1 - 1 else (60 : Int32)) else (0 : Int32)) = nI (mv_ h False) - 1 := by decide +kernel
theorem mvr_ : ∀ h : Nat, h < 62 → h ≠ 0 → (if 0 ≤ nI h - 1 + (1 : Int32) then (if nI h - 1 + (1 : Int32) ≤ 60 then nI h - 1 + (1 : Int32) + 1 else 61) else 1) = nI (mv_ h True) ∧ (if 0 ≤ nI h - 1 + (-1 : Int32) then (if nI h - 1 + (-1 : Int32) ≤ 60 then nI h - 1 + (-1 : Int32) + 1 else 61) else 1) = nI (mv_ h False) := by decide +kernel
theorem mv_t {h : Nat} {up : Prop} [Decidable up] (c : up) : mv_ h up = mv_ h True := by unfold mv_; rw [if_pos c, if_pos trivial]
theorem mv_f {h : Nat} {up : Prop} [Decidable up] (c : ¬ up) : mv_ h up = mv_ h False := by unfold mv_; rw [if_neg c, if_neg not_false]
set_option maxHeartbeats 4000000 in
theorem pas_c {P V S : Nat} {h : Nat → Nat} (hP : P ≤ 10) (hV : V < 1024) (hS : S ≤ 1000) (e1 : G 1 1 = nI P) (e4 : G 1 4 = nI V) (e5 : G 1 5 = nI S) (hh : ∀ i, i < 10 → G 2 i = nI (h i) - 1) (hb : HB_ V h)
    (hQ : ∀ G', FR [1, 2] G G' → (∀ j, j ≠ 0 → j ≠ 6 → G' 1 j = G 1 j) → G' 1 6 = G 1 6 + 1 → G' 1 0 = (slp_ V S P 0 (G 1 0) h 0).1 → (∀ i, i < 10 → G' 2 i = nI ((slp_ V S P 0 (G 1 0) h 0).2.1 i) - 1) → Q (nI (slp_ V S P 0 (G 1 0) h 0).2.2) G') : wp_X8_passHour G Q := by
  have fin : ∀ (G' : GS) (d : Int32) (h' : Nat → Nat) (n : Nat), FR [1, 2] G G' → (∀ j, j ≠ 0 → G' 1 j = G 1 j) → G' 1 0 = d → (∀ i, i < 10 → G' 2 i = nI (h' i) - 1) → (d, h', n) = slp_ V S P 0 (G 1 0) h 0 → Q (nI n) (gu_ G' 1 6 (G' 1 6 + 1)) := by
    intro G' d h' n f1 f2 f3 f4 f5
    rw [← f5] at hQ
    refine hQ _ (f1.gu _ (by decide)) ?_ ?_ ?_ ?_
    · intro j j0 j6
      show upd (G' 1) 6 _ j = _
      rw [up_miss _ _ j6]; exact f2 j j0
    · show G' 1 6 + 1 = _
      rw [f2 6 (by decide)]
    · exact f3
    · exact f4
  have key : ∀ (r i : Nat) (d : Int32) (h' : Nat → Nat) (n : Nat) (G' : GS), i + r = P → HB_ V h' → FR [1, 2] G G' → (∀ j, j ≠ 0 → G' 1 j = G 1 j) → G' 1 0 = d → (∀ i, i < 10 → G' 2 i = nI (h' i) - 1) → slp_ V S r i d h' n = slp_ V S P 0 (G 1 0) h 0 → lp_X8_passHour_4 Q (r + 1) (nI n) (nI i) G' := by
    intro r
    induction r with
    | zero =>
      intro i d h' n G' hi hb' f1 f2 f3 f4 f5
      refine ⟨fun _ => fin G' d h' n f1 f2 f3 f4 f5, fun z => absurd ?_ z⟩
      rw [f2 1 (by decide), e1, show i = P by omega]
      exact Int32.le_refl _
    | succ r ih =>
      intro i d h' n G' hi hb' f1 f2 f3 f4 f5
      refine ⟨fun z => absurd z ?_, fun _ => ?_⟩
      · rw [f2 1 (by decide), e1]; exact nI_ge (by omega) (by omega)
      rw [f2 5 (by decide), f2 4 (by decide), e4, e5]
      refine ⟨fun z => ?_, fun z => ?_⟩
      · have : S = 0 := by
          rcases Nat.eq_zero_or_pos S with h | h
          · exact h
          · exact absurd z (nI_nle h (by omega))
        subst this
        rw [slp_0] at f5
        exact fin G' d h' n f1 f2 f3 f4 f5
      have hS0 : S ≠ 0 := fun e => z (by rw [e]; decide)
      rw [tb_1 (by omega) (by omega)]
      refine ⟨fun y => ?_, fun y => ?_⟩
      · rw [nI_1]
        refine ih (i + 1) d h' n G' (by omega) hb' f1 f2 f3 f4 ?_
        rw [← f5]
        conv => rhs; unfold slp_
        rw [if_neg (fun x => y x.1)]
      refine dra_c (by decide) (by decide) ?_
      have e52 : (gu_ G' 1 0 (dr_ (G' 1 0))) 1 5 = nI S := (f2 5 (by decide)).trans e5
      have k2 : ∀ j, j ≠ 0 → (gu_ G' 1 0 (dr_ (G' 1 0))) 1 j = G 1 j := fun j hj => (up_miss _ _ hj).trans (f2 j hj)
      rw [e52, f3]
      rw [f3] at k2
      refine ⟨fun x => ?_, fun x => ?_⟩
      · rw [nI_1]
        refine ih (i + 1) (dr_ d) h' n _ (by omega) hb' (f1.gu _ (by decide)) k2 rfl f4 ?_
        rw [← f5]
        conv => rhs; unfold slp_
        rw [if_pos ⟨y, hS0⟩, if_neg (Int32.not_lt.mpr x)]
      have x := Int32.not_le.mp x
      have hi10 : i < 10 := by omega
      refine dra_c (by decide) (by decide) ?_
      have e10 : (gu_ G' 1 0 (dr_ d)) 1 0 = dr_ d := rfl
      rw [e10]
      have e2i : ∀ v, (gu_ (gu_ G' 1 0 (dr_ d)) 1 0 v) 2 (nI i).toNatClampNeg = nI (h' i) - 1 := fun v => by rw [nI_clamp (by omega)]; exact f4 i hi10
      rw [e2i]
      obtain ⟨m1, m2⟩ := mvc_ (h' i) (by have := (hb' i hi10).1; omega) ((hb' i hi10).2 y)
      have go : ∀ (up : Prop) [Decidable up], mv_ (h' i) up = mv_ (h' i) (¬ dv_ (dr_ d) 2 = 0) → ∀ x : Int32, x = nI (mv_ (h' i) up) - 1 → lp_X8_passHour_4 Q (r + 1) (nI n + 1) (nI i + 1) (gu_ (gu_ (gu_ G' 1 0 (dr_ d)) 1 0 (dr_ (dr_ d))) 2 (nI i).toNatClampNeg x) := by
        intro up _ eu v ev
        rw [nI_1, nI_1, nI_clamp (by omega)]
        refine ih (i + 1) (dr_ (dr_ d)) (at_ i (mv_ (h' i) up) h') (n + 1) _ (by omega) (hb'.at i up) (((f1.gu _ (by decide)).gu _ (by decide)).gu _ (by decide)) (fun j hj => ?_) rfl (fun j hj => ?_) ?_
        · show upd (upd (G' 1) 0 _) 0 _ j = G 1 j
          rw [up_miss _ _ hj, up_miss _ _ hj]; exact f2 j hj
        · show upd (G' 2) i v j = _
          by_cases c : j = i
          · rw [c, up_hit, at_h]; exact ev
          · rw [up_miss _ _ c, at_n _ _ c]; exact f4 j hj
        · rw [← f5]
          conv => rhs; unfold slp_
          rw [if_pos ⟨y, hS0⟩, if_pos x, eu]
      refine ⟨fun u => ⟨vp_in_nI hi10 (by omega), vp_in_nI hi10 (by omega), ?_⟩, fun u => ⟨vp_in_nI hi10 (by omega), vp_in_nI hi10 (by omega), ?_⟩⟩
      · exact go True (mv_t (up := ¬ dv_ (dr_ d) 2 = 0) u).symm _ m1
      · exact go False (mv_f (up := ¬ dv_ (dr_ d) 2 = 0) (fun z => z u)).symm _ m2
  exact ⟨P + 1, key P 0 (G 1 0) h 0 G (by omega) hb (FR.rf _ _) (fun _ _ => rfl) rfl hh rfl⟩
set_option maxHeartbeats 4000000 in
theorem pas_r {P V S : Nat} {h : Nat → Nat} (hP : P ≤ 10) (hV : V < 1024) (hS : S ≤ 1000) (e1 : G 49 4 = nI P) (e4 : G 49 5 = nI V) (e5 : G 49 7 = nI S) (hh : ∀ i, i < 10 → G 50 i = nI (h i)) (hb : HB_ V h)
    (hQ : ∀ G', FR [50] G G' → G' 50 10 = G 50 10 → G' 50 11 = G 50 11 + 1 → G' 50 12 = (slp_ V S P 0 (G 50 12) h 0).1 → (∀ i, i < 10 → G' 50 i = nI ((slp_ V S P 0 (G 50 12) h 0).2.1 i)) → Q (nI (slp_ V S P 0 (G 50 12) h 0).2.2) G') : wp_X10_slips G Q := by
  have key : ∀ (r i : Nat) (d : Int32) (h' : Nat → Nat) (n : Nat) (G' : GS), i + r = P → HB_ V h' → FR [50] G G' → G' 50 10 = G 50 10 → G' 50 11 = G 50 11 → G' 50 12 = d → (∀ i, i < 10 → G' 50 i = nI (h' i)) → slp_ V S r i d h' n = slp_ V S P 0 (G 50 12) h 0 → lp_X10_slips_4 Q (r + 1) (nI n) (nI i) G' := by
    intro r
    induction r with
    | zero =>
      intro i d h' n G' hi hb' f1 f2 f2' f3 f4 f5
      refine ⟨fun _ => ?_, fun z => absurd ?_ z⟩
      · rw [← f5] at hQ
        refine hQ _ (f1.gu _ (by decide)) f2 ?_ f3 (fun i hi => ?_)
        · show G' 50 11 + 1 = _
          rw [f2']
        · show upd (G' 50) 11 _ i = _
          rw [up_miss _ _ (by omega)]; exact f4 i hi
      · rw [f1 49 (by decide), e1, show i = P by omega]
        exact Int32.le_refl _
    | succ r ih =>
      intro i d h' n G' hi hb' f1 f2 f2' f3 f4 f5
      have hi10 : i < 10 := by omega
      refine ⟨fun z => absurd z ?_, fun _ => ?_⟩
      · rw [f1 49 (by decide), e1]; exact nI_ge (by omega) (by omega)
      rw [f1 49 (by decide), e4, e5, tb_0 hV (by omega)]
      have skip : ¬ (V.testBit i = true ∧ S ≠ 0) → lp_X10_slips_4 Q (r + 1) (nI n) (nI i + 1) G' := by
        intro hn
        rw [nI_1]
        refine ih (i + 1) d h' n G' (by omega) hb' f1 f2 f2' f3 f4 ?_
        rw [← f5]
        conv => rhs; unfold slp_
        rw [if_neg hn]
      refine ⟨fun y => skip (fun x => y x.1), fun y => ?_⟩
      have y := Decidable.not_not.mp y
      refine ⟨fun z => skip (fun x => x.2 ((nI_eq (b := 0) (by omega) (by omega)).mp z)), fun z => ?_⟩
      have hS0 : S ≠ 0 := fun e => z (by rw [e]; rfl)
      refine dra_r (by decide) ?_
      have e52 : (gu_ G' 50 12 (dr_ (G' 50 12))) 49 7 = nI S := by
        show G' 49 7 = _
        rw [f1 49 (by decide)]; exact e5
      rw [e52, f3]
      have k4 : ∀ v, ∀ j, j < 10 → (gu_ G' 50 12 v) 50 j = nI (h' j) := fun v j hj => (up_miss _ _ (by omega)).trans (f4 j hj)
      refine ⟨fun x => ?_, fun x => ?_⟩
      · refine ho_ (by omega) (k4 _ i hi10) ?_
        refine dra_r (by decide) ?_
        have e10 : (gu_ G' 50 12 (dr_ d)) 50 12 = dr_ d := rfl
        rw [e10]
        obtain ⟨m1, m2⟩ := mvr_ (h' i) (by have := (hb' i hi10).1; omega) ((hb' i hi10).2 y)
        have go : ∀ (up : Prop) [Decidable up], mv_ (h' i) up = mv_ (h' i) (¬ dv_ (dr_ d) 2 = 0) → ∀ x : Int32, x = nI (mv_ (h' i) up) → lp_X10_slips_4 Q (r + 1) (nI n + 1) (nI i + 1) (gu_ (gu_ (gu_ G' 50 12 (dr_ d)) 50 12 (dr_ (dr_ d))) 50 ((0 : Int32) + nI i).toNatClampNeg x) := by
          intro up _ eu v ev
          rw [nI_1, nI_1, Int32.zero_add, nI_clamp (by omega)]
          refine ih (i + 1) (dr_ (dr_ d)) (at_ i (mv_ (h' i) up) h') (n + 1) _ (by omega) (hb'.at i up) (((f1.gu _ (by decide)).gu _ (by decide)).gu _ (by decide)) ?_ ?_ ?_ (fun j hj => ?_) ?_
          · rw [gu_ap, if_pos rfl, if_neg (by omega), gu_ap, if_pos rfl, if_neg (by omega), gu_ap, if_pos rfl, if_neg (by omega)]; exact f2
          · rw [gu_ap, if_pos rfl, if_neg (by omega), gu_ap, if_pos rfl, if_neg (by omega), gu_ap, if_pos rfl, if_neg (by omega)]; exact f2'
          · show (upd (upd (upd (G' 50) 12 (dr_ d)) 12 (dr_ (dr_ d))) i v) 12 = _
            rw [up_miss _ _ (by omega), up_hit]
          · show (upd (upd (upd (G' 50) 12 (dr_ d)) 12 (dr_ (dr_ d))) i v) j = _
            by_cases c : j = i
            · rw [c, up_hit, at_h]; exact ev
            · rw [up_miss _ _ c, at_n _ _ c, up_miss _ _ (by omega), up_miss _ _ (by omega)]; exact f4 j hj
          · rw [← f5]
            conv => rhs; unfold slp_
            rw [if_pos ⟨y, hS0⟩, if_pos x, eu]
        have vin : vp_in ((0 : Int32) + nI i) 13 := by rw [Int32.zero_add]; exact vp_in_nI (by omega) (by omega)
        refine ⟨fun u => ?_, fun u => ?_⟩
        · have eu := (mv_t (h := h' i) (up := ¬ dv_ (dr_ d) 2 = 0) u).symm
          exact ⟨fun a => ⟨fun b => ⟨vin, go True eu _ (by rw [if_pos a, if_pos b] at m1; exact m1)⟩, fun b => ⟨vin, go True eu _ (by rw [if_pos a, if_neg b] at m1; exact m1)⟩⟩, fun a => ⟨vin, go True eu _ (by rw [if_neg a] at m1; exact m1)⟩⟩
        · have eu := (mv_f (h := h' i) (up := ¬ dv_ (dr_ d) 2 = 0) (fun z => z u)).symm
          exact ⟨fun a => ⟨fun b => ⟨vin, go False eu _ (by rw [if_pos a, if_pos b] at m2; exact m2)⟩, fun b => ⟨vin, go False eu _ (by rw [if_pos a, if_neg b] at m2; exact m2)⟩⟩, fun a => ⟨vin, go False eu _ (by rw [if_neg a] at m2; exact m2)⟩⟩
      · rw [nI_1]
        refine ih (i + 1) (dr_ d) h' n _ (by omega) hb' (f1.gu _ (by decide)) ?_ ?_ ?_ (k4 _) ?_
        · exact f2
        · exact f2'
        · rfl
        · rw [← f5]
          conv => rhs; unfold slp_
          rw [if_pos ⟨y, hS0⟩, if_neg x]
  exact ⟨P + 1, key P 0 (G 50 12) h 0 G (by omega) hb (FR.rf _ _) rfl rfl rfl hh rfl⟩
end HOU
