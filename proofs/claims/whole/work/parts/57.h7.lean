/-! scratch cells: those of which the invariant says nothing -/
def jl_ : List Nat := [3, 4, 5, 7, 10, 16, 28, 29, 35, 39, 45]
def Sc (G G' : GS) : Prop := (∀ k ∈ kpc_, G' k = G k) ∧ ∀ j ∈ jl_, G' 49 j = G 49 j
theorem Sc.rf (G : GS) : Sc G G := ⟨fun _ _ => rfl, fun _ _ => rfl⟩
theorem Sc.gf {G G' : GS} (h : Sc G G') {k : Nat} (f : Nat → Int32) (hk : k ∉ kpc_ ∧ k ≠ 49) : Sc G (gf_ G' k f) :=
  ⟨fun a ha => (gf_ne G' f (show a ≠ k from fun e => hk.1 (by rw [← e]; exact ha))).trans (h.1 a ha), fun j hj => (congrFun (gf_ne G' f (show 49 ≠ k from fun e => hk.2 e.symm)) j).trans (h.2 j hj)⟩
theorem Sc.g49 {G G' : GS} (h : Sc G G') {j : Nat} (x : Int32) (hj : j ∉ jl_) : Sc G (gu_ G' 49 j x) :=
  ⟨fun a ha => (gf_ne G' _ (show a ≠ 49 from fun e => absurd (show (49 : Nat) ∈ kpc_ by rw [← e]; exact ha) (by decide))).trans (h.1 a ha), fun i hi => by
    show gf_ G' 49 (upd (G' 49) j x) 49 i = _
    rw [gf_same, up_miss _ _ (show i ≠ j from fun e => hj (by rw [← e]; exact hi))]; exact h.2 i hi⟩
theorem Inv.sc {G G' : GS} (hI : Inv G) (h : Sc G G') : Inv G' := hI.cg h.1 h.2
theorem Sc.eS {G G' : GS} (h : Sc G G') (c f : Nat → Int32) : Sc G (eS G' c f) := (h.gf c (by decide)).gf f (by decide)
theorem Sc.rS {G G' : GS} (h : Sc G G') (c f : Nat → Int32) : Sc G (rS G' c f) := (h.gf c (by decide)).gf f (by decide)
theorem Sc.rT {G G' : GS} (h : Sc G G') (c f g : Nat → Int32) : Sc G (rT G' c f g) := ((h.gf c (by decide)).gf f (by decide)).gf g (by decide)
theorem Sc.t0 {G G' : GS} (h : Sc G G') : Sc G (gu_ G' 49 0 0) := h.g49 0 (by decide)
section PER
variable {Q : Int32 → GS → Prop} {G : GS} {P V V0 q : Nat} {a b c : Int32}
theorem per_c (hF : HF_ G P V0) (h1 : ∀ i, i < P → a = nI i → Q 1 G) (h0 : (∀ j, j < P → a ≠ nI j) → Q 0 G) : wp_X8_isPerson a G Q := by
  rcases ix_ a P (by have := hF.1; omega) with ⟨j, hj, rfl⟩ | h
  · exact cpp_ hF hj (h1 j hj rfl)
  · obtain ⟨hP, p1, p2, -⟩ := hF
    refine ⟨fun _ => h0 h, fun z1 => ⟨fun _ => h0 h, fun z2 => ⟨fun _ => h0 h, fun _ => ?_⟩⟩⟩
    rw [p1] at z2
    rcases pk_ix a (n := P) (by omega) with k | k | ⟨j, hj, e⟩
    · exact absurd k z1
    · exact absurd k z2
    · exact absurd e (h j hj)
theorem per_r (hF : HF_ G P V0) (h1 : ∀ i, i < P → a = nI i → Q 1 G) (h0 : (∀ j, j < P → a ≠ nI j) → Q 0 G) : wp_X10_isPerson a G Q := by
  rcases ix_ a P (by have := hF.1; omega) with ⟨j, hj, rfl⟩ | h
  · exact rp_ hF hj (h1 j hj rfl)
  · obtain ⟨hP, p1, p2, -⟩ := hF
    refine ⟨fun _ => h0 h, fun z1 => ⟨fun _ => h0 h, fun z2 => ?_⟩⟩
    rw [p2] at z2
    rcases pk_ix a (n := P) (by omega) with k | k | ⟨j, hj, e⟩
    · exact absurd k z1
    · exact absurd k z2
    · exact absurd e (h j hj)
def T3_ (P : Nat) (a b c : Int32) : Prop := ∃ i j k, i < P ∧ j < P ∧ k < P ∧ a = nI i ∧ b = nI j ∧ c = nI k ∧ i ≠ j ∧ i ≠ k ∧ j ≠ k
theorem thr_c1 (hF : HF_ G P V0) {i j k : Nat} (hi : i < P) (hj : j < P) (hk : k < P) (n1 : i ≠ j) (n2 : i ≠ k) (n3 : j ≠ k) (h : Q 1 G) : wp_X9_areThree (nI i) (nI j) (nI k) G Q := by
  have hP := hF.1
  have e : ∀ x y : Nat, x < P → y < P → x ≠ y → ¬ nI x = nI y := fun x y hx hy n z => n ((nI_eq (by omega) (by omega)).mp z)
  refine cpp_ hF hi ⟨fun z => absurd z (by decide), fun _ => cpp_ hF hj ⟨fun z => absurd z (by decide), fun _ => cpp_ hF hk ⟨fun z => absurd z (by decide), fun _ => ?_⟩⟩⟩
  exact ⟨fun z => absurd z (e _ _ hi hj n1), fun _ => ⟨fun z => absurd z (e _ _ hi hk n2), fun _ => ⟨fun z => absurd z (e _ _ hj hk n3), fun _ => h⟩⟩⟩
theorem thr_r1 (hF : HF_ G P V0) {i j k : Nat} (hi : i < P) (hj : j < P) (hk : k < P) (n1 : i ≠ j) (n2 : i ≠ k) (n3 : j ≠ k) (h : Q 1 G) : wp_X10_areThree (nI i) (nI j) (nI k) G Q := by
  have hP := hF.1
  have e : ∀ x y : Nat, x < P → y < P → x ≠ y → ¬ nI x = nI y := fun x y hx hy n z => n ((nI_eq (by omega) (by omega)).mp z)
  refine rp_ hF hi ⟨fun z => absurd z (by decide), fun _ => rp_ hF hj ⟨fun z => absurd z (by decide), fun _ => rp_ hF hk ⟨fun z => absurd z (by decide), fun _ => ?_⟩⟩⟩
  exact ⟨fun z => absurd z (e _ _ hi hj n1), fun _ => ⟨fun z => absurd z (e _ _ hi hk n2), fun _ => ⟨fun z => absurd z (e _ _ hj hk n3), fun _ => h⟩⟩⟩
theorem thr_c0 (hF : HF_ G P V0) (hn : ¬ T3_ P a b c) (h : Q 0 G) : wp_X9_areThree a b c G Q := by
  refine per_c hF (fun i hi ea => ⟨fun z => absurd z (by decide), fun _ => per_c hF (fun j hj eb => ⟨fun z => absurd z (by decide), fun _ => per_c hF (fun k hk ec => ⟨fun z => absurd z (by decide), fun _ => ?_⟩) (fun _ => ⟨fun _ => h, fun z => absurd rfl z⟩)⟩) (fun _ => ⟨fun _ => h, fun z => absurd rfl z⟩)⟩) (fun _ => ⟨fun _ => h, fun z => absurd rfl z⟩)
  refine ⟨fun _ => h, fun z1 => ⟨fun _ => h, fun z2 => ⟨fun _ => h, fun z3 => absurd ⟨i, j, k, hi, hj, hk, ea, eb, ec, ?_, ?_, ?_⟩ hn⟩⟩⟩
  · intro e; exact z1 (by rw [ea, eb, e])
  · intro e; exact z2 (by rw [ea, ec, e])
  · intro e; exact z3 (by rw [eb, ec, e])
theorem thr_r0 (hF : HF_ G P V0) (hn : ¬ T3_ P a b c) (h : Q 0 G) : wp_X10_areThree a b c G Q := by
  refine per_r hF (fun i hi ea => ⟨fun z => absurd z (by decide), fun _ => per_r hF (fun j hj eb => ⟨fun z => absurd z (by decide), fun _ => per_r hF (fun k hk ec => ⟨fun z => absurd z (by decide), fun _ => ?_⟩) (fun _ => ⟨fun _ => h, fun z => absurd rfl z⟩)⟩) (fun _ => ⟨fun _ => h, fun z => absurd rfl z⟩)⟩) (fun _ => ⟨fun _ => h, fun z => absurd rfl z⟩)
  refine ⟨fun _ => h, fun z1 => ⟨fun _ => h, fun z2 => ⟨fun _ => h, fun z3 => absurd ⟨i, j, k, hi, hj, hk, ea, eb, ec, ?_, ?_, ?_⟩ hn⟩⟩⟩
  · intro e; exact z1 (by rw [ea, eb, e])
  · intro e; exact z2 (by rw [ea, ec, e])
  · intro e; exact z3 (by rw [eb, ec, e])
theorem hne_ {h : Nat} (hh : h ≤ 61) : (nI h - 1 = (-1 : Int32)) ↔ h = 0 := (by decide +kernel : ∀ h : Nat, h < 62 → ((nI h - 1 = (-1 : Int32)) ↔ h = 0)) h (by omega)
/-- the reference's hum of one who is there -/
theorem hu_r (hF : HF_ G P V0) {i : Nat} (hi : i < P) (h : Q (nI (hm_ G i) - 1) G) : wp_X10_humOf (nI i) G Q := ho_ (by have := hF.1; omega) (hF.2.2.2.1 i (by have := hF.1; omega)).2.1 h
theorem hm61 (hF : HF_ G P V0) {i : Nat} (hi : i < P) : hm_ G i ≤ 61 := (hF.2.2.2.1 i (by have := hF.1; omega)).1
end PER
section ST7
variable {G : GS} {K : Int32 → Int32 → GS → Prop}
set_option maxHeartbeats 2000000 in
theorem st_hears (a b c : Int32) (hI : Inv G) (hK : ∀ r G2, Inv G2 → K r r G2) : wp_X9_hears a b c G (fun r G1 => wp_X10_hears a b c G1 (fun r' G2 => K r r' G2)) := by
  obtain ⟨P, V, hF⟩ := hf_of hI.1
  have hF1 : HF_ (gu_ G 49 0 0) P V := hF
  have hN : Inv (gu_ G 49 0 0) := hI.sc (Sc.rf G).t0
  by_cases hT : T3_ P a b c
  · obtain ⟨i, j, k, hi, hj, hk, rfl, rfl, rfl, n1, n2, n3⟩ := hT
    refine thr_c1 hF hi hj hk n1 n2 n3 ⟨fun z => absurd z (by decide), fun _ => ?_⟩
    have hV := hF.2.2.2.2.2.2.1
    refine hh_ hF hj (fun hb => ⟨fun z => absurd z (by decide), fun _ => ?_⟩) (fun hb => ⟨fun _ => ?_, fun z => absurd rfl z⟩)
    · refine hh_ hF hk (fun hc => ⟨fun _ => ?_, fun z => absurd z (by decide)⟩) (fun hc => ⟨fun z => absurd rfl z, fun _ => ?_⟩)
      · rw [hV.2.1]
        refine hnw_c hF hi hj hk hV.1 (fun c f => ?_)
        have fin : ∀ r : Int32, hn_ G i V j k = r → wp_X10_hears (nI i) (nI j) (nI k) (eS G c f) (fun r' G2 => K r r' G2) := by
          intro r er
          have hF2 : HF_ (gu_ (eS G c f) 49 0 0) P V := hF
          refine thr_r1 hF2 hi hj hk n1 n2 n3 ⟨fun z => absurd z (by decide), fun _ => ?_⟩
          refine hu_r hF2 hj ⟨fun z => absurd ((hne_ (hm61 hF hj)).mp z) hb, fun _ => ?_⟩
          refine hu_r hF2 hk ⟨fun _ => ?_, fun z => absurd ((hne_ (hm61 hF hk)).mp z) hc⟩
          have e5 : (gu_ (eS G c f) 49 0 0) 49 5 = nI V := hV.2.2.1
          rw [e5]
          refine hnw_r hF2 hi hj hk hV.1 (fun c' f' => ?_)
          have er2 : hn_ (gu_ (eS G c f) 49 0 0) i V j k = r := er
          rw [er2]
          have hI2 : Inv (rS (gu_ (eS G c f) 49 0 0) c' f') := hI.sc ((((Sc.rf G).eS c f).t0).rS c' f')
          rcases hv_01 G i j k V (hm_ G j) (hm_ G k) with h01 | h01
          · have : r = 0 := er.symm.trans h01
            subst this
            exact ⟨fun _ => hK _ _ hI2, fun z => absurd rfl z⟩
          · have : r = 1 := er.symm.trans h01
            subst this
            exact ⟨fun z => absurd z (by decide), fun _ => hK _ _ hI2⟩
        refine ⟨fun z => fin 0 z, fun z => fin 1 ((hv_01 G i j k V (hm_ G j) (hm_ G k)).resolve_left z)⟩
      · refine thr_r1 hF1 hi hj hk n1 n2 n3 ⟨fun z => absurd z (by decide), fun _ => ?_⟩
        refine hu_r hF1 hj ⟨fun z => absurd ((hne_ (hm61 hF hj)).mp z) hb, fun _ => ?_⟩
        refine hu_r hF1 hk ⟨fun z => absurd ((hne_ (hm61 hF hk)).mpr hc) z, fun _ => hK _ _ hN⟩
    · refine thr_r1 hF1 hi hj hk n1 n2 n3 ⟨fun z => absurd z (by decide), fun _ => ?_⟩
      refine hu_r hF1 hj ⟨fun _ => hK _ _ hN, fun z => absurd ((hne_ (hm61 hF hj)).mpr hb) z⟩
  · refine thr_c0 hF hT ⟨fun _ => ?_, fun z => absurd rfl z⟩
    exact thr_r0 hF1 hT ⟨fun _ => hK _ _ hN, fun z => absurd rfl z⟩
end ST7
