/-! the world after a speaking, after hours -/
theorem WR_.cg1 {c c' : GS} {s s' : Nat → Int32} {f f' : Nat → Nat → Int32} (h : WR_ c s f) (hc : ∀ k, 1 ≤ k → k < 14 → c' k = c k) (hs : ∀ k, s' k = s k) (hf : ∀ k, f' k = f k) : WR_ c' s' f' := by
  have e1 : s' = s := funext hs
  have e2 : f' = f := funext hf
  subst e1 e2
  unfold WR_ at h ⊢
  rw [hc 1 (by omega) (by omega), hc 2 (by omega) (by omega), hc 3 (by omega) (by omega), hc 4 (by omega) (by omega), hc 5 (by omega) (by omega), hc 6 (by omega) (by omega), hc 7 (by omega) (by omega), hc 8 (by omega) (by omega), hc 9 (by omega) (by omega), hc 10 (by omega) (by omega), hc 11 (by omega) (by omega), hc 12 (by omega) (by omega), hc 13 (by omega) (by omega)]
  exact h
def ch_ : List Nat := [1, 2, 12, 13, 27, 28, 29, 30, 31, 50, 51, 53]
theorem Inv_mk {G G2 : GS} {V m o nx T : Nat} {eh : Nat → Nat → Nat} {ed : Nat → Int32} {eo eb : Nat → Nat} {h : Nat → Nat} (hI : Inv G) (hV : V < 1024) (hVe : G 49 5 = nI V) (k1 : ∀ j, j ≠ 0 → j ≠ 6 → G2 1 j = G 1 j) (kk : ∀ k, k ∈ kpc_ → k ∉ ch_ → G2 k = G k) (k49 : ∀ j, j ∈ jl_ → j ≠ 3 → G2 49 j = G 49 j)
    (hb : HB_ V h) (c2 : ∀ i, i < 10 → G2 2 i = nI (h i) - 1) (c50 : ∀ i, i < 10 → G2 50 i = nI (h i)) (cd : G2 1 0 = G2 50 12) (co : G2 1 6 = nI o) (ro : G2 50 11 = nI o) (ho : o ≤ 9999) (hH : RH_ (G2 12 0) (G2 50 10) (G2 13) (G2 53)) (cm : G2 12 0 = nI m) (hm : m ≤ 100)
    (hc : CR_ (G2 27 0) (G2 27 1) (G2 28) (G2 29) (G2 30) (G2 31) nx T eh ed eo eb) (hr : RR_ (G2 49 3) (G2 51) T eh ed eo eb) (hg : GD_ V T m eh eo eb) : Inv G2 := by
  obtain ⟨⟨hA, hB, hC, hD, hE, hF, hG, -, hIt, hJ, hK, hL, hVH⟩, hT, hfa, -, hIm, h55, -⟩ := hI
  have q : ∀ k, k < 33 → k ∉ ch_ → G2 k = G k := fun k hk hn => kk k ((by decide : ∀ k, k < 33 → k ∈ kpc_) k hk) hn
  have ru := RU_of hc hr hg cm hm hV
  have v5 : G2 49 5 = nI V := (k49 5 (by decide) (by decide)).trans hVe
  refine ⟨⟨?_, ?_, ?_, ⟨o, ho, co, ro⟩, cd, fun i hi => ⟨h i, (hb i hi).1, c50 i hi, c2 i hi⟩, ?_, hH, ?_, ?_, ?_, ?_, ?_⟩, ?_, ?_, ru.1, ?_, ?_, ?_⟩
  · show RA_ (G2 1 1) (G2 49 4)
    rw [k1 1 (by decide) (by decide), k49 4 (by decide) (by decide)]; exact hA
  · show RB_ (G2 1 4) (G2 49 5)
    rw [k1 4 (by decide) (by decide), k49 5 (by decide) (by decide)]; exact hB
  · show RC_ (G2 1 5) (G2 49 7)
    rw [k1 5 (by decide) (by decide), k49 7 (by decide) (by decide)]; exact hC
  · show RG_ (G2 1 1) (G2 3) (G2 52)
    rw [k1 1 (by decide) (by decide), q 3 (by omega) (by decide), kk 52 (by decide) (by decide)]; exact hG
  · show RI_ (G2 5) (G2 4) (G2 65) (G2 66)
    rw [q 5 (by omega) (by decide), q 4 (by omega) (by decide), kk 65 (by decide) (by decide), kk 66 (by decide) (by decide)]; exact hIt
  · show RJ_ (G2 1 1) (G2 1 9) (G2 49 35) (G2 6) (G2 7) (G2 67) (G2 68)
    rw [k1 1 (by decide) (by decide), k1 9 (by decide) (by decide), k49 35 (by decide) (by decide), q 6 (by omega) (by decide), q 7 (by omega) (by decide), kk 67 (by decide) (by decide), kk 68 (by decide) (by decide)]; exact hJ
  · show RK_ (G2 1 12) (G2 49 39) (G2 8) (G2 70)
    rw [k1 12 (by decide) (by decide), k49 39 (by decide) (by decide), q 8 (by omega) (by decide), kk 70 (by decide) (by decide)]; exact hK
  · show RL_ (G2 9 0) (G2 49 16) (G2 9 3) (G2 9 1) (G2 10) (G2 11) (G2 56) (G2 57) (G2 58) (G2 59) (G2 60)
    rw [k49 16 (by decide) (by decide), q 9 (by omega) (by decide), q 10 (by omega) (by decide), q 11 (by omega) (by decide), kk 56 (by decide) (by decide), kk 57 (by decide) (by decide), kk 58 (by decide) (by decide), kk 59 (by decide) (by decide), kk 60 (by decide) (by decide)]; exact hL
  · intro i hi hbt
    have hbt : (G2 49 5).toNatClampNeg.testBit i = true := hbt
    show nI i < G2 49 4 ∧ G2 50 i ≠ 0
    rw [v5, nI_clamp (by omega)] at hbt
    rw [k49 4 (by decide) (by decide), c50 i hi]
    refine ⟨(hVH i hi ?_).1, nI_ne0 (by have := (hb i hi).2 hbt; omega) (by have := (hb i hi).1; omega)⟩
    show (G 49 5).toNatClampNeg.testBit i = true
    rw [hVe, nI_clamp (by omega)]; exact hbt
  · rw [q 0 (by omega) (by decide), q 32 (by omega) (by decide), kk 54 (by decide) (by decide), k49 10 (by decide) (by decide)]; exact hT
  · rw [q 0 (by omega) (by decide), k49 28 (by decide) (by decide), k49 29 (by decide) (by decide)]; exact hfa
  · rw [q 0 (by omega) (by decide), k49 45 (by decide) (by decide), kk 74 (by decide) (by decide)]
    rcases hIm with a5 | ⟨b1, b2, b3⟩
    · exact Or.inl a5
    · refine Or.inr ⟨b1, b2, b3.cg1 (fun k h1 h2 => q (k + 13) (by omega) ?_) (fun _ => rfl) (fun _ => rfl)⟩
      exact (by decide : ∀ k, k < 14 → 1 ≤ k → k + 13 ∉ ch_) k h2 h1
  · rw [kk 55 (by decide) (by decide)]; exact h55
  · rw [v5]; exact ru.2
/-! hours -/
abbrev HS : Type := Nat × Nat × (Nat → Nat → Nat) × (Nat → Int32) × (Nat → Nat) × (Nat → Nat) × Int32 × (Nat → Nat) × Nat × Nat
def hz_ (V S P m : Nat) (s : HS) : HS :=
  ((s.1 + 1) % 8, s.2.1 + 1, at_ s.2.1 s.2.2.2.2.2.2.2.1 s.2.2.1, at_ s.2.1 s.2.2.2.2.2.2.1 s.2.2.2.1, at_ s.2.1 s.2.2.2.2.2.2.2.2.1 s.2.2.2.2.1, at_ s.2.1 m s.2.2.2.2.2.1, (slp_ V S P 0 s.2.2.2.2.2.2.1 s.2.2.2.2.2.2.2.1 0).1, (slp_ V S P 0 s.2.2.2.2.2.2.1 s.2.2.2.2.2.2.2.1 0).2.1, s.2.2.2.2.2.2.2.2.1 + 1, s.2.2.2.2.2.2.2.2.2 + (slp_ V S P 0 s.2.2.2.2.2.2.1 s.2.2.2.2.2.2.2.1 0).2.2)
def hzn_ (V S P m : Nat) : Nat → HS → HS
  | 0, s => s
  | n + 1, s => hzn_ V S P m n (hz_ V S P m s)
def HC_ (G : GS) (s : HS) : Prop := CR_ (G 27 0) (G 27 1) (G 28) (G 29) (G 30) (G 31) s.1 s.2.1 s.2.2.1 s.2.2.2.1 s.2.2.2.2.1 s.2.2.2.2.2.1 ∧ G 1 0 = s.2.2.2.2.2.2.1 ∧ (∀ i, i < 10 → G 2 i = nI (s.2.2.2.2.2.2.2.1 i) - 1) ∧ G 1 6 = nI s.2.2.2.2.2.2.2.2.1
def HR_ (G : GS) (s : HS) : Prop := RR_ (G 49 3) (G 51) s.2.1 s.2.2.1 s.2.2.2.1 s.2.2.2.2.1 s.2.2.2.2.2.1 ∧ G 50 12 = s.2.2.2.2.2.2.1 ∧ (∀ i, i < 10 → G 50 i = nI (s.2.2.2.2.2.2.2.1 i)) ∧ G 50 11 = nI s.2.2.2.2.2.2.2.2.1
def HG_ (V m : Nat) (s : HS) : Prop := GD_ V s.2.1 m s.2.2.1 s.2.2.2.2.1 s.2.2.2.2.2.1 ∧ HB_ V s.2.2.2.2.2.2.2.1
theorem HG_s {V S P m : Nat} {s : HS} (h : HG_ V m s) (ho : s.2.2.2.2.2.2.2.2.1 ≤ 9999) : HG_ V m (hz_ V S P m s) := ⟨GD_k h.1 h.2 ho, (slp_b _ _ _ _ _ h.2).1⟩
def cl_ : List Nat := [1, 2, 27, 28, 29, 30, 31]
section HO2
variable {Q : Int32 → GS → Prop} {G : GS} {V S P m N : Nat} {s1 : HS}
set_option maxHeartbeats 2000000 in
theorem hou_c (hP : P ≤ 10) (hV : V < 1024) (hS : S ≤ 1000) (hN : N ≤ 100) (e1 : G 1 1 = nI P) (e4 : G 1 4 = nI V) (e5 : G 1 5 = nI S) (em : G 12 0 = nI m)
    (hQ : ∀ G', FR cl_ G G' → (∀ j, j ≠ 0 → j ≠ 6 → G' 1 j = G 1 j) → HC_ G' s1 → Q (nI s1.2.2.2.2.2.2.2.2.2) G') :
    ∀ (r i : Nat) (s : HS) (G' : GS), i + r = N → FR cl_ G G' → (∀ j, j ≠ 0 → j ≠ 6 → G' 1 j = G 1 j) → HC_ G' s → HG_ V m s → s.2.2.2.2.2.2.2.2.1 + r ≤ 9999 → hzn_ V S P m r s = s1 → lp_X9_hours_32 Q (r + 1) (nI N) (nI s.2.2.2.2.2.2.2.2.2) (nI i) G' := by
  intro r
  induction r with
  | zero =>
    intro i s G' hi f1 f2 hc hg ho hs
    have hs : s = s1 := hs
    subst hs
    refine ⟨fun _ => hQ G' f1 f2 hc, fun z => absurd ?_ z⟩
    rw [show i = N by omega]; exact Int32.le_refl _
  | succ r ih =>
    intro i s G' hi f1 f2 hc hg ho hs
    refine ⟨fun z => absurd z (nI_ge (by omega) (by omega)), fun _ => ?_⟩
    obtain ⟨c1, c2, c3, c4⟩ := hc
    refine kee_c (m := m) c1 c3 c2 c4 (by rw [f1 12 (by decide)]; exact em) (fun G2 g1 g2 => ?_)
    have a1 : G2 1 = G' 1 := g1 1 (by decide)
    have a2 : G2 2 = G' 2 := g1 2 (by decide)
    refine pas_c (h := s.2.2.2.2.2.2.2.1) hP hV hS (by rw [a1, f2 1 (by decide) (by decide)]; exact e1) (by rw [a1, f2 4 (by decide) (by decide)]; exact e4) (by rw [a1, f2 5 (by decide) (by decide)]; exact e5) (by rw [a2]; exact c3) hg.2 (fun G3 b1 b2 b3 b4 b5 => ?_)
    rw [a1, c2] at b4 b5
    have e0 : G2 1 0 = s.2.2.2.2.2.2.1 := by rw [a1]; exact c2
    rw [e0, nI_add, nI_1]
    refine ih (i + 1) (hz_ V S P m s) G3 (by omega) ?_ ?_ ⟨?_, b4, b5, ?_⟩ (HG_s hg (by omega)) ?_ hs
    · exact (f1.tr (g1.sub (by decide))).tr (b1.sub (by decide))
    · intro j j0 j6
      rw [b2 j j0 j6, a1]; exact f2 j j0 j6
    · rw [b1 27 (by decide), b1 28 (by decide), b1 29 (by decide), b1 30 (by decide), b1 31 (by decide)]; exact g2
    · rw [b3, a1, c4, nI_1]; rfl
    · show s.2.2.2.2.2.2.2.2.1 + 1 + r ≤ 9999
      omega
set_option maxHeartbeats 2000000 in
theorem hou_r (hP : P ≤ 10) (hV : V < 1024) (hS : S ≤ 1000) (hN : N ≤ 100) (e1 : G 49 4 = nI P) (e4 : G 49 5 = nI V) (e5 : G 49 7 = nI S) (em : G 50 10 = nI m)
    (hQ : ∀ G', FR [49, 50, 51] G G' → (∀ j, j ≠ 3 → G' 49 j = G 49 j) → G' 50 10 = G 50 10 → HR_ G' s1 → Q (nI s1.2.2.2.2.2.2.2.2.2) G') :
    ∀ (r i : Nat) (s : HS) (G' : GS), i + r = N → FR [49, 50, 51] G G' → (∀ j, j ≠ 3 → G' 49 j = G 49 j) → G' 50 10 = G 50 10 → HR_ G' s → HG_ V m s → s.2.2.2.2.2.2.2.2.1 + r ≤ 9999 → hzn_ V S P m r s = s1 → lp_X10_hours_37 Q (r + 1) (nI N) (nI s.2.2.2.2.2.2.2.2.2) (nI i) G' := by
  intro r
  induction r with
  | zero =>
    intro i s G' hi f1 f2 f3 hc hg ho hs
    have hs : s = s1 := hs
    subst hs
    refine ⟨fun _ => hQ G' f1 f2 f3 hc, fun z => absurd ?_ z⟩
    rw [show i = N by omega]; exact Int32.le_refl _
  | succ r ih =>
    intro i s G' hi f1 f2 f3 hc hg ho hs
    refine ⟨fun z => absurd z (nI_ge (by omega) (by omega)), fun _ => ?_⟩
    obtain ⟨c1, c2, c3, c4⟩ := hc
    refine kee_r (m := m) c1 c3 c2 c4 (by rw [f3]; exact em) (fun G2 g1 g2 g3 => ?_)
    have a1 : G2 50 = G' 50 := g1 50 (by decide)
    refine pas_r (h := s.2.2.2.2.2.2.2.1) hP hV hS (by rw [g2 4 (by decide), f2 4 (by decide)]; exact e1) (by rw [g2 5 (by decide), f2 5 (by decide)]; exact e4) (by rw [g2 7 (by decide), f2 7 (by decide)]; exact e5) (by rw [a1]; exact c3) hg.2 (fun G3 b1 b2 b3 b4 b5 => ?_)
    rw [a1, c2] at b4 b5
    have e0 : G2 50 12 = s.2.2.2.2.2.2.1 := by rw [a1]; exact c2
    rw [e0, nI_add, nI_1]
    refine ih (i + 1) (hz_ V S P m s) G3 (by omega) ?_ ?_ ?_ ⟨?_, b4, b5, ?_⟩ (HG_s hg (by omega)) ?_ hs
    · exact (f1.tr (g1.sub (by decide))).tr (b1.sub (by decide))
    · intro j j0
      rw [b1 49 (by decide), g2 j j0]; exact f2 j j0
    · rw [b2, a1]; exact f3
    · rw [b1 49 (by decide), b1 51 (by decide)]; exact g3
    · rw [b3, a1, c4, nI_1]; rfl
    · show s.2.2.2.2.2.2.2.2.1 + 1 + r ≤ 9999
      omega
end HO2
section STH
variable {G : GS} {K : Int32 → Int32 → GS → Prop}
set_option maxHeartbeats 2000000 in
theorem st_hours (a : Int32) (hI : Inv G) (hK : ∀ r G2, Inv G2 → K r r G2) : wp_X9_hours a G (fun r G1 => wp_X10_hours a G1 (fun r' G2 => K r r' G2)) := by
  have hN : Inv (gu_ G 49 0 0) := hI.sc (Sc.rf G).t0
  obtain ⟨P, V, hF⟩ := hf_of hI.1
  have hI' := hI
  obtain ⟨⟨hA, hB, ⟨S, hS, s1, s2⟩, hD, hE, hFF, hG, ⟨m, hm, m1, m2, hbk⟩, hrest⟩, hT, hfa, hU, hIm, h55, hUV⟩ := hI'
  obtain ⟨hP, p1, p2, hmm, hld, ⟨o1, o2, o3⟩, ⟨hV, v1, v2, vh⟩, -⟩ := hF
  have hE : G 1 0 = G 50 12 := hE
  have s2 : G 49 7 = nI S := s2
  have m2 : G 50 10 = nI m := m2
  rw [v2] at hUV
  obtain ⟨nx, T, eh, ed, eo, eb, q1, q2, q3⟩ := RU_to hU m1 hm hUV hV
  have bad : ∀ b : Prop, ((a < 1 ∨ 100 < a) ∨ ¬ nI (hm_ G 11) + a ≤ 9999) → wp_X10_hours a G (fun r' G2 => K (-1) r' G2) := by
    intro _ hb
    refine isin_ (fun y1 y2 => ⟨fun z => absurd z (by decide), fun _ => ?_⟩) (fun _ => ⟨fun _ => hK _ _ hN, fun z => absurd rfl z⟩)
    have e11 : (gu_ G 49 0 0) 50 11 = nI (hm_ G 11) := o2
    rw [e11]
    exact ⟨fun z => absurd hb (fun y => y.elim (fun y => y.elim y1 y2) (fun y => y z)), fun _ => hK _ _ hN⟩
  unfold wp_X9_hours
  rw [o3]
  refine ⟨fun z => bad True (Or.inl (Or.inl z)), fun y1 => ⟨fun z => bad True (Or.inl (Or.inr z)), fun y2 => ⟨fun y3 => ?_, fun z => bad True (Or.inr z)⟩⟩⟩
  obtain ⟨N, hN100, rfl⟩ := nI_of2 (M := 100) (n := 100) (by decide) (fun z => y1 (Int32.lt_trans z (by decide))) (Int32.not_lt.mp y2)
  have y3' := y3
  rw [nI_add] at y3
  have ho : hm_ G 11 + N ≤ 9999 := (nI_leI (b := 9999) (by omega) (by omega)).mp y3
  have hbb : HB_ V (hm_ G) := fun i hi => ⟨(hmm i hi).1, fun hb => (vh i hi hb).2⟩
  have hg0 : HG_ V m (nx, T, eh, ed, eo, eb, G 1 0, hm_ G, hm_ G 11, 0) := ⟨q3, hbb⟩
  refine ⟨N + 1, ?_⟩
  refine hou_c (s1 := hzn_ V S P m N (nx, T, eh, ed, eo, eb, G 1 0, hm_ G, hm_ G 11, 0)) hP hV hS hN100 p1 v1 s1 m1 (fun G1 f1 f2 f3 => ?_) N 0 (nx, T, eh, ed, eo, eb, G 1 0, hm_ G, hm_ G 11, 0) G (by omega) (FR.rf _ _) (fun _ _ _ => rfl) ⟨q1, rfl, fun i hi => (hmm i hi).2.2, o3⟩ hg0 ho rfl
  have x49 : G1 49 = G 49 := f1 49 (by decide)
  have x50 : G1 50 = G 50 := f1 50 (by decide)
  have x51 : G1 51 = G 51 := f1 51 (by decide)
  have z49 : ∀ j, j ≠ 0 → (gu_ G1 49 0 0) 49 j = G 49 j := fun j hj => by
    show upd (G1 49) 0 0 j = _
    rw [up_miss _ _ hj, x49]
  have z50 : (gu_ G1 49 0 0) 50 = G 50 := x50
  have z51 : (gu_ G1 49 0 0) 51 = G 51 := x51
  refine isin_ (fun _ _ => ⟨fun z => absurd z (by decide), fun _ => ⟨fun _ => ⟨N + 1, ?_⟩, fun z => absurd ?_ z⟩⟩) (fun z => absurd z (fun z => z.elim y1 y2))
  · refine hou_r (G := gu_ G1 49 0 0) (s1 := hzn_ V S P m N (nx, T, eh, ed, eo, eb, G 1 0, hm_ G, hm_ G 11, 0)) hP hV hS hN100 ((z49 4 (by decide)).trans p2) ((z49 5 (by decide)).trans v2) ((z49 7 (by decide)).trans s2) (by rw [z50]; exact m2) (fun G2 g1 g2 g3 g4 => ?_) N 0 (nx, T, eh, ed, eo, eb, G 1 0, hm_ G, hm_ G 11, 0) _ (by omega) (FR.rf _ _) (fun _ _ => rfl) rfl ⟨by rw [z49 3 (by decide), z51]; exact q2, by rw [z50]; exact hE.symm, by rw [z50]; exact fun i hi => (hmm i hi).2.1, by rw [z50]; exact o2⟩ hg0 ho rfl
    have gn : ∀ n (s : HS), HG_ V m s → s.2.2.2.2.2.2.2.2.1 + n ≤ 9999 → HG_ V m (hzn_ V S P m n s) ∧ (hzn_ V S P m n s).2.2.2.2.2.2.2.2.1 = s.2.2.2.2.2.2.2.2.1 + n := by
      intro n
      induction n with
      | zero => intro s h _; exact ⟨h, rfl⟩
      | succ n ih =>
        intro s h ho
        have := ih (hz_ V S P m s) (HG_s h (by omega)) (by show s.2.2.2.2.2.2.2.2.1 + 1 + n ≤ 9999; omega)
        refine ⟨this.1, this.2.trans ?_⟩
        show s.2.2.2.2.2.2.2.2.1 + 1 + n = _
        omega
    have hgn := gn N _ hg0 ho
    refine hK _ _ (Inv_mk (V := V) (m := m) (nx := (hzn_ V S P m N (nx, T, eh, ed, eo, eb, G 1 0, hm_ G, hm_ G 11, 0)).1) (o := (hzn_ V S P m N (nx, T, eh, ed, eo, eb, G 1 0, hm_ G, hm_ G 11, 0)).2.2.2.2.2.2.2.2.1) hI hV v2 ?_ ?_ ?_ hgn.1.2 ?_ g4.2.2.1 ?_ ?_ g4.2.2.2 ?_ ?_ ?_ hm ?_ g4.1 hgn.1.1)
    · intro j j0 j6
      rw [g1 1 (by decide)]; exact f2 j j0 j6
    · intro k hk hc
      have hk2 : k ∉ [49, 50, 51] := fun z => (by decide : ∀ k ∈ [49, 50, 51], k ∈ kpc_ → k ∉ ch_ → False) k z hk hc
      have hk3 : k ∉ cl_ := fun z => (by decide : ∀ k ∈ cl_, k ∉ ch_ → False) k z hc
      rw [g1 k hk2]
      show gf_ G1 49 _ k = _
      rw [gf_ne _ _ (fun e => hk2 (by rw [e]; decide))]
      exact f1 k hk3
    · intro j hj j3
      rw [g2 j j3]
      exact z49 j ((by decide : ∀ j ∈ jl_, j ≠ 0) j hj)
    · rw [g1 2 (by decide)]; exact f3.2.2.1
    · rw [g4.2.1, g1 1 (by decide)]; exact f3.2.1
    · rw [g1 1 (by decide)]; exact f3.2.2.2
    · rw [hgn.2]; exact ho
    · rw [g3, z50, g1 12 (by decide), g1 13 (by decide), g1 53 (by decide)]
      show RH_ (G1 12 0) (G 50 10) (G1 13) (G1 53)
      rw [f1 12 (by decide), f1 13 (by decide), f1 53 (by decide)]
      exact ⟨m, hm, m1, m2, hbk⟩
    · rw [g1 12 (by decide)]
      show G1 12 0 = _
      rw [f1 12 (by decide)]; exact m1
    · rw [g1 27 (by decide), g1 28 (by decide), g1 29 (by decide), g1 30 (by decide), g1 31 (by decide)]; exact f3.1
  · rw [z50, o2]; exact y3'
end STH
