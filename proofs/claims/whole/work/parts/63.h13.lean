/-! a speaking -/
def hl_ : List Nat := [1, 2, 3, 9, 10, 11, 50, 52, 56, 57, 58, 59, 60]
theorem HF_.cg {G G' : GS} {P V : Nat} (h : ∀ k, k ∈ hl_ → G' k = G k) (h49 : ∀ j, j ∈ [4, 5, 16] → G' 49 j = G 49 j) (hF : HF_ G P V) : HF_ G' P V := by
  unfold HF_ hm_ ld_ LL_ at *
  rw [h 1 (by decide), h 2 (by decide), h 3 (by decide), h 9 (by decide), h 10 (by decide), h 11 (by decide), h 50 (by decide), h 52 (by decide), h 56 (by decide), h 57 (by decide), h 58 (by decide), h 59 (by decide), h 60 (by decide), h49 4 (by decide), h49 5 (by decide), h49 16 (by decide)]
  exact hF
theorem hv_cg {G G' : GS} (h : ∀ k, k ∈ hl_ → G' k = G k) (h49 : ∀ j, j ∈ [4, 5, 16] → G' 49 j = G 49 j) (q a b V X Y : Nat) : hv_ G' q a b V X Y = hv_ G q a b V X Y := by
  unfold hv_ hm_ ld_
  rw [h 50 (by decide), h 52 (by decide), h 56 (by decide), h 57 (by decide), h 58 (by decide), h 59 (by decide), h 60 (by decide), h49 16 (by decide)]
theorem hm_cg {G G' : GS} (h : ∀ k, k ∈ hl_ → G' k = G k) (i : Nat) : hm_ G' i = hm_ G i := by unfold hm_; rw [h 50 (by decide)]
theorem hn_cg {G G' : GS} (h : ∀ k, k ∈ hl_ → G' k = G k) (h49 : ∀ j, j ∈ [4, 5, 16] → G' 49 j = G 49 j) (q V a b : Nat) : hn_ G' q V a b = hn_ G q V a b := by
  unfold hn_
  rw [hv_cg h h49, hm_cg h, hm_cg h]
/-- the set of those who hear -/
def hr_ (G : GS) (V a b : Nat) : Nat → Nat → Int32 → Int32
  | 0, _, x => x
  | r + 1, i, x => hr_ G V a b r (i + 1) (if i ≠ a ∧ i ≠ b ∧ hn_ G i V a b = 1 then x ||| ((1 : Int32) <<< (nI i &&& 31)) else x)
theorem hr_cg {G G' : GS} (h : ∀ k, k ∈ hl_ → G' k = G k) (h49 : ∀ j, j ∈ [4, 5, 16] → G' 49 j = G 49 j) (V a b : Nat) : ∀ r i x, hr_ G' V a b r i x = hr_ G V a b r i x
  | 0, _, _ => rfl
  | r + 1, i, x => by
    unfold hr_
    rw [hr_cg h h49 V a b r, hn_cg h h49]
def S2_ (G : GS) (P : Nat) (a b : Int32) : Prop := ∃ i j, i < P ∧ j < P ∧ a = nI i ∧ b = nI j ∧ i ≠ j ∧ hm_ G i ≠ 0 ∧ hm_ G j ≠ 0
section SPK
variable {Q : Int32 → GS → Prop} {G : GS} {P V a b : Nat}
theorem her_c (hF : HF_ G P V) (ha : a < P) (hb : b < P) (h : ∀ c f, Q (hr_ G V a b P 0 0) (eS G c f)) : wp_X2_hearersOf (nI a) (nI b) G Q := by
  have hP := hF.1
  have p1 := hF.2.1
  have hm := hF.2.2.2.1
  have hV := hF.2.2.2.2.2.2.1
  have hX := (hm a (by omega)).1
  have hY := (hm b (by omega)).1
  have key : ∀ (r i : Nat) (x : Int32) (c f : Nat → Int32), AT_ G a b (hm_ G a) (hm_ G b) c → i + r = P → hr_ G V a b r i x = hr_ G V a b P 0 0 → lp_X2_hearersOf_25 Q (r + 1) x (nI i) (eS G c f) := by
    intro r
    induction r with
    | zero =>
      intro i x c f hA hi hx
      have hx : x = hr_ G V a b P 0 0 := hx
      refine ⟨fun _ => by rw [hx]; exact h c f, fun z => absurd ?_ z⟩
      show G 1 1 ≤ nI i
      rw [p1, show i = P by omega]; exact Int32.le_refl _
    | succ r ih =>
      intro i x c f hA hi hx
      have go : ∀ c f, AT_ G a b (hm_ G a) (hm_ G b) c → ¬ (i ≠ a ∧ i ≠ b ∧ hn_ G i V a b = 1) → lp_X2_hearersOf_25 Q (r + 1) x (nI i + 1) (eS G c f) := by
        intro c f hA2 hn
        rw [nI_1]
        refine ih (i + 1) x c f hA2 (by omega) ?_
        rw [← hx]
        conv => rhs; unfold hr_
        rw [if_neg hn]
      refine ⟨fun z => absurd z ?_, fun _ => ?_⟩
      · show ¬ G 1 1 ≤ nI i
        rw [p1]; exact nI_ge (by omega) (by omega)
      refine sin_c (G := eS G c f) (a := a) (b := b) (X := hm_ G a) (Y := hm_ G b) hA (by omega) (by omega) (by omega) (fun e => ⟨fun _ => go c f hA (fun n => e.elim n.1 n.2.1), fun z => absurd z (by decide)⟩) (fun ne => ⟨fun z => absurd rfl z, fun _ => ?_⟩)
      have e4 : (eS G c f) 1 4 = nI V := hV.2.1
      rw [e4]
      refine ht_c (G := eS G c f) (a := a) (b := b) (X := hm_ G a) (Y := hm_ G b) hF hA (by omega) ha hb hV.1 hX hY (fun c' f' hA2 => ?_)
      have es : gf_ (gf_ (eS G c f) 38 c') 39 f' = eS G c' f' := eS_eS G c f c' f'
      rw [es]
      refine ⟨fun y => go c' f' hA2 (fun n => absurd (n.2.2.symm.trans y) (by decide)), fun y => ?_⟩
      have h1 : hn_ G i V a b = 1 := (hv_01 G i a b V _ _).resolve_left y
      rw [nI_1]
      refine ih (i + 1) _ c' f' hA2 (by omega) ?_
      rw [← hx]
      conv => rhs; unfold hr_
      rw [if_pos ⟨fun z => ne (Or.inl z), fun z => ne (Or.inr z), h1⟩]
  obtain ⟨-, -, -, f4, f5, -⟩ := pf_ ha hP
  obtain ⟨-, -, -, f6, f7, -⟩ := pf_ hb hP
  refine ⟨f4, f6, ?_⟩
  rw [f5, f7, (hm a (by omega)).2.2, (hm b (by omega)).2.2]
  refine at_c hF ha hb hX hY (fun d hA => ⟨P + 1, ?_⟩)
  have := key P 0 0 d (G 39) hA (by omega) rfl
  have e9 : eS G d (G 39) = gf_ G 38 d := by
    unfold eS
    exact gf_id (gf_ G 38 d) 39
  rw [e9] at this
  exact this
theorem her_r (hF : HF_ G P V) (ha : a < P) (hb : b < P) (h : ∀ c f, wp_X10_notes (nI a) (nI b) (hr_ G V a b P 0 0) (rS G c f) (fun _ G12 => Q (hr_ G V a b P 0 0) G12)) : ∃ kf, lp_X10_speak_55 Q kf (nI a) (nI b) 0 0 G := by
  have hP := hF.1
  have p2 := hF.2.2.1
  have hV := hF.2.2.2.2.2.2.1
  have key : ∀ (r i : Nat) (x : Int32) (c f : Nat → Int32), i + r = P → hr_ G V a b r i x = hr_ G V a b P 0 0 → lp_X10_speak_55 Q (r + 1) (nI a) (nI b) x (nI i) (rS G c f) := by
    intro r
    induction r with
    | zero =>
      intro i x c f hi hx
      have hx : x = hr_ G V a b P 0 0 := hx
      refine ⟨fun _ => by rw [hx]; exact h c f, fun z => absurd ?_ z⟩
      show G 49 4 ≤ nI i
      rw [p2, show i = P by omega]; exact Int32.le_refl _
    | succ r ih =>
      intro i x c f hi hx
      have go : ∀ c f, ¬ (i ≠ a ∧ i ≠ b ∧ hn_ G i V a b = 1) → lp_X10_speak_55 Q (r + 1) (nI a) (nI b) x (nI i + 1) (rS G c f) := by
        intro c f hn
        rw [nI_1]
        refine ih (i + 1) x c f (by omega) ?_
        rw [← hx]
        conv => rhs; unfold hr_
        rw [if_neg hn]
      refine ⟨fun z => absurd z ?_, fun _ => ?_⟩
      · show ¬ G 49 4 ≤ nI i
        rw [p2]; exact nI_ge (by omega) (by omega)
      rw [nIx (P := P) (by omega) ha hP, nIx (P := P) (by omega) hb hP]
      refine ⟨fun e => go c f (fun n => n.1 e), fun n1 => ⟨fun e => go c f (fun n => n.2.1 e), fun n2 => ?_⟩⟩
      have e4 : (rS G c f) 49 5 = nI V := hV.2.2.1
      rw [e4]
      refine hnw_r (G := rS G c f) hF (by omega) ha hb hV.1 (fun c' f' => ?_)
      rw [rS_rS]
      refine ⟨fun y => go c' f' (fun n => absurd (n.2.2.symm.trans y) (by decide)), fun y => ?_⟩
      have h1 : hn_ G i V a b = 1 := (hv_01 G i a b V _ _).resolve_left y
      rw [nI_1]
      refine ih (i + 1) _ c' f' (by omega) ?_
      rw [← hx]
      conv => rhs; unfold hr_
      rw [if_pos ⟨n1, n2, h1⟩]
  have := key P 0 0 (G 62) (G 63) (by omega) rfl
  rw [rS_id] at this
  exact ⟨P + 1, this⟩
/-- a line of the book -/
def BW_ (m : Nat) (f f' : Nat → Int32) (v0 v1 v2 v3 v4 : Int32) : Prop := (∀ j, j < 5 * m → f' j = f j) ∧ (m < 100 → f' (5 * m) = v0 ∧ f' (5 * m + 1) = v1 ∧ f' (5 * m + 2) = v2 ∧ f' (5 * m + 3) = v3 ∧ f' (5 * m + 4) = v4)
theorem BW_up {m : Nat} {f : Nat → Int32} {v0 v1 v2 v3 v4 : Int32} : BW_ m f (upd (upd (upd (upd (upd f (5 * m) v0) (5 * m + 1) v1) (5 * m + 2) v2) (5 * m + 3) v3) (5 * m + 4) v4) v0 v1 v2 v3 v4 := by
  refine ⟨fun j hj => ?_, fun _ => ⟨?_, ?_, ?_, ?_, up_hit _ _ _⟩⟩
  · rw [up_miss _ _ (by omega), up_miss _ _ (by omega), up_miss _ _ (by omega), up_miss _ _ (by omega), up_miss _ _ (by omega)]
  · rw [up_miss _ _ (by omega), up_miss _ _ (by omega), up_miss _ _ (by omega), up_miss _ _ (by omega), up_hit]
  · rw [up_miss _ _ (by omega), up_miss _ _ (by omega), up_miss _ _ (by omega), up_hit]
  · rw [up_miss _ _ (by omega), up_miss _ _ (by omega), up_hit]
  · rw [up_miss _ _ (by omega), up_hit]
set_option maxHeartbeats 1000000 in
theorem wri_c {m : Nat} {v0 v1 v2 v3 v4 : Int32} (hm : m ≤ 100) (e : G 12 0 = nI m) (hQ : ∀ G', FR [12, 13] G G' → BW_ m (G 13) (G' 13) v0 v1 v2 v3 v4 → G' 12 0 = nI (min (m + 1) 100) → Q 0 G') : wp_X0_write v0 v1 v2 v3 v4 G Q := by
  unfold wp_X0_write
  rw [e]
  have b0 : nI m * (5 : Int32) = nI (5 * m) := by rw [show (5 : Int32) = nI 5 from rfl, pk_mul, Nat.mul_comm]
  have bj : ∀ j : Nat, nI (5 * m) + nI j = nI (5 * m + j) := fun j => nI_add _ _
  refine ⟨fun z => ?_, fun z => ?_⟩
  · have hm2 : m < 100 := (nI_ltI (b := 100) (by omega) (by omega)).mp z
    rw [b0, show (1 : Int32) = nI 1 from rfl, show (2 : Int32) = nI 2 from rfl, show (3 : Int32) = nI 3 from rfl, show (4 : Int32) = nI 4 from rfl, bj, bj, bj, bj, nI_clamp (by omega), nI_clamp (by omega), nI_clamp (by omega), nI_clamp (by omega), nI_clamp (by omega), nI_add]
    refine ⟨vp_in_nI (by omega) (by omega), vp_in_nI (by omega) (by omega), vp_in_nI (by omega) (by omega), vp_in_nI (by omega) (by omega), vp_in_nI (by omega) (by omega), hQ _ ?_ ?_ ?_⟩
    · exact ((((((FR.rf _ G).gu _ (by decide)).gu _ (by decide)).gu _ (by decide)).gu _ (by decide)).gu _ (by decide)).gu _ (by decide)
    · exact BW_up
    · rw [show min (m + 1) 100 = m + 1 by omega]; rfl
  · have hm2 : m = 100 := by
      rcases Nat.lt_or_ge m 100 with h | h
      · exact absurd (nI_lt (b := 100) h (by omega)) z
      · omega
    exact hQ G (FR.rf _ _) ⟨fun _ _ => rfl, fun h => absurd h (by omega)⟩ (by rw [e, show min (m + 1) 100 = m by omega])
theorem mn_le {x y P : Nat} (hx : x < P) (hy : y < P) (hP : P ≤ 10) : (nI y ≤ nI x ↔ y ≤ x) := nI_leI (by omega) (by omega)
set_option maxHeartbeats 2000000 in
theorem not_r {m : Nat} {v : Int32} (hF : HF_ G P V) (ha : a < P) (hb : b < P) (hm : m ≤ 100) (e : G 50 10 = nI m) (hQ : ∀ G', FR [50, 53] G G' → (∀ j, j ≠ 10 → G' 50 j = G 50 j) → BW_ m (G 53) (G' 53) (nI (min a b)) (nI (max a b)) (nI (wd_ G a b)) (nI (hm_ G 11)) v → G' 50 10 = nI (min (m + 1) 100) → Q 0 G') : wp_X10_notes (nI a) (nI b) v G Q := by
  have hP := hF.1
  have o2 := hF.2.2.2.2.2.1.2.1
  unfold wp_X10_notes
  rw [e]
  refine ⟨fun z => ?_, fun z => ?_⟩
  · have hm2 : m < 100 := by
      rcases Nat.lt_or_ge m 100 with h | h
      · exact h
      · exact absurd (by rw [show m = 100 by omega]; rfl) z
    have b0 : (5 : Int32) * nI m = nI (5 * m) := by rw [show (5 : Int32) = nI 5 from rfl, pk_mul]
    have bj : ∀ j : Nat, nI (5 * m) + nI j = nI (5 * m + j) := fun j => nI_add _ _
    have fin : ∀ (x : Int32) (z0 z1 : Nat) , z0 = min a b → z1 = max a b → bk_X10_notes_56 Q (nI a) (nI b) v (nI m) (nI z1) (nI (5 * m) + nI 1) (gu_ G 53 (5 * m) (nI z0)) := by
      intro _ z0 z1 e0 e1
      unfold bk_X10_notes_56
      rw [bj, nI_clamp (by omega)]
      refine ⟨vp_in_nI (by omega) (by omega), ?_⟩
      have hF2 : HF_ (gu_ (gu_ G 53 (5 * m) (nI z0)) 53 (5 * m + 1) (nI z1)) P V := hF.cg (fun k hk => (FR.gu (FR.gu (FR.rf [53] G) _ (by decide)) _ (by decide)) k (fun y => (by decide : ∀ k, k ∈ [53] → k ∈ hl_ → False) k y hk)) (fun j _ => rfl)
      refine hu_r hF2 ha ?_
      refine hu_r hF2 hb ?_
      have eh : ∀ i, hm_ (gu_ (gu_ G 53 (5 * m) (nI z0)) 53 (5 * m + 1) (nI z1)) i = hm_ G i := fun _ => rfl
      have ha1 := hm61 hF ha
      have hb1 := hm61 hF hb
      rw [eh, eh, (shf_ (by omega) (by omega)).2.2]
      refine wou_ (by omega) (by omega) ?_
      show vp_in (5 * nI m + nI 2) 500 ∧ vp_in (5 * nI m + nI 3) 500 ∧ vp_in (5 * nI m + nI 4) 500 ∧ Q 0 (gu_ (gu_ (gu_ (gu_ (gu_ (gu_ G 53 (5 * m) (nI z0)) 53 (5 * m + 1) (nI z1)) 53 (5 * nI m + nI 2).toNatClampNeg (nI (wd_ G a b))) 53 (5 * nI m + nI 3).toNatClampNeg (G 50 11)) 53 (5 * nI m + nI 4).toNatClampNeg v) 50 10 (nI m + 1))
      rw [b0, bj, bj, bj, nI_clamp (by omega), nI_clamp (by omega), nI_clamp (by omega), nI_1, o2]
      refine ⟨vp_in_nI (by omega) (by omega), vp_in_nI (by omega) (by omega), vp_in_nI (by omega) (by omega), hQ _ ?_ ?_ ?_ ?_⟩
      · exact ((((((FR.rf _ G).gu _ (by decide)).gu _ (by decide)).gu _ (by decide)).gu _ (by decide)).gu _ (by decide)).gu _ (by decide)
      · intro j hj
        exact up_miss _ _ hj
      · rw [← e0, ← e1]; exact BW_up
      · rw [show min (m + 1) 100 = m + 1 by omega]; rfl
    have fin2 : ∀ z0 : Nat, z0 = min a b → bk_X10_notes_35 Q (nI a) (nI b) v (nI m) (nI z0) ((5 : Int32) * nI m) G := by
      intro z0 e0
      unfold bk_X10_notes_35
      rw [b0, nI_clamp (by omega), mn_le ha hb hP]
      refine ⟨vp_in_nI (by omega) (by omega), fun y => fin 0 z0 a e0 (by omega), fun y => fin 0 z0 b e0 (by omega)⟩
    rw [mn_le ha hb hP]
    exact ⟨fun y => fin2 b (by omega), fun y => fin2 a (by omega)⟩
  · have hm2 : m = 100 := (nI_eq (b := 100) (by omega) (by omega)).mp z
    exact hQ G (FR.rf _ _) (fun _ _ => rfl) ⟨fun _ _ => rfl, fun h => absurd h (by omega)⟩ (by rw [e, show min (m + 1) 100 = m by omega])
theorem hum_c {x : Int32} (hF : HF_ G P V) (h1 : ∀ i, i < P → x = nI i → hm_ G i ≠ 0 → Q 1 G) (h0 : (∀ i, i < P → x = nI i → hm_ G i = 0) → Q 0 G) : wp_X8_hasHum x G Q := by
  have hP := hF.1
  rcases ix_ x P (by omega) with ⟨j, hj, rfl⟩ | h
  · exact hh_ hF hj (fun c => h1 j hj rfl c) (fun c => h0 (fun i hi e => by rw [← (nIx hj hi hP).mp e]; exact c))
  · exact per_c hF (fun i hi e => absurd e (h i hi)) (fun _ => ⟨fun _ => h0 (fun i hi e => absurd e (h i hi)), fun z => absurd rfl z⟩)
end SPK
section STS
variable {G : GS} {K : Int32 → Int32 → GS → Prop}
def cw_ : List Nat := [12, 13, 27, 28, 29, 30, 31, 38, 39]
def rw_ : List Nat := [49, 50, 51, 53, 62, 63]
set_option maxHeartbeats 4000000 in
theorem st_speak (a b : Int32) (hI : Inv G) (hK : ∀ r G2, Inv G2 → K r r G2) : wp_X9_speak a b G (fun r G1 => wp_X10_speak a b G1 (fun r' G2 => K r r' G2)) := by
  have hN : Inv (gu_ G 49 0 0) := hI.sc (Sc.rf G).t0
  obtain ⟨P, V, hF⟩ := hf_of hI.1
  have hP := hF.1
  have hF1 : HF_ (gu_ G 49 0 0) P V := hF
  by_cases hT : S2_ G P a b
  · obtain ⟨i, j, hi, hj, rfl, rfl, nij, hhi, hhj⟩ := hT
    have hI' := hI
    obtain ⟨⟨hA, hB, hC, hD, hE, hFF, hG, ⟨m, hm, m1, m2, hbk⟩, hrest⟩, hT, hfa, hU, hIm, h55, hUV⟩ := hI'
    have hF0 := hF
    obtain ⟨-, p1, p2, hmm, hld, ⟨o1, o2, o3⟩, ⟨hV, v1, v2, vh⟩, -⟩ := hF0
    have hE : G 1 0 = G 50 12 := hE
    have m2 : G 50 10 = nI m := m2
    rw [v2] at hUV
    obtain ⟨nx, T, eh, ed, eo, eb, q1, q2, q3⟩ := RU_to hU m1 hm hUV hV
    have hbb : HB_ V (hm_ G) := fun i hi => ⟨(hmm i hi).1, fun hb => (vh i hi hb).2⟩
    have hi1 := hm61 hF hi
    have hj1 := hm61 hF hj
    have nn : ¬ nI i = nI j := fun e => nij ((nIx hi hj hP).mp e)
    refine ⟨fun e => absurd e nn, fun _ => hh_ hF hi (fun _ => ⟨fun z => absurd z (by decide), fun _ => hh_ hF hj (fun _ => ⟨fun _ => ?_, fun z => absurd z (by decide)⟩) (fun c => absurd c hhj)⟩) (fun c => absurd c hhi)⟩
    refine kee_c (m := m) (h := hm_ G) q1 (fun k hk => (hmm k hk).2.2) rfl o3 m1 (fun G1 f1 f2 => ?_)
    have s1 : ∀ k, k ∈ hl_ → G1 k = G k := fun k hk => f1 k (fun z => (by decide : ∀ k, k ∈ [27, 28, 29, 30, 31] → k ∈ hl_ → False) k z hk)
    have s49 : ∀ q, q ∈ [4, 5, 16] → G1 49 q = G 49 q := fun q _ => by rw [f1 49 (by decide)]
    have hFc : HF_ G1 P V := hF.cg s1 s49
    refine her_c hFc hi hj (fun c f => ?_)
    obtain ⟨-, -, -, f4, f5, -⟩ := pf_ hi hP
    obtain ⟨-, -, -, f6, f7, -⟩ := pf_ hj hP
    refine ⟨f4, f6, ?_⟩
    have g2 : (eS G1 c f) 2 = G 2 := s1 2 (by decide)
    have g1 : (eS G1 c f) 1 = G 1 := s1 1 (by decide)
    show wp_X0_write (if nI j < nI i then nI j else nI i) (if nI i < nI j then nI j else nI i) (if 0 ≤ (eS G1 c f) 2 (nI i).toNatClampNeg - (eS G1 c f) 2 (nI j).toNatClampNeg then (eS G1 c f) 2 (nI i).toNatClampNeg - (eS G1 c f) 2 (nI j).toNatClampNeg else 0 - ((eS G1 c f) 2 (nI i).toNatClampNeg - (eS G1 c f) 2 (nI j).toNatClampNeg)) ((eS G1 c f) 1 6) (hr_ G1 V i j P 0 0) (eS G1 c f) (fun _ G12 => wp_X10_speak (nI i) (nI j) G12 fun r' G2 => K (hr_ G1 V i j P 0 0) r' G2)
    rw [g2, g1, f5, f7, (hmm i (by omega)).2.2, (hmm j (by omega)).2.2, (shf_ (by omega) (by omega)).2.2, ab_ (by omega) (by omega), mn_ (by omega) (by omega), mx_ (by omega) (by omega), o3, hr_cg s1 s49]
    refine wri_c (G := eS G1 c f) (m := m) hm (by show G1 12 0 = _; rw [f1 12 (by decide)]; exact m1) (fun G2 w1 w2 w3 => ?_)
    have fc : FR cw_ G G2 := ((f1.sub (by decide)).tr (((FR.rf cw_ G1).gf c (by decide)).gf f (by decide))).tr (w1.sub (by decide))
    have s2 : ∀ k, k ∈ hl_ → (gu_ G2 49 0 0) k = G k := fun k hk => by
      show gf_ G2 49 _ k = _
      rw [gf_ne _ _ (fun e => (by decide : ∀ k, k ∈ hl_ → k = 49 → False) k hk e)]
      exact fc k (fun z => (by decide : ∀ k, k ∈ cw_ → k ∈ hl_ → False) k z hk)
    have t49 : ∀ q, q ≠ 0 → (gu_ G2 49 0 0) 49 q = G 49 q := fun q hq => by
      show upd (G2 49) 0 0 q = _
      rw [up_miss _ _ hq, fc 49 (by decide)]
    have t49' : ∀ q, q ∈ [4, 5, 16] → (gu_ G2 49 0 0) 49 q = G 49 q := fun q hq => t49 q (fun e => (by decide : ∀ q, q ∈ [4, 5, 16] → q = 0 → False) q hq e)
    have hF2 : HF_ (gu_ G2 49 0 0) P V := hF.cg s2 t49'
    have x50 : (gu_ G2 49 0 0) 50 = G 50 := s2 50 (by decide)
    have x51 : (gu_ G2 49 0 0) 51 = G 51 := fc 51 (by decide)
    have x53 : (gu_ G2 49 0 0) 53 = G 53 := fc 53 (by decide)
    refine rp_ hF2 hi ⟨fun z => absurd z (by decide), fun _ => rp_ hF2 hj ⟨fun z => absurd z (by decide), fun _ => ⟨fun e => absurd e nn, fun _ => ?_⟩⟩⟩
    refine hu_r hF2 hi ⟨fun z => absurd ((hne_ (by rw [hm_cg s2]; exact hi1)).mp z) (by rw [hm_cg s2]; exact hhi), fun _ => ?_⟩
    refine hu_r hF2 hj ⟨fun _ => ?_, fun z => absurd ((hne_ (by rw [hm_cg s2]; exact hj1)).mp z) (by rw [hm_cg s2]; exact hhj)⟩
    refine kee_r (G := gu_ G2 49 0 0) (m := m) (o := hm_ G 11) (d := G 1 0) (h := hm_ G) (T := T) (eh := eh) (ed := ed) (eo := eo) (eb := eb) (by rw [t49 3 (by decide), x51]; exact q2) (by rw [x50]; exact fun k hk => (hmm k hk).2.1) (by rw [x50]; exact hE.symm) (by rw [x50]; exact o2) (by rw [x50]; exact m2) (fun G3 k1 k2 k3 => ?_)
    have s3 : ∀ k, k ∈ hl_ → G3 k = G k := fun k hk => by
      rw [k1 k (fun z => (by decide : ∀ k, k ∈ [49, 51] → k ∈ hl_ → False) k z hk)]
      exact s2 k hk
    have u49 : ∀ q, q ∈ [4, 5, 16] → G3 49 q = G 49 q := fun q hq => by
      rw [k2 q (fun e => (by decide : ∀ q, q ∈ [4, 5, 16] → q = 3 → False) q hq e)]
      exact t49' q hq
    have hF3 : HF_ G3 P V := hF.cg s3 u49
    refine her_r hF3 hi hj (fun c' f' => ?_)
    rw [hr_cg s3 u49]
    have hF4 : HF_ (rS G3 c' f') P V := hF3
    have y50 : (rS G3 c' f') 50 = G 50 := s3 50 (by decide)
    refine not_r hF4 hi hj hm (by rw [y50]; exact m2) (fun G4 n1 n2 n3 n4 => ?_)
    have hw : wd_ (rS G3 c' f') i j = wd_ G i j := by
      show wd_ G3 i j = _
      unfold wd_; rw [hm_cg s3, hm_cg s3]
    have ho : hm_ (rS G3 c' f') 11 = hm_ G 11 := hm_cg s3 11
    rw [hw, ho] at n3
    have z53 : (rS G3 c' f') 53 = G 53 := by
      show G3 53 = _
      rw [k1 53 (by decide)]; exact x53
    have z13 : (eS G1 c f) 13 = G 13 := f1 13 (by decide)
    rw [z53] at n3
    rw [z13] at w2
    have fr : FR rw_ (gu_ G2 49 0 0) G4 := ((k1.sub (by decide)).tr (((FR.rf rw_ G3).gf c' (by decide)).gf f' (by decide))).tr (n1.sub (by decide))
    have fcl : ∀ k, k ≠ 49 → k ∉ rw_ → G4 k = G2 k := fun k h1 h2 => by
      rw [fr k h2]
      exact gf_ne _ _ h1
    have hgd := GD_k (o := hm_ G 11) q3 hbb o1
    refine hK _ _ (Inv_mk (V := V) (m := min (m + 1) 100) (o := hm_ G 11) (nx := (nx + 1) % 8) (T := T + 1) (h := hm_ G) (eh := at_ T (hm_ G) eh) (ed := at_ T (G 1 0) ed) (eo := at_ T (hm_ G 11) eo) (eb := at_ T m eb) hI hV v2 ?_ ?_ ?_ hbb ?_ ?_ ?_ ?_ ?_ o1 ?_ ?_ (by omega) ?_ ?_ (GD_m hgd (by omega)))
    · intro q q0 q6
      rw [fcl 1 (by decide) (by decide), fc 1 (by decide)]
    · intro k hk hc
      rw [fcl k (fun e => (by decide : ∀ k, k ∈ kpc_ → k = 49 → False) k hk e) (fun z => (by decide : ∀ k, k ∈ rw_ → k ∈ kpc_ → k ∉ ch_ → False) k z hk hc)]
      exact fc k (fun z => (by decide : ∀ k, k ∈ cw_ → k ∈ kpc_ → k ∉ ch_ → False) k z hk hc)
    · intro q hq q3
      rw [n1 49 (by decide)]
      show G3 49 q = _
      rw [k2 q q3]
      exact t49 q (fun e => (by decide : ∀ q, q ∈ jl_ → q = 0 → False) q hq e)
    · intro k hk
      rw [fcl 2 (by decide) (by decide), fc 2 (by decide)]; exact (hmm k hk).2.2
    · intro k hk
      rw [n2 k (by omega), y50]; exact (hmm k hk).2.1
    · rw [fcl 1 (by decide) (by decide), fc 1 (by decide), n2 12 (by decide), y50]; exact hE
    · rw [fcl 1 (by decide) (by decide), fc 1 (by decide)]; exact o3
    · rw [n2 11 (by decide), y50]; exact o2
    · refine ⟨min (m + 1) 100, by omega, ?_, n4, fun q hq => ?_⟩
      · rw [fcl 12 (by decide) (by decide)]; exact w3
      · rw [fcl 13 (by decide) (by decide)]
        rcases Nat.lt_or_ge q (5 * m) with hq2 | hq2
        · rw [w2.1 q hq2, n3.1 q hq2]; exact hbk q hq2
        · have hm2 : m < 100 := by omega
          obtain ⟨a0, a1, a2, a3, a4⟩ := w2.2 hm2
          obtain ⟨b0, b1, b2, b3, b4⟩ := n3.2 hm2
          rcases (show q = 5 * m ∨ q = 5 * m + 1 ∨ q = 5 * m + 2 ∨ q = 5 * m + 3 ∨ q = 5 * m + 4 by omega) with e | e | e | e | e
          · rw [e, a0, b0]
          · rw [e, a1, b1]
          · rw [e, a2, b2]; rfl
          · rw [e, a3, b3]
          · rw [e, a4, b4]
    · rw [fcl 12 (by decide) (by decide)]; exact w3
    · rw [fcl 27 (by decide) (by decide), fcl 28 (by decide) (by decide), fcl 29 (by decide) (by decide), fcl 30 (by decide) (by decide), fcl 31 (by decide) (by decide), w1 27 (by decide), w1 28 (by decide), w1 29 (by decide), w1 30 (by decide), w1 31 (by decide)]
      exact f2
    · rw [n1 49 (by decide), n1 51 (by decide)]
      exact k3
  · have bad : wp_X10_speak a b G (fun r' G2 => K (-1) r' G2) := by
      refine per_r hF1 (fun i hi ea => ⟨fun z => absurd z (by decide), fun _ => per_r hF1 (fun j hj eb => ⟨fun z => absurd z (by decide), fun _ => ⟨fun _ => hK _ _ hN, fun ne => ?_⟩⟩) (fun _ => ⟨fun _ => hK _ _ hN, fun z => absurd rfl z⟩)⟩) (fun _ => ⟨fun _ => hK _ _ hN, fun z => absurd rfl z⟩)
      subst ea eb
      refine hu_r hF1 hi ⟨fun _ => hK _ _ hN, fun z1 => ?_⟩
      refine hu_r hF1 hj ⟨fun z2 => ?_, fun _ => hK _ _ hN⟩
      exact absurd ⟨i, j, hi, hj, rfl, rfl, fun e => ne (by rw [e]), fun c => z1 ((hne_ (hm61 hF hi)).mpr c), fun c => z2 ((hne_ (hm61 hF hj)).mpr c)⟩ hT
    refine ⟨fun _ => bad, fun ne => hum_c hF (fun i hi ea hhi => ⟨fun z => absurd z (by decide), fun _ => hum_c hF (fun j hj eb hhj => ?_) (fun _ => ⟨fun z => absurd rfl z, fun _ => bad⟩)⟩) (fun _ => ⟨fun _ => bad, fun z => absurd rfl z⟩)⟩
    exact absurd ⟨i, j, hi, hj, ea, eb, fun e => ne (by rw [ea, eb, e]), hhi, hhj⟩ hT
end STS
