/-! the law's text: both sides -/
section TE
variable {Q : Int32 → GS → Prop} {b : Nat → Nat} {T : Nat} {G : GS}
theorem cpc_l {Gs : GS} {x1 : Int32} {z : Nat} (hz : z ≤ 400) (e22 : Gs 49 22 = nI z) (hQ : ∀ G1, FR [59, 60] Gs G1 → (∀ j, j < z → G1 59 j = Gs 59 (400 + j) ∧ G1 60 j = Gs 60 (400 + j)) → Q x1 (gu_ G1 49 16 x1)) : ∀ k j G1, j + k = z → FR [59, 60] Gs G1 → (∀ i, 400 ≤ i → G1 59 i = Gs 59 i ∧ G1 60 i = Gs 60 i) → (∀ i, i < j → G1 59 i = Gs 59 (400 + i) ∧ G1 60 i = Gs 60 (400 + i)) → lp_X10_text_127 Q (k + 1) x1 (nI j) G1 := by
  intro k
  induction k with
  | zero =>
    intro j G1 hj f h4 hc
    have e : j = z := by omega
    subst e
    refine ⟨fun _ => hQ G1 f hc, fun h => absurd ?_ h⟩
    rw [f 49 (by decide), e22]
    exact iE.mpr (Int.le_refl _)
  | succ k ih =>
    intro j G1 hj f h4 hc
    have e49 : G1 49 22 = nI z := by rw [f 49 (by decide), e22]
    have ea : (400 : Int32) + nI j = nI (400 + j) := by rw [show (400 : Int32) = nI 400 from rfl, nI_add]
    refine ⟨fun h => ?_, fun _ => ?_⟩
    · rw [e49] at h; exact absurd h (fun y => by rw [iE, nI_toInt (by omega), nI_toInt (by omega)] at y; omega)
    · rw [ea, nI_clamp (show j < 2147483648 by omega), nI_clamp (show 400 + j < 2147483648 by omega), nI_1]
      refine ⟨vp_in_nI (by omega) (by omega), vp_in_nI (by omega) (by omega), ih (j + 1) _ (by omega) ((f.gu _ (by decide)).gu _ (by decide)) (fun i hi => ?_) (fun i hi => ?_)⟩
      · show upd (G1 59) j _ i = _ ∧ upd (G1 60) j _ i = _
        rw [up_miss _ _ (by omega), up_miss _ _ (by omega)]; exact h4 i hi
      · show upd (G1 59) j _ i = _ ∧ upd (G1 60) j _ i = _
        by_cases e : i = j
        · subst e; rw [up_hit, up_hit]; exact h4 (400 + i) (by omega)
        · rw [up_miss _ _ e, up_miss _ _ e]; exact hc i (by omega)
theorem cpl_l {Gs : GS} {n : Nat} (hn : n ≤ 16) (hQ : ∀ G1, FR [56, 57, 58] Gs G1 → (∀ l, l < n → G1 56 l = Gs 56 (16 + l) ∧ G1 57 l = Gs 57 (16 + l) ∧ G1 58 l = Gs 58 (16 + l)) → ∃ kf, lp_X10_text_127 Q kf (nI n) 0 G1) : ∀ k i G1, i + k = n → FR [56, 57, 58] Gs G1 → (∀ l, 16 ≤ l → G1 56 l = Gs 56 l ∧ G1 57 l = Gs 57 l ∧ G1 58 l = Gs 58 l) → (∀ l, l < i → G1 56 l = Gs 56 (16 + l) ∧ G1 57 l = Gs 57 (16 + l) ∧ G1 58 l = Gs 58 (16 + l)) → lp_X10_text_69 Q (k + 1) (nI n) (nI i) G1 := by
  intro k
  induction k with
  | zero =>
    intro i G1 hi f h4 hc
    have e : i = n := by omega
    subst e
    exact ⟨fun _ => hQ G1 f hc, fun h => absurd (iE.mpr (Int.le_refl _)) h⟩
  | succ k ih =>
    intro i G1 hi f h4 hc
    have ea : (16 : Int32) + nI i = nI (16 + i) := by rw [show (16 : Int32) = nI 16 from rfl, nI_add]
    refine ⟨fun h => absurd h (fun y => by rw [iE, nI_toInt (by omega), nI_toInt (by omega)] at y; omega), fun _ => ?_⟩
    rw [ea, nI_clamp (show i < 2147483648 by omega), nI_clamp (show 16 + i < 2147483648 by omega), nI_1]
    refine ⟨vp_in_nI (by omega) (by omega), vp_in_nI (by omega) (by omega), ih (i + 1) _ (by omega) (((f.gu _ (by decide)).gu _ (by decide)).gu _ (by decide)) (fun l hl => ?_) (fun l hl => ?_)⟩
    · show upd (G1 56) i _ l = _ ∧ upd (G1 57) i _ l = _ ∧ upd (G1 58) i _ l = _
      rw [up_miss _ _ (by omega), up_miss _ _ (by omega), up_miss _ _ (by omega)]; exact h4 l hl
    · show upd (G1 56) i _ l = _ ∧ upd (G1 57) i _ l = _ ∧ upd (G1 58) i _ l = _
      by_cases e : l = i
      · subst e; rw [up_hit, up_hit, up_hit]; exact h4 (16 + l) (by omega)
      · rw [up_miss _ _ e, up_miss _ _ e, up_miss _ _ e]; exact hc l (by omega)
def LR_ : List Nat := [49, 56, 57, 58, 59, 60, 61]
/-- the reference begins -/
theorem tx_st {res : RES} {n : Nat} (hb : TB_ b T G) (e10 : G 49 10 = nI T) (h55 : G 55 = wf_) (hr : rn_ b T n st0_ = some res)
    (hQ : ∀ G0 : GS, FR [49] G G0 → (∀ j, j ∈ [3, 4, 5, 7, 10, 16, 35, 39, 45] → G0 49 j = G 49 j) → G0 49 28 = 0 → G0 49 29 = -1 → (∀ ls p G4, res = .inr ls → RZx_ b T G0 [] ls p G4 → ((¬ nI ls.length = (-1 : Int32) → (∃ kf, lp_X10_text_69 Q kf (nI ls.length) (0 : Int32) (gu_ G4 49 10 (0 : Int32)))) ∧ (nI ls.length = (-1 : Int32) → Q (-1 : Int32) (gu_ (gu_ (gu_ G4 49 10 (0 : Int32)) 49 28 (G4 49 26)) 49 29 (G4 49 27))))) ∧ (∀ f q, res = .inl (f, q) → ∀ G4, RFf_ G0 G4 → G4 49 26 = nI f → G4 49 27 = nI q → Q (-1 : Int32) (gu_ (gu_ (gu_ G4 49 10 (0 : Int32)) 49 28 (G4 49 26)) 49 29 (G4 49 27)))) : wp_X10_text G Q := by
  unfold wp_X10_text
  have hq := hQ (gu_ (gu_ (gu_ (gu_ (gu_ (gu_ G 49 0 (0 : Int32)) 49 28 (0 : Int32)) 49 29 (-1 : Int32)) 49 11 (0 : Int32)) 49 22 (0 : Int32)) 49 23 (0 : Int32)) ((((((((FR.rf _ G).gu _ (by decide)).gu _ (by decide)).gu _ (by decide)).gu _ (by decide)).gu _ (by decide)).gu _ (by decide))) (fun j hj => by
    simp only [List.mem_cons, List.not_mem_nil, or_false] at hj
    rcases hj with h | h | h | h | h | h | h | h | h <;> subst h <;> rfl) rfl rfl
  have hb0 : TB_ b T (gu_ (gu_ (gu_ (gu_ (gu_ (gu_ G 49 0 (0 : Int32)) 49 28 (0 : Int32)) 49 29 (-1 : Int32)) 49 11 (0 : Int32)) 49 22 (0 : Int32)) 49 23 (0 : Int32)) := hb
  refine rd2x (p := 0) (c := []) (ls := []) hb0 e10 h55 (Nat.zero_le _) ⟨FR.rf _ _, fun _ _ => rfl, fun _ _ => ⟨rfl, rfl, rfl⟩, fun _ _ => ⟨rfl, rfl⟩⟩ ⟨rfl, fun j hj => absurd hj (by show ¬ j < 0; omega), rfl, rfl, fun i hi => absurd hi (by show ¬ i < 0; omega), fun l hl => absurd hl (by show ¬ l < 0; omega)⟩ rfl (fun G2 h2 s2 => ⟨n + 1, ?_⟩)
  exact txt_l (res := res) hb0 e10 h55 (fun ls p G4 e h4 => hq.1 ls p G4 e h4) (fun f q e G4 f4 x y => ⟨fun z => absurd rfl z, fun _ => hq.2 f q e G4 f4 x y⟩) n 0 0 [] 0 G2 (n + 1) hr MV0 h2 (by omega)
theorem nI_m1 {n : Nat} (h : n ≤ 16) : ¬ nI n = (-1 : Int32) := fun z => by
  have z := congrArg Int32.toInt z
  rw [nI_toInt (by omega), show (-1 : Int32).toInt = -1 by decide] at z
  omega
theorem tx_no {n f q : Nat} (hb : TB_ b T G) (e10 : G 49 10 = nI T) (h55 : G 55 = wf_) (hr : rn_ b T n st0_ = some (.inl (f, q)))
    (hQ : ∀ G2, FR LR_ G G2 → (∀ j, j ∈ [3, 4, 5, 7, 16, 35, 39, 45] → G2 49 j = G 49 j) → (∀ l, l < 16 → G2 56 l = G 56 l ∧ G2 57 l = G 57 l ∧ G2 58 l = G 58 l) → (∀ j, j < 400 → G2 59 j = G 59 j ∧ G2 60 j = G 60 j) → G2 49 10 = 0 → G2 49 28 = nI f → G2 49 29 = nI q → Q (-1) G2) : wp_X10_text G Q := by
  refine tx_st hb e10 h55 hr (fun G0 f0 j0 e28 e29 => ⟨fun ls p G4 e => absurd e (by simp), fun f' q' e G4 f4 e26 e27 => ?_⟩)
  have e := Sum.inl.inj e
  obtain ⟨rfl, rfl⟩ : f = f' ∧ q = q' := ⟨congrArg Prod.fst e, congrArg Prod.snd e⟩
  refine hQ _ ?_ (fun j hj => ?_) (fun l hl => ?_) (fun j hj => ?_) rfl e26 e27
  · exact ((((f0.sub (by decide)).tr f4.1).gu _ (by decide)).gu _ (by decide)).gu _ (by decide)
  · have hn := (by decide : ∀ j, j ∈ [3, 4, 5, 7, 16, 35, 39, 45] → j ≠ 10 ∧ j ≠ 28 ∧ j ≠ 29 ∧ j ∉ rfl_ ∧ j ∈ [3, 4, 5, 7, 10, 16, 35, 39, 45]) j hj
    show upd (upd (upd (G4 49) 10 0) 28 _) 29 _ j = _
    rw [up_miss _ _ hn.2.2.1, up_miss _ _ hn.2.1, up_miss _ _ hn.1, f4.2.1 j hn.2.2.2.1]
    exact j0 j hn.2.2.2.2
  · have := f4.2.2.1 l hl
    rw [f0 56 (by decide), f0 57 (by decide), f0 58 (by decide)] at this
    exact this
  · have := f4.2.2.2 j hj
    rw [f0 59 (by decide), f0 60 (by decide)] at this
    exact this
theorem tx_ok {n : Nat} {ls : List (Nat × List Cd)} (hb : TB_ b T G) (e10 : G 49 10 = nI T) (h55 : G 55 = wf_) (hL : LN_ T ls) (hr : rn_ b T n st0_ = some (.inr ls))
    (hQ : ∀ G2, FR LR_ G G2 → (∀ j, j ∈ [3, 4, 5, 7, 35, 39, 45] → G2 49 j = G 49 j) → G2 49 10 = 0 → G2 49 28 = 0 → G2 49 29 = -1 → G2 49 16 = nI ls.length → (∀ l, l < ls.length → G2 56 l = nI (ls.getD l (0, [])).1 ∧ G2 57 l = nI (ed_ ls l) ∧ G2 58 l = nI (ed_ ls (l + 1))) → (∀ j, j < (fl2_ ls).length → G2 59 j = ((fl2_ ls).getD j (0, 0)).1 ∧ G2 60 j = ((fl2_ ls).getD j (0, 0)).2) → Q (nI ls.length) G2) : wp_X10_text G Q := by
  have hT := hb.1
  obtain ⟨l1, l2, l3⟩ := hL
  refine tx_st hb e10 h55 hr (fun G0 f0 j0 e28 e29 => ⟨fun ls' p G4 e h4 => ⟨fun _ => ?_, fun z => ?_⟩, fun f' q' e => absurd e (by simp)⟩)
  · have e := Sum.inr.inj e
    subst e
    have ff := h4.ff
    obtain ⟨-, ⟨p1, p2, p3, p4, p5, p6⟩, -⟩ := h4
    rw [List.append_nil] at p1 p2
    refine ⟨ls.length + 1, cpl_l (Gs := gu_ G4 49 10 0) l3 (fun G5 f5 c5 => ⟨(fl2_ ls).length + 1, cpc_l (Gs := G5) (z := (fl2_ ls).length) (by omega) ?_ (fun G6 f6 c6 => ?_) (fl2_ ls).length 0 G5 (by omega) (FR.rf _ _) (fun _ _ => ⟨rfl, rfl⟩) (fun i hi => absurd hi (by omega))⟩) ls.length 0 _ (by omega) (FR.rf _ _) (fun _ _ => ⟨rfl, rfl, rfl⟩) (fun l hl => absurd hl (by omega))⟩
    · rw [f5 49 (by decide)]; exact p1
    · have e49 : G6 49 = upd (G4 49) 10 0 := (f6 49 (by decide)).trans (f5 49 (by decide))
      refine hQ _ ?_ (fun j hj => ?_) ?_ ?_ ?_ rfl (fun l hl => ?_) (fun j hj => ?_)
      · exact (((((f0.sub (by decide)).tr ff.1).gu _ (by decide)).tr (f5.sub (by decide))).tr (f6.sub (by decide))).gu _ (by decide)
      · have hn := (by decide : ∀ j, j ∈ [3, 4, 5, 7, 35, 39, 45] → j ≠ 10 ∧ j ≠ 16 ∧ j ∉ rfl_ ∧ j ∈ [3, 4, 5, 7, 10, 16, 35, 39, 45]) j hj
        show upd (G6 49) 16 _ j = _
        rw [up_miss _ _ hn.2.1, e49, up_miss _ _ hn.1, ff.2.1 j hn.2.2.1]
        exact j0 j hn.2.2.2
      · show upd (G6 49) 16 (nI ls.length) 10 = _
        rw [up_miss _ _ (by decide), e49, up_hit]
      · show upd (G6 49) 16 (nI ls.length) 28 = _
        rw [up_miss _ _ (by decide), e49, up_miss _ _ (by decide), ff.2.1 28 (by decide)]
        exact e28
      · show upd (G6 49) 16 (nI ls.length) 29 = _
        rw [up_miss _ _ (by decide), e49, up_miss _ _ (by decide), ff.2.1 29 (by decide)]
        exact e29
      · show G6 56 l = _ ∧ G6 57 l = _ ∧ G6 58 l = _
        obtain ⟨c1, c2, c3⟩ := c5 l hl
        rw [f6 56 (by decide), f6 57 (by decide), f6 58 (by decide), c1, c2, c3]
        exact p6 l hl
      · show G6 59 j = _ ∧ G6 60 j = _
        obtain ⟨c1, c2⟩ := c6 j hj
        rw [c1, c2, f5 59 (by decide), f5 60 (by decide)]
        exact p2 j hj
  · have e := Sum.inr.inj e
    subst e
    exact absurd z (nI_m1 l3)
theorem cp934 {z : Nat} (hz : z ≤ 400) (ez : G 34 3 = nI z) (hQ : ∀ G1, FR [9, 10, 11] G G1 → (∀ j, j ∈ [0, 1, 3] → G1 9 j = G 34 j) → (∀ i, i < 16 → G1 10 i = G 35 i) → (∀ i, i < z → G1 11 i = G 36 i) → Q 0 G1) : wp_X4_copyFrom_9_34 G Q := by
  refine ⟨by rw [ez]; exact cpk_ (by omega) hz, hQ _ ?_ (jm3_ rfl rfl rfl) (fun i hi => cpz_ hi) (fun i hi => ?_)⟩
  · exact FR.gf (FR.gu (FR.gf (FR.gu (FR.gu (FR.rf _ G) _ (by decide)) _ (by decide)) _ (by decide)) _ (by decide)) _ (by decide)
  · show va_cpy (G 36) (G 11) 0 0 (G 34 3).toNatClampNeg i = _
    rw [ez, nI_clamp (by omega)]
    exact cpz_ hi
end TE
def Lxt_ : List Nat := [0, 9, 10, 11, 33, 34, 35, 36, 37, 49, 56, 57, 58, 59, 60, 61]
theorem klx_ : ∀ k, k ∈ klw_ → k ∉ Lxt_ := by decide
theorem st_text {G : GS} {K : Int32 → Int32 → GS → Prop} (hI : Inv G) (hK : ∀ r G2, Inv G2 → K r r G2) : wp_X9_text G (fun r G1 => wp_X10_text G1 (fun r' G2 => K r r' G2)) := by
  have hI0 := hI
  obtain ⟨⟨w1, w2, w3, w4, w5, w6, w7, w8, w9, w10, w11, w12, w13⟩, ⟨T, hT, t1, t2, t3⟩, a3, a4, a5, a6, a7⟩ := hI0
  obtain ⟨b, hb⟩ : ∃ b : Nat → Nat, TB_ b T G := ⟨fun i => (G 54 i).toNatClampNeg, hT, fun i hi => by
    obtain ⟨v, v1, v2, v3⟩ := t3 i hi
    show (G 54 i).toNatClampNeg < 256 ∧ G 32 i = (nI (G 54 i).toNatClampNeg).toInt8.toInt32 ∧ G 54 i = nI (G 54 i).toNatClampNeg
    rw [v2, nI_clamp (by omega)]
    exact ⟨v1, v3, rfl⟩⟩
  unfold wp_X9_text
  rw [t1]
  refine rea_c hb (fun n f q hr G1 f1 e1 e2 => ⟨fun z => absurd rfl z, fun _ => ?_⟩) (fun n ls hr hL G1 f1 cx e1 e2 => ⟨fun _ => ?_, fun z => absurd z (by decide)⟩)
  · have hb1 : TB_ b T (gu_ (gu_ (gu_ G1 0 6 (G1 33 2)) 0 7 (G1 33 3)) 0 5 0) := ⟨hT, fun i hi => by
      show _ ∧ G1 32 i = _ ∧ G1 54 i = _
      rw [f1 32 (by decide), f1 54 (by decide)]; exact hb.2 i hi⟩
    have fr1 : FR Lxt_ G (gu_ (gu_ (gu_ G1 0 6 (G1 33 2)) 0 7 (G1 33 3)) 0 5 0) := (((f1.sub (by decide)).gu _ (by decide)).gu _ (by decide)).gu _ (by decide)
    refine tx_no hb1 ?_ ?_ hr (fun G3 f3 k49 k56 k59 x10 x28 x29 => hK _ _ ?_)
    · show G1 49 10 = _
      rw [f1 49 (by decide)]; exact t2
    · show G1 55 = _
      rw [f1 55 (by decide)]; exact a6
    · have fr : FR Lxt_ G G3 := fr1.tr (f3.sub (by decide))
      have g49 : ∀ j, j ∈ [3, 4, 5, 7, 16, 35, 39, 45] → G3 49 j = G 49 j := fun j hj => by
        rw [k49 j hj]
        show G1 49 j = _
        rw [f1 49 (by decide)]
      have g9 : G3 9 = G 9 ∧ G3 10 = G 10 ∧ G3 11 = G 11 := by
        rw [f3 9 (by decide), f3 10 (by decide), f3 11 (by decide)]
        exact ⟨f1 9 (by decide), f1 10 (by decide), f1 11 (by decide)⟩
      refine Inv.law hI (fun k hk => fr k (klx_ k hk)) (fun j hj => g49 j ((by decide : ∀ j, j ∈ [3, 4, 5, 7, 35, 39, 45] → j ∈ [3, 4, 5, 7, 16, 35, 39, 45]) j hj)) ?_ ?_ x10 ?_ ?_ ?_
      · rw [f3 0 (by decide)]
        show G1 0 2 = _
        rw [f1 0 (by decide)]
      · rw [f3 0 (by decide)]; rfl
      · rw [f3 0 (by decide), x28]; exact e1
      · rw [f3 0 (by decide), x29]; exact e2
      · rw [g9.1, g9.2.1, g9.2.2, g49 16 (by decide)]
        refine RL_.tail w12 (fun l hl => ?_) (fun j hj => ?_)
        · have := k56 l hl
          rw [show gu_ (gu_ (gu_ G1 0 6 (G1 33 2)) 0 7 (G1 33 3)) 0 5 0 56 = G 56 from f1 56 (by decide), show gu_ (gu_ (gu_ G1 0 6 (G1 33 2)) 0 7 (G1 33 3)) 0 5 0 57 = G 57 from f1 57 (by decide), show gu_ (gu_ (gu_ G1 0 6 (G1 33 2)) 0 7 (G1 33 3)) 0 5 0 58 = G 58 from f1 58 (by decide)] at this
          exact this
        · have := k59 j hj
          rw [show gu_ (gu_ (gu_ G1 0 6 (G1 33 2)) 0 7 (G1 33 3)) 0 5 0 59 = G 59 from f1 59 (by decide), show gu_ (gu_ (gu_ G1 0 6 (G1 33 2)) 0 7 (G1 33 3)) 0 5 0 60 = G 60 from f1 60 (by decide)] at this
          exact this
  · obtain ⟨-, -, -, c4, c5, c6, c7, c8⟩ := cx
    rw [List.append_nil] at c5 c8
    have hz : (fl2_ ls).length ≤ 400 := Nat.le_trans hL.1 hT
    have fr1 : FR Lxt_ G (gu_ (gu_ (gu_ G1 0 6 (G1 33 2)) 0 7 (G1 33 3)) 0 5 0) := (((f1.sub (by decide)).gu _ (by decide)).gu _ (by decide)).gu _ (by decide)
    refine cp934 hz c5 (fun G2 f2 d9 d10 d11 => ?_)
    have e90 : G2 9 0 = nI ls.length := (d9 0 (by decide)).trans c4
    rw [e90]
    have fr2 : FR Lxt_ G G2 := fr1.tr (f2.sub (by decide))
    have hb2 : TB_ b T G2 := ⟨hT, fun i hi => by rw [fr2 32 (by decide), fr2 54 (by decide)]; exact hb.2 i hi⟩
    have g249 : G2 49 = G 49 := (f2 49 (by decide)).trans (f1 49 (by decide))
    refine tx_ok hb2 (by rw [g249]; exact t2) ((fr2 55 (by decide)).trans a6) hL hr (fun G3 f3 k49 x10 x28 x29 x16 x56 x59 => hK _ _ ?_)
    have fr : FR Lxt_ G G3 := fr2.tr (f3.sub (by decide))
    refine Inv.law hI (fun k hk => fr k (klx_ k hk)) (fun j hj => by rw [k49 j hj, g249]) ?_ ?_ x10 ?_ ?_ ?_
    · rw [f3 0 (by decide), f2 0 (by decide)]
      show G1 0 2 = _
      rw [f1 0 (by decide)]
    · rw [f3 0 (by decide), f2 0 (by decide)]; rfl
    · rw [f3 0 (by decide), f2 0 (by decide), x28]; exact e1
    · rw [f3 0 (by decide), f2 0 (by decide), x29]; exact e2
    · rw [f3 9 (by decide), f3 10 (by decide), f3 11 (by decide)]
      refine RL_of hL hT e90 x16 ((d9 3 (by decide)).trans c5) ?_ (fun l hl => ?_) x56 (fun j hj => ?_) x59
      · obtain ⟨M, m1, m2, m3⟩ := c7
        exact ⟨M, m1, (d9 1 (by decide)).trans m2, m3⟩
      · rw [d10 l (by have := hL.2.2; omega)]; exact c6 l hl
      · rw [d11 j hj]; exact c8 j hj
