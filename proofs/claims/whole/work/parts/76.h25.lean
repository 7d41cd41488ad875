section ARR
variable {Q : Int32 → GS → Prop} {G : GS} {P V M : Nat} {u v : Nat → Nat}
theorem PC_.cg {G' : GS} (h : PC_ G P M u v) (e1 : G' 1 = G 1) (e6 : G' 6 = G 6) (e7 : G' 7 = G 7) : PC_ G' P M u v := by
  unfold PC_ at *
  rw [e1, e6, e7]; exact h
theorem HF_.fr {G' : GS} {L : List Nat} (hF : HF_ G P V) (f : FR L G G') (hl : ∀ k, k ∈ L → k ∉ hl_ ∧ k ≠ 49) : HF_ G' P V := hF.cg (fun k hk => f k (fun z => (hl k z).1 hk)) (fun j _ => by rw [f 49 (fun z => (hl 49 z).2 rfl)])
theorem CF_.cg {G' : GS} {i j : Nat} (h : ∀ k, k ∈ hl_ → G' k = G k) : CF_ G' u v i j ↔ CF_ G u v i j := by
  unfold CF_ wd_
  rw [hm_cg h, hm_cg h, hm_cg h, hm_cg h]
theorem sh8_ : ∀ w, w < 8 → ∀ b, b < 256 → b ||| 2 ^ w < 256 := by decide +kernel
set_option maxHeartbeats 1000000 in
theorem arr_c (hF : HF_ G P V) (hp : PC_ G P M u v) (hQ : ∀ L d, L ≤ M → VA_ (CF_ G u v) L M d → LF_ (CF_ G u v) L M 0 d → (∀ K, K < L → ¬ EX2_ (CF_ G u v) K M 0 (fun _ => 0)) → ∀ G', FR [41, 42] G G' → GV_ 41 M d G' → Q (nI L) G') : wp_X7_arrange G Q := by
  have hM := hp.1
  have fl : ∀ {G' : GS}, FR [41, 42] G G' → HF_ G' P V := fun f => hF.fr f (by decide)
  have pl : ∀ {G' : GS}, FR [41, 42] G G' → PC_ G' P M u v := fun f => hp.cg (f 1 (by decide)) (f 6 (by decide)) (f 7 (by decide))
  have cl : ∀ {G' : GS}, FR [41, 42] G G' → ∀ i j, CF_ G' u v i j ↔ CF_ G u v i j := fun f i j => CF_.cg (fun k hk => f k (fun z => (by decide : ∀ k, k ∈ [41, 42] → k ∉ hl_) k z hk))
  have ph2 : ∀ (G1 : GS), FR [41, 42] G G1 → CB_ (CF_ G u v) M G1 → ∀ (r L : Nat) (G' : GS), L + r = M → FR [41, 42] G G' → CB_ (CF_ G u v) M G' → (∀ K, K < L → ¬ EX2_ (CF_ G u v) K M 0 (fun _ => 0)) → lp_X7_arrange_59 Q (r + 1) (nI L) G' := by
    intro G1 _ _ r
    induction r with
    | zero =>
      intro L G' hL f cb hk
      have : L = M := by omega
      subst this
      refine ⟨fun z => absurd z ?_, fun _ => ?_⟩
      · rw [(pl f).2.1]; exact fun z => Int32.lt_irrefl z
      · rw [(pl f).2.1]
        refine pla_c (C := CF_ G u v) hM (by omega) L 0 12 0 (fun _ => 0) G' _ (by omega) (by omega) cb (fun i hi => absurd hi (by omega)) (fun j hj => absurd hj (by omega)) (by omega) (fun j hj => absurd hj (by omega)) (fun d d1 d2 d3 G2 f2 gd => ⟨fun z => absurd z (by decide), fun _ => hQ L d (Nat.le_refl _) d2 d3 hk G2 (f.tr (f2.sub (by decide))) gd⟩) (fun hn => absurd (EX2_M _ _ _) hn)
    | succ r ih =>
      intro L G' hL f cb hk
      refine ⟨fun z => absurd z ?_, fun _ => ?_⟩
      · rw [(pl f).2.1]; exact nI_nlt (by omega) (by omega)
      · rw [(pl f).2.1]
        refine pla_c (C := CF_ G u v) hM (by omega) M 0 12 0 (fun _ => 0) G' _ (by omega) (by omega) cb (fun i hi => absurd hi (by omega)) (fun j hj => absurd hj (by omega)) (by omega) (fun j hj => absurd hj (by omega)) (fun d d1 d2 d3 G2 f2 gd => ⟨fun z => absurd z (by decide), fun _ => hQ L d (by omega) d2 d3 hk G2 (f.tr (f2.sub (by decide))) gd⟩) (fun hn G2 f2 _ => ⟨fun _ => ?_, fun z => absurd rfl z⟩)
        rw [nI_1]
        refine ih (L + 1) G2 (by omega) (f.tr (f2.sub (by decide))) (fun i hi => by rw [f2 42 (by decide)]; exact cb i hi) (fun K hK => ?_)
        by_cases e : K = L
        · rw [e]; exact hn
        · exact hk K (by omega)
  have ph1 : ∀ (i : Nat), i < M → ∀ (R : Int32 → GS → Prop), (∀ G', FR [41, 42] G G' → CB_ (CF_ G u v) (i + 1) G' → R (nI (i + 1)) G') → ∀ (r j b : Nat) (G' : GS), j + r = i → FR [41, 42] G G' → CB_ (CF_ G u v) i G' → b < 256 → G' 42 i = nI b → (∀ q, q < j → (b.testBit q = true ↔ CF_ G u v i q)) → (∀ q, j ≤ q → b.testBit q = false) → lp_X7_arrange_19 Q R (r + 1) (nI i) (nI j) G' := by
    intro i hi R hR r
    induction r with
    | zero =>
      intro j b G' hj f cb hb eb t1 t2
      have : j = i := by omega
      subst this
      refine ⟨fun _ => ?_, fun z => absurd (Int32.le_refl _) z⟩
      rw [nI_1]
      refine hR G' f (fun q hq => ?_)
      by_cases e : q = j
      · rw [e]; exact ⟨b, hb, eb, t1⟩
      · exact cb q (by omega)
    | succ r ih =>
      intro j b G' hj f cb hb eb t1 t2
      refine ⟨fun z => absurd z (nI_ge (by omega) (by omega)), fun _ => ?_⟩
      refine cla_c (fl f) (pl f) hi (by omega) (fun hc => ⟨fun z => absurd z (by decide), fun _ => ⟨vp_in_nI (by omega) (by omega), ?_⟩⟩) (fun hc => ⟨fun _ => ?_, fun z => absurd rfl z⟩)
      · rw [cl f] at hc
        rw [nI_clamp (by omega), eb, sh1_ _ (by omega), no_, nI_1]
        refine ih (j + 1) (b ||| 2 ^ j) _ (by omega) (f.gu _ (by decide)) (fun q hq => ?_) (sh8_ j (by omega) b hb) (by rw [gu_ap, if_pos rfl, if_pos rfl]) (fun q hq => ?_) (fun q hq => ?_)
        · obtain ⟨b2, h1, h2, h3⟩ := cb q hq
          refine ⟨b2, h1, ?_, h3⟩
          show upd (G' 42) i _ q = _
          rw [up_miss _ _ (by omega)]; exact h2
        · rw [Nat.testBit_or, Bool.or_eq_true, Nat.testBit_two_pow, decide_eq_true_iff]
          by_cases e : q = j
          · rw [e]; exact ⟨fun _ => hc, fun _ => Or.inr rfl⟩
          · rw [t1 q (by omega)]
            exact ⟨fun z => z.elim id (fun z => absurd z.symm e), Or.inl⟩
        · rw [Nat.testBit_or, t2 q (by omega), Nat.testBit_two_pow, Bool.false_or, decide_eq_false_iff_not]
          omega
      · rw [cl f] at hc
        rw [nI_1]
        refine ih (j + 1) b G' (by omega) f cb hb eb (fun q hq => ?_) (fun q hq => t2 q (by omega))
        by_cases e : q = j
        · rw [e, t2 j (Nat.le_refl _)]
          exact ⟨fun z => absurd z (by decide), fun z => absurd z hc⟩
        · exact t1 q (by omega)
  have key : ∀ (r i : Nat) (G' : GS), i + r = M → FR [41, 42] G G' → CB_ (CF_ G u v) i G' → lp_X7_arrange_2 Q (r + 1) (nI i) G' := by
    intro r
    induction r with
    | zero =>
      intro i G' hi f cb
      have : i = M := by omega
      subst this
      refine ⟨fun _ => ⟨i + 1, ph2 G' f cb i 0 G' (by omega) f cb (fun K hK => absurd hK (by omega))⟩, fun z => absurd ?_ z⟩
      rw [(pl f).2.1]; exact Int32.le_refl _
    | succ r ih =>
      intro i G' hi f cb
      refine ⟨fun z => absurd z ?_, fun _ => ⟨vp_in_nI (by omega) (by omega), i + 1, ?_⟩⟩
      · rw [(pl f).2.1]; exact nI_ge (by omega) (by omega)
      rw [nI_clamp (by omega)]
      refine ph1 i (by omega) _ (fun G2 f2 cb2 => ih (i + 1) G2 (by omega) f2 cb2) i 0 0 _ (by omega) (f.gu _ (by decide)) (fun q hq => ?_) (by omega) (by rw [gu_ap, if_pos rfl, if_pos rfl]; rfl) (fun q hq => absurd hq (by omega)) (fun q _ => Nat.zero_testBit q)
      obtain ⟨b2, h1, h2, h3⟩ := cb q hq
      refine ⟨b2, h1, ?_, h3⟩
      show upd (G' 42) i _ q = _
      rw [up_miss _ _ (by omega)]; exact h2
  exact ⟨M + 1, key M 0 G (by omega) (FR.rf _ _) (fun q hq => absurd hq (by omega))⟩
end ARR
/-! the reference's turns -/
section CAL
variable {Q : Int32 → GS → Prop} {G : GS} {P V M L : Nat} {u v : Nat → Nat}
theorem cha_r {i t : Nat} {c : Nat → Nat} {G' : GS} (hF : HF_ G' P V) (hp : PD_ G' P M u v) (hi : i < M) (hc : ∀ j, j < i → c j ≤ 100) (ht : t ≤ 100) (hg : GV_ 69 i c G') (h1 : (∀ j, j < i → CF_ G' u v i j → c j ≠ t) → Q 1 G') (h0 : (∃ j, j < i ∧ CF_ G' u v i j ∧ c j = t) → Q 0 G') : wp_X10_canHave (nI i) (nI t) G' Q := by
  have hM := hp.1
  have key : ∀ (r j : Nat), j + r = i → (∀ q, q < j → CF_ G' u v i q → c q ≠ t) → lp_X10_canHave_2 Q (r + 1) (nI i) (nI t) (nI j) G' := by
    intro r
    induction r with
    | zero =>
      intro j hj h
      have : j = i := by omega
      subst this
      exact ⟨fun _ => h1 h, fun z => absurd (Int32.le_refl _) z⟩
    | succ r ih =>
      intro j hj h
      have go : (CF_ G' u v i j → c j ≠ t) → lp_X10_canHave_2 Q (r + 1) (nI i) (nI t) (nI j + 1) G' := by
        intro hn
        rw [nI_1]
        refine ih (j + 1) (by omega) (fun q hq => ?_)
        by_cases e : q = j
        · rw [e]; exact hn
        · exact h q (by omega)
      refine ⟨fun z => absurd z (nI_ge (by omega) (by omega)), fun _ => ⟨vp_in_nI (by omega) (by omega), ?_⟩⟩
      rw [nI_clamp (by omega), hg j (by omega), nI_eq (by have := hc j (by omega); omega) (by omega)]
      refine ⟨fun z => go (fun _ => z), fun z => ?_⟩
      exact cbo_r hF hp hi (by omega) (fun y => ⟨fun z => absurd z (by decide), fun _ => h0 ⟨j, by omega, y, z⟩⟩) (fun y => ⟨fun _ => go (fun x => absurd x y), fun z => absurd rfl z⟩)
  exact ⟨i + 1, key i 0 (by omega) (fun q hq => absurd hq (by omega))⟩
theorem PD_.cg {G' : GS} (h : PD_ G P M u v) (e1 : G' 49 35 = G 49 35) (e6 : G' 67 = G 67) (e7 : G' 68 = G 68) : PD_ G' P M u v := by
  unfold PD_ at *
  rw [e1, e6, e7]; exact h
def ZB_ (i : Nat) (G : GS) : Prop := ∀ j, i ≤ j → j < 8 → G 69 j = 0
set_option maxHeartbeats 2000000 in
theorem cal_r (hF : HF_ G P V) (hp : PD_ G P M u v) (hL : L ≤ 8)
    (h1 : ∀ d, VA_ (CF_ G u v) L M d → LF_ (CF_ G u v) L M 0 d → ∀ G', FR [69] G G' → GV_ 69 M d G' → Q 1 G') (h0 : ¬ EX2_ (CF_ G u v) L M 0 (fun _ => 0) → ∀ G', FR [69] G G' → Q 0 G') : wp_X10_canAll (nI L) G Q := by
  have hM := hp.1
  have fl : ∀ {G' : GS}, FR [69] G G' → HF_ G' P V := fun f => hF.fr f (by decide)
  have pl : ∀ {G' : GS}, FR [69] G G' → PD_ G' P M u v := fun f => hp.cg (by rw [f 49 (by decide)]) (f 67 (by decide)) (f 68 (by decide))
  have cl : ∀ {G' : GS}, FR [69] G G' → ∀ i j, CF_ G' u v i j ↔ CF_ G u v i j := fun f i j => CF_.cg (fun k hk => f k (fun z => (by decide : ∀ k, k ∈ [69] → k ∉ hl_) k z hk))
  have main : ∀ (r i : Nat) (c : Nat → Nat) , i + r = M → VA_ (CF_ G u v) L i c →
      (∀ d, (∀ j, j < i → d j = c j) → VA_ (CF_ G u v) L M d → LF_ (CF_ G u v) L M i d → ∀ G', FR [69] G G' → GV_ 69 M d G' → Q 1 G') →
      (¬ EX2_ (CF_ G u v) L M i c → ∃ kf, ∀ G', FR [69] G G' → GV_ 69 i c G' → ZB_ i G' → lp_X10_canAll_23 Q kf (nI L) (nI i - 1) G') →
      ∃ kf, ∀ G', FR [69] G G' → GV_ 69 i c G' → ZB_ i G' → lp_X10_canAll_23 Q kf (nI L) (nI i) G' := by
    intro r
    induction r with
    | zero =>
      intro i c hi hva g1 g0
      have : i = M := by omega
      subst this
      refine ⟨1, fun G' f gv zb => ⟨fun z => absurd z (nI_pos (by omega)), fun _ => ⟨fun _ => ?_, fun z => absurd ?_ z⟩⟩⟩
      · rw [(pl f).2.1]
        exact ⟨fun z => absurd rfl z, fun _ => g1 c (fun _ _ => rfl) hva (fun q a b => absurd b (by omega)) G' f gv⟩
      · rw [(pl f).2.1]; exact Int32.le_refl _
    | succ r ih =>
      intro i c hi hva g1 g0
      have inner : ∀ (e t : Nat), t + e = L + 1 → 1 ≤ t → (∀ s, 1 ≤ s → s < t → ¬ EX2_ (CF_ G u v) L M (i + 1) (at_ i s c)) → ∃ kf, ∀ G', FR [69] G G' → GV_ 69 i c G' → ZB_ (i + 1) G' → ∃ k4, lp_X10_canAll_44 Q (fun y1 y2 G => lp_X10_canAll_23 Q kf y1 y2 G) k4 (nI L) (nI i) (nI t) G' := by
        intro e
        induction e with
        | zero =>
          intro t ht ht1 hs
          have no : ¬ EX2_ (CF_ G u v) L M i c := by
            rintro ⟨d, d1, d2⟩
            have dk := (d2 i (by omega)).1
            refine hs (d i) dk.1 (by omega) ⟨d, fun j hj => ?_, d2⟩
            by_cases ej : j = i
            · rw [ej, at_h]
            · rw [at_n _ _ ej]; exact d1 j (by omega)
          obtain ⟨kf, hk⟩ := g0 no
          refine ⟨kf, fun G' f gv zb => ⟨1, ?_⟩⟩
          have hlt : nI L < nI t := nI_lt (by omega) (by omega)
          refine ⟨fun _ => ⟨fun _ => ⟨vp_in_nI (by omega) (by omega), fun _ => ?_, fun z => absurd hlt z⟩, fun z => absurd hlt z⟩, fun z => absurd hlt z⟩
          rw [nI_clamp (by omega)]
          refine hk _ (f.gu _ (by decide)) (fun j hj => ?_) (fun j hj1 hj2 => ?_)
          · show upd (G' 69) i 0 j = _
            rw [up_miss _ _ (by omega)]; exact gv j hj
          · show upd (G' 69) i 0 j = _
            by_cases ej : j = i
            · rw [ej, up_hit]
            · rw [up_miss _ _ ej]; exact zb j (by omega) hj2
        | succ e ihe =>
          intro t ht ht1 hs
          have hnl : ¬ nI L < nI t := nI_nlt (by omega) (by omega)
          have hcb : ∀ j, j < i → c j ≤ 100 := fun j hj => by have := (hva j hj).1.2; omega
          by_cases hfr : ∀ j, j < i → CF_ G u v i j → c j ≠ t
          · have nxt : ¬ EX2_ (CF_ G u v) L M (i + 1) (at_ i t c) → ∃ kf, ∀ G', FR [69] G G' → GV_ 69 (i + 1) (at_ i t c) G' → ZB_ (i + 1) G' → lp_X10_canAll_23 Q kf (nI L) (nI (i + 1) - 1) G' := by
              intro hn
              obtain ⟨kf, hk⟩ := ihe (t + 1) (by omega) (by omega) (fun s s1 s2 => by
                by_cases es : s = t
                · rw [es]; exact hn
                · exact hs s s1 (by omega))
              refine ⟨kf + 1, fun G' f gv zb => ?_⟩
              rw [nI_pred]
              refine ⟨fun z => absurd z (nI_pos (by omega)), fun _ => ⟨fun z => absurd z ?_, fun _ => ⟨vp_in_nI (by omega) (by omega), ?_⟩⟩⟩
              · rw [(pl f).2.1]; exact nI_ge (by omega) (by omega)
              · rw [nI_clamp (by omega), gv i (by omega), at_h, nI_1]
                exact hk G' f (fun j hj => by rw [gv j (by omega), at_n _ _ (by omega)]) zb
            obtain ⟨kf, hk⟩ := ih (i + 1) (at_ i t c) (by omega) (VA_up hva ht1 (by omega) hfr) (fun d d1 d2 d3 G' f gv => g1 d (fun j hj => by rw [d1 j (by omega), at_n _ _ (by omega)]) d2 (fun q hq1 hq2 s s1 s2 => by
              by_cases ei : q = i
              · subst ei
                have et : d q = t := by rw [d1 q (by omega), at_h]
                rw [et] at s2
                refine fun z => hs s s1 s2 (EX2_cg (fun j hj => ?_) z)
                by_cases ej : j = q
                · rw [ej, at_h, at_h]
                · rw [at_n _ _ ej, at_n _ _ ej, d1 j (by omega), at_n _ _ ej]
              · exact d3 q (by omega) hq2 s s1 s2) G' f gv) nxt
            refine ⟨kf, fun G' f gv zb => ⟨1, ⟨fun z => absurd z hnl, fun _ => ?_⟩⟩⟩
            refine cha_r (fl f) (pl f) (by omega) hcb (by omega) gv (fun _ => ⟨fun _ => ⟨fun z => absurd z hnl, fun _ => ⟨vp_in_nI (by omega) (by omega), fun z => absurd z hnl, fun _ => ?_⟩⟩, fun z => absurd z (by decide)⟩) (fun ⟨j, hj, hc, ej⟩ => absurd ej (hfr j hj ((cl f i j).mp hc)))
            rw [nI_clamp (by omega), nI_1]
            refine hk _ (f.gu _ (by decide)) (fun j hj => ?_) (fun j hj1 hj2 => ?_)
            · show upd (G' 69) i (nI t) j = _
              by_cases ej : j = i
              · rw [ej, up_hit, at_h]
              · rw [up_miss _ _ ej, at_n _ _ ej]; exact gv j (by omega)
            · show upd (G' 69) i (nI t) j = _
              rw [up_miss _ _ (by omega)]; exact zb j hj1 hj2
          · have hn : ¬ EX2_ (CF_ G u v) L M (i + 1) (at_ i t c) := by
              rintro ⟨d, d1, d2⟩
              refine hfr (fun j hj hc ej => ?_)
              have dk : d i = t := by rw [d1 i (by omega), at_h]
              have dj : d j = t := by rw [d1 j (by omega), at_n _ _ (by omega)]; exact ej
              exact (d2 i (by omega)).2 j hj hc (dj.trans dk.symm)
            obtain ⟨kf, hk⟩ := ihe (t + 1) (by omega) (by omega) (fun s s1 s2 => by
              by_cases es : s = t
              · rw [es]; exact hn
              · exact hs s s1 (by omega))
            refine ⟨kf, fun G' f gv zb => ?_⟩
            obtain ⟨k4, h4⟩ := hk G' f gv zb
            refine ⟨k4 + 1, ⟨fun z => absurd z hnl, fun _ => ?_⟩⟩
            refine cha_r (fl f) (pl f) (by omega) hcb (by omega) gv (fun h => absurd (fun j hj hc => h j hj ((cl f i j).mpr hc)) hfr) (fun _ => ⟨fun z => absurd rfl z, fun _ => ?_⟩)
            rw [nI_1]; exact h4
      obtain ⟨kf, hk⟩ := inner L 1 (by omega) (by omega) (fun s s1 s2 => absurd s2 (by omega))
      refine ⟨kf + 1, fun G' f gv zb => ⟨fun z => absurd z (nI_pos (by omega)), fun _ => ⟨fun z => absurd z ?_, fun _ => ⟨vp_in_nI (by omega) (by omega), ?_⟩⟩⟩⟩
      · rw [(pl f).2.1]; exact nI_ge (by omega) (by omega)
      · rw [nI_clamp (by omega), zb i (Nat.le_refl _) (by omega)]
        exact hk G' f gv (fun j hj1 hj2 => zb j (by omega) hj2)
  have hb : ¬ EX2_ (CF_ G u v) L M 0 (fun _ => 0) → ∃ kf, ∀ G', FR [69] G G' → GV_ 69 0 (fun _ => 0) G' → ZB_ 0 G' → lp_X10_canAll_23 Q kf (nI L) (nI 0 - 1) G' := by
    intro hn
    refine ⟨1, fun G' f _ _ => ⟨fun _ => ⟨fun _ => h0 hn G' f, fun e => ?_⟩, fun z => absurd (by decide) z⟩⟩
    rw [(pl f).2.1] at e
    have e : (-1 : Int32) = nI M := e
    exact absurd (show nI M < 0 by rw [← e]; decide) (nI_pos (by omega))
  obtain ⟨kf, hk⟩ := main M 0 (fun _ => 0) (by omega) (fun q hq => absurd hq (by omega)) (fun d _ d2 d3 G' f gv => h1 d d2 d3 G' f gv) hb
  have kz : ∀ (r w : Nat) (G' : GS), w + r = 8 → FR [69] G G' → (∀ j, j < w → G' 69 j = 0) → lp_X10_canAll_4 Q (r + 1) (nI L) 0 (nI w) G' := by
    intro r
    induction r with
    | zero =>
      intro w G' hw f h
      have : w = 8 := by omega
      subst this
      exact ⟨fun _ => ⟨kf, hk G' f (fun j hj => absurd hj (by omega)) (fun j _ hj => h j hj)⟩, fun z => absurd (Int32.le_refl _) z⟩
    | succ r ih =>
      intro w G' hw f h
      refine ⟨fun z => absurd z (nI_ge (b := 8) (by omega) (by omega)), fun _ => ⟨vp_in_nI (by omega) (by omega), ?_⟩⟩
      rw [nI_clamp (by omega), nI_1]
      refine ih (w + 1) _ (by omega) (f.gu _ (by decide)) (fun j hj => ?_)
      show upd (G' 69) w 0 j = _
      by_cases c : j = w
      · rw [c, up_hit]
      · rw [up_miss _ _ c]; exact h j (by omega)
  exact ⟨9, kz 8 0 G (by omega) (FR.rf _ _) (fun j hj => absurd hj (by omega))⟩
end CAL
section STU
variable {G : GS} {K : Int32 → Int32 → GS → Prop}
theorem pairs_of {G : GS} {P V : Nat} (hI : Inv G) (hF : HF_ G P V) : ∃ M u v, PC_ G P M u v ∧ PD_ G P M u v := by
  obtain ⟨⟨hA, hB, hC, hD, hE, hFF, hG, hH, hIt, ⟨P2, n, a1, a2, a3, a4, a5, a6⟩, hr⟩, hrest⟩ := hI
  have a5 : G 49 35 = nI n := a5
  have hPP : P2 = P := hf_eq hF a2 a1
  subst hPP
  have key : ∀ i, i < n → (G 6 i).toNatClampNeg < P2 ∧ (G 7 i).toNatClampNeg < P2 ∧ G 6 i = nI (G 6 i).toNatClampNeg ∧ G 7 i = nI (G 7 i).toNatClampNeg ∧ G 67 i = nI (G 6 i).toNatClampNeg ∧ G 68 i = nI (G 7 i).toNatClampNeg := fun i hi => by
    obtain ⟨x, y, b1, b2, b3, b4, b5, b6, b7⟩ := a6 i hi
    have b5 : G 67 i = nI x := b5
    have b7 : G 68 i = nI y := b7
    rw [b4, b6, nI_clamp (by omega), nI_clamp (by omega)]
    exact ⟨b1, b2, rfl, rfl, b5, b7⟩
  exact ⟨n, fun i => (G 6 i).toNatClampNeg, fun i => (G 7 i).toNatClampNeg, ⟨a3, a4, fun i hi => ⟨(key i hi).1, (key i hi).2.1, (key i hi).2.2.1, (key i hi).2.2.2.1⟩⟩, ⟨a3, a5, fun i hi => ⟨(key i hi).1, (key i hi).2.1, (key i hi).2.2.2.2.1, (key i hi).2.2.2.2.2⟩⟩⟩
set_option maxHeartbeats 1000000 in
theorem st_turnOf (a : Int32) (hI : Inv G) (hK : ∀ r G2, Inv G2 → K r r G2) : wp_X9_turnOf a G (fun r G1 => wp_X10_turnOf a G1 (fun r' G2 => K r r' G2)) := by
  have hN : Inv (gu_ G 49 0 0) := hI.sc (Sc.rf G).t0
  obtain ⟨P, V, hF⟩ := hf_of hI.1
  obtain ⟨M, u, v, pc, pd⟩ := pairs_of hI hF
  have hM := pc.1
  have main : ∀ (L : Nat) (d : Nat → Nat) (r : Int32), L ≤ M → VA_ (CF_ G u v) L M d → LF_ (CF_ G u v) L M 0 d → (∀ K, K < L → ¬ EX2_ (CF_ G u v) K M 0 (fun _ => 0)) → ∀ G1, FR [41, 42] G G1 → (∀ G2, FR [69] (gu_ G1 49 0 0) G2 → GV_ 69 M d G2 → ((¬ a = 0 → (vp_in (a - (10 : Int32)) 8 ∧ K r (G2 69 ((a - (10 : Int32)).toNatClampNeg)) G2)) ∧ (a = 0 → K r (nI L) G2))) → ∃ kf, lp_X10_turnOf_30 (fun r' G2 => K r r' G2) kf a 0 (gu_ G1 49 0 0) := by
    intro L d r hL hd hl hno G1 f1 h
    have s1 : ∀ k, k ∈ hl_ → (gu_ G1 49 0 0) k = G k := fun k hk => by
      rw [gu_rw, if_neg (fun e => (by decide : ∀ k, k ∈ hl_ → k = 49 → False) k hk e)]
      exact f1 k (fun z => (by decide : ∀ k, k ∈ [41, 42] → k ∉ hl_) k z hk)
    have s49 : ∀ j, j ≠ 0 → (gu_ G1 49 0 0) 49 j = G 49 j := fun j hj => by
      show upd (G1 49) 0 0 j = _
      rw [up_miss _ _ hj, f1 49 (by decide)]
    have hF1 : HF_ (gu_ G1 49 0 0) P V := hF.cg s1 (fun j hj => s49 j ((by decide : ∀ j, j ∈ [4, 5, 16] → j ≠ 0) j hj))
    have pd1 : PD_ (gu_ G1 49 0 0) P M u v := pd.cg (s49 35 (by decide)) (by rw [gu_rw, if_neg (by decide)]; exact f1 67 (by decide)) (by rw [gu_rw, if_neg (by decide)]; exact f1 68 (by decide))
    have cf : CF_ (gu_ G1 49 0 0) u v = CF_ G u v := funext (fun i => funext (fun j => propext (CF_.cg s1)))
    have key : ∀ (e n : Nat) (G2 : GS), n + e = L → FR [69] (gu_ G1 49 0 0) G2 → lp_X10_turnOf_30 (fun r' G2 => K r r' G2) (e + 1) a (nI n) G2 := by
      intro e
      induction e with
      | zero =>
        intro n G2 hn f2
        have hn : n = L := hn
        subst hn
        have cf2 : CF_ G2 u v = CF_ G u v := by
          rw [← cf]
          exact funext (fun i => funext (fun j => propext (CF_.cg (fun k hk => f2 k (fun z => (by decide : ∀ k, k ∈ [69] → k ∉ hl_) k z hk)))))
        refine cal_r (hF1.fr f2 (by decide)) (pd1.cg (by rw [f2 49 (by decide)]) (f2 67 (by decide)) (f2 68 (by decide))) (by omega) (fun d' d1 d2 G3 f3 gv => ⟨fun _ => ?_, fun z => absurd z (by decide)⟩) (fun hx => absurd ⟨d, fun j hj => absurd hj (by omega), by rw [cf2]; exact hd⟩ hx)
        rw [cf2] at d1 d2
        have ed := LF_un d1 hd d2 hl
        exact h G3 (f2.tr f3) (fun j hj => by rw [gv j hj, ed j hj])
      | succ e ih =>
        intro n G2 hn f2
        have cf2 : CF_ G2 u v = CF_ G u v := by
          rw [← cf]
          exact funext (fun i => funext (fun j => propext (CF_.cg (fun k hk => f2 k (fun z => (by decide : ∀ k, k ∈ [69] → k ∉ hl_) k z hk)))))
        refine cal_r (hF1.fr f2 (by decide)) (pd1.cg (by rw [f2 49 (by decide)]) (f2 67 (by decide)) (f2 68 (by decide))) (by omega) (fun d' d1 d2 G3 f3 gv => ?_) (fun hx G3 f3 => ⟨fun z => absurd rfl z, fun _ => ?_⟩)
        · rw [cf2] at d1
          exact absurd ⟨d', fun j hj => absurd hj (by omega), d1⟩ (hno n (by omega))
        · rw [nI_1]
          exact ih (n + 1) G3 (by omega) (f2.tr f3)
    exact ⟨L + 1, key L 0 _ (by omega) (FR.rf _ _)⟩
  have fin : ∀ {G1 G2 : GS}, FR [41, 42] G G1 → FR [69] (gu_ G1 49 0 0) G2 → Inv G2 := fun f1 f2 => hI.sc (((Sc.fr f1 (by decide)).t0).tr (Sc.fr f2 (by decide)))
  refine ⟨fun n0 => ?_, fun e0 => ?_⟩
  · rw [pc.2.1]
    refine inr_c (n := M) (by omega) (fun i hi e e10 => ⟨fun _ => ?_, fun z => absurd z (by decide)⟩) (fun hno => ⟨fun z => absurd rfl z, fun _ => ?_⟩)
    · refine arr_c hF pc (fun L d hL hd hl hno G1 f1 gv => ?_)
      rw [e10, nI_clamp (by omega), gv i hi]
      refine ⟨vp_in_nI (by omega) (by omega), fun z => absurd z n0, fun _ => ?_⟩
      have e35 : G1 49 35 = nI M := by rw [f1 49 (by decide)]; exact pd.2.1
      rw [e35]
      refine inr_r (n := M) (by omega) (fun _ _ _ _ => ⟨fun _ => main L d _ hL hd hl hno G1 f1 (fun G2 f2 gv2 => ⟨fun _ => ?_, fun z => absurd z n0⟩), fun z => absurd z (by decide)⟩) (fun h => absurd e (h i hi))
      rw [e10, nI_clamp (by omega), gv2 i hi]
      exact ⟨vp_in_nI (by omega) (by omega), hK _ _ (fin f1 f2)⟩
    · refine ⟨fun z => absurd z n0, fun _ => ?_⟩
      rw [pd.2.1]
      exact inr_r (n := M) (by omega) (fun i hi e _ => absurd e (hno i hi)) (fun _ => ⟨fun z => absurd rfl z, fun _ => hK _ _ hN⟩)
  · refine arr_c hF pc (fun L d hL hd hl hno G1 f1 gv => ⟨fun _ => ?_, fun z => absurd e0 z⟩)
    exact main L d _ hL hd hl hno G1 f1 (fun G2 f2 gv2 => ⟨fun z => absurd e0 z, fun _ => hK _ _ (fin f1 f2)⟩)
end STU
