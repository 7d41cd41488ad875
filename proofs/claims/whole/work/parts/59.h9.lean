/-! whom alone -/
def AL_ (G : GS) (V P p a b X Y : Nat) : Prop := hv_ G p a b V X Y = 1 ∧ ∀ i, i < P → i ≠ p → i ≠ a → i ≠ b → hv_ G i a b V X Y = 0
theorem nIx {x y P : Nat} (hx : x < P) (hy : y < P) (hP : P ≤ 10) : nI x = nI y ↔ x = y := nI_eq (by omega) (by omega)
section ALO
variable {Q : Int32 → GS → Prop} {G : GS} {P V p a b X Y : Nat}
set_option maxHeartbeats 2000000 in
theorem onl_c (hF : HF_ G P V) (hA : AT_ G a b X Y (G 38)) (hp : p < P) (ha : a < P) (hb : b < P) (hX : X ≤ 61) (hY : Y ≤ 61) (h1 : AL_ G V P p a b X Y → ∀ c f, Q 1 (eS G c f)) (h0 : ¬ AL_ G V P p a b X Y → ∀ c f, Q 0 (eS G c f)) : wp_X2_onlyOneHears (nI p) G Q := by
  have hP := hF.1
  have p1 := hF.2.1
  have hV := hF.2.2.2.2.2.2.1
  unfold wp_X2_onlyOneHears
  rw [hV.2.1]
  refine ht_c hF hA hp ha hb hV.1 hX hY (fun c f hA1 => ⟨fun z => ?_, fun z => h0 (fun y => absurd (y.1.symm.trans z) (by decide)) c f⟩)
  have hp1 := (hv_01 G p a b V X Y).resolve_left z
  have key : ∀ (r i : Nat) (c f : Nat → Int32), AT_ G a b X Y c → i + r = P → (∀ j, j < i → j ≠ p → j ≠ a → j ≠ b → hv_ G j a b V X Y = 0) → lp_X2_onlyOneHears_17 Q (r + 1) (nI p) (nI i) (eS G c f) := by
    intro r
    induction r with
    | zero =>
      intro i c f hA2 hi hj
      have : i = P := by omega
      subst this
      refine ⟨fun _ => h1 ⟨hp1, hj⟩ c f, fun z => absurd ?_ z⟩
      show G 1 1 ≤ nI i
      rw [p1]; exact Int32.le_refl _
    | succ r ih =>
      intro i c f hA2 hi hj
      have go : ∀ c f, AT_ G a b X Y c → (i ≠ p → i ≠ a → i ≠ b → hv_ G i a b V X Y = 0) → lp_X2_onlyOneHears_17 Q (r + 1) (nI p) (nI i + 1) (eS G c f) := by
        intro c f hA3 hh
        rw [nI_1]
        refine ih (i + 1) c f hA3 (by omega) (fun j hj1 n1 n2 n3 => ?_)
        by_cases e : j = i
        · subst e; exact hh n1 n2 n3
        · exact hj j (by omega) n1 n2 n3
      refine ⟨fun z => absurd z ?_, fun _ => ?_⟩
      · show ¬ G 1 1 ≤ nI i
        rw [p1]; exact nI_ge (by omega) (by omega)
      rw [nIx (P := P) (by omega) hp hP]
      refine ⟨fun e => go c f hA2 (fun n _ _ => absurd e n), fun n1 => ?_⟩
      refine sin_c (G := eS G c f) (a := a) (b := b) (X := X) (Y := Y) hA2 (by omega) (by omega) (by omega) (fun e => ⟨fun _ => go c f hA2 (fun _ n2 n3 => absurd e (fun z => z.elim n2 n3)), fun z => absurd z (by decide)⟩) (fun ne => ⟨fun z => absurd rfl z, fun _ => ?_⟩)
      have e4 : (eS G c f) 1 4 = nI V := hV.2.1
      rw [e4]
      refine ht_c (G := eS G c f) hF hA2 (by omega) ha hb hV.1 hX hY (fun c' f' hA3 => ?_)
      have es : gf_ (gf_ (eS G c f) 38 c') 39 f' = eS G c' f' := eS_eS G c f c' f'
      rw [es]
      refine ⟨fun y => go c' f' hA3 (fun _ _ _ => y), fun y => h0 (fun x => y (x.2 i (by omega) n1 (fun z => ne (Or.inl z)) (fun z => ne (Or.inr z)))) c' f'⟩
  exact ⟨P + 1, key P 0 c f hA1 (by omega) (fun j hj => absurd hj (by omega))⟩
set_option maxHeartbeats 2000000 in
theorem onl_r (hF : HF_ G P V) (hp : p < P) (ha : a < P) (hb : b < P) (npa : p ≠ a) (npb : p ≠ b) (hX : X ≤ 61) (hY : Y ≤ 61) (h1 : AL_ G V P p a b X Y → ∀ c f, Q 1 (rS G c f)) (h0 : ¬ AL_ G V P p a b X Y → ∀ c f, Q 0 (rS G c f)) : wp_X10_isAlone (nI p) (nI a) (nI b) (nI X - 1) (nI Y - 1) G Q := by
  have hP := hF.1
  have p2 := hF.2.2.1
  have hV := hF.2.2.2.2.2.2.1
  have key : ∀ (r i : Nat) (c f : Nat → Int32), i + r = P → (∀ j, j < i → j ≠ a → j ≠ b → (j = p → hv_ G j a b V X Y = 1) ∧ (j ≠ p → hv_ G j a b V X Y = 0)) → lp_X10_isAlone_3 Q (r + 1) (nI p) (nI a) (nI b) (nI X - 1) (nI Y - 1) (nI i) (rS G c f) := by
    intro r
    induction r with
    | zero =>
      intro i c f hi hj
      have : i = P := by omega
      subst this
      refine ⟨fun _ => h1 ⟨(hj p hp npa npb).1 rfl, fun j hj1 n1 n2 n3 => (hj j hj1 n2 n3).2 n1⟩ c f, fun z => absurd ?_ z⟩
      show G 49 4 ≤ nI i
      rw [p2]; exact Int32.le_refl _
    | succ r ih =>
      intro i c f hi hj
      have go : ∀ c f, (i ≠ a → i ≠ b → (i = p → hv_ G i a b V X Y = 1) ∧ (i ≠ p → hv_ G i a b V X Y = 0)) → lp_X10_isAlone_3 Q (r + 1) (nI p) (nI a) (nI b) (nI X - 1) (nI Y - 1) (nI i + 1) (rS G c f) := by
        intro c f hh
        rw [nI_1]
        refine ih (i + 1) c f (by omega) (fun j hj1 n2 n3 => ?_)
        by_cases e : j = i
        · subst e; exact hh n2 n3
        · exact hj j (by omega) n2 n3
      refine ⟨fun z => absurd z ?_, fun _ => ?_⟩
      · show ¬ G 49 4 ≤ nI i
        rw [p2]; exact nI_ge (by omega) (by omega)
      rw [nIx (P := P) (by omega) hp hP, nIx (P := P) (by omega) ha hP, nIx (P := P) (by omega) hb hP]
      refine ⟨fun e => go c f (fun n _ => absurd e n), fun n2 => ⟨fun e => go c f (fun _ n => absurd e n), fun n3 => ?_⟩⟩
      have e4 : (rS G c f) 49 5 = nI V := hV.2.2.1
      rw [e4]
      refine dh_r (G := rS G c f) hF (by omega) ha hb hV.1 hX hY (fun c' f' => ?_)
      have es : gf_ (gf_ (rS G c f) 62 c') 63 f' = rS G c' f' := rS_rS G c f c' f'
      rw [es]
      refine ⟨fun n1 => ⟨fun y => go c' f' (fun _ _ => ⟨fun e => absurd e n1, fun _ => y⟩), fun y => h0 (fun x => y (x.2 i (by omega) n1 n2 n3)) c' f'⟩, fun e => ⟨fun y => go c' f' (fun _ _ => ⟨fun _ => y, fun n => absurd e n⟩), fun y => h0 (fun x => y (by subst e; exact x.1)) c' f'⟩⟩
  have := key P 0 (G 62) (G 63) (by omega) (fun j hj => absurd hj (by omega))
  rw [rS_id] at this
  exact ⟨P + 1, this⟩
end ALO
def cA_ (A : Nat → Bool) : Nat → Nat → Nat
  | 0, _ => 0
  | k + 1, s => (if A s then 1 else 0) + cA_ A k (s + 1)
def lA_ (A : Nat → Bool) : Nat → Nat → Int32
  | 0, _ => -1
  | k + 1, s => if A s then nI s else lA_ A k (s + 1)
theorem cA_le (A : Nat → Bool) : ∀ k s, cA_ A k s ≤ k
  | 0, _ => Nat.le_refl _
  | k + 1, s => by
    have := cA_le A k (s + 1)
    unfold cA_
    split <;> omega
noncomputable def alb_ (G : GS) (V P p a b d : Nat) : Nat → Bool := fun t => @decide (AL_ G V P p a b (t + 1) (t + d + 1)) (Classical.propDecidable _)
theorem alb_1 {G : GS} {V P p a b d t : Nat} (h : AL_ G V P p a b (t + 1) (t + d + 1)) : alb_ G V P p a b d t = true := @decide_eq_true _ (Classical.propDecidable _) h
theorem alb_0 {G : GS} {V P p a b d t : Nat} (h : ¬ AL_ G V P p a b (t + 1) (t + d + 1)) : alb_ G V P p a b d t = false := @decide_eq_false _ (Classical.propDecidable _) h
section ALP
variable {Q : Int32 → GS → Prop} {G : GS} {P V p a b d : Nat} {w : Int32}
set_option maxHeartbeats 2000000 in
theorem alo_c (hF : HF_ G P V) (hp : p < P) (ha : a < P) (hb : b < P) (hd : d ≤ 60) (h : ∀ c f, Q (if w = 0 then nI (cA_ (alb_ G V P p a b d) (61 - d) 0) else lA_ (alb_ G V P p a b d) (61 - d) 0) (eS G c f)) :
    ∀ (r : Nat) (c f : Nat → Int32), r ≤ 61 - d → lp_X9_alone_59 Q (r + 1) (nI p) (nI a) (nI b) (nI d) w (nI (cA_ (alb_ G V P p a b d) (61 - d - r) r)) (lA_ (alb_ G V P p a b d) (61 - d - r) r) (nI r - 1) (eS G c f) := by
  intro r
  induction r with
  | zero =>
    intro c f _
    have h2 := h c f
    refine ⟨fun _ => ⟨fun z => ?_, fun z => ?_⟩, fun z => absurd (by decide) z⟩
    · rw [if_neg z] at h2; exact h2
    · rw [if_pos z] at h2; exact h2
  | succ r ih =>
    intro c f hr
    have e1 : 61 - d - r = 61 - d - (r + 1) + 1 := by omega
    have e2 : cA_ (alb_ G V P p a b d) (61 - d - r) r = (if alb_ G V P p a b d r then 1 else 0) + cA_ (alb_ G V P p a b d) (61 - d - (r + 1)) (r + 1) := by rw [e1]; rfl
    have e3 : lA_ (alb_ G V P p a b d) (61 - d - r) r = if alb_ G V P p a b d r then nI r else lA_ (alb_ G V P p a b d) (61 - d - (r + 1)) (r + 1) := by rw [e1]; rfl
    have em : nI r + -1 = nI r - 1 := by rw [Int32.sub_eq_add_neg]
    rw [nI_pred]
    refine ⟨fun z => absurd z (nI_pos (by omega)), fun _ => ?_⟩
    rw [nI_add, ← nI_pred r, ← nI_pred (r + d)]
    refine at_c (G := eS G c f) hF ha hb (by omega) (by omega) (fun d hA0 => ?_)
    refine onl_c (G := gf_ (eS G c f) 38 d) hF hA0 hp ha hb (by omega) (by omega) (fun hA c' f' => ⟨fun z => absurd z (by decide), fun _ => ?_⟩) (fun hA c' f' => ⟨fun _ => ?_, fun z => absurd rfl z⟩)
    · have := ih c' f' (by omega)
      rw [e2, e3, alb_1 (G := G) hA, if_pos rfl, if_pos rfl, Nat.add_comm 1, ← nI_1] at this
      rw [eS_g, eS_eS, nI_pred, em]
      exact this
    · have := ih c' f' (by omega)
      rw [e2, e3, alb_0 (G := G) hA, if_neg Bool.false_ne_true, if_neg Bool.false_ne_true, Nat.zero_add] at this
      rw [eS_g, eS_eS, nI_pred, em]
      exact this
set_option maxHeartbeats 2000000 in
theorem alo_r (hF : HF_ G P V) (hp : p < P) (ha : a < P) (hb : b < P) (npa : p ≠ a) (npb : p ≠ b) (hd : d ≤ 60) (h : ∀ c f, Q (if w = 0 then nI (cA_ (alb_ G V P p a b d) (61 - d) 0) else lA_ (alb_ G V P p a b d) (61 - d) 0) (rS G c f)) :
    ∀ (k s m : Nat) (x : Int32) (c f : Nat → Int32), s + k = 61 - d → m ≤ s → m + cA_ (alb_ G V P p a b d) k s = cA_ (alb_ G V P p a b d) (61 - d) 0 → (if m = 0 then lA_ (alb_ G V P p a b d) k s else x) = lA_ (alb_ G V P p a b d) (61 - d) 0 → (m = 0 → x = -1) → lp_X10_alone_58 Q (k + 1) (nI p) (nI a) (nI b) (nI d) w (nI m) x (nI s) (rS G c f) := by
  intro k
  induction k with
  | zero =>
    intro s m x c f hs hm h1 h2 h3
    have h4 := h c f
    rw [← h1, ← h2] at h4
    refine ⟨fun _ => ⟨fun z => ?_, fun z => ?_⟩, fun z => absurd ?_ z⟩
    · rw [if_neg z] at h4
      by_cases c0 : m = 0
      · rw [if_pos c0] at h4
        rw [h3 c0]; exact h4
      · rw [if_neg c0] at h4; exact h4
    · rw [if_pos z] at h4; exact h4
    · rw [nI_add]
      exact nI_lt (a := 60) (by omega) (by omega)
  | succ k ih =>
    intro s m x c f hs hm h1 h2 h3
    have e2 : cA_ (alb_ G V P p a b d) (k + 1) s = (if alb_ G V P p a b d s then 1 else 0) + cA_ (alb_ G V P p a b d) k (s + 1) := rfl
    have e3 : lA_ (alb_ G V P p a b d) (k + 1) s = if alb_ G V P p a b d s then nI s else lA_ (alb_ G V P p a b d) k (s + 1) := rfl
    rw [e2] at h1
    rw [e3] at h2
    refine ⟨fun z => absurd z ?_, fun _ => ?_⟩
    · rw [nI_add]
      exact nI_nlt (a := 60) (b := s + d) (by omega) (by omega)
    have ea : nI s = nI (s + 1) - 1 := (nI_pred s).symm
    have eb : nI s + nI d = nI (s + d + 1) - 1 := by rw [nI_add, nI_pred]
    have go : wp_X10_isAlone (nI p) (nI a) (nI b) (nI (s + 1) - 1) (nI (s + d + 1) - 1) (rS G c f) (fun r9 G10 => ((¬ r9 = 0 → ((¬ nI m = 0 → lp_X10_alone_58 Q (k + 1) (nI p) (nI a) (nI b) (nI d) w (nI m + (1 : Int32)) x (nI s + 1) G10) ∧ (nI m = 0 → lp_X10_alone_58 Q (k + 1) (nI p) (nI a) (nI b) (nI d) w (nI m + (1 : Int32)) (nI s) (nI s + 1) G10))) ∧ (r9 = 0 → lp_X10_alone_58 Q (k + 1) (nI p) (nI a) (nI b) (nI d) w (nI m) x (nI s + 1) G10))) := by
      refine onl_r (G := rS G c f) hF hp ha hb npa npb (by omega) (by omega) (fun hA c' f' => ⟨fun _ => ?_, fun z => absurd z (by decide)⟩) (fun hA c' f' => ⟨fun z => absurd rfl z, fun _ => ?_⟩)
      · rw [alb_1 (G := G) hA, if_pos rfl] at h1 h2
        rw [rS_rS, nI_1, nI_1]
        refine ⟨fun z => ?_, fun z => ?_⟩
        · have m0 : ¬ m = 0 := fun e => z (by rw [e]; rfl)
          rw [if_neg m0] at h2
          exact ih (s + 1) (m + 1) x c' f' (by omega) (by omega) (by omega) (by rw [if_neg (by omega)]; exact h2) (fun e => absurd e (by omega))
        · have m0 : m = 0 := (nI_eq (b := 0) (by omega) (by omega)).mp z
          rw [if_pos m0] at h2
          exact ih (s + 1) (m + 1) (nI s) c' f' (by omega) (by omega) (by omega) (by rw [if_neg (by omega)]; exact h2) (fun e => absurd e (by omega))
      · rw [alb_0 (G := G) hA, if_neg Bool.false_ne_true] at h1 h2
        rw [rS_rS, nI_1]
        exact ih (s + 1) m x c' f' (by omega) (by omega) (by omega) h2 h3
    rw [← ea, ← eb] at go
    exact go
end ALP
section ST9
variable {G : GS} {K : Int32 → Int32 → GS → Prop}
theorem isin_ {Q : Int32 → GS → Prop} {x l u : Int32} (h1 : ¬ x < l → ¬ u < x → Q 1 G) (h0 : (x < l ∨ u < x) → Q 0 G) : wp_X10_isIn x l u G Q :=
  ⟨fun z => h0 (Or.inl z), fun z1 => ⟨fun z => h0 (Or.inr z), fun z2 => h1 z1 z2⟩⟩
set_option maxHeartbeats 2000000 in
theorem st_alone (a b c d w : Int32) (hI : Inv G) (hK : ∀ r G2, Inv G2 → K r r G2) : wp_X9_alone a b c d w G (fun r G1 => wp_X10_alone a b c d w G1 (fun r' G2 => K r r' G2)) := by
  obtain ⟨P, V, hF⟩ := hf_of hI.1
  have hF1 : HF_ (gu_ G 49 0 0) P V := hF
  have hN : Inv (gu_ G 49 0 0) := hI.sc (Sc.rf G).t0
  by_cases hT : T3_ P a b c
  · obtain ⟨i, j, k, hi, hj, hk, rfl, rfl, rfl, n1, n2, n3⟩ := hT
    refine thr_c1 hF hi hj hk n1 n2 n3 ⟨fun z => absurd z (by decide), fun _ => ?_⟩
    refine hh_ hF hi (fun hb => ⟨fun z => absurd z (by decide), fun _ => ?_⟩) (fun hb => ⟨fun _ => ?_, fun z => absurd rfl z⟩)
    · have bad : (d < 0 ∨ 60 < d) ∨ (w < 0 ∨ 1 < w) → wp_X10_alone (nI i) (nI j) (nI k) d w G (fun r' G2 => K (-1) r' G2) := by
        intro hbad
        refine thr_r1 hF1 hi hj hk n1 n2 n3 ⟨fun z => absurd z (by decide), fun _ => ?_⟩
        refine hu_r hF1 hi ⟨fun z => absurd ((hne_ (hm61 hF hi)).mp z) hb, fun _ => ?_⟩
        refine isin_ (fun y1 y2 => ⟨fun z => absurd z (by decide), fun _ => ?_⟩) (fun _ => ⟨fun _ => hK _ _ hN, fun z => absurd rfl z⟩)
        refine isin_ (fun y3 y4 => ?_) (fun _ => ⟨fun z => absurd rfl z, fun _ => hK _ _ hN⟩)
        rcases hbad with (z | z) | (z | z)
        · exact absurd z y1
        · exact absurd z y2
        · exact absurd z y3
        · exact absurd z y4
      refine ⟨fun z => bad (Or.inl (Or.inl z)), fun y1 => ⟨fun z => bad (Or.inl (Or.inr z)), fun y2 => ⟨fun z => bad (Or.inr (Or.inl z)), fun y3 => ⟨fun y4 => ?_, fun z => bad (Or.inr (Or.inr (Int32.not_le.mp z)))⟩⟩⟩⟩
      obtain ⟨e, he, rfl⟩ := nI_of2 (M := 60) (n := 60) (by decide) y1 (Int32.not_lt.mp y2)
      refine ⟨61 - e + 1, ?_⟩
      have e60 : (60 : Int32) - nI e = nI (61 - e) - 1 := by
        have : 61 - e = (60 - e) + 1 := by omega
        rw [this, nI_pred]
        exact pk_sub (a := 60) he
      rw [e60]
      have := alo_c (Q := fun r G1 => wp_X10_alone (nI i) (nI j) (nI k) (nI e) w G1 (fun r' G2 => K r r' G2)) (w := w) hF hi hj hk he (fun cc f => ?_) (61 - e) (G 38) (G 39) (Nat.le_refl _)
      · rw [Nat.sub_self, eS_id] at this
        exact this
      · have hF2 : HF_ (gu_ (eS G cc f) 49 0 0) P V := hF
        refine thr_r1 hF2 hi hj hk n1 n2 n3 ⟨fun z => absurd z (by decide), fun _ => ?_⟩
        refine hu_r hF2 hi ⟨fun z => absurd ((hne_ (hm61 hF hi)).mp z) hb, fun _ => ?_⟩
        refine isin_ (fun _ _ => ⟨fun z => absurd z (by decide), fun _ => ?_⟩) (fun z => absurd z (fun z => z.elim y1 y2))
        refine isin_ (fun _ _ => ⟨fun _ => ⟨61 - e + 1, ?_⟩, fun z => absurd z (by decide)⟩) (fun z => absurd z (fun z => z.elim y3 (Int32.not_lt.mpr y4)))
        have := alo_r (Q := fun r' G2 => K (if w = 0 then nI (cA_ (alb_ G V P i j k e) (61 - e) 0) else lA_ (alb_ G V P i j k e) (61 - e) 0) r' G2) (w := w) hF2 hi hj hk n1 n2 he (fun c2 f2 => hK _ _ (hI.sc ((((Sc.rf G).eS cc f).t0).rS c2 f2))) (61 - e) 0 0 (-1) ((gu_ (eS G cc f) 49 0 0) 62) ((gu_ (eS G cc f) 49 0 0) 63) (by omega) (by omega) (by omega) (if_pos rfl) (fun _ => rfl)
        rw [rS_id] at this
        exact this
    · refine thr_r1 hF1 hi hj hk n1 n2 n3 ⟨fun z => absurd z (by decide), fun _ => ?_⟩
      refine hu_r hF1 hi ⟨fun _ => hK _ _ hN, fun z => absurd ((hne_ (hm61 hF hi)).mpr hb) z⟩
  · refine thr_c0 hF hT ⟨fun _ => ?_, fun z => absurd rfl z⟩
    exact thr_r0 hF1 hT ⟨fun _ => hK _ _ hN, fun z => absurd rfl z⟩
end ST9
