/-- the class's values of the terms -/
def ca_ (G : GS) : Nat → Int32 := fun k => match k with
  | 0 => G 38 2 | 1 => G 38 3 | 2 => G 38 3 - G 38 2 | 3 => G 38 8
  | 4 => if (if 0 ≤ (G 38 3) - (G 38 8) then ((G 38 3) - (G 38 8)) else 0 - ((G 38 3) - (G 38 8))) < (if 0 ≤ (G 38 2) - (G 38 8) then ((G 38 2) - (G 38 8)) else 0 - ((G 38 2) - (G 38 8))) then if 0 ≤ (G 38 3) - (G 38 8) then ((G 38 3) - (G 38 8)) else 0 - ((G 38 3) - (G 38 8)) else if 0 ≤ (G 38 2) - (G 38 8) then ((G 38 2) - (G 38 8)) else 0 - ((G 38 2) - (G 38 8))
  | 5 => G 38 5 | 6 => G 38 9 | 7 => G 38 6 | _ => G 38 7
section SOC
variable {Q : Int32 → GS → Prop} {G : GS} {f : Nat → Int32} {n : Nat}
theorem pu_ {v : Int32} (hn : n < 32) (h : Q 0 (gu_ (gf_ G 39 (upd f n v)) 38 1 (nI (n + 1)))) : wp_X2_push v (gu_ (gf_ G 39 f) 38 1 (nI n)) Q := by
  have e : (gu_ (gf_ G 39 f) 38 1 (nI n)) 38 1 = nI n := rfl
  unfold wp_X2_push
  rw [e, nI_clamp (by omega), nI_1, gx_1 G 1 n f _ _ _ (by decide)]
  exact ⟨fun z => absurd z (nI_ge (b := 32) hn (by omega)), fun _ => ⟨vp_in_nI hn (by omega), h⟩⟩
theorem po_ (hn : n < 32) (h : Q (f n) (gu_ (gf_ G 39 f) 38 1 (nI n))) : wp_X2_pop (gu_ (gf_ G 39 f) 38 1 (nI (n + 1))) Q := by
  have e : (gu_ (gf_ G 39 f) 38 1 (nI (n + 1))) 38 1 = nI (n + 1) := rfl
  unfold wp_X2_pop
  rw [e, nI_pred, nI_clamp (by omega), gu_u]
  exact ⟨fun _ => ⟨vp_in_nI hn (by omega), h⟩, fun z => absurd (nI_lt (a := 0) (by omega) (by omega)) z⟩
theorem vo_ {k : Nat} (hk : k < 9) (h : Q (ca_ G k) (gu_ (gf_ G 39 f) 38 1 (nI n))) : wp_X2_valueOf (nI (206 + k)) (gu_ (gf_ G 39 f) 38 1 (nI n)) Q := by
  rcases (show k = 0 ∨ k = 1 ∨ k = 2 ∨ k = 3 ∨ k = 4 ∨ k = 5 ∨ k = 6 ∨ k = 7 ∨ k = 8 by omega) with rfl | rfl | rfl | rfl | rfl | rfl | rfl | rfl | rfl
  · refine ⟨fun _ => h, ?_⟩
    exact ⟨fun z => absurd z (by decide), fun z => absurd z (by decide), fun z => absurd z (by decide), fun z => absurd z (by decide), fun z => absurd z (by decide), fun z => absurd z (by decide), fun z => absurd z (by decide), fun z => absurd z (by decide), fun z => absurd (by decide) z⟩
  · refine ⟨fun z => absurd z (by decide), fun _ => h, ?_⟩
    exact ⟨fun z => absurd z (by decide), fun z => absurd z (by decide), fun z => absurd z (by decide), fun z => absurd z (by decide), fun z => absurd z (by decide), fun z => absurd z (by decide), fun z => absurd z (by decide), fun _ z => absurd (by decide) z⟩
  · refine ⟨fun z => absurd z (by decide), fun z => absurd z (by decide), fun _ => h, ?_⟩
    exact ⟨fun z => absurd z (by decide), fun z => absurd z (by decide), fun z => absurd z (by decide), fun z => absurd z (by decide), fun z => absurd z (by decide), fun z => absurd z (by decide), fun _ _ z => absurd (by decide) z⟩
  · refine ⟨fun z => absurd z (by decide), fun z => absurd z (by decide), fun z => absurd z (by decide), fun _ => h, ?_⟩
    exact ⟨fun z => absurd z (by decide), fun z => absurd z (by decide), fun z => absurd z (by decide), fun z => absurd z (by decide), fun z => absurd z (by decide), fun _ _ _ z => absurd (by decide) z⟩
  · refine ⟨fun z => absurd z (by decide), fun z => absurd z (by decide), fun z => absurd z (by decide), fun z => absurd z (by decide), fun _ => h, ?_⟩
    exact ⟨fun z => absurd z (by decide), fun z => absurd z (by decide), fun z => absurd z (by decide), fun z => absurd z (by decide), fun _ _ _ _ z => absurd (by decide) z⟩
  · refine ⟨fun z => absurd z (by decide), fun z => absurd z (by decide), fun z => absurd z (by decide), fun z => absurd z (by decide), fun z => absurd z (by decide), fun _ => h, ?_⟩
    exact ⟨fun z => absurd z (by decide), fun z => absurd z (by decide), fun z => absurd z (by decide), fun _ _ _ _ _ z => absurd (by decide) z⟩
  · refine ⟨fun z => absurd z (by decide), fun z => absurd z (by decide), fun z => absurd z (by decide), fun z => absurd z (by decide), fun z => absurd z (by decide), fun z => absurd z (by decide), fun _ => h, ?_⟩
    exact ⟨fun z => absurd z (by decide), fun z => absurd z (by decide), fun _ _ _ _ _ _ z => absurd (by decide) z⟩
  · refine ⟨fun z => absurd z (by decide), fun z => absurd z (by decide), fun z => absurd z (by decide), fun z => absurd z (by decide), fun z => absurd z (by decide), fun z => absurd z (by decide), fun z => absurd z (by decide), fun _ => h, ?_⟩
    exact ⟨fun z => absurd z (by decide), fun _ _ _ _ _ _ _ z => absurd (by decide) z⟩
  · refine ⟨fun z => absurd z (by decide), fun z => absurd z (by decide), fun z => absurd z (by decide), fun z => absurd z (by decide), fun z => absurd z (by decide), fun z => absurd z (by decide), fun z => absurd z (by decide), fun z => absurd z (by decide), fun _ => h, ?_⟩
    exact fun _ _ _ _ _ _ _ _ z => absurd (by decide) z
theorem sn_ : ∀ q ∈ opl_, q.1 < 0 ∧ (-206 : Int32) < q.1 ∧ (q.1 = -205 ↔ q.2 = 9) := by decide +kernel
theorem st_t : ∀ k, k < 9 → -(nI (206 + k)) < 0 ∧ ¬ (-206 : Int32) < -(nI (206 + k)) ∧ -(-(nI (206 + k))) = nI (206 + k) := by decide +kernel
variable {b e : Nat} {kf : Nat → List Nat} {op ar as : Nat → Int32}
set_option maxHeartbeats 4000000 in
/-- the class: a line's condition -/
theorem so_cl (he : e ≤ 400) (has : ∀ k, k < 9 → as k = ca_ G k) (hk : ∀ j, b ≤ j → j < e → tc_ (op j) (ar j) (kf j) = some (kf (j + 1)) ∧ (kf (j + 1)).length ≤ 30) (hsr : ∀ j, b ≤ j → j < e → sr_ (G 11 j) (op j) (ar j)) (hend : kf e = [1])
    (h0 : ∀ f n, es_ as op ar b (e - b) = [0] → Q 0 (gu_ (gf_ G 39 f) 38 1 n)) (h1 : ∀ f n, es_ as op ar b (e - b) = [1] → Q 1 (gu_ (gf_ G 39 f) 38 1 n)) :
    ∀ (r j : Nat) (vs : List Int32) (f : Nat → Int32), j + r = e → b ≤ j → vs = es_ as op ar b (j - b) → SK_ (kf j) vs → (kf j).length ≤ 30 → hd_ f vs → lp_X2_isSo_15 Q (r + 1) (nI e) (nI j) (gu_ (gf_ G 39 f) 38 1 (nI vs.length)) := by
  intro r
  induction r with
  | zero =>
    intro j vs f hj hb hvs hsk hlen hhd
    have ej : j = e := by omega
    subst ej
    refine ⟨fun _ => ?_, fun z => absurd (Int32.le_refl _) z⟩
    rw [hend] at hsk
    match vs, hsk with
    | [v], hsk =>
      refine po_ (n := 0) (by omega) ?_
      rw [show f 0 = v from hhd.1]
      rcases hsk.1.1 rfl with rfl | rfl
      · exact ⟨fun _ => h0 f _ hvs.symm, fun z => absurd z (by decide)⟩
      · exact ⟨fun z => absurd rfl z, fun _ => h1 f _ hvs.symm⟩
  | succ r ih =>
    intro j vs f hj hb hvs hsk hlen hhd
    obtain ⟨ht, hl2⟩ := hk j hb (by omega)
    have hsk2 := SK_step (as := as) ht hsk
    have hvs2 : e1_ as (op j) (ar j) vs = es_ as op ar b (j + 1 - b) := by
      have ej : j + 1 - b = (j - b) + 1 := by omega
      rw [ej, es_, ← hvs]
      congr 2 <;> omega
    have hvl : vs.length ≤ 30 := by rw [← SK_len hsk]; exact hlen
    have cj : (nI j).toNatClampNeg = j := nI_clamp (by omega)
    refine ⟨fun z => absurd z (nI_ge (by omega) (by omega)), fun _ => ⟨vp_in_nI (by omega) (by omega), ?_⟩⟩
    have g11 : (gu_ (gf_ G 39 f) 38 1 (nI vs.length)) 11 (nI j).toNatClampNeg = G 11 j := by rw [cj]; rfl
    rw [g11, nI_1]
    have go : ∀ (ws : List Int32) (f' : Nat → Int32), e1_ as (op j) (ar j) vs = ws → hd_ f' ws → lp_X2_isSo_15 Q (r + 1) (nI e) (nI (j + 1)) (gu_ (gf_ G 39 f') 38 1 (nI ws.length)) := by
      intro ws f' ew hf
      subst ew
      exact ih (j + 1) _ f' (by omega) (by omega) hvs2 hsk2 hl2 hf
    rcases hsr j hb (by omega) with ⟨v, hv, hs, ho, ha⟩ | ⟨k, hk9, hs, ho, ha⟩ | ⟨q, hq, hs, ho⟩
    · rw [hs]
      refine ⟨fun z => absurd z (nI_pos (by omega)), fun _ => ?_⟩
      refine pu_ (by omega) ?_
      exact go (nI v :: vs) _ (by unfold e1_; rw [if_pos ho, ha]) (hd_push hhd _)
    · obtain ⟨t1, t2, t3⟩ := st_t k hk9
      rw [hs]
      refine ⟨fun _ => ⟨fun z => absurd z t2, fun _ => ?_⟩, fun z => absurd t1 z⟩
      rw [t3]
      refine vo_ hk9 ?_
      refine pu_ (by omega) ?_
      refine go (ca_ G k :: vs) _ ?_ (hd_push hhd _)
      unfold e1_
      rw [if_neg (by rw [ho]; decide), if_pos ho, ha, nI_clamp (by omega), has k hk9]
    · obtain ⟨t1, t2, t3⟩ := sn_ q hq
      rw [hs]
      refine ⟨fun _ => ⟨fun _ => ?_, fun z => absurd t2 z⟩, fun z => absurd t1 z⟩
      by_cases h9 : q.2 = 9
      · refine ⟨fun z => absurd (t3.mpr h9) z, fun _ => ?_⟩
        rw [ho, h9] at ht go
        obtain ⟨y, rr, rfl⟩ := tc_not ht hsk
        have hrl : rr.length + 1 ≤ 30 := hvl
        refine po_ (n := rr.length) (by omega) ?_
        rw [show f rr.length = y from hhd.1]
        refine pu_ (by omega) ?_
        exact go ((1 - y) :: rr) _ e1_not (hd_push hhd.2 _)
      · refine ⟨fun _ => ?_, fun z => absurd (t3.mp z) h9⟩
        have ho2 : op j = 2 ∨ op j = 3 ∨ op j = 4 ∨ op j = 5 ∨ op j = 6 ∨ op j = 7 ∨ op j = 8 ∨ op j = 10 ∨ op j = 11 := by
          rw [ho]
          exact (by decide : ∀ q ∈ opl_, ¬ q.2 = 9 → (q.2 = 2 ∨ q.2 = 3 ∨ q.2 = 4 ∨ q.2 = 5 ∨ q.2 = 6 ∨ q.2 = 7 ∨ q.2 = 8 ∨ q.2 = 10 ∨ q.2 = 11)) q hq h9
        obtain ⟨y, x, rr, rfl, h5, hb2⟩ := tc_bin ho2 ht hsk
        have hrl : rr.length + 2 ≤ 30 := hvl
        refine po_ (n := rr.length + 1) (by omega) ?_
        rw [show f (rr.length + 1) = y from hhd.1]
        refine po_ (n := rr.length) (by omega) ?_
        rw [show f rr.length = x from hhd.2.1]
        rw [ho] at h5 hb2
        refine jo_ (s := q.1) (o := q.2) hq h9 h5 hb2 ?_
        refine pu_ (by omega) ?_
        exact go (bin_ q.2 x y :: rr) _ (by rw [ho]; exact e1_bin (by rw [← ho]; exact ho2)) (hd_push hhd.2.2 _)
end SOC
