theorem gf_u (G : GS) (k i : Nat) (f : Nat → Int32) (v : Int32) : gu_ (gf_ G k f) k i v = gf_ G k (upd f i v) := by
  funext a
  unfold gu_ gf_
  by_cases h : a = k
  · subst h; simp
  · simp [h]
theorem gu_u (G : GS) (k j : Nat) (x y : Int32) : gu_ (gu_ G k j x) k j y = gu_ G k j y := by
  funext a
  unfold gu_ gf_
  by_cases h : a = k
  · subst h
    simp
    funext q
    unfold upd
    by_cases hq : q = j
    · simp [hq]
    · simp [hq]
  · simp [h]
/-- a code is one of those that there are -/
def CO_ (o a : Int32) : Prop := o = 0 ∨ (o = 1 ∧ ∃ k : Nat, k < 9 ∧ a = nI k) ∨ (o = 2 ∨ o = 3 ∨ o = 4 ∨ o = 5 ∨ o = 6 ∨ o = 7 ∨ o = 8 ∨ o = 9 ∨ o = 10 ∨ o = 11)
theorem sr_co {s o a : Int32} (h : sr_ s o a) : CO_ o a := by
  rcases h with ⟨v, -, -, h, -⟩ | ⟨k, hk, -, h1, h2⟩ | ⟨q, hq, -, h⟩
  · exact Or.inl h
  · exact Or.inr (Or.inl ⟨h1, k, hk, h2⟩)
  · refine Or.inr (Or.inr ?_)
    rw [h]
    exact (by decide : ∀ q ∈ opl_, q.2 = 2 ∨ q.2 = 3 ∨ q.2 = 4 ∨ q.2 = 5 ∨ q.2 = 6 ∨ q.2 = 7 ∨ q.2 = 8 ∨ q.2 = 9 ∨ q.2 = 10 ∨ q.2 = 11) q hq
/-- what a binary sign finds on the stack -/
theorem tc_bin {o a : Int32} {ks ks' : List Nat} {vs : List Int32} (ho : o = 2 ∨ o = 3 ∨ o = 4 ∨ o = 5 ∨ o = 6 ∨ o = 7 ∨ o = 8 ∨ o = 10 ∨ o = 11) (h : tc_ o a ks = some ks') (hs : SK_ ks vs) : ∃ y x r, vs = y :: x :: r ∧ (o = 5 → ¬ y = 0) ∧ (o = 10 ∨ o = 11 → (x = 0 ∨ x = 1) ∧ (y = 0 ∨ y = 1)) := by
  have c0 : ¬ o = 0 := by rcases ho with rfl | rfl | rfl | rfl | rfl | rfl | rfl | rfl | rfl <;> decide
  have c1 : ¬ o = 1 := by rcases ho with rfl | rfl | rfl | rfl | rfl | rfl | rfl | rfl | rfl <;> decide
  have c9 : ¬ o = 9 := by rcases ho with rfl | rfl | rfl | rfl | rfl | rfl | rfl | rfl | rfl <;> decide
  unfold tc_ at h
  rw [if_neg c0, if_neg c1] at h
  match ks, vs, hs with
  | [], [], _ => cases h
  | [k], [y], hs =>
    dsimp only at h
    rw [if_neg (fun z => c9 z.1)] at h
    cases h
  | k :: k2 :: ks, y :: x :: vs, hs =>
    dsimp only at h
    obtain ⟨hy, hx, hr⟩ := hs
    rw [if_neg c9] at h
    refine ⟨y, x, vs, rfl, fun e => ?_, fun e => ?_⟩
    · have n10 : ¬ (o = 10 ∨ o = 11) := by rw [e]; decide
      rw [if_neg n10] at h
      by_cases k1 : k = 1 ∨ k2 = 1
      · rw [if_pos k1] at h; cases h
      · rw [if_neg k1, if_pos e] at h
        by_cases k3 : k = 2
        · exact hy.2 k3
        · rw [if_neg k3] at h; cases h
    · rw [if_pos e] at h
      by_cases k1 : k = 1 ∧ k2 = 1
      · exact ⟨hx.1 k1.2, hy.1 k1.1⟩
      · rw [if_neg k1] at h; cases h
theorem tc_not {a : Int32} {ks ks' : List Nat} {vs : List Int32} (h : tc_ 9 a ks = some ks') (hs : SK_ ks vs) : ∃ y r, vs = y :: r := by
  match ks, vs, hs with
  | [], [], _ => unfold tc_ at h; simp at h
  | k :: ks, y :: vs, hs => exact ⟨y, vs, rfl⟩
theorem e1_bin {as : Nat → Int32} {o a x y : Int32} {r : List Int32} (ho : o = 2 ∨ o = 3 ∨ o = 4 ∨ o = 5 ∨ o = 6 ∨ o = 7 ∨ o = 8 ∨ o = 10 ∨ o = 11) : e1_ as o a (y :: x :: r) = bin_ o x y :: r := by
  unfold e1_
  rcases ho with rfl | rfl | rfl | rfl | rfl | rfl | rfl | rfl | rfl <;> rfl
theorem e1_not {as : Nat → Int32} {a y : Int32} {r : List Int32} : e1_ as 9 a (y :: r) = (1 - y) :: r := by
  unfold e1_
  cases r with
  | nil => rfl
  | cons x r => rfl
section SOR
variable {Q : Int32 → GS → Prop} {G : GS} {l b e : Nat} {kf : Nat → List Nat}
set_option maxHeartbeats 4000000 in
/-- the reference: a line's condition -/
theorem so_rl (hl : l < 16) (h58 : G 58 l = nI e) (he : e ≤ 400) (hk : ∀ j, b ≤ j → j < e → tc_ (G 59 j) (G 60 j) (kf j) = some (kf (j + 1)) ∧ (kf (j + 1)).length ≤ 30) (hco : ∀ j, b ≤ j → j < e → CO_ (G 59 j) (G 60 j)) (hend : kf e = [1])
    (h0 : ∀ f, es_ (G 62) (G 59) (G 60) b (e - b) = [0] → Q 0 (gf_ G 63 f)) (h1 : ∀ f, es_ (G 62) (G 59) (G 60) b (e - b) = [1] → Q 1 (gf_ G 63 f)) :
    ∀ (r j : Nat) (vs : List Int32) (f : Nat → Int32), j + r = e → b ≤ j → vs = es_ (G 62) (G 59) (G 60) b (j - b) → SK_ (kf j) vs → (kf j).length ≤ 30 → hd_ f vs → lp_X10_isSo_33 Q (r + 1) 0 (nI l) (nI vs.length) (nI j) (gf_ G 63 f) := by
  have c0 : (nI l).toNatClampNeg = l := nI_clamp (by omega)
  have c1 : vp_in (nI l) 32 := vp_in_nI (by omega) (by omega)
  have c2 : (400 : Int32) * 0 + (gf_ G 63 (fun _ => 0)) 58 l = nI e := by
    show (400 : Int32) * 0 + G 58 l = nI e
    rw [h58]
    have : (400 : Int32) * 0 = 0 := by decide
    rw [this, Int32.zero_add]
  intro r
  induction r with
  | zero =>
    intro j vs f hj hb hvs hsk hlen hhd
    have ej : j = e := by omega
    subst ej
    refine ⟨c1, fun _ => ?_, fun z => absurd ?_ z⟩
    · rw [hend] at hsk
      match vs, hsk with
      | [v], hsk =>
        have hv : f 0 = v := hhd.1
        have e63 : (gf_ G 63 f) 63 0 = v := hv
        rw [e63]
        rcases hsk.1.1 rfl with rfl | rfl
        · exact ⟨fun _ => h0 f hvs.symm, fun z => absurd rfl z⟩
        · exact ⟨fun z => absurd z (by decide), fun _ => h1 f hvs.symm⟩
    · show (400 : Int32) * 0 + (gf_ G 63 f) 58 (nI l).toNatClampNeg ≤ nI j
      rw [c0, show (400 : Int32) * 0 + (gf_ G 63 f) 58 l = nI j from c2]
      exact Int32.le_refl _
  | succ r ih =>
    intro j vs f hj hb hvs hsk hlen hhd
    obtain ⟨ht, hl2⟩ := hk j hb (by omega)
    have hsk2 := SK_step (as := G 62) ht hsk
    have hvs2 : e1_ (G 62) (G 59 j) (G 60 j) vs = es_ (G 62) (G 59) (G 60) b (j + 1 - b) := by
      have ej : j + 1 - b = (j - b) + 1 := by omega
      rw [ej, es_, ← hvs]
      congr 2 <;> omega
    have hvl : vs.length ≤ 30 := by rw [← SK_len hsk]; exact hlen
    have cj : (nI j).toNatClampNeg = j := nI_clamp (by omega)
    have vj : vp_in (nI j) 800 := vp_in_nI (by omega) (by omega)
    have g59 : (gf_ G 63 f) 59 (nI j).toNatClampNeg = G 59 j := by rw [cj]; rfl
    have g60 : (gf_ G 63 f) 60 (nI j).toNatClampNeg = G 60 j := by rw [cj]; rfl
    have vl : vp_in (nI vs.length) 420 := vp_in_nI (by omega) (by omega)
    have cl : (nI vs.length).toNatClampNeg = vs.length := nI_clamp (by omega)
    refine ⟨c1, fun z => absurd z ?_, fun _ => ⟨vj, ?_⟩⟩
    · show ¬ (400 : Int32) * 0 + (gf_ G 63 f) 58 (nI l).toNatClampNeg ≤ nI j
      rw [c0, show (400 : Int32) * 0 + (gf_ G 63 f) 58 l = nI e from c2]
      exact nI_ge (by omega) (by omega)
    rw [g59]
    have go : ∀ (ws : List Int32) (f' : Nat → Int32), e1_ (G 62) (G 59 j) (G 60 j) vs = ws → hd_ f' ws → lp_X10_isSo_33 Q (r + 1) 0 (nI l) (nI ws.length) (nI (j + 1)) (gf_ G 63 f') := by
      intro ws f' ew hf
      subst ew
      exact ih (j + 1) _ f' (by omega) (by omega) hvs2 hsk2 hl2 hf
    rcases hco j hb (by omega) with ho | ⟨ho, k, hk9, hka⟩ | ho
    · refine ⟨fun _ => ⟨vj, fun z => absurd (g59.trans ho) z, fun _ => ⟨vl, ?_⟩⟩, fun z => absurd ho z⟩
      show lp_X10_isSo_33 Q (r + 1) 0 (nI l) (nI vs.length + 1) (nI j + 1) (gu_ (gf_ G 63 f) 63 (nI vs.length).toNatClampNeg ((gf_ G 63 f) 60 (nI j).toNatClampNeg))
      rw [g60, cl, gf_u, nI_1, nI_1]
      exact go (G 60 j :: vs) _ (by unfold e1_; rw [if_pos ho]) (hd_push hhd _)
    · have n0 : ¬ G 59 j = 0 := by rw [ho]; decide
      refine ⟨fun z => absurd z n0, fun _ => ⟨fun z => absurd ho z, fun _ => ⟨vj, fun _ => ⟨?_, vl, ?_⟩, fun z => absurd (g59.symm.trans z) n0⟩⟩⟩
      · rw [g60, hka]; exact vp_in_nI hk9 (by omega)
      · show lp_X10_isSo_33 Q (r + 1) 0 (nI l) (nI vs.length + 1) (nI j + 1) (gu_ (gf_ G 63 f) 63 (nI vs.length).toNatClampNeg ((gf_ G 63 f) 62 ((gf_ G 63 f) 60 (nI j).toNatClampNeg).toNatClampNeg))
        rw [g60, cl, gf_u, nI_1, nI_1]
        exact go (G 62 (G 60 j).toNatClampNeg :: vs) _ (by unfold e1_; rw [if_neg n0, if_pos ho]) (hd_push hhd _)
    · have n0 : ¬ G 59 j = 0 := by rcases ho with h | h | h | h | h | h | h | h | h | h <;> rw [h] <;> decide
      have n1 : ¬ G 59 j = 1 := by rcases ho with h | h | h | h | h | h | h | h | h | h <;> rw [h] <;> decide
      refine ⟨fun z => absurd z n0, fun _ => ⟨fun _ => ?_, fun z => absurd z n1⟩⟩
      by_cases h9 : G 59 j = 9
      · refine ⟨fun z => absurd h9 z, fun _ => ?_⟩
        rw [h9] at ht go
        obtain ⟨y, rr, rfl⟩ := tc_not ht hsk
        have e1 : nI (y :: rr).length - 1 = nI rr.length := nI_pred _
        have c3 : (nI rr.length).toNatClampNeg = rr.length := nI_clamp (by rw [List.length_cons] at hvl; omega)
        have ey : (gf_ G 63 f) 63 rr.length = y := hhd.1
        rw [e1, c3, ey, gf_u, nI_1]
        refine ⟨vp_in_nI (by rw [List.length_cons] at hvl; omega) (by omega), ?_⟩
        exact go ((1 - y) :: rr) _ e1_not (hd_push hhd.2 _)
      · have ho2 : G 59 j = 2 ∨ G 59 j = 3 ∨ G 59 j = 4 ∨ G 59 j = 5 ∨ G 59 j = 6 ∨ G 59 j = 7 ∨ G 59 j = 8 ∨ G 59 j = 10 ∨ G 59 j = 11 := by
          rcases ho with h | h | h | h | h | h | h | h | h | h
          · exact Or.inl h
          · exact Or.inr (Or.inl h)
          · exact Or.inr (Or.inr (Or.inl h))
          · exact Or.inr (Or.inr (Or.inr (Or.inl h)))
          · exact Or.inr (Or.inr (Or.inr (Or.inr (Or.inl h))))
          · exact Or.inr (Or.inr (Or.inr (Or.inr (Or.inr (Or.inl h)))))
          · exact Or.inr (Or.inr (Or.inr (Or.inr (Or.inr (Or.inr (Or.inl h))))))
          · exact absurd h h9
          · exact Or.inr (Or.inr (Or.inr (Or.inr (Or.inr (Or.inr (Or.inr (Or.inl h)))))))
          · exact Or.inr (Or.inr (Or.inr (Or.inr (Or.inr (Or.inr (Or.inr (Or.inr h)))))))
        obtain ⟨y, x, rr, rfl, h5, -⟩ := tc_bin ho2 ht hsk
        refine ⟨fun _ => ?_, fun z => absurd z h9⟩
        have hrl : rr.length + 2 ≤ 30 := hvl
        have e1 : nI (y :: x :: rr).length - 1 = nI (rr.length + 1) := nI_pred _
        have e2 : nI (rr.length + 1) - 1 = nI rr.length := nI_pred _
        have c3 : (nI rr.length).toNatClampNeg = rr.length := nI_clamp (by omega)
        have c4 : (nI (rr.length + 1)).toNatClampNeg = rr.length + 1 := nI_clamp (by omega)
        have ey : (gf_ G 63 f) 63 (rr.length + 1) = y := hhd.1
        have ex : (gf_ G 63 f) 63 rr.length = x := hhd.2.1
        rw [e1, e2, c3, c4, ey, ex]
        refine ⟨vp_in_nI (by omega) (by omega), vp_in_nI (by omega) (by omega), two_ ho2 h5 ?_⟩
        rw [gf_u, nI_1]
        exact go (bin_ (G 59 j) x y :: rr) _ (e1_bin ho2) (hd_push hhd.2.2 _)
end SOR
