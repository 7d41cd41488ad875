/-! a token accepted by the class -/
def PO_ (G : GS) (Q : Int32 → GS → Prop) : Nat ⊕ MS → Prop
  | .inl f => ∀ G', KF_ [2, 3, 9, 10, 11, 13, 14] G G' → G' 33 2 = nI f → G' 33 3 = G 33 7 → Q 0 G'
  | .inr (aw, lw, cm, wt, cl, ls, _) => ∀ G', CX_ wt cl ls G' → G' 33 9 = nI aw → (1 ≤ aw → G' 33 10 = if lw = 0 then 1 else 0) → (aw = 3 ∨ aw = 4 ∨ aw = 5 → G' 33 11 = nI cm) → KF_ [9, 10, 11, 13, 14] G G' → Q 1 G'
theorem PO_.g {G G1 : GS} {Q : Int32 → GS → Prop} (hk : KF_ [9, 10, 11, 13, 14] G G1) : ∀ {r : Nat ⊕ MS}, PO_ G Q r → PO_ G1 Q r
  | .inl f, h => fun G' k1 e1 e2 => h G' ((hk.sub (by decide)).tr k1) e1 (e2.trans (hk.2 7 (by decide)))
  | .inr (aw, lw, cm, wt, cl, ls, p), h => fun G' c1 c2 c3 c4 k1 => h G' c1 c2 c3 c4 (hk.tr k1)
theorem PO_.bz {G : GS} {Q : Int32 → GS → Prop} : ∀ {r : Nat ⊕ MS}, PO_ G Q r → PO_ G (fun r G => bz_ r ∧ Q r G) r
  | .inl f, h => fun G' k1 e1 e2 => ⟨Or.inl rfl, h G' k1 e1 e2⟩
  | .inr (aw, lw, cm, wt, cl, ls, p), h => fun G' c1 c2 c3 c4 k1 => ⟨Or.inr rfl, h G' c1 c2 c3 c4 k1⟩
theorem CX_.g9 {G G' : GS} {wt : List Nat} {cl : List Cd} {ls : List (Nat × List Cd)} (h : CX_ wt cl ls G) (e13 : G' 33 13 = G 33 13) (e14 : G' 33 14 = G 33 14) (e34 : G' 34 = G 34) (e35 : G' 35 = G 35) (e36 : G' 36 = G 36) (e37 : G' 37 = G 37) : CX_ wt cl ls G' := by
  unfold CX_ at *
  rw [e13, e14, e34, e35, e36, e37]; exact h
section T6
variable {Q : Int32 → GS → Prop} {G : GS} {wt : List Nat} {cl : List Cd} {ls : List (Nat × List Cd)} {T k v nx lw cm p : Nat}
theorem ref_c {f : Nat} (h : PO_ G Q (.inl f)) : wp_X6_refuse (nI f) G Q := h _ (((KF_.rf _ G).g33 _ (by decide)).g33 _ (by decide)) rfl rfl
theorem kI {c : Nat} (hk3 : k < 300) (hc : c < 300) : (nI k = nI c ↔ k = c) ∧ (nI k < nI c ↔ k < c) ∧ (nI c < nI k ↔ c < k) := ⟨(nL_ (by omega) (by omega)).2.2, (nL_ (by omega) (by omega)).1, (nL_ (by omega) (by omega)).1⟩
theorem acv_c (hB : MB_ T lw cm wt cl ls p) (hT : T ≤ 400) (hp : k ≠ 0 → p < nx) (hnx : nx ≤ T) (h : CX_ wt cl ls G) (h10 : G 33 10 = if lw = 0 then 1 else 0) (h11 : G 33 11 = nI cm) (h5 : G 33 5 = nI k) (h6 : k = 2 → G 33 6 = nI v ∧ v ≤ 9999) (hk3 : k < 300) (hPO : PO_ G Q (acV k v nx lw cm wt cl ls)) : wp_X6_acceptValue G Q := by
  obtain ⟨a2, a3, a4, a5, a6, a7, a8, a9⟩ := hB
  have e2 : nI k = 2 ↔ k = 2 := (kI hk3 (c := 2) (by omega)).1
  have e206 : nI k < 206 ↔ k < 206 := (kI hk3 (c := 206) (by omega)).2.1
  have e214 : 214 < nI k ↔ 214 < k := (kI hk3 (c := 214) (by omega)).2.2
  have hlen : k ≠ 0 → (fl2_ ls ++ cl).length < 400 := fun z => by
    have := hp z
    rw [List.length_append]; omega
  unfold acV at hPO
  unfold wp_X6_acceptValue
  rw [h5, e2, e206, e214]
  refine ⟨fun z2 => ?_, fun z2 => ?_⟩
  · rw [if_neg z2] at hPO
    refine ⟨fun z => ?_, fun z => ⟨fun y => ?_, fun y => ?_⟩⟩
    · rw [if_neg (by omega)] at hPO
      exact ref_c hPO.bz
    · rw [if_neg (by omega)] at hPO
      exact ref_c hPO.bz
    · rw [if_pos (by omega)] at hPO
      refine add_c (x := (1, nI (k - 206))) h (hlen (by omega)) (Or.inr (Or.inl ⟨k - 206, by omega, ?_, rfl, rfl⟩)) (fun G2 h2 k2 k37 => hPO _ (h2.g9 rfl rfl rfl rfl rfl rfl) rfl (fun _ => ?_) (fun _ => ?_) ((k2.sub (by decide)).g33 _ (by decide)))
      · rw [show 206 + (k - 206) = k by omega]
      · exact (k2.2 10 (by decide)).trans h10
      · exact (k2.2 11 (by decide)).trans h11
  · rw [if_pos z2] at hPO
    obtain ⟨v1, v2⟩ := h6 z2
    refine add_c (x := (0, nI v)) h (hlen (by omega)) (Or.inl ⟨v, v2, v1, rfl, rfl⟩) (fun G2 h2 k2 k37 => hPO _ (h2.g9 rfl rfl rfl rfl rfl rfl) rfl (fun _ => ?_) (fun _ => ?_) ((k2.sub (by decide)).g33 _ (by decide)))
    · exact (k2.2 10 (by decide)).trans h10
    · exact (k2.2 11 (by decide)).trans h11
theorem kfs_ {G G' : GS} (h : KF_ [13, 14] G G') : KF_ [9, 10, 11, 13, 14] G G' := h.sub (by decide)
set_option maxHeartbeats 1000000 in
theorem act_c (hB : MB_ T lw cm wt cl ls p) (hl : ls.length < 16) (hT : T ≤ 400) (h : CX_ wt cl ls G) (h10 : G 33 10 = if lw = 0 then 1 else 0) (h5 : G 33 5 = nI k) (hk3 : k < 300) (hPO : PO_ G Q (acT k nx lw cm wt cl ls)) : wp_X6_acceptConditionTail G Q := by
  obtain ⟨a2, a3, a4, a5, a6, a7, a8, a9⟩ := hB
  have e204 : nI k = 204 ↔ k = 204 := (kI hk3 (c := 204) (by omega)).1
  have e203 : nI k = 203 ↔ k = 203 := (kI hk3 (c := 203) (by omega)).1
  have e41 : nI k = 41 ↔ k = 41 := (kI hk3 (c := 41) (by omega)).1
  have e59 : nI k = 59 ↔ k = 59 := (kI hk3 (c := 59) (by omega)).1
  have hcc : (fl2_ ls).length + cl.length + nbr_ wt ≤ 400 := by omega
  unfold acT at hPO
  unfold wp_X6_acceptConditionTail
  rw [h5, e204, e203, e41, e59]
  have jn : (k = 204 ∨ k = 203) → wp_X6_rankOf (nI k) G (fun r1 G2 => wp_X6_settle r1 G2 (fun _ G4 => wp_X6_holdSign (G4 33 5) (2 : Int32) G4 (fun r5 G6 => (bz_ r5 ∧ Q r5 G6)))) := by
    intro hk
    rw [if_pos hk] at hPO
    have hrk : 1 ≤ rK_ k ∧ rK_ k ≤ 6 := by rcases hk with z | z <;> rw [z] <;> decide
    refine rko_ (Or.inr hk3) (stl_c hrk.1 hrk.2 h a5 a6 hcc (fun G2 h2 k2 => ?_)) hk3
    have e5 : G2 33 5 = nI k := (k2.2 5 (by decide)).trans h5
    rw [e5]
    have hcn := pp_cnt (r := rK_ k) hrk.1 wt cl
    refine hol_c (a2 := 2) h2 (okW_29 (pp_ok a5) (by omega)) ?_ (fun G3 h3 k3 e9 => ⟨Or.inr rfl, hPO G3 h3 e9 (fun _ => ?_) (fun z => absurd z (by decide)) ((kfs_ k2).tr (k3.sub (by decide)))⟩)
    · show (if k = 205 ∨ k = 40 then 1 else 0) + _ = _
      rw [if_neg (by omega), Nat.zero_add]
    · rw [k3.2 10 (by decide), k2.2 10 (by decide)]; exact h10
  refine ⟨fun z => jn (Or.inl z), fun z1 => ⟨fun z2 => ?_, fun z => jn (Or.inr z)⟩⟩
  rw [if_neg (fun z => z.elim z1 z2)] at hPO
  have tl : (k = 41 ∨ k = 59) → bk_X6_acceptConditionTail_65 Q G := by
    intro hk
    rw [if_pos hk] at hPO
    refine rko_ (s := 203) (Or.inr (by omega)) (stl_c (r := 1) (by omega) (by omega) h a5 a6 hcc (fun G2 h2 k2 => ?_)) (by omega)
    have e5 : G2 33 5 = nI k := (k2.2 5 (by decide)).trans h5
    have e13 := h2.1
    have h10' : G2 33 10 = if lw = 0 then 1 else 0 := (k2.2 10 (by decide)).trans h10
    have hcn := pp_cnt (r := 1) (by omega) wt cl
    have o1 := pp_ok (r := 1) (c := cl) a5
    have hh := pp_hr (r := 1) (by omega) wt cl
    have hw29 := okW_29 o1 (by omega)
    rw [e5, e13, e41]
    generalize hc1 : (pp_ 1 wt cl).2 = c1 at *
    cases ew : (pp_ 1 wt cl).1 with
    | nil =>
      rw [ew] at h2 hcn
      have hnb : c1.length + 0 = cl.length + nbr_ wt := hcn.1
      rw [if_pos ew] at hPO
      refine ⟨fun _ => ⟨fun n41 => ?_, fun y41 => ?_⟩, fun z => absurd (Int32.le_refl _) z⟩
      · have k59 : k = 59 := by omega
        rw [if_pos k59] at hPO
        refine ⟨fun _ => ⟨fun _ => ?_, fun z => absurd rfl z⟩, fun z => absurd rfl z⟩
        refine clo_c h2 hl (by rw [List.length_append]; omega) h10' (fun G3 h3 k3 e9 => ⟨Or.inr rfl, hPO G3 h3 e9 (fun z => absurd z (by decide)) (fun z => absurd z (by decide)) ((kfs_ k2).tr (k3.sub (by decide)))⟩)
      · rw [if_neg (by omega)] at hPO
        refine ⟨fun z => absurd z (by decide), fun _ => ref_c ?_⟩
        exact (hPO.g (kfs_ k2)).bz
    | cons s w =>
      rw [ew] at h2 o1 hh hw29
      have hw29 : w.length + 1 ≤ 29 := hw29
      have hs : s = 40 := by
        rcases ws_cases o1.1 with y | y | y | y | y | y | y | y | y | y | y <;> subst y <;> first | rfl | (exfalso; revert hh; show ¬ rK_ _ < 1; decide)
      subst hs
      rw [if_neg (by rw [ew]; simp)] at hPO
      refine ⟨fun z => absurd z (nI_nle (by show 0 < w.length + 1; omega) (by show w.length + 1 < 2 ^ 31; omega)), fun _ => ⟨fun n41 => ?_, fun y41 => ?_⟩⟩
      · rw [if_neg n41] at hPO
        refine ⟨fun z => absurd z (by decide), fun _ => ref_c ?_⟩
        exact (hPO.g (kfs_ k2)).bz
      · rw [if_pos y41, ew] at hPO
        refine ⟨fun _ => ⟨fun z => absurd z (by decide), fun _ => ⟨Or.inr rfl, ?_⟩⟩, fun z => absurd rfl z⟩
        have e14 : G2 33 14 - 1 = nI (opn_ w) := by
          rw [h2.2.2.1]
          show nI (1 + opn_ w) - 1 = _
          rw [Nat.add_comm, nI_pred]
        have e13' : G2 33 13 - 1 = nI w.length := by
          rw [h2.1]
          exact nI_pred w.length
        rw [e13']
        have e14b : (gu_ G2 33 13 (nI w.length)) 33 14 = G2 33 14 := rfl
        have hp2 := h2.pop (v := G2 33 14 - 1) e14
        refine hPO _ (hp2.g9 rfl rfl rfl rfl rfl rfl) rfl (fun _ => h10') (fun z => absurd z (by decide)) ?_
        exact ((((kfs_ k2)).g33 _ (by decide)).g33 _ (by decide)).g33 _ (by decide)
  refine ⟨fun z => tl (Or.inl z), fun z3 => ⟨fun z => tl (Or.inr z), fun z4 => ?_⟩⟩
  rw [if_neg (fun z => z.elim z3 z4)] at hPO
  exact ref_c hPO.bz
set_option maxHeartbeats 1000000 in
theorem ace_c (hB : MB_ T lw cm wt cl ls p) (hl : ls.length < 16) (hT : T ≤ 400) (h : CX_ wt cl ls G) (h10 : G 33 10 = if lw = 0 then 1 else 0) (h11 : G 33 11 = nI cm) (h5 : G 33 5 = nI k) (hk3 : k < 300) (hPO : PO_ G Q (acE k nx lw cm wt cl ls)) : wp_X6_acceptValueTail G Q := by
  have hB' := hB
  obtain ⟨a2, a3, a4, a5, a6, a7, a8, a9⟩ := hB'
  have hcc : (fl2_ ls).length + cl.length + nbr_ wt ≤ 400 := by omega
  have r6 : rK_ k ≤ 6 := (by decide +kernel : ∀ k, k < 300 → rK_ k ≤ 6) k hk3
  unfold acE at hPO
  unfold wp_X6_acceptValueTail
  rw [h5]
  refine rko_ (Or.inr hk3) (rko_ (s := 43) (Or.inr (by omega)) ?_ (by omega)) hk3
  have e5 : nI (rK_ k) < nI (rK_ 43) ↔ rK_ k < 5 := (nL_ (by omega) (by decide)).1
  rw [e5]
  refine ⟨fun z => ?_, fun z => ?_⟩
  · rw [if_neg (by omega)] at hPO
    rw [h11]
    refine ⟨fun zc => ?_, fun zc => ?_⟩
    · have hc0 : cm = 0 := (nI_eq (b := 0) (by omega) (by omega)).mp zc
      rw [if_neg (by omega)] at hPO
      refine rko_ (s := 61) (Or.inr (by omega)) ?_ (by omega)
      have e4 : nI (rK_ k) = nI (rK_ 61) ↔ rK_ k = 4 := (nL_ (by omega) (by decide)).2.2
      rw [e4]
      refine ⟨fun y => ?_, fun y => ?_⟩
      · rw [if_pos y] at hPO
        rw [y]
        refine stl_c (r := 4) (by omega) (by omega) h a5 a6 hcc (fun G2 h2 k2 => ?_)
        have e5 : G2 33 5 = nI k := (k2.2 5 (by decide)).trans h5
        rw [e5]
        obtain ⟨q1, q2, q3, q4, q5, q6, q7⟩ := rk4 k hk3 y
        have hcn := pp_cnt (r := 4) (by omega) wt cl
        refine hol_c (G := gu_ G2 33 11 1) (a2 := 3) (h2.g9 rfl rfl rfl rfl rfl rfl) (okW_29 (pp_ok a5) (by omega)) ?_ (fun G3 h3 k3 e9 => ⟨Or.inr rfl, hPO G3 h3 e9 (fun _ => ?_) (fun _ => ?_) (((kfs_ k2).g33 _ (by decide)).tr (k3.sub (by decide)))⟩)
        · show (if k = 205 ∨ k = 40 then 1 else 0) + _ = _
          rw [if_neg (fun z => z.elim q3 q2), Nat.zero_add]
        · rw [k3.2 10 (by decide)]
          show G2 33 10 = _
          rw [k2.2 10 (by decide)]; exact h10
        · rw [k3.2 11 (by decide)]; rfl
      · rw [if_neg y] at hPO
        exact ref_c hPO.bz
    · have hc1 : cm = 1 := by
        rcases Nat.lt_or_ge cm 1 with y | y
        · exact absurd (by rw [show cm = 0 by omega]; rfl) zc
        · omega
      rw [if_pos hc1] at hPO
      exact act_c hB hl hT h h10 h5 hk3 hPO.bz
  · rw [if_pos (by omega)] at hPO
    have k5 : 5 ≤ rK_ k := by omega
    obtain ⟨q1, q2, q3, q4, q5, q6, q7⟩ := rk5 k hk3 k5
    refine stl_c (r := rK_ k) (by omega) r6 h a5 a6 hcc (fun G2 h2 k2 => ?_)
    have e5 : G2 33 5 = nI k := (k2.2 5 (by decide)).trans h5
    have e47 : nI k = 47 ↔ k = 47 := (kI hk3 (c := 47) (by omega)).1
    rw [e5, e47]
    have hcn := pp_cnt (r := rK_ k) (by omega) wt cl
    have hop : opn_ (k :: (pp_ (rK_ k) wt cl).1) = opn_ (pp_ (rK_ k) wt cl).1 := by
      show (if k = 205 ∨ k = 40 then 1 else 0) + _ = _
      rw [if_neg (fun z => z.elim q3 q2), Nat.zero_add]
    have fin : ∀ a2 : Nat, (if k = 47 then 4 else 3) = a2 → wp_X6_holdSign (nI k) (nI a2) G2 (fun r G => bz_ r ∧ Q r G) := by
      intro a2 ea
      rw [ea] at hPO
      refine hol_c h2 (okW_29 (pp_ok a5) (by omega)) hop (fun G3 h3 k3 e9 => ⟨Or.inr rfl, hPO G3 h3 e9 (fun _ => ?_) (fun _ => ?_) ((kfs_ k2).tr (k3.sub (by decide)))⟩)
      · rw [k3.2 10 (by decide), k2.2 10 (by decide)]; exact h10
      · rw [k3.2 11 (by decide), k2.2 11 (by decide)]; exact h11
    exact ⟨fun y => fin 3 (if_neg y), fun y => fin 4 (if_pos y)⟩
set_option maxHeartbeats 1000000 in
theorem acc_c {aw : Nat} (hV : MV_ T (aw, lw, cm, wt, cl, ls, p)) (hT : T ≤ 400) (hp : k ≠ 0 → p < nx) (hnx : nx ≤ T) (h : CX_ wt cl ls G) (h9 : G 33 9 = nI aw) (h10 : 1 ≤ aw → G 33 10 = if lw = 0 then 1 else 0) (h11 : aw = 3 ∨ aw = 4 ∨ aw = 5 → G 33 11 = nI cm) (h5 : G 33 5 = nI k) (h6 : k = 2 → G 33 6 = nI v ∧ v ≤ 9999) (hk3 : k < 300) (hPO : PO_ G Q (ac_ k v nx aw lw cm wt cl ls)) : wp_X6_accept G Q := by
  obtain ⟨hB, hA⟩ := hV
  have hB' := hB
  obtain ⟨a2, a3, a4, a5, a6, a7, a8, a9⟩ := hB'
  have hPb := hPO.bz
  unfold wp_X6_accept
  rw [h9]
  match aw, hA, h10, h11, hPb with
  | 0, hA, h10, h11, hPO =>
    refine ⟨fun _ => ?_, fun z => absurd z (by decide), fun z => absurd z (by decide), fun z => absurd z (by decide), fun z => absurd z (by decide), fun z => absurd z (by decide), fun z => absurd rfl z⟩
    unfold ac_ at hPO
    have e200 : nI k = 200 ↔ k = 200 := (kI hk3 (c := 200) (by omega)).1
    have e201 : nI k = 201 ↔ k = 201 := (kI hk3 (c := 201) (by omega)).1
    have bk : (k = 200 ∨ k = 201) → bk_X6_acceptLine_26 (fun r1 G2 => bz_ r1 ∧ Q r1 G2) G := by
      intro hk
      rw [if_pos hk] at hPO
      unfold bk_X6_acceptLine_26
      rw [h.2.2.2.1, h5, e200]
      refine ⟨fun z => ?_, fun z => ?_⟩
      · have hlt : ¬ ls.length = 16 := fun e => by rw [e] at z; exact absurd z (by decide)
        rw [if_neg hlt] at hPO
        refine ⟨fun y => hPO _ (h.g9 rfl rfl rfl rfl rfl rfl) rfl (fun _ => ?_) (fun z => absurd z (by decide)) (((KF_.rf _ G).g33 _ (by decide)).g33 _ (by decide)), fun y => hPO _ (h.g9 rfl rfl rfl rfl rfl rfl) rfl (fun _ => ?_) (fun z => absurd z (by decide)) (((KF_.rf _ G).g33 _ (by decide)).g33 _ (by decide))⟩
        · rw [if_neg (by omega)]; rfl
        · rw [if_pos (by omega)]; rfl
      · have h16 : ls.length = 16 := by
          rcases Nat.lt_or_ge ls.length 16 with y | y
          · exact absurd (nI_lt (b := 16) y (by omega)) z
          · omega
        rw [if_pos h16] at hPO
        exact ref_c hPO.bz
    unfold wp_X6_acceptLine
    rw [h5, e200, e201]
    refine ⟨fun z => bk (Or.inl z), fun z1 => ⟨fun z => bk (Or.inr z), fun z2 => ?_⟩⟩
    rw [if_neg (fun z => z.elim z1 z2)] at hPO
    exact ref_c hPO.bz
  | 1, hA, h10, h11, hPO =>
    refine ⟨fun z => absurd z (by decide), fun _ => ?_, fun z => absurd z (by decide), fun z => absurd z (by decide), fun z => absurd z (by decide), fun z => absurd z (by decide), fun _ z => absurd rfl z⟩
    unfold ac_ at hPO
    obtain ⟨w1, w2, w3⟩ := hA
    subst w1 w2
    have e202 : nI k = 202 ↔ k = 202 := (kI hk3 (c := 202) (by omega)).1
    have e59 : nI k = 59 ↔ k = 59 := (kI hk3 (c := 59) (by omega)).1
    unfold wp_X6_acceptLineTail
    rw [h5, e202, e59]
    refine ⟨fun z1 => ?_, fun z1 => ?_⟩
    · rw [if_neg z1] at hPO
      refine ⟨fun z2 => ?_, fun z2 => ?_⟩
      · rw [if_neg z2] at hPO
        exact ref_c hPO.bz
      · rw [if_pos z2] at hPO
        refine clo_c h w3 (by rw [List.length_append]; have : (fl2_ ls).length + 0 + 0 ≤ p := a7; show (fl2_ ls).length + 0 ≤ 400; omega) (h10 (Nat.le_refl _)) (fun G3 h3 k3 e9 => ⟨Or.inr rfl, hPO G3 h3 e9 (fun z => absurd z (by decide)) (fun z => absurd z (by decide)) (k3.sub (by decide))⟩)
    · rw [if_pos z1] at hPO
      exact hPO _ (h.g9 rfl rfl rfl rfl rfl rfl) rfl (fun _ => h10 (Nat.le_refl _)) (fun z => absurd z (by decide)) ((KF_.rf _ G).g33 _ (by decide))
  | 2, hA, h10, h11, hPO =>
    refine ⟨fun z => absurd z (by decide), fun z => absurd z (by decide), fun _ => ?_, fun z => absurd z (by decide), fun z => absurd z (by decide), fun z => absurd z (by decide), fun _ _ z => absurd rfl z⟩
    have hPO : PO_ G (fun r G => bz_ r ∧ Q r G) (if k = 205 ∨ k = 40 then (if 8 ≤ opn_ wt then .inl 3 else .inr (2, lw, cm, k :: wt, cl, ls, nx)) else acV k v nx lw 0 wt cl ls) := hPO
    obtain ⟨w1, w2, w3⟩ := hA
    have e205 : nI k = 205 ↔ k = 205 := (kI hk3 (c := 205) (by omega)).1
    have e40 : nI k = 40 ↔ k = 40 := (kI hk3 (c := 40) (by omega)).1
    have bk : (k = 205 ∨ k = 40) → bk_X6_acceptCondition_29 (fun r1 G2 => bz_ r1 ∧ Q r1 G2) G := by
      intro hk
      rw [if_pos hk] at hPO
      unfold bk_X6_acceptCondition_29
      have e14 := h.2.2.1
      rw [e14, h5, nI_1]
      refine ⟨fun z => ?_, fun z => ?_⟩
      · have hlt : ¬ 8 ≤ opn_ wt := fun y => nI_nlt (b := 8) y (by omega) z
        rw [if_neg hlt] at hPO
        have hw := okW_29 a5 a6
        unfold wp_X6_holdSign
        have e13 : (gu_ G 33 14 (nI (opn_ wt + 1))) 33 13 = nI wt.length := h.1
        rw [e13, nI_clamp (by omega), nI_1]
        refine ⟨fun _ => ⟨vp_in_nI (by omega) (by omega), Or.inr rfl, ?_⟩, fun z => absurd (nI_lt (b := 32) (by omega) (by omega)) z⟩
        have hop : nI (opn_ wt + 1) = nI (opn_ (k :: wt)) := by
          show _ = nI ((if k = 205 ∨ k = 40 then 1 else 0) + opn_ wt)
          rw [if_pos hk, Nat.add_comm]
        have := h.push (s := k) hop
        exact hPO _ (this.g9 rfl rfl rfl rfl rfl rfl) rfl (fun _ => h10 (by omega)) (fun z => absurd z (by decide)) (((((KF_.rf _ G).g33 _ (by decide)).gk _ (by decide)).g33 _ (by decide)).g33 _ (by decide))
      · have h8 : 8 ≤ opn_ wt := by
          rcases Nat.lt_or_ge (opn_ wt) 8 with y | y
          · exact absurd (nI_lt (b := 8) y (by omega)) z
          · exact y
        rw [if_pos h8] at hPO
        exact ref_c hPO.bz
    unfold wp_X6_acceptCondition
    rw [h5, e205, e40]
    refine ⟨fun z => bk (Or.inl z), fun z1 => ⟨fun z => bk (Or.inr z), fun z2 => ?_⟩⟩
    rw [if_neg (fun z => z.elim z1 z2)] at hPO
    exact acv_c (cm := 0) ⟨a2, by omega, a4, a5, a6, a7, a8, a9⟩ hT hp hnx (h.g9 rfl rfl rfl rfl rfl rfl) (h10 (by omega)) rfl h5 h6 hk3 (hPO.g ((KF_.rf _ G).g33 (j := 11) 0 (by decide))).bz
  | 3, hA, h10, h11, hPO =>
    refine ⟨fun z => absurd z (by decide), fun z => absurd z (by decide), fun z => absurd z (by decide), fun _ => ?_, fun z => absurd z (by decide), fun z => absurd z (by decide), fun _ _ _ z => absurd rfl z⟩
    exact acv_c hB hT hp hnx h (h10 (by omega)) (h11 (by omega)) h5 h6 hk3 hPO
  | 4, hA, h10, h11, hPO =>
    refine ⟨fun z => absurd z (by decide), fun z => absurd z (by decide), fun z => absurd z (by decide), fun z => absurd z (by decide), fun _ => ?_, fun z => absurd z (by decide), fun _ _ _ _ z => absurd rfl z⟩
    have hPO : PO_ G (fun r G => bz_ r ∧ Q r G) (if k = 2 then (if v = 0 then .inl 2 else acV k v nx lw cm wt cl ls) else .inl 1) := hPO
    have e2 : nI k = 2 ↔ k = 2 := (kI hk3 (c := 2) (by omega)).1
    unfold wp_X6_acceptDivisor
    rw [h5, e2]
    refine ⟨fun z => ?_, fun z => ?_⟩
    · rw [if_pos z] at hPO
      obtain ⟨v1, v2⟩ := h6 z
      rw [v1]
      refine ⟨fun y => ?_, fun y => ?_⟩
      · rw [if_neg (fun e => y (by rw [e]; rfl))] at hPO
        exact acv_c hB hT hp hnx h (h10 (by omega)) (h11 (by omega)) h5 h6 hk3 hPO.bz
      · rw [if_pos ((nI_eq (b := 0) (by omega) (by omega)).mp y)] at hPO
        exact ref_c hPO.bz
    · rw [if_neg z] at hPO
      exact ref_c hPO.bz
  | 5, hA, h10, h11, hPO =>
    refine ⟨fun z => absurd z (by decide), fun z => absurd z (by decide), fun z => absurd z (by decide), fun z => absurd z (by decide), fun z => absurd z (by decide), fun _ => ?_, fun _ _ _ _ _ z => absurd rfl z⟩
    exact ace_c hB hA.1 hT h (h10 (by omega)) (h11 (by omega)) h5 hk3 hPO
  | 6, hA, h10, h11, hPO =>
    refine ⟨fun z => absurd z (by decide), fun z => absurd z (by decide), fun z => absurd z (by decide), fun z => absurd z (by decide), fun z => absurd z (by decide), fun z => absurd z (by decide), fun _ _ _ _ _ _ => ?_⟩
    exact act_c hB hA.1 hT h (h10 (by omega)) h5 hk3 hPO
end T6
