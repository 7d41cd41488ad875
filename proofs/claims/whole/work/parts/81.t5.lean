/-! the class's reader beside the machine -/
def ed_ (ls : List (Nat × List Cd)) (l : Nat) : Nat := (fl2_ (ls.take l)).length
def CX_ (wt : List Nat) (cl : List Cd) (ls : List (Nat × List Cd)) (G : GS) : Prop :=
  G 33 13 = nI wt.length ∧ (∀ i, i < wt.length → G 37 i = nI (wt.getD (wt.length - 1 - i) 0)) ∧ G 33 14 = nI (opn_ wt) ∧ G 34 0 = nI ls.length ∧ G 34 3 = nI (fl2_ ls ++ cl).length ∧ (∀ l, l < ls.length → G 35 l = nI (ed_ ls (l + 1))) ∧ (∃ M, M < 2 ^ ls.length ∧ G 34 1 = nI M ∧ ∀ l, l < ls.length → (M.testBit l = true ↔ (ls.getD l (0, [])).1 = 0)) ∧ ∀ j, j < (fl2_ ls ++ cl).length → sr_ (G 36 j) ((fl2_ ls ++ cl).getD j (0, 0)).1 ((fl2_ ls ++ cl).getD j (0, 0)).2
/-- which fields of the reader stay -/
def KF_ (L : List Nat) (G G' : GS) : Prop := FR [33, 34, 35, 36, 37] G G' ∧ ∀ j, j ∉ L → G' 33 j = G 33 j
theorem KF_.rf (L : List Nat) (G : GS) : KF_ L G G := ⟨FR.rf _ _, fun _ _ => rfl⟩
theorem KF_.tr {L : List Nat} {G G' G2 : GS} (h : KF_ L G G') (h2 : KF_ L G' G2) : KF_ L G G2 := ⟨h.1.tr h2.1, fun j hj => (h2.2 j hj).trans (h.2 j hj)⟩
theorem KF_.sub {L L2 : List Nat} {G G' : GS} (h : KF_ L G G') (hs : ∀ k, k ∈ L → k ∈ L2) : KF_ L2 G G' := ⟨h.1, fun j hj => h.2 j (fun z => hj (hs j z))⟩
theorem KF_.g33 {L : List Nat} {G G' : GS} (h : KF_ L G G') {j : Nat} (v : Int32) (hj : j ∈ L) : KF_ L G (gu_ G' 33 j v) := ⟨h.1.gu _ (by decide), fun i hi => by
  show upd (G' 33) j v i = _
  rw [up_miss _ _ (fun e => hi (by rw [e]; exact hj))]; exact h.2 i hi⟩
theorem KF_.gk {L : List Nat} {G G' : GS} (h : KF_ L G G') {k j : Nat} (v : Int32) (hk : k ∈ [34, 35, 36, 37]) : KF_ L G (gu_ G' k j v) := ⟨h.1.gu _ ((by decide : ∀ k, k ∈ [34, 35, 36, 37] → k ∈ [33, 34, 35, 36, 37]) k hk), fun i hi => by
  rw [gu_rw, if_neg (fun e => (by decide : ∀ k, k ∈ [34, 35, 36, 37] → 33 = k → False) k hk e)]; exact h.2 i hi⟩
theorem getD_app {α : Type} {l : List α} {x d : α} {j : Nat} : (l ++ [x]).getD j d = if j < l.length then l.getD j d else if j = l.length then x else d := by
  rw [List.getD_eq_getElem?_getD, List.getD_eq_getElem?_getD, List.getElem?_append]
  by_cases h : j < l.length
  · rw [if_pos h, if_pos h]
  · rw [if_neg h, if_neg h]
    by_cases e : j = l.length
    · rw [if_pos e, e, Nat.sub_self]; rfl
    · rw [if_neg e]
      have : [x][j - l.length]? = none := List.getElem?_eq_none (by show 1 ≤ j - l.length; omega)
      rw [this]; rfl
theorem ops_ : ∀ s, s ∈ wsg_ → s ≠ 40 → ((-(nI s), oc_ s) : Int32 × Int32) ∈ opl_ := by decide +kernel
section T5
variable {Q : Int32 → GS → Prop} {G : GS} {wt : List Nat} {cl : List Cd} {ls : List (Nat × List Cd)}
theorem CX_.add {x : Cd} {s : Int32} (h : CX_ wt cl ls G) (hs : sr_ s x.1 x.2) : CX_ wt (cl ++ [x]) ls (gu_ (gu_ G 36 (fl2_ ls ++ cl).length s) 34 3 (nI ((fl2_ ls ++ cl).length + 1))) := by
  obtain ⟨c1, c2, c3, c4, c5, c6, c7, c8⟩ := h
  have et : fl2_ ls ++ (cl ++ [x]) = (fl2_ ls ++ cl) ++ [x] := (List.append_assoc _ _ _).symm
  refine ⟨c1, c2, c3, c4, ?_, c6, c7, ?_⟩
  · rw [et]
    exact congrArg nI (List.length_append (as := fl2_ ls ++ cl) (bs := [x])).symm
  · rw [et]
    intro j hj
    rw [List.length_append] at hj
    have hj : j < (fl2_ ls ++ cl).length + 1 := hj
    show sr_ (upd (G 36) (fl2_ ls ++ cl).length s j) _ _
    rw [getD_app]
    by_cases e : j = (fl2_ ls ++ cl).length
    · rw [e, up_hit, if_neg (Nat.lt_irrefl _), if_pos rfl]; exact hs
    · rw [up_miss _ _ e, if_pos (by omega)]; exact c8 j (by omega)
theorem add_c {x : Cd} {s : Int32} (h : CX_ wt cl ls G) (hl : (fl2_ ls ++ cl).length < 400) (hs : sr_ s x.1 x.2) (hQ : ∀ G', CX_ wt (cl ++ [x]) ls G' → KF_ [] G G' → G' 37 = G 37 → Q 0 G') : wp_X4_add s G Q := by
  have e3 : G 34 3 = nI (fl2_ ls ++ cl).length := h.2.2.2.2.1
  unfold wp_X4_add
  rw [e3, nI_clamp (by omega), nI_1]
  refine ⟨fun z => absurd z (nI_ge (b := 400) hl (by omega)), fun _ => ⟨vp_in_nI hl (by omega), hQ _ (h.add hs) (((KF_.rf _ G).gk _ (by decide)).gk _ (by decide)) rfl⟩⟩
theorem rko_ {s : Nat} (hs : s ∈ wsg_ ∨ s < 300) (h : Q (nI (rK_ s)) G) (hs3 : s < 300) : wp_X6_rankOf (nI s) G Q := by
  have e : ∀ c : Nat, c < 300 → (nI s = nI c ↔ s = c) := fun c hc => (nL_ (by omega) (by omega)).2.2
  have e42 : nI s = 42 ↔ s = 42 := e 42 (by omega)
  have e43 : nI s = 43 ↔ s = 43 := e 43 (by omega)
  have e45 : nI s = 45 ↔ s = 45 := e 45 (by omega)
  have e47 : nI s = 47 ↔ s = 47 := e 47 (by omega)
  have e60 : nI s = 60 ↔ s = 60 := e 60 (by omega)
  have e61 : nI s = 61 ↔ s = 61 := e 61 (by omega)
  have e62 : nI s = 62 ↔ s = 62 := e 62 (by omega)
  have e203 : nI s = 203 ↔ s = 203 := e 203 (by omega)
  have e204 : nI s = 204 ↔ s = 204 := e 204 (by omega)
  have e205 : nI s = 205 ↔ s = 205 := e 205 (by omega)
  unfold wp_X6_rankOf
  rw [e42, e43, e45, e47, e60, e61, e62, e203, e204, e205]
  refine ⟨fun z => ?_, fun z => ?_, fun z => ?_, fun z => ?_, fun z => ?_, fun z => ?_, fun z => ?_, fun z => ?_, fun z => ?_, fun z => ?_, fun z1 z2 z3 z4 z5 z6 z7 z8 z9 z10 => ?_⟩
  · rw [z] at h; exact h
  · rw [z] at h; exact h
  · rw [z] at h; exact h
  · rw [z] at h; exact h
  · rw [z] at h; exact h
  · rw [z] at h; exact h
  · rw [z] at h; exact h
  · rw [z] at h; exact h
  · rw [z] at h; exact h
  · rw [z] at h; exact h
  · have : rK_ s = 0 := by
      unfold rK_
      rw [if_neg z8, if_neg z9, if_neg z10, if_neg (by omega), if_neg (by omega), if_neg (by omega)]
    rw [this] at h; exact h
theorem getD_top {s d : Nat} {w : List Nat} : (s :: w).getD ((s :: w).length - 1 - w.length) d = s := by
  have : (s :: w).length - 1 - w.length = 0 := by show w.length + 1 - 1 - w.length = 0; omega
  rw [this]; rfl
theorem CX_.pop {s : Nat} {w : List Nat} (h : CX_ (s :: w) cl ls G) {v : Int32} (hv : v = nI (opn_ w)) : CX_ w cl ls (gu_ (gu_ G 33 14 v) 33 13 (nI w.length)) := by
  obtain ⟨c1, c2, c3, c4, c5, c6, c7, c8⟩ := h
  refine ⟨rfl, fun i hi => ?_, hv, c4, c5, c6, c7, c8⟩
  have := c2 i (by show i < w.length + 1; omega)
  show G 37 i = _
  rw [this]
  congr 1
  have e : (s :: w).length - 1 - i = (w.length - 1 - i) + 1 := by show w.length + 1 - 1 - i = _; omega
  rw [e]; rfl
set_option maxHeartbeats 1000000 in
theorem set_c {r : Nat} (hr : 1 ≤ r) (hr6 : r ≤ 6) : ∀ (wt : List Nat) (cl : List Cd) (G : GS), CX_ wt cl ls G → okW wt → opn_ wt ≤ 8 → (fl2_ ls).length + cl.length + nbr_ wt ≤ 400 → (∀ G', CX_ (pp_ r wt cl).1 (pp_ r wt cl).2 ls G' → KF_ [13, 14] G G' → Q 0 G') → lp_X6_settle_7 Q (wt.length + 1) (nI r) (nI wt.length - 1) G
  | [], cl, G, h, _, _, _, hQ => ⟨fun _ => hQ G h (KF_.rf _ _), fun z => absurd (by decide) z⟩
  | s :: w, cl, G, h, ho, h8, hc, hQ => by
    have hw29 := okW_29 ho h8
    have hw29 : w.length + 1 ≤ 29 := hw29
    have h8' : (if s = 205 ∨ s = 40 then 1 else 0) + opn_ w ≤ 8 := h8
    have hs3 : s < 300 := (by decide : ∀ s, s ∈ wsg_ → s < 300) s ho.1
    have e37 : G 37 (nI w.length).toNatClampNeg = nI s := by
      rw [nI_clamp (by omega), h.2.1 w.length (by show w.length < w.length + 1; omega), getD_top]
    have el : (s :: w).length = w.length + 1 := rfl
    rw [el, nI_pred]
    refine ⟨fun z => absurd z (nI_pos (by omega)), fun _ => ⟨vp_in_nI (by omega) (by omega), ?_⟩⟩
    rw [e37]
    refine rko_ (Or.inl ho.1) ?_ hs3
    have hr7 : rK_ s ≤ 6 := (by decide : ∀ s, s ∈ wsg_ → rK_ s ≤ 6) s ho.1
    refine ⟨fun z => ?_, fun z => ?_⟩
    · have hn : ¬ r ≤ rK_ s := fun y => nI_nlt y (by omega) z
      rw [pp_n hn] at hQ
      exact hQ G h (KF_.rf _ _)
    · have hy : r ≤ rK_ s := by
        rcases Nat.lt_or_ge (rK_ s) r with y | y
        · exact absurd (nI_lt y (by omega)) z
        · exact y
      rw [pp_y hy] at hQ
      have h40 : s ≠ 40 := fun e => by
        rw [e] at hy
        have : rK_ 40 = 0 := by decide
        omega
      have hnb : nbr_ (s :: w) = 1 + nbr_ w := by
        show (if s = 40 then 0 else 1) + nbr_ w = _
        rw [if_neg h40]
      rw [e37]
      refine add_c (x := (oc_ s, 0)) h (by rw [List.length_append]; omega) (Or.inr (Or.inr ⟨_, ops_ s ho.1 h40, rfl, rfl⟩)) (fun G2 h2 k2 k37 => ?_)
      have e37' : G2 37 (nI w.length).toNatClampNeg = nI s := by rw [k37]; exact e37
      have em : nI w.length + -1 = nI w.length - 1 := by rw [Int32.sub_eq_add_neg]
      rw [e37', em, show nI s = 205 ↔ s = 205 from (nL_ (a := s) (c := 205) (by omega) (by omega)).2.2]
      have hcl : (fl2_ ls).length + (cl ++ [(oc_ s, (0 : Int32))]).length + nbr_ w ≤ 400 := by
        rw [List.length_append]
        show (fl2_ ls).length + (cl.length + 1) + nbr_ w ≤ 400
        omega
      refine ⟨fun z => ?_, fun z => ?_⟩
      · have hop : opn_ (s :: w) = opn_ w := by
          show (if s = 205 ∨ s = 40 then 1 else 0) + opn_ w = _
          rw [if_neg (fun y => y.elim z h40), Nat.zero_add]
        have e14 : G2 33 14 = nI (opn_ w) := by rw [h2.2.2.1, hop]
        have h3 := h2.pop (v := G2 33 14) e14
        have eg : gu_ G2 33 14 (G2 33 14) = G2 := gu_id G2 33 14
        rw [eg] at h3
        exact set_c hr hr6 w _ _ h3 ho.2.2 (by omega) hcl (fun G3 h4 k4 => hQ G3 h4 (((k2.sub (by decide)).g33 _ (by decide)).tr k4))
      · have hop : opn_ (s :: w) = 1 + opn_ w := by
          show (if s = 205 ∨ s = 40 then 1 else 0) + opn_ w = _
          rw [if_pos (Or.inl z)]
        have e14 : G2 33 14 - 1 = nI (opn_ w) := by rw [h2.2.2.1, hop, Nat.add_comm, nI_pred]
        have h3 := h2.pop (v := G2 33 14 - 1) e14
        exact set_c hr hr6 w _ _ h3 ho.2.2 (by omega) hcl (fun G3 h4 k4 => hQ G3 h4 ((((k2.sub (by decide)).g33 _ (by decide)).g33 _ (by decide)).tr k4))
theorem stl_c {r : Nat} (hr : 1 ≤ r) (hr6 : r ≤ 6) (h : CX_ wt cl ls G) (ho : okW wt) (h8 : opn_ wt ≤ 8) (hc : (fl2_ ls).length + cl.length + nbr_ wt ≤ 400) (hQ : ∀ G', CX_ (pp_ r wt cl).1 (pp_ r wt cl).2 ls G' → KF_ [13, 14] G G' → Q 0 G') : wp_X6_settle (nI r) G Q := by
  unfold wp_X6_settle
  rw [h.1]
  exact ⟨wt.length + 1, set_c hr hr6 wt cl G h ho h8 hc hQ⟩
theorem CX_.push {s : Nat} (h : CX_ wt cl ls G) {v : Int32} (hv : v = nI (opn_ (s :: wt))) : CX_ (s :: wt) cl ls (gu_ (gu_ (gu_ G 33 14 v) 37 wt.length (nI s)) 33 13 (nI (wt.length + 1))) := by
  obtain ⟨c1, c2, c3, c4, c5, c6, c7, c8⟩ := h
  refine ⟨rfl, fun i hi => ?_, hv, c4, c5, c6, c7, c8⟩
  have hi : i < wt.length + 1 := hi
  show upd (G 37) wt.length (nI s) i = _
  by_cases e : i = wt.length
  · rw [e, up_hit, getD_top]
  · rw [up_miss _ _ e, c2 i (by omega)]
    congr 1
    have e2 : (s :: wt).length - 1 - i = (wt.length - 1 - i) + 1 := by show wt.length + 1 - 1 - i = _; omega
    rw [e2]; rfl
/-- a sign is held that opens nothing -/
theorem hol_c {s a2 : Nat} (h : CX_ wt cl ls G) (hl : wt.length ≤ 29) (ho : opn_ (s :: wt) = opn_ wt) (hQ : ∀ G', CX_ (s :: wt) cl ls G' → KF_ [13, 9] G G' → G' 33 9 = nI a2 → Q 1 G') : wp_X6_holdSign (nI s) (nI a2) G Q := by
  have e13 := h.1
  unfold wp_X6_holdSign
  rw [e13, nI_clamp (by omega), nI_1]
  refine ⟨fun _ => ⟨vp_in_nI (by omega) (by omega), hQ _ ?_ ?_ rfl⟩, fun z => absurd (nI_lt (b := 32) (by omega) (by omega)) z⟩
  · have := h.push (s := s) (v := G 33 14) (by rw [h.2.2.1, ho])
    rw [gu_id G 33 14] at this
    exact this
  · exact (((KF_.rf _ G).gk _ (by decide)).g33 _ (by decide)).g33 _ (by decide)
theorem clo_c {lw : Nat} (h : CX_ [] cl ls G) (hl : ls.length < 16) (hT : (fl2_ ls ++ cl).length ≤ 400) (h10 : G 33 10 = if lw = 0 then 1 else 0) (hQ : ∀ G', CX_ [] [] (ls ++ [(lw, cl)]) G' → KF_ [9] G G' → G' 33 9 = 0 → Q 1 G') : wp_X6_closeLine G Q := by
  obtain ⟨c1, c2, c3, c4, c5, c6, ⟨M, m1, m2, m3⟩, c8⟩ := h
  have e0 : (fl2_ (ls ++ [(lw, cl)]) ++ ([] : List Cd)) = fl2_ ls ++ cl := by rw [fl2_app, List.append_nil]
  have hM : M < 2 ^ 15 := Nat.lt_of_lt_of_le m1 (Nat.pow_le_pow_right (by decide) (by omega))
  have fin : ∀ (z0 : Int32) (M2 : Nat), G 34 1 ||| z0 = nI M2 → M2 < 2 ^ (ls.length + 1) → (∀ l, l < ls.length + 1 → (M2.testBit l = true ↔ ((ls ++ [(lw, cl)]).getD l (0, [])).1 = 0)) → bk_X4_closeLine_28 (fun _ G2 => Q 1 (gu_ G2 33 9 0)) z0 (G 34 1) G := by
    intro z0 M2 k1 k2 k3
    unfold bk_X4_closeLine_28
    rw [k1, c4, nI_clamp (by omega), nI_1, c5]
    refine ⟨vp_in_nI hl (by omega), hQ _ ⟨c1, c2, c3, ?_, ?_, ?_, ⟨M2, ?_, rfl, ?_⟩, ?_⟩ ?_ rfl⟩
    · exact congrArg nI (List.length_append (as := ls) (bs := [(lw, cl)])).symm
    · rw [e0]; exact c5
    · intro l hl2
      rw [List.length_append] at hl2
      have hl2 : l < ls.length + 1 := hl2
      show upd (G 35) ls.length (nI (fl2_ ls ++ cl).length) l = _
      by_cases e : l = ls.length
      · rw [e, up_hit]
        unfold ed_
        rw [List.take_of_length_le (by rw [List.length_append]; exact Nat.le_refl _), fl2_app]
      · rw [up_miss _ _ e, c6 l (by omega)]
        unfold ed_
        rw [List.take_append_of_le_length (by omega)]
    · rw [List.length_append]; exact k2
    · intro l hl2
      rw [List.length_append] at hl2
      exact k3 l hl2
    · rw [e0]; exact c8
    · exact ((((KF_.rf _ G).gk _ (by decide)).gk _ (by decide)).gk _ (by decide)).g33 _ (by decide)
  have ge : ∀ l, l < ls.length + 1 → (ls ++ [(lw, cl)]).getD l (0, []) = if l < ls.length then ls.getD l (0, []) else (lw, cl) := fun l hl2 => by
    rw [getD_app]
    by_cases e : l < ls.length
    · rw [if_pos e, if_pos e]
    · rw [if_neg e, if_neg e, if_pos (by omega)]
  unfold wp_X6_closeLine wp_X4_closeLine
  rw [h10, c4]
  refine ⟨fun z => absurd z (nI_ge (b := 16) hl (by omega)), fun _ => ⟨fun z => ?_, fun z => ?_⟩⟩
  · have hlw : lw ≠ 0 := fun e => by rw [if_pos e] at z; exact absurd z (by decide)
    refine fin 0 M (by rw [m2, Int32.or_zero]) (by rw [Nat.pow_succ]; omega) (fun l hl2 => ?_)
    rw [ge l hl2]
    by_cases e : l < ls.length
    · rw [if_pos e]; exact m3 l e
    · rw [if_neg e, show l = ls.length by omega, Nat.testBit_lt_two_pow m1]
      exact ⟨fun y => absurd y (by decide), fun y => absurd y hlw⟩
  · have hlw : lw = 0 := by
      apply Classical.byContradiction
      intro e
      rw [if_neg e] at z; exact z rfl
    refine fin _ (M ||| 2 ^ ls.length) (by rw [m2, sh1_ _ (by omega), no_]) (Nat.or_lt_two_pow (by rw [Nat.pow_succ]; omega) (Nat.pow_lt_pow_right (by decide) (by omega))) (fun l hl2 => ?_)
    rw [ge l hl2, Nat.testBit_or, Bool.or_eq_true, Nat.testBit_two_pow, decide_eq_true_iff]
    by_cases e : l < ls.length
    · rw [if_pos e, ← m3 l e]
      exact ⟨fun y => y.elim id (fun y => by omega), Or.inl⟩
    · rw [if_neg e]
      exact ⟨fun _ => hlw, fun _ => Or.inr (by omega)⟩
end T5
