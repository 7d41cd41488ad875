/-! the law's text: what stays, what is new -/
section TD
theorem gD_l {α : Type} {l l2 : List α} {n : Nat} {d : α} (h : n < l.length) : (l ++ l2).getD n d = l.getD n d := by
  rw [List.getD_eq_getElem?_getD, List.getD_eq_getElem?_getD, List.getElem?_append_left h]
theorem gD_r {α : Type} {l l2 : List α} {n : Nat} {d : α} : (l ++ l2).getD (l.length + n) d = l2.getD n d := by
  rw [List.getD_eq_getElem?_getD, List.getD_eq_getElem?_getD, List.getElem?_append_right (Nat.le_add_right _ _), Nat.add_sub_cancel_left]
theorem gD_m {α : Type} {d : α} : ∀ {l : List α} {n : Nat}, n < l.length → l.getD n d ∈ l
  | [], n, h => absurd h (by show ¬ n < 0; omega)
  | x :: l, 0, _ => List.mem_cons_self
  | x :: l, n + 1, h => List.mem_cons_of_mem _ (gD_m (l := l) (n := n) (by have h : n + 1 < l.length + 1 := h; omega))
theorem ed_b : ∀ (ls : List (Nat × List Cd)) (l : Nat), ed_ ls l ≤ (fl2_ ls).length
  | [], l => by unfold ed_; rw [List.take_nil]; exact Nat.le_refl _
  | x :: r, 0 => Nat.zero_le _
  | x :: r, l + 1 => by
    show (x.2 ++ fl2_ (r.take l)).length ≤ (x.2 ++ fl2_ r).length
    rw [List.length_append, List.length_append]
    have : (fl2_ (r.take l)).length ≤ _ := ed_b r l
    omega
theorem ed_s : ∀ (ls : List (Nat × List Cd)) (l : Nat), l < ls.length → ed_ ls (l + 1) = ed_ ls l + (ls.getD l (0, [])).2.length ∧ ∀ i, i < (ls.getD l (0, [])).2.length → (fl2_ ls).getD (ed_ ls l + i) (0, 0) = (ls.getD l (0, [])).2.getD i (0, 0)
  | [], l, h => absurd h (by show ¬ l < 0; omega)
  | x :: r, 0, h => by
    refine ⟨?_, fun i hi => ?_⟩
    · show (x.2 ++ fl2_ (r.take 0)).length = 0 + x.2.length
      rw [List.length_append, Nat.zero_add]
      rfl
    · show (x.2 ++ fl2_ r).getD (0 + i) (0, 0) = x.2.getD i (0, 0)
      rw [Nat.zero_add]
      exact gD_l hi
  | x :: r, l + 1, h => by
    obtain ⟨i1, i2⟩ := ed_s r l (by have h : l + 1 < r.length + 1 := h; omega)
    have e1 : ∀ m, ed_ (x :: r) (m + 1) = x.2.length + ed_ r m := fun m => by
      show (x.2 ++ fl2_ (r.take m)).length = _
      rw [List.length_append]; rfl
    refine ⟨?_, fun i hi => ?_⟩
    · rw [e1, e1, i1]
      show _ = x.2.length + ed_ r l + (r.getD l (0, [])).2.length
      omega
    · rw [e1, Nat.add_assoc]
      show (x.2 ++ fl2_ r).getD (x.2.length + (ed_ r l + i)) (0, 0) = (r.getD l (0, [])).2.getD i (0, 0)
      rw [gD_r]
      exact i2 i hi
theorem WT_of : ∀ (c : List Cd) (s : List Nat) {s2 : List Nat} (h : tys_ c s = some s2) {op ar : Nat → Int32} {q : Nat} (hop : ∀ i, i < c.length → op (q + i) = (c.getD i (0, 0)).1 ∧ ar (q + i) = (c.getD i (0, 0)).2), ∃ f : Nat → List Nat, f q = s ∧ f (q + c.length) = s2 ∧ ∀ j, q ≤ j → j < q + c.length → tc_ (op j) (ar j) (f j) = some (f (j + 1)) ∧ (f (j + 1)).length ≤ 30
  | [], s, s2, h, op, ar, q, hop => ⟨fun _ => s, rfl, Option.some.inj h, fun j h1 h2 => absurd h2 (by show ¬ j < q + 0; omega)⟩
  | x :: c, s, s2, h, op, ar, q, hop => by
    unfold tys_ at h
    cases e : ty1_ x s with
    | none => rw [e] at h; exact absurd h (by simp)
    | some s1 =>
      rw [e] at h
      have h : tys_ c s1 = some s2 := h
      have ht : tc_ x.1 x.2 s = some s1 ∧ s1.length ≤ 30 := by
        unfold ty1_ at e
        cases e3 : tc_ x.1 x.2 s with
        | none => rw [e3] at e; exact absurd e (by simp)
        | some s3 =>
          rw [e3] at e
          have e : (if s3.length ≤ 30 then some s3 else none) = some s1 := e
          by_cases c3 : s3.length ≤ 30
          · rw [if_pos c3] at e
            have e := Option.some.inj e
            subst e
            exact ⟨rfl, c3⟩
          · rw [if_neg c3] at e; exact absurd e (by simp)
      obtain ⟨f, f1, f2, f3⟩ := WT_of c s1 h (op := op) (ar := ar) (q := q + 1) (fun i hi => by
        have := hop (i + 1) (by show i + 1 < c.length + 1; omega)
        rw [show q + (i + 1) = q + 1 + i by omega] at this
        exact this)
      have el : (x :: c).length = c.length + 1 := rfl
      refine ⟨fun j => if j = q then s else f j, if_pos rfl, ?_, fun j j1 j2 => ?_⟩
      · show (if q + (c.length + 1) = q then s else f (q + (c.length + 1))) = s2
        rw [if_neg (by omega), show q + (c.length + 1) = q + 1 + c.length by omega]
        exact f2
      · show tc_ (op j) (ar j) (if j = q then s else f j) = some (if j + 1 = q then s else f (j + 1)) ∧ (if j + 1 = q then s else f (j + 1)).length ≤ 30
        rw [if_neg (show ¬ j + 1 = q by omega)]
        by_cases c2 : j = q
        · subst c2
          have hh := hop 0 (by show 0 < c.length + 1; omega)
          have hh : op j = x.1 ∧ ar j = x.2 := hh
          rw [if_pos rfl, f1, hh.1, hh.2]
          exact ht
        · rw [if_neg c2]
          exact f3 j (by omega) (by omega)
theorem RL_.tail {x y sz hl : Int32} {le st lw lf lt op ar lw2 lf2 lt2 op2 ar2 : Nat → Int32} (h : RL_ x y sz hl le st lw lf lt op ar) (hll : ∀ l, l < 16 → lw2 l = lw l ∧ lf2 l = lf l ∧ lt2 l = lt l) (hj : ∀ j, j < 400 → op2 j = op j ∧ ar2 j = ar j) : RL_ x y sz hl le st lw2 lf2 lt2 op2 ar2 := by
  obtain ⟨n, M, e, h1, h2, h3, h4, h5, h6, h7, h8, h9, h10⟩ := h
  refine ⟨n, M, e, h1, h2, h3, h4, h5, h6, h7, h8, h9, fun l hl2 => ?_⟩
  obtain ⟨b1, b2, b3, b4, b5, b6, b7⟩ := h10 l hl2
  obtain ⟨c1, c2, c3⟩ := hll l (by omega)
  have he := h9 (l + 1) (by omega)
  rw [c1, c2, c3]
  refine ⟨b1, b2, b3, ?_, fun j j1 j2 => ?_, b6, b7⟩
  · rcases b4 with b4 | ⟨f, f1, f2, f3⟩
    · exact Or.inl b4
    · exact Or.inr ⟨f, f1, f2, fun j j1 j2 => by rw [(hj j (by omega)).1, (hj j (by omega)).2]; exact f3 j j1 j2⟩
  · rw [(hj j (by omega)).1, (hj j (by omega)).2]; exact b5 j j1 j2
theorem RL_of {T : Nat} {ls : List (Nat × List Cd)} {x y sz hl : Int32} {le st lw lf lt op ar : Nat → Int32} (hL : LN_ T ls) (hT : T ≤ 400) (ex : x = nI ls.length) (ey : y = nI ls.length) (es : sz = nI (fl2_ ls).length) (hM : ∃ M, M < 2 ^ ls.length ∧ hl = nI M ∧ ∀ l, l < ls.length → (M.testBit l = true ↔ (ls.getD l (0, [])).1 = 0)) (hle : ∀ l, l < ls.length → le l = nI (ed_ ls (l + 1))) (hln : ∀ l, l < ls.length → lw l = nI (ls.getD l (0, [])).1 ∧ lf l = nI (ed_ ls l) ∧ lt l = nI (ed_ ls (l + 1))) (hst : ∀ j, j < (fl2_ ls).length → sr_ (st j) ((fl2_ ls).getD j (0, 0)).1 ((fl2_ ls).getD j (0, 0)).2) (hop : ∀ j, j < (fl2_ ls).length → op j = ((fl2_ ls).getD j (0, 0)).1 ∧ ar j = ((fl2_ ls).getD j (0, 0)).2) : RL_ x y sz hl le st lw lf lt op ar := by
  obtain ⟨l1, l2, l3⟩ := hL
  obtain ⟨M, m1, m2, m3⟩ := hM
  have hM16 : M < 65536 := Nat.lt_of_lt_of_le m1 (Nat.pow_le_pow_right (n := 2) (by omega) l3)
  refine ⟨ls.length, M, ed_ ls, l3, hM16, ex, ey, by rw [es, ed_all], m2, rfl, fun l hl2 => by rw [(ed_s ls l hl2).1]; omega, fun l _ => Nat.le_trans (ed_b ls l) (by omega), fun l hl2 => ?_⟩
  obtain ⟨n1, n2, n3⟩ := hln l hl2
  obtain ⟨s1, s2⟩ := ed_s ls l hl2
  have hb := ed_b ls (l + 1)
  obtain ⟨v1, v2⟩ := l2 _ (gD_m (d := (0, [])) hl2)
  refine ⟨hle l hl2, n2, n3, ?_, fun j j1 j2 => ?_, ?_, ?_⟩
  · rcases v2 with v2 | v2
    · left
      rw [s1, v2]; rfl
    · right
      obtain ⟨f, f1, f2, f3⟩ := WT_of _ [] v2 (op := op) (ar := ar) (q := ed_ ls l) (fun i hi => by
        rw [← s2 i hi]
        exact hop _ (by omega))
      rw [← s1] at f2 f3
      exact ⟨f, f1, f2, f3⟩
  · rw [(hop j (by omega)).1, (hop j (by omega)).2]; exact hst j (by omega)
  · rw [n1]
    rcases (show (ls.getD l (0, [])).1 = 0 ∨ (ls.getD l (0, [])).1 = 1 by omega) with e | e <;> rw [e]
    · exact Or.inl rfl
    · exact Or.inr rfl
  · rw [n1, m3 l hl2]
    exact (nI_eq (b := 0) (by omega) (by omega)).symm
def klw_ : List Nat := [1, 2, 3, 4, 5, 6, 7, 8, 12, 13, 14, 15, 16, 17, 18, 19, 20, 21, 22, 23, 24, 25, 26, 27, 28, 29, 30, 31, 50, 51, 52, 53, 55, 65, 66, 67, 68, 70, 74]
theorem Inv.law {G G2 : GS} (hI : Inv G) (hk : ∀ k, k ∈ klw_ → G2 k = G k) (h49 : ∀ j, j ∈ [3, 4, 5, 7, 35, 39, 45] → G2 49 j = G 49 j) (h02 : G2 0 2 = G 0 2) (h05 : G2 0 5 = 0) (h10 : G2 49 10 = 0) (h7 : G2 0 6 = G2 49 28) (h8 : G2 0 7 = G2 49 29) (hL : RL_ (G2 9 0) (G2 49 16) (G2 9 3) (G2 9 1) (G2 10) (G2 11) (G2 56) (G2 57) (G2 58) (G2 59) (G2 60)) : Inv G2 := by
  obtain ⟨⟨w1, w2, w3, w4, w5, w6, w7, w8, w9, w10, w11, w12, w13⟩, a2, a3, a4, a5, a6, a7⟩ := hI
  refine ⟨⟨?_, ?_, ?_, ?_, ?_, ?_, ?_, ?_, ?_, ?_, ?_, hL, ?_⟩, ⟨0, by omega, h05, h10, fun i hi => absurd hi (by omega)⟩, ⟨h7, h8⟩, ?_, ?_, ?_, ?_⟩
  · show RA_ (G2 1 1) (G2 49 4)
    rw [hk 1 (by decide), h49 4 (by decide)]; exact w1
  · show RB_ (G2 1 4) (G2 49 5)
    rw [hk 1 (by decide), h49 5 (by decide)]; exact w2
  · show RC_ (G2 1 5) (G2 49 7)
    rw [hk 1 (by decide), h49 7 (by decide)]; exact w3
  · show RD_ (G2 1 6) (G2 50 11)
    rw [hk 1 (by decide), hk 50 (by decide)]; exact w4
  · show G2 1 0 = G2 50 12
    rw [hk 1 (by decide), hk 50 (by decide)]; exact w5
  · show RF_ (G2 2) (G2 50)
    rw [hk 2 (by decide), hk 50 (by decide)]; exact w6
  · show RG_ (G2 1 1) (G2 3) (G2 52)
    rw [hk 1 (by decide), hk 3 (by decide), hk 52 (by decide)]; exact w7
  · show RH_ (G2 12 0) (G2 50 10) (G2 13) (G2 53)
    rw [hk 12 (by decide), hk 50 (by decide), hk 13 (by decide), hk 53 (by decide)]; exact w8
  · show RI_ (G2 5) (G2 4) (G2 65) (G2 66)
    rw [hk 5 (by decide), hk 4 (by decide), hk 65 (by decide), hk 66 (by decide)]; exact w9
  · show RJ_ (G2 1 1) (G2 1 9) (G2 49 35) (G2 6) (G2 7) (G2 67) (G2 68)
    rw [hk 1 (by decide), h49 35 (by decide), hk 6 (by decide), hk 7 (by decide), hk 67 (by decide), hk 68 (by decide)]; exact w10
  · show RK_ (G2 1 12) (G2 49 39) (G2 8) (G2 70)
    rw [hk 1 (by decide), h49 39 (by decide), hk 8 (by decide), hk 70 (by decide)]; exact w11
  · show VH_ (G2 49 4) (G2 49 5) (G2 50)
    rw [h49 4 (by decide), h49 5 (by decide), hk 50 (by decide)]; exact w13
  · rw [hk 27 (by decide), hk 12 (by decide), hk 28 (by decide), hk 29 (by decide), hk 30 (by decide), hk 31 (by decide), hk 51 (by decide), h49 3 (by decide)]; exact a4
  · rw [h02, h49 45 (by decide), hk 74 (by decide)]
    rcases a5 with a5 | ⟨b1, b2, b3⟩
    · exact Or.inl a5
    · refine Or.inr ⟨b1, b2, ?_⟩
      obtain ⟨w1, w2, w3, w4, w5, w6, w7, w8, w9, w10, w11, w12, w13⟩ := b3
      refine ⟨?_, ?_, ?_, ?_, ?_, ?_, ?_, ?_, ?_, ?_, ?_, ?_, w13⟩
      · show RA_ (G2 14 1) _
        rw [hk 14 (by decide)]; exact w1
      · show RB_ (G2 14 4) _
        rw [hk 14 (by decide)]; exact w2
      · show RC_ (G2 14 5) _
        rw [hk 14 (by decide)]; exact w3
      · show RD_ (G2 14 6) _
        rw [hk 14 (by decide)]; exact w4
      · show G2 14 0 = _
        rw [hk 14 (by decide)]; exact w5
      · show RF_ (G2 15) _
        rw [hk 15 (by decide)]; exact w6
      · show RG_ (G2 14 1) (G2 16) _
        rw [hk 14 (by decide), hk 16 (by decide)]; exact w7
      · show RH_ (G2 25 0) _ (G2 26) _
        rw [hk 25 (by decide), hk 26 (by decide)]; exact w8
      · show RI_ (G2 18) (G2 17) _ _
        rw [hk 18 (by decide), hk 17 (by decide)]; exact w9
      · show RJ_ (G2 14 1) (G2 14 9) _ (G2 19) (G2 20) _ _
        rw [hk 14 (by decide), hk 19 (by decide), hk 20 (by decide)]; exact w10
      · show RK_ (G2 14 12) _ (G2 21) _
        rw [hk 14 (by decide), hk 21 (by decide)]; exact w11
      · show RL_ (G2 22 0) _ (G2 22 3) (G2 22 1) (G2 23) (G2 24) _ _ _ _ _
        rw [hk 22 (by decide), hk 23 (by decide), hk 24 (by decide)]; exact w12
  · rw [hk 55 (by decide)]; exact a6
  · rw [h49 5 (by decide), h49 3 (by decide), hk 51 (by decide)]; exact a7
end TD
