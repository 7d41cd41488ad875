/-! THE MACHINE that reads a law: the class's, as a pure one -/
abbrev Cd : Type := Int32 × Int32
def rK_ (s : Nat) : Nat := if s = 203 then 1 else if s = 204 then 2 else if s = 205 then 3 else if s = 60 ∨ s = 61 ∨ s = 62 then 4 else if s = 43 ∨ s = 45 then 5 else if s = 42 ∨ s = 47 then 6 else 0
def oc_ (s : Nat) : Int32 := if s = 42 then 4 else if s = 47 then 5 else if s = 43 then 2 else if s = 45 then 3 else if s = 60 then 6 else if s = 61 then 7 else if s = 62 then 8 else if s = 205 then 9 else if s = 204 then 10 else 11
def pp_ (r : Nat) : List Nat → List Cd → List Nat × List Cd
  | [], c => ([], c)
  | s :: w, c => if r ≤ rK_ s then pp_ r w (c ++ [(oc_ s, 0)]) else (s :: w, c)
theorem pp_y {r s : Nat} {w : List Nat} {c : List Cd} (h : r ≤ rK_ s) : pp_ r (s :: w) c = pp_ r w (c ++ [(oc_ s, 0)]) := if_pos h
theorem pp_n {r s : Nat} {w : List Nat} {c : List Cd} (h : ¬ r ≤ rK_ s) : pp_ r (s :: w) c = (s :: w, c) := if_neg h
def hr_k : List Nat → Nat
  | [] => 0
  | s :: _ => rK_ s
theorem pp_id {r : Nat} (hr : 1 ≤ r) : ∀ {w : List Nat} {c : List Cd}, hr_k w < r → pp_ r w c = (w, c)
  | [], _, _ => rfl
  | s :: w, c, h => pp_n (by have h : rK_ s < r := h; omega)
theorem pp_hr {r : Nat} (hr : 1 ≤ r) : ∀ (w : List Nat) (c : List Cd), hr_k (pp_ r w c).1 < r
  | [], _ => hr
  | s :: w, c => by
    by_cases h : r ≤ rK_ s
    · rw [pp_y h]; exact pp_hr hr w _
    · rw [pp_n h]; show rK_ s < r; omega
theorem pp_pp {r r' : Nat} (h : r' ≤ r) : ∀ (w : List Nat) (c : List Cd), pp_ r' (pp_ r w c).1 (pp_ r w c).2 = pp_ r' w c
  | [], _ => rfl
  | s :: w, c => by
    by_cases h1 : r ≤ rK_ s
    · rw [pp_y h1, pp_y (show r' ≤ rK_ s by omega)]
      exact pp_pp h w _
    · rw [pp_n h1]
/-- brackets and nots; brackets; what will be emitted -/
def opn_ : List Nat → Nat
  | [] => 0
  | s :: w => (if s = 205 ∨ s = 40 then 1 else 0) + opn_ w
def brn_ : List Nat → Nat
  | [] => 0
  | s :: w => (if s = 40 then 1 else 0) + brn_ w
def nbr_ : List Nat → Nat
  | [] => 0
  | s :: w => (if s = 40 then 0 else 1) + nbr_ w
def cap_ (s : Nat) : Nat := if s = 203 then 0 else if s = 204 then 1 else if s = 205 ∨ s = 40 then 3 else rK_ s - 1
def wsg_ : List Nat := [203, 204, 205, 40, 60, 61, 62, 43, 45, 42, 47]
def okW : List Nat → Prop
  | [] => True
  | s :: w => s ∈ wsg_ ∧ hr_k w ≤ cap_ s ∧ okW w
def exw_ : List Nat → Nat
  | [] => 0
  | s :: _ => if s = 40 then 0 else if s = 203 then 1 else if s = 204 ∨ s = 205 then 2 else rK_ s - 1
theorem ws_cases {s : Nat} (h : s ∈ wsg_) : s = 203 ∨ s = 204 ∨ s = 205 ∨ s = 40 ∨ s = 60 ∨ s = 61 ∨ s = 62 ∨ s = 43 ∨ s = 45 ∨ s = 42 ∨ s = 47 := by
  unfold wsg_ at h
  simpa only [List.mem_cons, List.not_mem_nil, or_false] using h
theorem okW_len : ∀ {w : List Nat}, okW w → w.length ≤ opn_ w + 2 * brn_ w + exw_ w ∧ (hr_k w ≤ 3 → exw_ w ≤ 2) ∧ (4 ≤ hr_k w → exw_ w + 1 ≤ hr_k w) ∧ brn_ w ≤ opn_ w ∧ (hr_k w = 0 → exw_ w = 0) ∧ (hr_k w ≤ 1 → exw_ w ≤ 1)
  | [], _ => ⟨Nat.le_refl _, fun _ => by decide, fun z => absurd z (by decide), Nat.le_refl _, fun _ => rfl, fun _ => by decide⟩
  | s :: w, h => by
    obtain ⟨h1, h2, h3⟩ := h
    obtain ⟨i1, i2, i2', i3, i4, i5⟩ := okW_len h3
    show w.length + 1 ≤ ((if s = 205 ∨ s = 40 then 1 else 0) + opn_ w) + 2 * ((if s = 40 then 1 else 0) + brn_ w) + exw_ (s :: w) ∧ (rK_ s ≤ 3 → exw_ (s :: w) ≤ 2) ∧ (4 ≤ rK_ s → exw_ (s :: w) + 1 ≤ rK_ s) ∧ (if s = 40 then 1 else 0) + brn_ w ≤ (if s = 205 ∨ s = 40 then 1 else 0) + opn_ w ∧ (rK_ s = 0 → exw_ (s :: w) = 0) ∧ (rK_ s ≤ 1 → exw_ (s :: w) ≤ 1)
    have h6 : hr_k w ≤ 6 := by
      cases w with
      | nil => decide
      | cons a w => exact (by decide : ∀ a, a ∈ wsg_ → rK_ a ≤ 6) a h3.1
    rcases ws_cases h1 with e | e | e | e | e | e | e | e | e | e | e <;> subst e
    · have h2 : hr_k w ≤ 0 := h2
      rw [show exw_ (203 :: w) = 1 from rfl, show rK_ 203 = 1 from rfl]
      refine ⟨?_, fun _ => by omega, fun _ => by omega, ?_, fun _ => by omega, fun _ => by omega⟩
      · show w.length + 1 ≤ (0 + opn_ w) + 2 * (0 + brn_ w) + 1
        omega
      · show 0 + brn_ w ≤ 0 + opn_ w
        omega
    · have h2 : hr_k w ≤ 1 := h2
      rw [show exw_ (204 :: w) = 2 from rfl, show rK_ 204 = 2 from rfl]
      refine ⟨?_, fun _ => by omega, fun _ => by omega, ?_, fun _ => by omega, fun _ => by omega⟩
      · show w.length + 1 ≤ (0 + opn_ w) + 2 * (0 + brn_ w) + 2
        omega
      · show 0 + brn_ w ≤ 0 + opn_ w
        omega
    · have h2 : hr_k w ≤ 3 := h2
      rw [show exw_ (205 :: w) = 2 from rfl, show rK_ 205 = 3 from rfl]
      refine ⟨?_, fun _ => by omega, fun _ => by omega, ?_, fun _ => by omega, fun _ => by omega⟩
      · show w.length + 1 ≤ (1 + opn_ w) + 2 * (0 + brn_ w) + 2
        omega
      · show 0 + brn_ w ≤ 1 + opn_ w
        omega
    · have h2 : hr_k w ≤ 3 := h2
      rw [show exw_ (40 :: w) = 0 from rfl, show rK_ 40 = 0 from rfl]
      refine ⟨?_, fun _ => by omega, fun _ => by omega, ?_, fun _ => by omega, fun _ => by omega⟩
      · show w.length + 1 ≤ (1 + opn_ w) + 2 * (1 + brn_ w) + 0
        omega
      · show 1 + brn_ w ≤ 1 + opn_ w
        omega
    · have h2 : hr_k w ≤ 3 := h2
      rw [show exw_ (60 :: w) = 3 from rfl, show rK_ 60 = 4 from rfl]
      refine ⟨?_, fun _ => by omega, fun _ => by omega, ?_, fun _ => by omega, fun _ => by omega⟩
      · show w.length + 1 ≤ (0 + opn_ w) + 2 * (0 + brn_ w) + 3
        omega
      · show 0 + brn_ w ≤ 0 + opn_ w
        omega
    · have h2 : hr_k w ≤ 3 := h2
      rw [show exw_ (61 :: w) = 3 from rfl, show rK_ 61 = 4 from rfl]
      refine ⟨?_, fun _ => by omega, fun _ => by omega, ?_, fun _ => by omega, fun _ => by omega⟩
      · show w.length + 1 ≤ (0 + opn_ w) + 2 * (0 + brn_ w) + 3
        omega
      · show 0 + brn_ w ≤ 0 + opn_ w
        omega
    · have h2 : hr_k w ≤ 3 := h2
      rw [show exw_ (62 :: w) = 3 from rfl, show rK_ 62 = 4 from rfl]
      refine ⟨?_, fun _ => by omega, fun _ => by omega, ?_, fun _ => by omega, fun _ => by omega⟩
      · show w.length + 1 ≤ (0 + opn_ w) + 2 * (0 + brn_ w) + 3
        omega
      · show 0 + brn_ w ≤ 0 + opn_ w
        omega
    · have h2 : hr_k w ≤ 4 := h2
      rw [show exw_ (43 :: w) = 4 from rfl, show rK_ 43 = 5 from rfl]
      refine ⟨?_, fun _ => by omega, fun _ => by omega, ?_, fun _ => by omega, fun _ => by omega⟩
      · show w.length + 1 ≤ (0 + opn_ w) + 2 * (0 + brn_ w) + 4
        omega
      · show 0 + brn_ w ≤ 0 + opn_ w
        omega
    · have h2 : hr_k w ≤ 4 := h2
      rw [show exw_ (45 :: w) = 4 from rfl, show rK_ 45 = 5 from rfl]
      refine ⟨?_, fun _ => by omega, fun _ => by omega, ?_, fun _ => by omega, fun _ => by omega⟩
      · show w.length + 1 ≤ (0 + opn_ w) + 2 * (0 + brn_ w) + 4
        omega
      · show 0 + brn_ w ≤ 0 + opn_ w
        omega
    · have h2 : hr_k w ≤ 5 := h2
      rw [show exw_ (42 :: w) = 5 from rfl, show rK_ 42 = 6 from rfl]
      refine ⟨?_, fun _ => by omega, fun _ => by omega, ?_, fun _ => by omega, fun _ => by omega⟩
      · show w.length + 1 ≤ (0 + opn_ w) + 2 * (0 + brn_ w) + 5
        omega
      · show 0 + brn_ w ≤ 0 + opn_ w
        omega
    · have h2 : hr_k w ≤ 5 := h2
      rw [show exw_ (47 :: w) = 5 from rfl, show rK_ 47 = 6 from rfl]
      refine ⟨?_, fun _ => by omega, fun _ => by omega, ?_, fun _ => by omega, fun _ => by omega⟩
      · show w.length + 1 ≤ (0 + opn_ w) + 2 * (0 + brn_ w) + 5
        omega
      · show 0 + brn_ w ≤ 0 + opn_ w
        omega
theorem pp_ok {r : Nat} : ∀ {w : List Nat} {c : List Cd}, okW w → okW (pp_ r w c).1
  | [], _, _ => trivial
  | s :: w, c, h => by
    by_cases h1 : r ≤ rK_ s
    · rw [pp_y h1]; exact pp_ok h.2.2
    · rw [pp_n h1]; exact h
theorem pp_cnt {r : Nat} (hr : 1 ≤ r) : ∀ (w : List Nat) (c : List Cd), (pp_ r w c).2.length + nbr_ (pp_ r w c).1 = c.length + nbr_ w ∧ opn_ (pp_ r w c).1 ≤ opn_ w
  | [], _ => ⟨rfl, Nat.le_refl _⟩
  | s :: w, c => by
    by_cases h1 : r ≤ rK_ s
    · rw [pp_y h1]
      obtain ⟨i1, i2⟩ := pp_cnt hr w (c ++ [(oc_ s, 0)])
      have hs : s ≠ 40 := fun e => by rw [e] at h1; have : rK_ 40 = 0 := by decide
                                      omega
      rw [i1]
      show (c ++ [(oc_ s, 0)]).length + nbr_ w = c.length + ((if s = 40 then 0 else 1) + nbr_ w) ∧ opn_ (pp_ r w (c ++ [(oc_ s, 0)])).1 ≤ (if s = 205 ∨ s = 40 then 1 else 0) + opn_ w
      rw [if_neg hs, List.length_append]
      exact ⟨by show c.length + 1 + nbr_ w = _; omega, by omega⟩
    · rw [pp_n h1]; exact ⟨rfl, Nat.le_refl _⟩
/-! kinds on the stack -/
def ty1_ (x : Cd) (s : List Nat) : Option (List Nat) := match tc_ x.1 x.2 s with
  | some s' => if s'.length ≤ 30 then some s' else none
  | none => none
def tys_ : List Cd → List Nat → Option (List Nat)
  | [], s => some s
  | x :: c, s => match ty1_ x s with
    | some s' => tys_ c s'
    | none => none
theorem tys_app {x : Cd} {s1 s2 : List Nat} (h2 : ty1_ x s1 = some s2) : ∀ (c : List Cd) (s : List Nat), tys_ c s = some s1 → tys_ (c ++ [x]) s = some s2
  | [], s, h => by
    have h : s = s1 := Option.some.inj h
    show tys_ [x] s = some s2
    unfold tys_
    rw [h, h2]
    rfl
  | y :: c, s, h => by
    show tys_ (y :: (c ++ [x])) s = some s2
    unfold tys_ at h ⊢
    cases e : ty1_ y s with
    | none => rw [e] at h; exact absurd h (by simp)
    | some s' => rw [e] at h; exact tys_app h2 c s' h
theorem ty1_of {x : Cd} {s s' : List Nat} (h : tc_ x.1 x.2 s = some s') (hl : s'.length ≤ 30) : ty1_ x s = some s' := by
  unfold ty1_
  rw [h]
  exact if_pos hl
def kd_ : List Nat → List Nat → Prop
  | [], ks => ks = []
  | s :: w, ks => if s = 205 ∨ s = 40 then kd_ w ks else ∃ x r, ks = x :: r ∧ (if s = 203 ∨ s = 204 then x = 1 else x ≠ 1) ∧ kd_ w r
theorem kd_len : ∀ {w ks : List Nat}, kd_ w ks → ks.length ≤ w.length
  | [], ks, h => by have h : ks = [] := h; rw [h]; exact Nat.le_refl _
  | s :: w, ks, h => by
    unfold kd_ at h
    by_cases c : s = 205 ∨ s = 40
    · rw [if_pos c] at h
      have := kd_len h
      show ks.length ≤ w.length + 1
      omega
    · rw [if_neg c] at h
      obtain ⟨x, r, e, -, h2⟩ := h
      have := kd_len h2
      rw [e]
      show r.length + 1 ≤ w.length + 1
      omega
/-- a number on top, or a truth -/
def TN_ (wt : List Nat) (c : List Cd) : Prop := ∃ x r, tys_ c [] = some (x :: r) ∧ x ≠ 1 ∧ (wt.head? = some 47 → x = 2) ∧ kd_ wt r
def TT_ (wt : List Nat) (c : List Cd) : Prop := ∃ r, tys_ c [] = some (1 :: r) ∧ kd_ wt r
theorem tc_num {o x y : Int32} : True := trivial
theorem pop_n {s : Nat} {w : List Nat} {c : List Cd} (hw : okW (s :: w)) (hl : (s :: w).length ≤ 29) (h5 : 5 ≤ rK_ s) (h : TN_ (s :: w) c) : TN_ w (c ++ [(oc_ s, 0)]) := by
  obtain ⟨x, r, h1, h2, h3, h4⟩ := h
  obtain ⟨k1, k2, k3⟩ := hw
  have hs : s = 43 ∨ s = 45 ∨ s = 42 ∨ s = 47 := by
    rcases ws_cases k1 with e | e | e | e | e | e | e | e | e | e | e <;> subst e <;> first | (exfalso; revert h5; decide) | simp
  have hn : ¬ (s = 205 ∨ s = 40) := by omega
  have hn2 : ¬ (s = 203 ∨ s = 204) := by omega
  unfold kd_ at h4
  rw [if_neg hn] at h4
  obtain ⟨y, r', e, h5', h6⟩ := h4
  rw [if_neg hn2] at h5'
  have hlen := kd_len h6
  have hl : w.length + 1 ≤ 29 := hl
  have htc : tc_ (oc_ s) 0 (x :: r) = some (0 :: r') := by
    rw [e]
    rcases hs with e2 | e2 | e2 | e2 <;> subst e2
    · show (if x = 1 ∨ y = 1 then none else if (2 : Int32) = 5 then _ else if (2 : Int32) = 2 ∨ (2 : Int32) = 3 ∨ (2 : Int32) = 4 then some (0 :: r') else _) = _
      rw [if_neg (by omega), if_neg (by decide), if_pos (by decide)]
    · show (if x = 1 ∨ y = 1 then none else if (3 : Int32) = 5 then _ else if (3 : Int32) = 2 ∨ (3 : Int32) = 3 ∨ (3 : Int32) = 4 then some (0 :: r') else _) = _
      rw [if_neg (by omega), if_neg (by decide), if_pos (by decide)]
    · show (if x = 1 ∨ y = 1 then none else if (4 : Int32) = 5 then _ else if (4 : Int32) = 2 ∨ (4 : Int32) = 3 ∨ (4 : Int32) = 4 then some (0 :: r') else _) = _
      rw [if_neg (by omega), if_neg (by decide), if_pos (by decide)]
    · have hx : x = 2 := h3 rfl
      show (if x = 1 ∨ y = 1 then none else if (5 : Int32) = 5 then (if x = 2 then some (0 :: r') else none) else _) = _
      rw [if_neg (by omega), if_pos rfl, if_pos hx]
  refine ⟨0, r', tys_app (ty1_of htc (by show r'.length + 1 ≤ 30; omega)) c [] h1, by omega, fun z => ?_, h6⟩
  exfalso
  cases w with
  | nil => exact absurd z (by simp)
  | cons a w =>
    have z : a = 47 := Option.some.inj z
    subst z
    have k2 : rK_ 47 ≤ cap_ s := k2
    rcases hs with e2 | e2 | e2 | e2 <;> subst e2 <;> revert k2 <;> decide
theorem pop_c {s : Nat} {w : List Nat} {c : List Cd} (hw : okW (s :: w)) (hl : (s :: w).length ≤ 29) (h4 : rK_ s = 4) (h : TN_ (s :: w) c) : TT_ w (c ++ [(oc_ s, 0)]) := by
  obtain ⟨x, r, h1, h2, -, h5⟩ := h
  obtain ⟨k1, k2, k3⟩ := hw
  have hs : s = 60 ∨ s = 61 ∨ s = 62 := by
    rcases ws_cases k1 with e | e | e | e | e | e | e | e | e | e | e <;> subst e <;> first | (exfalso; revert h4; decide) | simp
  have hn : ¬ (s = 205 ∨ s = 40) := by omega
  have hn2 : ¬ (s = 203 ∨ s = 204) := by omega
  unfold kd_ at h5
  rw [if_neg hn] at h5
  obtain ⟨y, r', e, h5', h6⟩ := h5
  rw [if_neg hn2] at h5'
  have hlen := kd_len h6
  have hl : w.length + 1 ≤ 29 := hl
  have htc : tc_ (oc_ s) 0 (x :: r) = some (1 :: r') := by
    rw [e]
    rcases hs with e2 | e2 | e2 <;> subst e2
    · show (if x = 1 ∨ y = 1 then none else if (6 : Int32) = 5 then _ else if (6 : Int32) = 2 ∨ (6 : Int32) = 3 ∨ (6 : Int32) = 4 then some (0 :: r') else if (6 : Int32) = 6 ∨ (6 : Int32) = 7 ∨ (6 : Int32) = 8 then some (1 :: r') else none) = _
      rw [if_neg (by omega), if_neg (by decide), if_neg (by decide), if_pos (by decide)]
    · show (if x = 1 ∨ y = 1 then none else if (7 : Int32) = 5 then _ else if (7 : Int32) = 2 ∨ (7 : Int32) = 3 ∨ (7 : Int32) = 4 then some (0 :: r') else if (7 : Int32) = 6 ∨ (7 : Int32) = 7 ∨ (7 : Int32) = 8 then some (1 :: r') else none) = _
      rw [if_neg (by omega), if_neg (by decide), if_neg (by decide), if_pos (by decide)]
    · show (if x = 1 ∨ y = 1 then none else if (8 : Int32) = 5 then _ else if (8 : Int32) = 2 ∨ (8 : Int32) = 3 ∨ (8 : Int32) = 4 then some (0 :: r') else if (8 : Int32) = 6 ∨ (8 : Int32) = 7 ∨ (8 : Int32) = 8 then some (1 :: r') else none) = _
      rw [if_neg (by omega), if_neg (by decide), if_neg (by decide), if_pos (by decide)]
  exact ⟨r', tys_app (ty1_of htc (by show r'.length + 1 ≤ 30; omega)) c [] h1, h6⟩
theorem pop_t {s : Nat} {w : List Nat} {c : List Cd} (hw : okW (s :: w)) (hl : (s :: w).length ≤ 29) (h3 : rK_ s ≤ 3) (h0 : 1 ≤ rK_ s) (h : TT_ (s :: w) c) : TT_ w (c ++ [(oc_ s, 0)]) := by
  obtain ⟨r, h1, h5⟩ := h
  obtain ⟨k1, k2, k3⟩ := hw
  have hs : s = 203 ∨ s = 204 ∨ s = 205 := by
    rcases ws_cases k1 with e | e | e | e | e | e | e | e | e | e | e <;> subst e <;> first | (exfalso; revert h3; decide) | (exfalso; revert h0; decide) | simp
  have hl : w.length + 1 ≤ 29 := hl
  rcases hs with e2 | e2 | e2 <;> subst e2
  · unfold kd_ at h5
    rw [if_neg (by decide)] at h5
    obtain ⟨y, r', e, h5', h6⟩ := h5
    rw [if_pos (by decide)] at h5'
    have hlen := kd_len h6
    refine ⟨r', tys_app (ty1_of (s' := 1 :: r') ?_ (by show r'.length + 1 ≤ 30; omega)) c [] h1, h6⟩
    rw [e, h5']
    rfl
  · unfold kd_ at h5
    rw [if_neg (by decide)] at h5
    obtain ⟨y, r', e, h5', h6⟩ := h5
    rw [if_pos (by decide)] at h5'
    have hlen := kd_len h6
    refine ⟨r', tys_app (ty1_of (s' := 1 :: r') ?_ (by show r'.length + 1 ≤ 30; omega)) c [] h1, h6⟩
    rw [e, h5']
    rfl
  · unfold kd_ at h5
    rw [if_pos (by decide)] at h5
    have hlen := kd_len h5
    refine ⟨r, tys_app (ty1_of (s' := 1 :: r) ?_ (by show r.length + 1 ≤ 30; omega)) c [] h1, h5⟩
    cases r with
    | nil => rfl
    | cons a r => rfl
theorem ppn_ {r : Nat} (hr : 5 ≤ r) : ∀ {w : List Nat} {c : List Cd}, okW w → w.length ≤ 29 → TN_ w c → TN_ (pp_ r w c).1 (pp_ r w c).2
  | [], _, _, _, h => h
  | s :: w, c, hw, hl, h => by
    by_cases h1 : r ≤ rK_ s
    · rw [pp_y h1]
      exact ppn_ hr hw.2.2 (by have hl : w.length + 1 ≤ 29 := hl; omega) (pop_n hw hl (by omega) h)
    · rw [pp_n h1]; exact h
theorem ppt_ {r : Nat} (hr : 1 ≤ r) : ∀ {w : List Nat} {c : List Cd}, okW w → w.length ≤ 29 → hr_k w ≤ 3 → TT_ w c → TT_ (pp_ r w c).1 (pp_ r w c).2
  | [], _, _, _, _, h => h
  | s :: w, c, hw, hl, h3, h => by
    by_cases h1 : r ≤ rK_ s
    · rw [pp_y h1]
      have h3 : rK_ s ≤ 3 := h3
      refine ppt_ hr hw.2.2 (by have hl : w.length + 1 ≤ 29 := hl; omega) ?_ (pop_t hw hl h3 (by omega) h)
      have k2 := hw.2.1
      rcases ws_cases hw.1 with e | e | e | e | e | e | e | e | e | e | e <;> subst e <;> simp only [cap_, rK_] at k2 h3 h1 <;> simp at k2 h3 h1 <;> omega
    · rw [pp_n h1]; exact h
