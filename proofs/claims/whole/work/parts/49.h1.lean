/-! THE LAW'S CODES, evaluated over a list as stack -/
def bin_ (o x y : Int32) : Int32 := if o = 2 then x + y else if o = 3 then x - y else if o = 4 then x * y else if o = 5 then x / y else if o = 6 then (if x < y then 1 else 0) else if o = 7 then (if x = y then 1 else 0) else if o = 8 then (if y < x then 1 else 0) else if o = 10 then x * y else (if x + y ≤ 0 then 0 else 1)
def e1_ (as : Nat → Int32) (o a : Int32) (st : List Int32) : List Int32 :=
  if o = 0 then a :: st else if o = 1 then as a.toNatClampNeg :: st
  else match st with
    | y :: x :: r => if o = 9 then (1 - y) :: x :: r else bin_ o x y :: r
    | [y] => [1 - y]
    | [] => []
def es_ (as op ar : Nat → Int32) (b : Nat) : Nat → List Int32
  | 0 => []
  | n + 1 => e1_ as (op (b + n)) (ar (b + n)) (es_ as op ar b n)
def SK_ : List Nat → List Int32 → Prop
  | [], [] => True
  | k :: ks, v :: vs => ((k = 1 → v = 0 ∨ v = 1) ∧ (k = 2 → v ≠ 0)) ∧ SK_ ks vs
  | _, _ => False
theorem SK_len : ∀ {ks : List Nat} {vs : List Int32}, SK_ ks vs → ks.length = vs.length
  | [], [], _ => rfl
  | _ :: _, _ :: _, h => by rw [List.length_cons, List.length_cons, SK_len h.2]
  | [], _ :: _, h => h.elim
  | _ :: _, [], h => h.elim
theorem b01 {c : Prop} [Decidable c] : (if c then (1 : Int32) else 0) = 0 ∨ (if c then (1 : Int32) else 0) = 1 := by
  by_cases h : c
  · rw [if_pos h]; exact Or.inr rfl
  · rw [if_neg h]; exact Or.inl rfl
theorem b10 {c : Prop} [Decidable c] : (if c then (0 : Int32) else 1) = 0 ∨ (if c then (0 : Int32) else 1) = 1 := by
  by_cases h : c
  · rw [if_pos h]; exact Or.inl rfl
  · rw [if_neg h]; exact Or.inr rfl
theorem SK_step {as : Nat → Int32} {o a : Int32} {ks ks' : List Nat} {vs : List Int32} (h : tc_ o a ks = some ks') (hs : SK_ ks vs) : SK_ ks' (e1_ as o a vs) := by
  unfold tc_ at h
  unfold e1_
  by_cases c0 : o = 0
  · rw [if_pos c0] at h ⊢
    cases h
    refine ⟨?_, hs⟩
    by_cases ca : a = 0
    · rw [if_pos ca]; exact ⟨fun z => absurd z (by decide), fun z => absurd z (by decide)⟩
    · rw [if_neg ca]; exact ⟨fun z => absurd z (by decide), fun _ => ca⟩
  rw [if_neg c0] at h ⊢
  by_cases c1 : o = 1
  · rw [if_pos c1] at h ⊢
    cases h
    exact ⟨⟨fun z => absurd z (by decide), fun z => absurd z (by decide)⟩, hs⟩
  rw [if_neg c1] at h ⊢
  match ks, vs, hs with
  | [], [], _ => cases h
  | [k], [y], hs =>
    dsimp only at h ⊢
    by_cases c9 : o = 9 ∧ k = 1
    · rw [if_pos c9] at h
      cases h
      refine ⟨⟨fun _ => ?_, fun z => absurd z (by decide)⟩, trivial⟩
      rcases hs.1.1 c9.2 with rfl | rfl
      · exact Or.inr (by decide)
      · exact Or.inl (by decide)
    · rw [if_neg c9] at h; cases h
  | k :: k2 :: ks, y :: x :: vs, hs =>
    dsimp only at h ⊢
    obtain ⟨hy, hx, hr⟩ := hs
    by_cases c9 : o = 9
    · rw [if_pos c9] at h ⊢
      by_cases k1 : k = 1
      · rw [if_pos k1] at h
        cases h
        refine ⟨⟨fun _ => ?_, fun z => absurd z (by decide)⟩, hx, hr⟩
        rcases hy.1 k1 with rfl | rfl
        · exact Or.inr (by decide)
        · exact Or.inl (by decide)
      · rw [if_neg k1] at h; cases h
    rw [if_neg c9] at h ⊢
    by_cases c10 : o = 10 ∨ o = 11
    · rw [if_pos c10] at h
      by_cases k1 : k = 1 ∧ k2 = 1
      · rw [if_pos k1] at h
        cases h
        refine ⟨⟨fun _ => ?_, fun z => absurd z (by decide)⟩, hr⟩
        rcases c10 with rfl | rfl
        · rcases hy.1 k1.1 with rfl | rfl <;> rcases hx.1 k1.2 with rfl | rfl <;> first | exact Or.inl (by decide) | exact Or.inr (by decide)
        · exact b10
      · rw [if_neg k1] at h; cases h
    rw [if_neg c10] at h
    by_cases k1 : k = 1 ∨ k2 = 1
    · rw [if_pos k1] at h; cases h
    rw [if_neg k1] at h
    by_cases c5 : o = 5
    · rw [if_pos c5] at h
      by_cases k3 : k = 2
      · rw [if_pos k3] at h
        cases h
        exact ⟨⟨fun z => absurd z (by decide), fun z => absurd z (by decide)⟩, hr⟩
      · rw [if_neg k3] at h; cases h
    rw [if_neg c5] at h
    by_cases c2 : o = 2 ∨ o = 3 ∨ o = 4
    · rw [if_pos c2] at h
      cases h
      exact ⟨⟨fun z => absurd z (by decide), fun z => absurd z (by decide)⟩, hr⟩
    rw [if_neg c2] at h
    by_cases c6 : o = 6 ∨ o = 7 ∨ o = 8
    · rw [if_pos c6] at h
      cases h
      refine ⟨⟨fun _ => ?_, fun z => absurd z (by decide)⟩, hr⟩
      rcases c6 with rfl | rfl | rfl
      · exact b01
      · exact b01
      · exact b01
    · rw [if_neg c6] at h; cases h
/-- a row holds a stack -/
def hd_ (f : Nat → Int32) : List Int32 → Prop
  | [] => True
  | v :: vs => f vs.length = v ∧ hd_ f vs
theorem hd_up {f : Nat → Int32} {x : Int32} : ∀ {vs : List Int32} {j : Nat}, hd_ f vs → vs.length ≤ j → hd_ (upd f j x) vs
  | [], _, _, _ => trivial
  | v :: vs, j, h, hj => by
    rw [List.length_cons] at hj
    exact ⟨(up_miss _ _ (by omega)).trans h.1, hd_up h.2 (by omega)⟩
theorem hd_push {f : Nat → Int32} {vs : List Int32} (h : hd_ f vs) (x : Int32) : hd_ (upd f vs.length x) (x :: vs) := ⟨up_hit _ _ _, hd_up h (Nat.le_refl _)⟩
/-- the reference's signs -/
theorem two_ {Q : Int32 → GS → Prop} {G : GS} {o x y : Int32} (ho : o = 2 ∨ o = 3 ∨ o = 4 ∨ o = 5 ∨ o = 6 ∨ o = 7 ∨ o = 8 ∨ o = 10 ∨ o = 11) (h5 : o = 5 → ¬ y = 0) (h : Q (bin_ o x y) G) : wp_X10_twoOf o x y G Q := by
  rcases ho with rfl | rfl | rfl | rfl | rfl | rfl | rfl | rfl | rfl
  · simpa [wp_X10_twoOf, bin_] using h
  · simpa [wp_X10_twoOf, bin_] using h
  · simpa [wp_X10_twoOf, bin_] using h
  · have := h5 rfl
    simpa [wp_X10_twoOf, bin_, this] using h
  · by_cases c : x < y
    · have c2 : ¬ y ≤ x := by grind
      simpa [wp_X10_twoOf, bin_, c, c2] using h
    · have c2 : y ≤ x := by grind
      simpa [wp_X10_twoOf, bin_, c, c2] using h
  · by_cases c : x = y
    · simpa [wp_X10_twoOf, bin_, c] using h
    · simpa [wp_X10_twoOf, bin_, c] using h
  · by_cases c : y < x
    · have c2 : ¬ x ≤ y := by grind
      simpa [wp_X10_twoOf, bin_, c, c2] using h
    · have c2 : x ≤ y := by grind
      simpa [wp_X10_twoOf, bin_, c, c2] using h
  · simpa [wp_X10_twoOf, bin_] using h
  · by_cases c : x + y ≤ 0
    · simpa [wp_X10_twoOf, bin_, c] using h
    · simpa [wp_X10_twoOf, bin_, c] using h
/-- the class's signs -/
theorem jo_ {Q : Int32 → GS → Prop} {G : GS} {s o x y : Int32} (ho : (s, o) ∈ opl_) (h9 : ¬ o = 9) (h5 : o = 5 → ¬ y = 0) (hb : o = 10 ∨ o = 11 → (x = 0 ∨ x = 1) ∧ (y = 0 ∨ y = 1)) (h : Q (bin_ o x y) G) : wp_X2_joined (-s) x y G Q := by
  simp only [opl_, List.mem_cons, Prod.mk.injEq, List.not_mem_nil, or_false] at ho
  rcases ho with ⟨rfl, rfl⟩ | ⟨rfl, rfl⟩ | ⟨rfl, rfl⟩ | ⟨rfl, rfl⟩ | ⟨rfl, rfl⟩ | ⟨rfl, rfl⟩ | ⟨rfl, rfl⟩ | ⟨rfl, rfl⟩ | ⟨rfl, rfl⟩ | ⟨rfl, rfl⟩
  · simpa [wp_X2_joined, bin_] using h
  · simpa [wp_X2_joined, bin_] using h
  · simpa [wp_X2_joined, bin_] using h
  · have := h5 rfl
    simpa [wp_X2_joined, bin_, this] using h
  · by_cases c : x < y
    · have c2 : ¬ y ≤ x := by grind
      simpa [wp_X2_joined, bin_, c, c2] using h
    · have c2 : y ≤ x := by grind
      simpa [wp_X2_joined, bin_, c, c2] using h
  · by_cases c : x = y
    · simpa [wp_X2_joined, bin_, c] using h
    · simpa [wp_X2_joined, bin_, c] using h
  · by_cases c : y < x
    · have c2 : ¬ x ≤ y := by grind
      simpa [wp_X2_joined, bin_, c, c2] using h
    · have c2 : x ≤ y := by grind
      simpa [wp_X2_joined, bin_, c, c2] using h
  · exact absurd rfl h9
  · obtain ⟨hx, hy⟩ := hb (Or.inl rfl)
    have e : x &&& y = x * y := by rcases hx with rfl | rfl <;> rcases hy with rfl | rfl <;> decide
    simpa [wp_X2_joined, bin_, e] using h
  · obtain ⟨hx, hy⟩ := hb (Or.inr rfl)
    have e : bin_ 11 x y = x ||| y := by rcases hx with rfl | rfl <;> rcases hy with rfl | rfl <;> decide
    rw [e] at h
    simpa [wp_X2_joined] using h
