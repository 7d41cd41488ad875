/-! TOKENS -/
def bl_ (c : Nat) : Bool := decide (c = 32 ∨ c = 10)
def le_ (c : Nat) : Bool := decide ((97 ≤ c ∧ c ≤ 122) ∨ (65 ≤ c ∧ c ≤ 90))
def di_ (c : Nat) : Bool := decide (48 ≤ c ∧ c ≤ 57)
def sgs_ : List Nat := [59, 43, 45, 42, 47, 40, 41, 60, 61, 62]
def sg_ (c : Nat) : Bool := decide (c ∈ sgs_)
def sc_ (f : Nat → Bool) (T : Nat) : Nat → Nat → Nat
  | 0, p => p
  | r + 1, p => if p < T ∧ f p = true then sc_ f T r (p + 1) else p
def sN_ (f : Nat → Bool) (T p : Nat) : Nat := sc_ f T (T - p) p
theorem sN_go {f : Nat → Bool} {T p : Nat} (hp : p < T) (hf : f p = true) : sN_ f T p = sN_ f T (p + 1) := by
  unfold sN_
  rw [show T - p = T - (p + 1) + 1 by omega]
  conv => lhs; unfold sc_
  rw [if_pos ⟨hp, hf⟩]
theorem sN_st {f : Nat → Bool} {T p : Nat} (h : ¬ (p < T ∧ f p = true)) : sN_ f T p = p := by
  unfold sN_
  cases e : T - p with
  | zero => rfl
  | succ r => unfold sc_; rw [if_neg h]
theorem sc_le {f : Nat → Bool} {T : Nat} : ∀ r p, p ≤ sc_ f T r p ∧ (p ≤ T → sc_ f T r p ≤ T) ∧ ∀ i, p ≤ i → i < sc_ f T r p → i < T ∧ f i = true
  | 0, p => ⟨Nat.le_refl _, id, fun i h1 h2 => by have h2 : i < p := h2; omega⟩
  | r + 1, p => by
    unfold sc_
    by_cases c : p < T ∧ f p = true
    · rw [if_pos c]
      obtain ⟨a1, a2, a3⟩ := sc_le (f := f) (T := T) r (p + 1)
      refine ⟨by omega, fun _ => a2 (by omega), fun i h1 h2 => ?_⟩
      by_cases e : i = p
      · rw [e]; exact c
      · exact a3 i (by omega) h2
    · rw [if_neg c]
      exact ⟨Nat.le_refl _, id, fun i h1 h2 => by omega⟩
theorem sN_le {f : Nat → Bool} {T p : Nat} : p ≤ sN_ f T p ∧ (p ≤ T → sN_ f T p ≤ T) ∧ ∀ i, p ≤ i → i < sN_ f T p → i < T ∧ f i = true := sc_le _ _
/-- a word of the law's -/
def WM_ (b : Nat → Nat) (q nx i : Nat) : Prop := kl_.getD i 0 = nx - q ∧ ∀ j, j < kl_.getD i 0 → (kb_.getD i []).getD j 0 = nI (b (q + j))
theorem WM_un {b : Nat → Nat} {q nx i j : Nat} (hi : i < 15) (hj : j < 15) (h1 : WM_ b q nx i) (h2 : WM_ b q nx j) : i = j := by
  apply Classical.byContradiction
  intro hn
  have hl : kl_.getD i 0 = kl_.getD j 0 := h1.1.trans h2.1.symm
  obtain ⟨t, ht, hne⟩ := (by decide +kernel : ∀ i, i < 15 → ∀ j, j < 15 → ¬ i = j → kl_.getD i 0 = kl_.getD j 0 → ∃ t, t < kl_.getD i 0 ∧ (kb_.getD i []).getD t 0 ≠ (kb_.getD j []).getD t 0) i hi j hj hn hl
  exact hne ((h1.2 t ht).trans (h2.2 t (by omega)).symm)
noncomputable def kf_ (b : Nat → Nat) (q nx : Nat) : Nat := @ite _ (∃ i, i < 15 ∧ WM_ b q nx i) (Classical.propDecidable _) (200 + Classical.epsilon (fun i => i < 15 ∧ WM_ b q nx i)) 1
theorem kf_1 {b : Nat → Nat} {q nx i : Nat} (hi : i < 15) (h : WM_ b q nx i) : kf_ b q nx = 200 + i := by
  unfold kf_
  rw [if_pos ⟨i, hi, h⟩]
  have := Classical.epsilon_spec (p := fun i => i < 15 ∧ WM_ b q nx i) ⟨i, hi, h⟩
  rw [WM_un this.1 hi this.2 h]
theorem kf_0 {b : Nat → Nat} {q nx : Nat} (h : ∀ i, i < 15 → ¬ WM_ b q nx i) : kf_ b q nx = 1 := by
  unfold kf_
  rw [if_neg (fun ⟨i, hi, z⟩ => h i hi z)]
theorem kf_c (b : Nat → Nat) (q nx : Nat) : kf_ b q nx = 1 ∨ ∃ i, i < 15 ∧ WM_ b q nx i ∧ kf_ b q nx = 200 + i := by
  by_cases h : ∃ i, i < 15 ∧ WM_ b q nx i
  · obtain ⟨i, hi, hw⟩ := h
    exact Or.inr ⟨i, hi, hw, kf_1 hi hw⟩
  · exact Or.inl (kf_0 (fun i hi hw => h ⟨i, hi, hw⟩))
def dg_ (b : Nat → Nat) (q : Nat) : Nat → Nat
  | 0 => 0
  | n + 1 => dg_ b q n * 10 + (b (q + n) - 48)
def tq_ (b : Nat → Nat) (T p : Nat) : Nat := sN_ (fun i => bl_ (b i)) T p
def tn_ (b : Nat → Nat) (T q : Nat) : Nat := if q < T then (if le_ (b q) = true then sN_ (fun i => le_ (b i)) T (q + 1) else if di_ (b q) = true then sN_ (fun i => di_ (b i)) T (q + 1) else q + 1) else T
noncomputable def tK_ (b : Nat → Nat) (T q : Nat) : Nat := if q < T then (if le_ (b q) = true then kf_ b q (tn_ b T q) else if di_ (b q) = true then (if tn_ b T q - q ≤ 4 then 2 else 1) else if sg_ (b q) = true then b q else 1) else 0
def tv_ (b : Nat → Nat) (T q : Nat) : Nat := dg_ b q (tn_ b T q - q)
theorem dg_lt {b : Nat → Nat} {q : Nat} : ∀ n, (∀ i, i < n → di_ (b (q + i)) = true) → dg_ b q n < 10 ^ n
  | 0, _ => by show 0 < 1; omega
  | n + 1, h => by
    have h1 := dg_lt n (fun i hi => h i (by omega))
    have h2 := of_decide_eq_true (h n (by omega))
    show dg_ b q n * 10 + (b (q + n) - 48) < 10 ^ (n + 1)
    rw [Nat.pow_succ]
    omega
/-- the tape -/
def TB_ (b : Nat → Nat) (T : Nat) (G : GS) : Prop := T ≤ 400 ∧ ∀ i, i < T → b i < 256 ∧ G 32 i = (nI (b i)).toInt8.toInt32 ∧ G 54 i = nI (b i)
theorem by255 : ∀ v : Nat, v < 256 → (nI v).toInt8.toInt32 &&& 255 = nI v := by decide +kernel
theorem le_iff {c : Nat} : le_ c = true ↔ ((97 ≤ c ∧ c ≤ 122) ∨ (65 ≤ c ∧ c ≤ 90)) := decide_eq_true_iff
theorem di_iff {c : Nat} : di_ c = true ↔ (48 ≤ c ∧ c ≤ 57) := decide_eq_true_iff
theorem bl_iff {c : Nat} : bl_ c = true ↔ (c = 32 ∨ c = 10) := decide_eq_true_iff
theorem nsg_ : ∀ c, c < 256 → sg_ c = true → c ≠ 0 ∧ c ≠ 1 ∧ c ≠ 2 ∧ c < 200 ∧ c ∈ sgs_ := by decide +kernel
section TKC
variable {Q : Int32 → GS → Prop} {G : GS} {b : Nat → Nat} {T : Nat}
theorem nL_ {a c : Nat} (ha : a < 1000) (hc : c < 1000) : (nI a < nI c ↔ a < c) ∧ (nI a ≤ nI c ↔ a ≤ c) ∧ (nI a = nI c ↔ a = c) := ⟨nI_ltI (by omega) (by omega), nI_leI (by omega) (by omega), nI_eq (by omega) (by omega)⟩
theorem lec_ {c : Nat} (hc : c < 256) (h1 : le_ c = true → Q 1 G) (h0 : ¬ le_ c = true → Q 0 G) : wp_X6_isLetter (nI c) G Q := by
  have a1 : nI c < 97 ↔ c < 97 := (nL_ (c := 97) (by omega) (by omega)).1
  have a2 : nI c ≤ 122 ↔ c ≤ 122 := (nL_ (c := 122) (by omega) (by omega)).2.1
  have a3 : nI c < 65 ↔ c < 65 := (nL_ (c := 65) (by omega) (by omega)).1
  have a4 : 90 < nI c ↔ 90 < c := (nL_ (a := 90) (by omega) (by omega)).1
  unfold wp_X6_isLetter bk_X6_isLetter_12
  rw [a1, a2, a3, a4]
  rw [le_iff] at h1 h0
  refine ⟨fun _ => ⟨fun _ => h0 (by omega), fun _ => ⟨fun _ => h0 (by omega), fun _ => h1 (by omega)⟩⟩, fun _ => ⟨fun _ => h1 (by omega), fun _ => ⟨fun _ => h0 (by omega), fun _ => ⟨fun _ => h0 (by omega), fun _ => h1 (by omega)⟩⟩⟩⟩
theorem dic_ {c : Nat} (hc : c < 256) (h1 : di_ c = true → Q 1 G) (h0 : ¬ di_ c = true → Q 0 G) : wp_X6_isDigit (nI c) G Q := by
  have a1 : nI c < 48 ↔ c < 48 := (nL_ (c := 48) (by omega) (by omega)).1
  have a4 : 57 < nI c ↔ 57 < c := (nL_ (a := 57) (by omega) (by omega)).1
  unfold wp_X6_isDigit
  rw [a1, a4]
  rw [di_iff] at h1 h0
  exact ⟨fun _ => h0 (by omega), fun _ => ⟨fun _ => h0 (by omega), fun _ => h1 (by omega)⟩⟩
theorem blc_ {c : Nat} (hc : c < 256) (h1 : bl_ c = true → Q 1 G) (h0 : ¬ bl_ c = true → Q 0 G) : wp_X6_isBlank (nI c) G Q := by
  have a1 : nI c = 32 ↔ c = 32 := (nL_ (c := 32) (by omega) (by omega)).2.2
  have a4 : nI c = 10 ↔ c = 10 := (nL_ (c := 10) (by omega) (by omega)).2.2
  unfold wp_X6_isBlank
  rw [a1, a4]
  rw [bl_iff] at h1 h0
  exact ⟨fun _ => h1 (by omega), fun _ => ⟨fun _ => h0 (by omega), fun _ => h1 (by omega)⟩⟩
theorem sxk_ : ∀ c, c < 256 → (sx_ 16 ((nI c).toUInt32 % 65536).toInt32 < 0 ↔ ¬ sg_ c = true) := by decide +kernel
theorem sgc_ {c : Nat} (hc : c < 256) (h1 : sg_ c = true → Q 1 G) (h0 : ¬ sg_ c = true → Q 0 G) : wp_X6_isSign (nI c) G Q := by
  refine ⟨by decide, fun z => h0 ((sxk_ c hc).mp z), fun z => h1 (Classical.not_not.mp (fun y => z ((sxk_ c hc).mpr y)))⟩
/-- only the reader's token changes -/
def CT5_ (G G' : GS) : Prop := FR [33] G G' ∧ ∀ j, j ∉ [5, 6, 7, 8] → G' 33 j = G 33 j
theorem CT5_.rf (G : GS) : CT5_ G G := ⟨FR.rf _ _, fun _ _ => rfl⟩
theorem CT5_.gu {G G' : GS} (h : CT5_ G G') {j : Nat} (v : Int32) (hj : j ∈ [5, 6, 7, 8]) : CT5_ G (gu_ G' 33 j v) := ⟨h.1.gu _ (by decide), fun i hi => by
  show upd (G' 33) j v i = _
  rw [up_miss _ _ (fun e => hi (by rw [e]; exact hj))]; exact h.2 i hi⟩
theorem sig_c {G' : GS} (hb : TB_ b T G) (e4 : G 33 4 = nI T) (hc : CT5_ G G') {i : Nat} (hi : i < T) (h : Q (nI (b i)) G') : wp_X6_signAt (nI i) G' Q := by
  obtain ⟨t1, t2⟩ := hb
  obtain ⟨a1, a2, a3⟩ := t2 i hi
  have e : G' 33 4 = nI T := (hc.2 4 (by decide)).trans e4
  refine ⟨fun z => absurd z (nI_pos (by omega)), fun _ => ?_⟩
  rw [e]
  refine ⟨fun z => absurd z (nI_ge hi (by omega)), fun _ => ⟨fun z => absurd z (nI_ge (b := 400) (by omega) (by omega)), fun _ => ⟨vp_in_nI (by omega) (by omega), ?_⟩⟩⟩
  rw [nI_clamp (by omega), hc.1 32 (by decide), a2, by255 _ a1]
  exact h
theorem sig_c0 {G' : GS} (hT : T ≤ 400) (e4 : G 33 4 = nI T) (hc : CT5_ G G') {i : Nat} (hi : T ≤ i) (hi2 : i ≤ 1000) (h : Q 0 G') : wp_X6_signAt (nI i) G' Q := by
  have e : G' 33 4 = nI T := (hc.2 4 (by decide)).trans e4
  refine ⟨fun z => absurd z (nI_pos (by omega)), fun _ => ?_⟩
  rw [e]
  exact ⟨fun _ => h, fun z => absurd (nI_le hi (by omega)) z⟩
set_option maxHeartbeats 1000000 in
theorem tle_c (hb : TB_ b T G) (e4 : G 33 4 = nI T) {q : Nat} (hq : q < T) {nx : Nat} (hnx : nx = sN_ (fun i => le_ (b i)) T (q + 1)) (hQ : ∀ G', CT5_ G G' → G' 33 7 = nI q → G' 33 8 = nI nx → G' 33 5 = nI (kf_ b q nx) → Q 0 G') {G1 : GS} (c1 : CT5_ G G1) (e7 : G1 33 7 = nI q) (e8 : G1 33 8 = nI (q + 1)) : wp_X6_takeLetters G1 Q := by
  have hT := hb.1
  have nxT : nx ≤ T ∧ q < nx := by
    have := (sN_le (f := fun i => le_ (b i)) (T := T) (p := q + 1))
    rw [← hnx] at this
    exact ⟨this.2.1 (by omega), by omega⟩
  have ph2 : ∀ (G2 : GS), CT5_ G G2 → G2 33 7 = nI q → G2 33 8 = nI nx → G2 33 5 = nI 1 → ∃ kf, lp_X6_takeLetters_46 Q kf 200 G2 := by
    have spl : ∀ (i : Nat), i < 15 → ∀ (G2 : GS) (K : Int32 → GS → Prop), CT5_ G G2 → G2 33 7 = nI q → G2 33 8 = nI nx → (WM_ b q nx i → K 1 G2) → (¬ WM_ b q nx i → K 0 G2) → wp_X6_isSpelt i G2 K := by
      intro i hi G2 K c2 e7 e8 k1 k0
      have hl : kl_.getD i 0 ≤ 10 := (by decide : ∀ i, i < 15 → kl_.getD i 0 ≤ 10) i hi
      have hnk : i < nk_ := by show i < 17; omega
      refine ⟨hnk, ?_⟩
      show (nI (kl_.getD i 0) = G2 33 8 - G2 33 7 → ∃ kf, lp_X6_isSpelt_20 K kf i 0 G2) ∧ (¬ nI (kl_.getD i 0) = G2 33 8 - G2 33 7 → K 0 G2)
      rw [e7, e8, pk_sub (by omega), nI_eq (by omega) (by omega)]
      refine ⟨fun z => ⟨kl_.getD i 0 + 1, ?_⟩, fun z => k0 (fun w => z w.1)⟩
      have key : ∀ (r j : Nat), j + r = kl_.getD i 0 → (∀ t, t < j → (kb_.getD i []).getD t 0 = nI (b (q + t))) → lp_X6_isSpelt_20 K (r + 1) i (nI j) G2 := by
        intro r
        induction r with
        | zero =>
          intro j hj h
          have : j = kl_.getD i 0 := by omega
          subst this
          exact ⟨hnk, fun _ => k1 ⟨z, h⟩, fun y => absurd (Int32.le_refl _) y⟩
        | succ r ih =>
          intro j hj h
          refine ⟨hnk, fun y => absurd y (nI_ge (by omega) (by omega)), fun _ => ⟨hnk, vp_in_nI (by omega) (by omega), ?_⟩⟩
          show wp_X6_signAt (G2 33 7 + nI j) G2 (fun r7 G8 => ((kb_.getD i []).getD (nI j).toNatClampNeg 0 = r7 → lp_X6_isSpelt_20 K (r + 1) i (nI j + 1) G8) ∧ (¬ (kb_.getD i []).getD (nI j).toNatClampNeg 0 = r7 → K 0 G8))
          rw [e7, nI_add, nI_clamp (by omega)]
          refine sig_c hb e4 c2 (by omega) ?_
          refine ⟨fun y => ?_, fun y => k0 (fun w => y (w.2 j (by omega)))⟩
          rw [nI_1]
          refine ih (j + 1) (by omega) (fun t ht => ?_)
          by_cases e : t = j
          · rw [e]; exact y
          · exact h t (by omega)
      exact key _ 0 (by omega) (fun t ht => absurd ht (by omega))
    have nam : ∀ (i : Nat), i < 15 → ∀ (G2 : GS) (K : Nat → GS → Prop), K i G2 → wp_X6_nameOf (nI (200 + i)) G2 K := by
      intro i hi G2 K k
      rcases (show i = 0 ∨ i = 1 ∨ i = 2 ∨ i = 3 ∨ i = 4 ∨ i = 5 ∨ i = 6 ∨ i = 7 ∨ i = 8 ∨ i = 9 ∨ i = 10 ∨ i = 11 ∨ i = 12 ∨ i = 13 ∨ i = 14 by omega) with h | h | h | h | h | h | h | h | h | h | h | h | h | h | h <;> subst h <;>
        (unfold wp_X6_nameOf; refine ⟨?_, ?_, ?_, ?_, ?_, ?_, ?_, ?_, ?_, ?_, ?_, ?_, ?_, ?_, ?_, ?_⟩ <;> first | exact fun _ => k | exact fun z => absurd z (by decide) | (intros; first | exact absurd (by decide) ‹¬ nI (200 + 0) = 200› | exact absurd (by decide) ‹¬ nI (200 + 1) = 201› | exact absurd (by decide) ‹¬ nI (200 + 2) = 202› | exact absurd (by decide) ‹¬ nI (200 + 3) = 203› | exact absurd (by decide) ‹¬ nI (200 + 4) = 204› | exact absurd (by decide) ‹¬ nI (200 + 5) = 205› | exact absurd (by decide) ‹¬ nI (200 + 6) = 206› | exact absurd (by decide) ‹¬ nI (200 + 7) = 207› | exact absurd (by decide) ‹¬ nI (200 + 8) = 208› | exact absurd (by decide) ‹¬ nI (200 + 9) = 209› | exact absurd (by decide) ‹¬ nI (200 + 10) = 210› | exact absurd (by decide) ‹¬ nI (200 + 11) = 211› | exact absurd (by decide) ‹¬ nI (200 + 12) = 212› | exact absurd (by decide) ‹¬ nI (200 + 13) = 213› | exact absurd (by decide) ‹¬ nI (200 + 14) = 214›))
    have key : ∀ (r i : Nat) (G2 : GS), i + r = 15 → CT5_ G G2 → G2 33 7 = nI q → G2 33 8 = nI nx → (((∀ j, j < i → ¬ WM_ b q nx j) ∧ G2 33 5 = nI 1) ∨ ∃ j, j < 15 ∧ WM_ b q nx j ∧ G2 33 5 = nI (200 + j)) → lp_X6_takeLetters_46 Q (r + 1) (nI (200 + i)) G2 := by
      intro r
      induction r with
      | zero =>
        intro i G2 hi c2 e7 e8 h
        refine ⟨fun _ => hQ G2 c2 e7 e8 ?_, fun z => absurd (nI_lt (a := 214) (by omega) (by omega)) z⟩
        rcases h with ⟨h1, h2⟩ | ⟨j, hj, h1, h2⟩
        · rw [kf_0 (fun j hj => h1 j (by omega))]; exact h2
        · rw [kf_1 hj h1]; exact h2
      | succ r ih =>
        intro i G2 hi c2 e7 e8 h
        refine ⟨fun z => absurd z (nI_nlt (a := 214) (by omega) (by omega)), fun _ => nam i (by omega) G2 _ (spl i (by omega) G2 _ c2 e7 e8 (fun w => ⟨fun z => absurd z (by decide), fun _ => ?_⟩) (fun w => ⟨fun _ => ?_, fun z => absurd rfl z⟩))⟩
        · rw [nI_1]
          exact ih (i + 1) _ (by omega) (c2.gu _ (by decide)) e7 e8 (Or.inr ⟨i, by omega, w, rfl⟩)
        · rw [nI_1]
          refine ih (i + 1) G2 (by omega) c2 e7 e8 ?_
          rcases h with ⟨h1, h2⟩ | h
          · refine Or.inl ⟨fun j hj => ?_, h2⟩
            by_cases e : j = i
            · rw [e]; exact w
            · exact h1 j (by omega)
          · exact Or.inr h
    intro G2 c2 e7 e8 e5
    exact ⟨16, key 15 0 G2 (by omega) c2 e7 e8 (Or.inl ⟨fun j hj => absurd hj (by omega), e5⟩)⟩
  have key : ∀ (r i : Nat) (G2 : GS), i + r = T → sN_ (fun i => le_ (b i)) T i = nx → CT5_ G G2 → G2 33 7 = nI q → G2 33 8 = nI i → lp_X6_takeLetters_5 Q (r + 1) (nI i) G2 := by
    intro r
    induction r with
    | zero =>
      intro i G2 hi hs c2 e7 e8
      have e4' : G2 33 4 = nI T := (c2.2 4 (by decide)).trans e4
      have en : nx = i := by rw [← hs, sN_st (fun z => absurd z.1 (by omega))]
      refine ⟨fun _ => ph2 _ (c2.gu _ (by decide)) e7 (by rw [en]; exact e8) rfl, fun z => absurd ?_ z⟩
      rw [e4', show i = T by omega]; exact Int32.le_refl _
    | succ r ih =>
      intro i G2 hi hs c2 e7 e8
      have e4' : G2 33 4 = nI T := (c2.2 4 (by decide)).trans e4
      refine ⟨fun z => absurd z (by rw [e4']; exact nI_ge (by omega) (by omega)), fun _ => sig_c hb e4 c2 (by omega) (lec_ (hb.2 i (by omega)).1 (fun hl => ⟨fun z => absurd z (by decide), fun _ => ?_⟩) (fun hl => ⟨fun _ => ph2 _ (c2.gu _ (by decide)) e7 ?_ rfl, fun z => absurd rfl z⟩))⟩
      · rw [nI_1]
        exact ih (i + 1) _ (by omega) (by rw [← hs]; exact (sN_go (f := fun i => le_ (b i)) (by omega) hl).symm) (c2.gu _ (by decide)) e7 rfl
      · have en : nx = i := by rw [← hs, sN_st (f := fun i => le_ (b i)) (fun z => hl z.2)]
        rw [en]; exact e8
  unfold wp_X6_takeLetters
  rw [e8]
  exact ⟨T - (q + 1) + 1, key _ _ G1 (by omega) hnx.symm c1 e7 e8⟩
theorem num_ {a c : Nat} (hc : 48 ≤ c) : nI a * 10 + nI c - 48 = nI (a * 10 + (c - 48)) := by
  rw [show (10 : Int32) = nI 10 from rfl, pk_mul, nI_add, show (48 : Int32) = nI 48 from rfl, pk_sub (by omega)]
  congr 1; omega
set_option maxHeartbeats 1000000 in
theorem tdi_c (hb : TB_ b T G) (e4 : G 33 4 = nI T) {q : Nat} (hq : q < T) (hd : di_ (b q) = true) {nx : Nat} (hnx : nx = sN_ (fun i => di_ (b i)) T (q + 1)) (hQ : ∀ G', CT5_ G G' → G' 33 7 = nI q → G' 33 8 = nI nx → G' 33 5 = nI (if nx - q ≤ 4 then 2 else 1) → (nx - q ≤ 4 → G' 33 6 = nI (dg_ b q (nx - q))) → Q 0 G') {G1 : GS} (c1 : CT5_ G G1) (e7 : G1 33 7 = nI q) (e8 : G1 33 8 = nI (q + 1)) : wp_X6_takeDigits G1 Q := by
  have hT := hb.1
  have fin : ∀ (i : Nat) (G2 : GS), i = nx → q < i → i ≤ T → CT5_ G G2 → G2 33 7 = nI q → G2 33 8 = nI i → (i - q ≤ 4 → G2 33 6 = nI (dg_ b q (i - q))) → bk_X6_takeDigits_72 Q G2 := by
    intro i G2 hi h1 h2 c2 e7 e8 e6
    subst hi
    unfold bk_X6_takeDigits_72
    rw [e7, e8, pk_sub (by omega)]
    refine ⟨fun z => ?_, fun z => ?_⟩
    · have hn : ¬ i - q ≤ 4 := fun y => nI_nlt (a := 4) y (by omega) z
      refine hQ _ (c2.gu _ (by decide)) e7 e8 ?_ (fun y => absurd y hn)
      rw [if_neg hn]; rfl
    · have hn : i - q ≤ 4 := by
        rcases Nat.lt_or_ge 4 (i - q) with h | h
        · exact absurd (nI_lt (a := 4) h (by omega)) z
        · exact h
      refine hQ _ (c2.gu _ (by decide)) e7 e8 ?_ (fun y => e6 y)
      rw [if_pos hn]; rfl
  have key : ∀ (r i : Nat) (G2 : GS), i + r = T → q < i → sN_ (fun i => di_ (b i)) T i = nx → CT5_ G G2 → G2 33 7 = nI q → G2 33 8 = nI i → (i - q ≤ 4 → G2 33 6 = nI (dg_ b q (i - q))) → lp_X6_takeDigits_20 Q (r + 1) (nI i) G2 := by
    intro r
    induction r with
    | zero =>
      intro i G2 hi hqi hs c2 e7 e8 e6
      have e4' : G2 33 4 = nI T := (c2.2 4 (by decide)).trans e4
      refine ⟨fun _ => fin i G2 (by rw [← hs, sN_st (fun z => absurd z.1 (by omega))]) hqi (by omega) c2 e7 e8 e6, fun z => absurd ?_ z⟩
      rw [e4', show i = T by omega]; exact Int32.le_refl _
    | succ r ih =>
      intro i G2 hi hqi hs c2 e7 e8 e6
      have e4' : G2 33 4 = nI T := (c2.2 4 (by decide)).trans e4
      refine ⟨fun z => absurd z (by rw [e4']; exact nI_ge (by omega) (by omega)), fun _ => sig_c hb e4 c2 (by omega) (dic_ (hb.2 i (by omega)).1 (fun hl => ⟨fun z => absurd z (by decide), fun _ => sig_c hb e4 c2 (by omega) ?_⟩) (fun hl => ⟨fun _ => fin i G2 (by rw [← hs, sN_st (f := fun i => di_ (b i)) (fun z => hl z.2)]) hqi (by omega) c2 e7 e8 e6, fun z => absurd rfl z⟩))⟩
      rw [nI_1]
      refine ih (i + 1) _ (by omega) (by omega) (by rw [← hs]; exact (sN_go (f := fun i => di_ (b i)) (by omega) hl).symm) ((c2.gu _ (by decide)).gu _ (by decide)) e7 rfl (fun y => ?_)
      show G2 33 6 * 10 + nI (b i) - 48 = _
      rw [e6 (by omega), num_ (di_iff.mp hl).1, show i + 1 - q = i - q + 1 by omega]
      show _ = nI (dg_ b q (i - q) * 10 + (b (q + (i - q)) - 48))
      rw [show q + (i - q) = i by omega]
  unfold wp_X6_takeDigits
  rw [e7]
  refine sig_c hb e4 c1 hq ?_
  rw [e8]
  refine ⟨T - (q + 1) + 1, key _ _ _ (by omega) (by omega) hnx.symm (c1.gu _ (by decide)) e7 e8 (fun _ => ?_)⟩
  show nI (b q) - 48 = _
  rw [show q + 1 - q = 0 + 1 by omega]
  show _ = nI (0 * 10 + (b (q + 0) - 48))
  rw [show (48 : Int32) = nI 48 from rfl, pk_sub (di_iff.mp hd).1, Nat.add_zero, Nat.zero_mul, Nat.zero_add]
set_option maxHeartbeats 1000000 in
theorem stp_c (hb : TB_ b T G) (e4 : G 33 4 = nI T) {p : Nat} (hp : p ≤ T) (e8 : G 33 8 = nI p) (hQ : ∀ G', CT5_ G G' → G' 33 7 = nI (tq_ b T p) → G' 33 8 = nI (tn_ b T (tq_ b T p)) → G' 33 5 = nI (tK_ b T (tq_ b T p)) → (tK_ b T (tq_ b T p) = 2 → G' 33 6 = nI (tv_ b T (tq_ b T p))) → Q 0 G') : wp_X6_step G Q := by
  have hT := hb.1
  generalize hq : tq_ b T p = q at hQ
  have hqT : q ≤ T := by
    have := (sN_le (f := fun i => bl_ (b i)) (T := T) (p := p)).2.1 hp
    rw [← hq]; exact this
  have fin : ∀ (G2 : GS), CT5_ G G2 → G2 33 7 = nI q → bk_X6_step_45 Q G2 := by
    intro G2 c2 e7
    have e4' : ∀ v, (gu_ G2 33 8 v) 33 4 = nI T := fun v => (c2.2 4 (by decide)).trans e4
    have e7' : ∀ v, (gu_ G2 33 8 v) 33 7 = nI q := fun v => e7
    unfold bk_X6_step_45
    rw [e7, nI_1]
    have c3 : CT5_ G (gu_ G2 33 8 (nI (q + 1))) := c2.gu _ (by decide)
    by_cases h : q < T
    · refine sig_c hb e4 c3 h ?_
      rw [e7', e4']
      refine ⟨fun _ => ?_, fun z => absurd (nI_lt h (by omega)) z⟩
      have hb1 := (hb.2 q h).1
      refine lec_ hb1 (fun hl => ⟨fun z => absurd z (by decide), fun _ => ?_⟩) (fun hl => ⟨fun _ => dic_ hb1 (fun hd => ⟨fun z => absurd z (by decide), fun _ => ?_⟩) (fun hd => ⟨fun _ => sgc_ hb1 (fun hs => ⟨fun z => absurd z (by decide), fun _ => ?_⟩) (fun hs => ⟨fun _ => ?_, fun z => absurd rfl z⟩), fun z => absurd rfl z⟩), fun z => absurd rfl z⟩)
      · have en : tn_ b T q = sN_ (fun i => le_ (b i)) T (q + 1) := by unfold tn_; rw [if_pos h, if_pos hl]
        refine tle_c (Q := fun _ G16 => Q 0 G16) hb e4 h rfl (fun G3 k1 k2 k3 k4 => hQ G3 k1 k2 (by rw [en]; exact k3) ?_ ?_) c3 e7 rfl
        · unfold tK_
          rw [if_pos h, if_pos hl, en]; exact k4
        · intro z
          exfalso
          unfold tK_ at z
          rw [if_pos h, if_pos hl] at z
          rcases kf_c b q (tn_ b T q) with y | ⟨i, _, _, y⟩ <;> omega
      · have en : tn_ b T q = sN_ (fun i => di_ (b i)) T (q + 1) := by unfold tn_; rw [if_pos h, if_neg hl, if_pos hd]
        have ek : tK_ b T q = if tn_ b T q - q ≤ 4 then 2 else 1 := by
          unfold tK_
          rw [if_pos h, if_neg hl, if_pos hd]
        refine tdi_c (Q := fun _ G16 => Q 0 G16) hb e4 h hd rfl (fun G3 k1 k2 k3 k4 k5 => hQ G3 k1 k2 (by rw [en]; exact k3) (by rw [ek, en]; exact k4) (fun z => ?_)) c3 e7 rfl
        unfold tv_
        rw [en]
        refine k5 ?_
        rw [ek, en] at z
        by_cases c : sN_ (fun i => di_ (b i)) T (q + 1) - q ≤ 4
        · exact c
        · rw [if_neg c] at z; omega
      · have ek : tK_ b T q = b q := by unfold tK_; rw [if_pos h, if_neg hl, if_neg hd, if_pos hs]
        have en : tn_ b T q = q + 1 := by unfold tn_; rw [if_pos h, if_neg hl, if_neg hd]
        refine hQ _ (c3.gu _ (by decide)) e7 (by rw [en]; rfl) (by rw [ek]; rfl) (fun z => ?_)
        rw [ek] at z
        exact absurd z (nsg_ _ hb1 hs).2.2.1
      · have ek : tK_ b T q = 1 := by unfold tK_; rw [if_pos h, if_neg hl, if_neg hd, if_neg hs]
        have en : tn_ b T q = q + 1 := by unfold tn_; rw [if_pos h, if_neg hl, if_neg hd]
        refine hQ _ (c3.gu _ (by decide)) e7 (by rw [en]; rfl) (by rw [ek]; rfl) (fun z => ?_)
        rw [ek] at z; omega
    · refine sig_c0 hT e4 c3 (by omega) (by omega) ?_
      rw [e7', e4']
      refine ⟨fun z => absurd z (nI_nlt (by omega) (by omega)), fun _ => ?_⟩
      have ek : tK_ b T q = 0 := by unfold tK_; rw [if_neg h]
      have en : tn_ b T q = T := by unfold tn_; rw [if_neg h]
      refine hQ _ ((c3.gu _ (by decide)).gu _ (by decide)) e7 (by rw [en]; rfl) (by rw [ek]; rfl) (fun z => ?_)
      rw [ek] at z; omega
  have key : ∀ (r i : Nat) (G2 : GS), i + r = T → sN_ (fun i => bl_ (b i)) T i = q → CT5_ G G2 → G2 33 7 = nI i → lp_X6_step_13 Q (r + 1) (nI i) G2 := by
    intro r
    induction r with
    | zero =>
      intro i G2 hi hs c2 e7
      have e4' : G2 33 4 = nI T := (c2.2 4 (by decide)).trans e4
      have en : q = i := by rw [← hs, sN_st (fun z => absurd z.1 (by omega))]
      refine ⟨fun _ => fin G2 c2 (by rw [en]; exact e7), fun z => absurd ?_ z⟩
      rw [e4', show i = T by omega]; exact Int32.le_refl _
    | succ r ih =>
      intro i G2 hi hs c2 e7
      have e4' : G2 33 4 = nI T := (c2.2 4 (by decide)).trans e4
      refine ⟨fun z => absurd z (by rw [e4']; exact nI_ge (by omega) (by omega)), fun _ => sig_c hb e4 c2 (by omega) (blc_ (hb.2 i (by omega)).1 (fun hl => ⟨fun z => absurd z (by decide), fun _ => ?_⟩) (fun hl => ⟨fun _ => fin G2 c2 ?_, fun z => absurd rfl z⟩))⟩
      · rw [nI_1]
        exact ih (i + 1) _ (by omega) (by rw [← hs]; exact (sN_go (f := fun i => bl_ (b i)) (by omega) hl).symm) (c2.gu _ (by decide)) rfl
      · have en : q = i := by rw [← hs, sN_st (f := fun i => bl_ (b i)) (fun z => hl z.2)]
        rw [en]; exact e7
  unfold wp_X6_step
  rw [e8]
  exact ⟨T - p + 1, key _ _ _ (by omega) hq ((CT5_.rf G).gu _ (by decide)) rfl⟩
end TKC
