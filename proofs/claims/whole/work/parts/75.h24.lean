/-! turns -/
def CF_ (G : GS) (u v : Nat → Nat) (i j : Nat) : Prop := (u i = u j ∨ u i = v j ∨ v i = u j ∨ v i = v j) ∨ (hm_ G (u i) ≠ 0 ∧ hm_ G (v i) ≠ 0 ∧ hm_ G (u j) ≠ 0 ∧ hm_ G (v j) ≠ 0 ∧ wd_ G (u i) (v i) = wd_ G (u j) (v j))
def PC_ (G : GS) (P M : Nat) (u v : Nat → Nat) : Prop := M ≤ 8 ∧ G 1 9 = nI M ∧ ∀ i, i < M → u i < P ∧ v i < P ∧ G 6 i = nI (u i) ∧ G 7 i = nI (v i)
def PD_ (G : GS) (P M : Nat) (u v : Nat → Nat) : Prop := M ≤ 8 ∧ G 49 35 = nI M ∧ ∀ i, i < M → u i < P ∧ v i < P ∧ G 67 i = nI (u i) ∧ G 68 i = nI (v i)
/-- C: which two cannot speak at once; turns 1 .. L for the first m pairs -/
def VA_ (C : Nat → Nat → Prop) (L m : Nat) (c : Nat → Nat) : Prop := ∀ i, i < m → (1 ≤ c i ∧ c i ≤ L) ∧ ∀ j, j < i → C i j → c j ≠ c i
def EX2_ (C : Nat → Nat → Prop) (L M k : Nat) (c : Nat → Nat) : Prop := ∃ d, (∀ j, j < k → d j = c j) ∧ VA_ C L M d
def LF_ (C : Nat → Nat → Prop) (L M k : Nat) (d : Nat → Nat) : Prop := ∀ i, k ≤ i → i < M → ∀ t, 1 ≤ t → t < d i → ¬ EX2_ C L M (i + 1) (at_ i t d)
theorem EX2_cg {C : Nat → Nat → Prop} {L M k : Nat} {c c' : Nat → Nat} (h : ∀ j, j < k → c j = c' j) (e : EX2_ C L M k c) : EX2_ C L M k c' := by
  obtain ⟨d, h1, h2⟩ := e
  exact ⟨d, fun j hj => (h1 j hj).trans (h j hj), h2⟩
theorem VA_up {C : Nat → Nat → Prop} {L k t : Nat} {c : Nat → Nat} (h : VA_ C L k c) (h1 : 1 ≤ t) (h2 : t ≤ L) (hf : ∀ j, j < k → C k j → c j ≠ t) : VA_ C L (k + 1) (at_ k t c) := by
  intro i hi
  by_cases e : i = k
  · subst e
    rw [at_h]
    exact ⟨⟨h1, h2⟩, fun j hj hc => by rw [at_n _ _ (by omega)]; exact hf j hj hc⟩
  · rw [at_n _ _ e]
    refine ⟨(h i (by omega)).1, fun j hj hc => ?_⟩
    rw [at_n _ _ (by omega)]
    exact (h i (by omega)).2 j hj hc
/-- a turn above the first unused one is never needed -/
def sw_ (a b x : Nat) : Nat := if x = a then b else if x = b then a else x
theorem sw_inj {a b x y : Nat} (h : sw_ a b x = sw_ a b y) : x = y := by
  unfold sw_ at h
  by_cases h1 : x = a
  · rw [if_pos h1] at h
    by_cases h2 : y = a
    · omega
    · rw [if_neg h2] at h
      by_cases h3 : y = b
      · rw [if_pos h3] at h; omega
      · rw [if_neg h3] at h; omega
  · rw [if_neg h1] at h
    by_cases h4 : x = b
    · rw [if_pos h4] at h
      by_cases h2 : y = a
      · rw [if_pos h2] at h; omega
      · rw [if_neg h2] at h
        by_cases h3 : y = b
        · omega
        · rw [if_neg h3] at h; omega
    · rw [if_neg h4] at h
      by_cases h2 : y = a
      · rw [if_pos h2] at h; omega
      · rw [if_neg h2] at h
        by_cases h3 : y = b
        · rw [if_pos h3] at h; omega
        · rw [if_neg h3] at h; exact h
theorem sw_rg {a b x L : Nat} (ha : 1 ≤ a ∧ a ≤ L) (hb : 1 ≤ b ∧ b ≤ L) (hx : 1 ≤ x ∧ x ≤ L) : 1 ≤ sw_ a b x ∧ sw_ a b x ≤ L := by
  unfold sw_
  split
  · exact hb
  · split
    · exact ha
    · exact hx
theorem EX2_sw {C : Nat → Nat → Prop} {L M k us s : Nat} {c : Nat → Nat} (hu : ∀ j, j < k → c j ≤ us) (h1 : us + 1 < s) (h2 : s ≤ L) (e : EX2_ C L M (k + 1) (at_ k s c)) : EX2_ C L M (k + 1) (at_ k (us + 1) c) := by
  obtain ⟨d, d1, d2⟩ := e
  refine ⟨fun i => sw_ (us + 1) s (d i), fun j hj => ?_, fun i hi => ⟨sw_rg ⟨by omega, by omega⟩ ⟨by omega, h2⟩ (d2 i hi).1, fun j hj hc z => (d2 i hi).2 j hj hc (sw_inj z)⟩⟩
  show sw_ (us + 1) s (d j) = _
  rw [d1 j hj]
  by_cases e : j = k
  · rw [e, at_h, at_h]
    unfold sw_
    rw [if_neg (by omega), if_pos rfl]
  · rw [at_n _ _ e, at_n _ _ e]
    have := hu j (by omega)
    unfold sw_
    rw [if_neg (by omega), if_neg (by omega)]
theorem LF_un {C : Nat → Nat → Prop} {L M : Nat} {d d' : Nat → Nat} (h : VA_ C L M d) (h' : VA_ C L M d') (l : LF_ C L M 0 d) (l' : LF_ C L M 0 d') : ∀ i, i < M → d i = d' i := by
  intro i
  induction i using Nat.strongRecOn with
  | _ i ih =>
    intro hi
    rcases Nat.lt_trichotomy (d i) (d' i) with c | c | c
    · refine absurd ⟨d, fun j hj => ?_, h⟩ (l' i (Nat.zero_le _) hi (d i) (h i hi).1.1 c)
      by_cases e : j = i
      · rw [e, at_h]
      · rw [at_n _ _ e]; exact ih j (by omega) (by omega)
    · exact c
    · refine absurd ⟨d', fun j hj => ?_, h'⟩ (l i (Nat.zero_le _) hi (d' i) (h' i hi).1.1 c)
      by_cases e : j = i
      · rw [e, at_h]
      · rw [at_n _ _ e]; exact (ih j (by omega) (by omega)).symm
theorem EX2_M (C : Nat → Nat → Prop) (M : Nat) (c : Nat → Nat) : EX2_ C M M 0 c :=
  ⟨fun i => i + 1, fun j hj => absurd hj (by omega), fun i hi => ⟨⟨by show 1 ≤ i + 1; omega, by show i + 1 ≤ M; omega⟩, fun j hj _ z => by have z : j + 1 = i + 1 := z; omega⟩⟩
section TUR
variable {Q : Int32 → GS → Prop} {G : GS} {P V M i j : Nat} {u v : Nat → Nat}
set_option maxHeartbeats 1000000 in
theorem cla_c (hF : HF_ G P V) (hp : PC_ G P M u v) (hi : i < M) (hj : j < M) (h1 : CF_ G u v i j → Q 1 G) (h0 : ¬ CF_ G u v i j → Q 0 G) : wp_X7_clash (nI i) (nI j) G Q := by
  obtain ⟨m8, -, hpp⟩ := hp
  have hP := hF.1
  obtain ⟨a1, a2, a3, a4⟩ := hpp i hi
  obtain ⟨b1, b2, b3, b4⟩ := hpp j hj
  have eq : ∀ x y : Nat, x < P → y < P → (nI x = nI y ↔ x = y) := fun x y hx hy => nIx hx hy hP
  unfold wp_X7_clash
  rw [nI_clamp (by omega), nI_clamp (by omega), a3, a4, b3, b4, eq _ _ a1 b1, eq _ _ a1 b2, eq _ _ a2 b1, eq _ _ a2 b2]
  refine ⟨vp_in_nI (by omega) (by omega), vp_in_nI (by omega) (by omega), fun z => h1 (Or.inl (Or.inl z)), fun z1 => ⟨fun z => h1 (Or.inl (Or.inr (Or.inl z))), fun z2 => ⟨fun z => h1 (Or.inl (Or.inr (Or.inr (Or.inl z)))), fun z3 => ⟨fun z4 => ?_, fun z => h1 (Or.inl (Or.inr (Or.inr (Or.inr z))))⟩⟩⟩⟩
  have nn : ¬ (u i = u j ∨ u i = v j ∨ v i = u j ∨ v i = v j) := fun z => z.elim z1 (fun z => z.elim z2 (fun z => z.elim z3 z4))
  refine hh_ hF a1 (fun c1 => ⟨fun z => absurd z (by decide), fun _ => ?_⟩) (fun c1 => ⟨fun _ => h0 (fun z => z.elim nn (fun y => y.1 c1)), fun z => absurd rfl z⟩)
  refine hh_ hF a2 (fun c2 => ⟨fun z => absurd z (by decide), fun _ => ?_⟩) (fun c2 => ⟨fun _ => h0 (fun z => z.elim nn (fun y => y.2.1 c2)), fun z => absurd rfl z⟩)
  refine hh_ hF b1 (fun c3 => ⟨fun z => absurd z (by decide), fun _ => ?_⟩) (fun c3 => ⟨fun _ => h0 (fun z => z.elim nn (fun y => y.2.2.1 c3)), fun z => absurd rfl z⟩)
  refine hh_ hF b2 (fun c4 => ⟨fun z => absurd z (by decide), fun _ => ?_⟩) (fun c4 => ⟨fun _ => h0 (fun z => z.elim nn (fun y => y.2.2.2.1 c4)), fun z => absurd rfl z⟩)
  have wo : ∀ x y : Nat, x < P → y < P → ∀ (K : Int32 → GS → Prop), K (nI (wd_ G x y)) G → wp_X8_wordOf (nI x) (nI y) G K := by
    intro x y hx hy K hK
    have m1 := hF.2.2.2.1 x (by omega)
    have m2 := hF.2.2.2.1 y (by omega)
    unfold wp_X8_wordOf
    rw [nI_clamp (by omega), nI_clamp (by omega), m1.2.2, m2.2.2, (shf_ (by omega) (by omega)).2.2, ab_ (by omega) (by omega)]
    exact ⟨vp_in_nI (by omega) (by omega), vp_in_nI (by omega) (by omega), hK⟩
  refine wo _ _ a1 a2 _ (wo _ _ b1 b2 _ ?_)
  have w1 : wd_ G (u i) (v i) < 100 := by
    have := hm61 hF a1
    have := hm61 hF a2
    unfold wd_; omega
  have w2 : wd_ G (u j) (v j) < 100 := by
    have := hm61 hF b1
    have := hm61 hF b2
    unfold wd_; omega
  rw [nI_eq (by omega) (by omega)]
  exact ⟨fun z => h0 (fun y => y.elim nn (fun y => z y.2.2.2.2)), fun z => h1 (Or.inr ⟨c1, c2, c3, c4, z⟩)⟩
set_option maxHeartbeats 1000000 in
theorem cbo_r (hF : HF_ G P V) (hp : PD_ G P M u v) (hi : i < M) (hj : j < M) (h1 : CF_ G u v i j → Q 1 G) (h0 : ¬ CF_ G u v i j → Q 0 G) : wp_X10_cannotBoth (nI i) (nI j) G Q := by
  obtain ⟨m8, -, hpp⟩ := hp
  have hP := hF.1
  obtain ⟨a1, a2, a3, a4⟩ := hpp i hi
  obtain ⟨b1, b2, b3, b4⟩ := hpp j hj
  have eq : ∀ x y : Nat, x < P → y < P → (nI x = nI y ↔ x = y) := fun x y hx hy => nIx hx hy hP
  have wh : ∀ k, k < M → ∀ (K : Int32 → GS → Prop), (hm_ G (u k) ≠ 0 → hm_ G (v k) ≠ 0 → K 1 G) → (¬ (hm_ G (u k) ≠ 0 ∧ hm_ G (v k) ≠ 0) → K 0 G) → wp_X10_areWithHums (nI k) G K := by
    intro k hk K k1 k0
    obtain ⟨x1, x2, x3, x4⟩ := hpp k hk
    unfold wp_X10_areWithHums
    rw [nI_clamp (by omega), x3]
    refine ⟨vp_in_nI (by omega) (by omega), hu_r hF x1 ⟨fun z => k0 (fun y => y.1 ((hne_ (hm61 hF x1)).mp z)), fun z1 => ?_⟩⟩
    rw [x4]
    exact hu_r hF x2 ⟨fun z => k0 (fun y => y.2 ((hne_ (hm61 hF x2)).mp z)), fun z2 => k1 (fun c => z1 ((hne_ (hm61 hF x1)).mpr c)) (fun c => z2 ((hne_ (hm61 hF x2)).mpr c))⟩
  have hw : ∀ x y : Nat, x < P → y < P → ∀ (K : Int32 → GS → Prop), K (nI (wd_ G x y)) G → wp_X10_without (nI (hm_ G x) - 1 - (nI (hm_ G y) - 1)) G K := by
    intro x y hx hy K hK
    have m1 := hm61 hF hx
    have m2 := hm61 hF hy
    rw [(shf_ (by omega) (by omega)).2.2]
    exact wou_ (by omega) (by omega) hK
  unfold wp_X10_cannotBoth
  rw [nI_clamp (by omega), nI_clamp (by omega), a3, a4, b3, b4, eq _ _ a1 b1, eq _ _ a1 b2, eq _ _ a2 b1, eq _ _ a2 b2]
  refine ⟨vp_in_nI (by omega) (by omega), vp_in_nI (by omega) (by omega), fun z => h1 (Or.inl (Or.inl z)), fun z1 => ⟨fun z => h1 (Or.inl (Or.inr (Or.inl z))), fun z2 => ⟨fun z => h1 (Or.inl (Or.inr (Or.inr (Or.inl z)))), fun z3 => ⟨fun z4 => ?_, fun z => h1 (Or.inl (Or.inr (Or.inr (Or.inr z))))⟩⟩⟩⟩
  have nn : ¬ (u i = u j ∨ u i = v j ∨ v i = u j ∨ v i = v j) := fun z => z.elim z1 (fun z => z.elim z2 (fun z => z.elim z3 z4))
  refine wh i hi _ (fun c1 c2 => ⟨fun z => absurd z (by decide), fun _ => ?_⟩) (fun c => ⟨fun _ => h0 (fun z => z.elim nn (fun y => c ⟨y.1, y.2.1⟩)), fun z => absurd rfl z⟩)
  refine wh j hj _ (fun c3 c4 => ⟨fun z => absurd z (by decide), fun _ => ?_⟩) (fun c => ⟨fun _ => h0 (fun z => z.elim nn (fun y => c ⟨y.2.2.1, y.2.2.2.1⟩)), fun z => absurd rfl z⟩)
  rw [a3]
  refine hu_r hF a1 ?_
  rw [a4]
  refine hu_r hF a2 (hw _ _ a1 a2 _ ?_)
  rw [b3]
  refine hu_r hF b1 ?_
  rw [b4]
  refine hu_r hF b2 (hw _ _ b1 b2 _ ?_)
  have w1 : wd_ G (u i) (v i) < 100 := by
    have := hm61 hF a1
    have := hm61 hF a2
    unfold wd_; omega
  have w2 : wd_ G (u j) (v j) < 100 := by
    have := hm61 hF b1
    have := hm61 hF b2
    unfold wd_; omega
  rw [nI_eq (by omega) (by omega)]
  exact ⟨fun z => h0 (fun y => y.elim nn (fun y => z y.2.2.2.2)), fun z => h1 (Or.inr ⟨c1, c2, c3, c4, z⟩)⟩
end TUR
/-! the class's turns -/
section PLA
variable {C : Nat → Nat → Prop} {M L : Nat}
/-- the clashes' cell -/
def CB_ (C : Nat → Nat → Prop) (m : Nat) (G : GS) : Prop := ∀ i, i < m → ∃ b, b < 256 ∧ G 42 i = nI b ∧ ∀ j, j < i → (b.testBit j = true ↔ C i j)
def GV_ (c k : Nat) (d : Nat → Nat) (G : GS) : Prop := ∀ j, j < k → G c j = nI (d j)
theorem fre_c {Q : Int32 → GS → Prop} {G : GS} {k t : Nat} {c : Nat → Nat} (hk : k < M) (hM : M ≤ 8) (hcb : CB_ C M G) (hc : ∀ j, j < k → c j ≤ 100) (ht : t ≤ 100) (hg : GV_ 41 k c G) (h1 : (∀ j, j < k → C k j → c j ≠ t) → Q 1 G) (h0 : (∃ j, j < k ∧ C k j ∧ c j = t) → Q 0 G) : wp_X7_isFree (nI k) (nI t) G Q := by
  obtain ⟨b, hb, eb, ib⟩ := hcb k hk
  have key : ∀ (r j : Nat), j + r = k → (∀ i, i < j → C k i → c i ≠ t) → lp_X7_isFree_2 Q (r + 1) (nI k) (nI t) (nI j) G := by
    intro r
    induction r with
    | zero =>
      intro j hj h
      have : j = k := by omega
      subst this
      exact ⟨fun _ => h1 h, fun z => absurd (Int32.le_refl _) z⟩
    | succ r ih =>
      intro j hj h
      have go : (C k j → c j ≠ t) → lp_X7_isFree_2 Q (r + 1) (nI k) (nI t) (nI j + 1) G := by
        intro hn
        rw [nI_1]
        refine ih (j + 1) (by omega) (fun i hi => ?_)
        by_cases e : i = j
        · rw [e]; exact hn
        · exact h i (by omega)
      refine ⟨fun z => absurd z (nI_ge (by omega) (by omega)), fun _ => ⟨vp_in_nI (by omega) (by omega), ?_⟩⟩
      rw [nI_clamp (by omega), eb, tb_1 (by omega) (by omega), nI_clamp (by omega), hg j (by omega), nI_eq (by have := hc j (by omega); omega) (by omega)]
      exact ⟨fun z => go (fun y => absurd ((ib j (by omega)).mpr y) z), fun z => ⟨vp_in_nI (by omega) (by omega), fun y => go (fun _ => y), fun y => h0 ⟨j, by omega, (ib j (by omega)).mp z, y⟩⟩⟩
  exact ⟨k + 1, key k 0 (by omega) (fun i hi => absurd hi (by omega))⟩
set_option maxHeartbeats 2000000 in
theorem pla_c (hM : M ≤ 8) (hL : L ≤ 8) : ∀ (r k f us : Nat) (c : Nat → Nat) (G : GS) (Q : Int32 → GS → Prop), k + r = M → r < f → CB_ C M G → VA_ C L k c → (∀ j, j < k → c j ≤ us) → us ≤ L → GV_ 41 k c G →
    (∀ d, (∀ j, j < k → d j = c j) → VA_ C L M d → LF_ C L M k d → ∀ G', FR [41] G G' → GV_ 41 M d G' → Q 1 G') → (¬ EX2_ C L M k c → ∀ G', FR [41] G G' → GV_ 41 k c G' → Q 0 G') → rc_X7_place f (nI k) (nI M) (nI us) (nI L) G Q := by
  intro r
  induction r with
  | zero =>
    intro k f us c G Q hk hf hcb hva hus hul hg h1 h0
    obtain ⟨f, rfl⟩ : ∃ f', f = f' + 1 := ⟨f - 1, by omega⟩
    have : k = M := by omega
    subst this
    exact ⟨fun _ => h1 c (fun _ _ => rfl) hva (fun i a b => absurd b (by omega)) G (FR.rf _ _) hg, fun z => absurd (Int32.le_refl _) z⟩
  | succ r ih =>
    intro k f us c G Q hk hf hcb hva hus hul hg h1 h0
    obtain ⟨f, rfl⟩ : ∃ f', f = f' + 1 := ⟨f - 1, by omega⟩
    refine ⟨fun z => absurd z (nI_ge (by omega) (by omega)), fun _ => ⟨fun _ => ?_, fun z => absurd (nI_lt (b := 8) (by omega) (by omega)) z⟩⟩
    have loop : ∀ (e t : Nat) (G' : GS), t + e = us + 2 → 1 ≤ t → FR [41] G G' → GV_ 41 k c G' → (∀ s, 1 ≤ s → s < t → ¬ EX2_ C L M (k + 1) (at_ k s c)) → lp_X7_place_16 (fun ba1 ba2 ba3 ba4 G Q => rc_X7_place f ba1 ba2 ba3 ba4 G Q) Q (e + 1) (nI k) (nI M) (nI us) (nI L) (nI t) G' := by
      intro e
      induction e with
      | zero =>
        intro t G' ht ht1 f1 g1 hs
        have no : ¬ EX2_ C L M k c := by
          rintro ⟨d, d1, d2⟩
          have dk := (d2 k (by omega)).1
          have ed : EX2_ C L M (k + 1) (at_ k (d k) c) := ⟨d, fun j hj => by
            by_cases ej : j = k
            · rw [ej, at_h]
            · rw [at_n _ _ ej]; exact d1 j (by omega), d2⟩
          rcases Nat.lt_or_ge (d k) t with c1 | c1
          · exact hs _ dk.1 c1 ed
          · exact hs (us + 1) (by omega) (by omega) (EX2_sw hus (by omega) dk.2 ed)
        refine ⟨fun _ => h0 no G' f1 g1, fun _ => ⟨fun _ => h0 no G' f1 g1, fun z => absurd ?_ z⟩⟩
        rw [nI_1]
        exact nI_lt (by omega) (by omega)
      | succ e ihe =>
        intro t G' ht ht1 f1 g1 hs
        refine ⟨fun z => ?_, fun z => ⟨fun y => absurd y ?_, fun _ => ?_⟩⟩
        · rw [nI_ltI (by omega) (by omega)] at z
          refine h0 ?_ G' f1 g1
          rintro ⟨d, d1, d2⟩
          have dk := (d2 k (by omega)).1
          refine hs (d k) dk.1 (by omega) ⟨d, fun j hj => ?_, d2⟩
          by_cases ej : j = k
          · rw [ej, at_h]
          · rw [at_n _ _ ej]; exact d1 j (by omega)
        · rw [nI_1]
          exact nI_nlt (by omega) (by omega)
        · rw [nI_ltI (by omega) (by omega)] at z
          have hcb1 : CB_ C M G' := fun i hi => by rw [f1 42 (by decide)]; exact hcb i hi
          have nxt : ∀ G2, FR [41] G G2 → GV_ 41 k c G2 → ¬ EX2_ C L M (k + 1) (at_ k t c) → lp_X7_place_16 (fun ba1 ba2 ba3 ba4 G Q => rc_X7_place f ba1 ba2 ba3 ba4 G Q) Q (e + 1) (nI k) (nI M) (nI us) (nI L) (nI t + 1) G2 := by
            intro G2 f2 g2 hn
            rw [nI_1]
            refine ihe (t + 1) G2 (by omega) (by omega) f2 g2 (fun s s1 s2 => ?_)
            by_cases es : s = t
            · rw [es]; exact hn
            · exact hs s s1 (by omega)
          refine fre_c (c := c) (by omega) hM hcb1 (fun j hj => by have := hus j hj; omega) (by omega) g1 (fun hfr => ⟨fun z => absurd z (by decide), fun _ => ⟨vp_in_nI (by omega) (by omega), ?_⟩⟩) (fun hno => ⟨fun _ => nxt G' f1 g1 ?_, fun z => absurd rfl z⟩)
          · have em : (if nI us < nI t then nI t else nI us) = nI (max us t) := by
              have := mx_ (X := us) (Y := t) (by omega) (by omega)
              exact this
            rw [em, nI_clamp (by omega), nI_1]
            have g2 : GV_ 41 (k + 1) (at_ k t c) (gu_ G' 41 k (nI t)) := fun j hj => by
              show upd (G' 41) k (nI t) j = _
              by_cases ej : j = k
              · rw [ej, up_hit, at_h]
              · rw [up_miss _ _ ej, at_n _ _ ej]; exact g1 j (by omega)
            refine ih (k + 1) f (max us t) (at_ k t c) (gu_ G' 41 k (nI t)) _ (by omega) (by omega) (fun i hi => hcb1 i hi) (VA_up hva ht1 (by omega) hfr) (fun j hj => ?_) (by omega) g2 (fun d d1 d2 d3 G2 f2 gd => ⟨fun z => absurd z (by decide), fun _ => ?_⟩) (fun hn G2 f2 g3 => ⟨fun _ => nxt G2 ((f1.gu _ (by decide)).tr f2) (fun j hj => ?_) hn, fun z => absurd rfl z⟩)
            · by_cases ej : j = k
              · rw [ej, at_h]; omega
              · rw [at_n _ _ ej]
                have := hus j (by omega)
                omega
            · refine h1 d (fun j hj => by rw [d1 j (by omega), at_n _ _ (by omega)]) d2 (fun i hi1 hi2 s s1 s2 => ?_) G2 ((f1.gu _ (by decide)).tr f2) gd
              by_cases ei : i = k
              · subst ei
                have et : d i = t := by rw [d1 i (by omega), at_h]
                rw [et] at s2
                refine fun z => hs s s1 s2 (EX2_cg (fun j hj => ?_) z)
                by_cases ej : j = i
                · rw [ej, at_h, at_h]
                · rw [at_n _ _ ej, at_n _ _ ej, d1 j (by omega), at_n _ _ ej]
              · exact d3 i (by omega) hi2 s s1 s2
            · rw [g3 j (by omega), at_n _ _ (by omega)]
          · rintro ⟨d, d1, d2⟩
            obtain ⟨j, hj, hc, ej⟩ := hno
            have dk : d k = t := by rw [d1 k (by omega), at_h]
            have dj : d j = t := by rw [d1 j (by omega), at_n _ _ (by omega)]; exact ej
            exact (d2 k (by omega)).2 j hj hc (dj.trans dk.symm)
    exact ⟨us + 1 + 1, loop (us + 1) 1 G (by omega) (by omega) (FR.rf _ _) hg (fun s s1 s2 => absurd s2 (by omega))⟩
end PLA
