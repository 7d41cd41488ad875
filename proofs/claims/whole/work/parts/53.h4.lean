theorem WR_.cg {c c' : GS} {s s' : Nat → Int32} {f f' : Nat → Nat → Int32} (h : WR_ c s f) (hc : ∀ k, k < 14 → c' k = c k) (hs : ∀ k, s' k = s k) (hf : ∀ k, f' k = f k) : WR_ c' s' f' := by
  have e1 : s' = s := funext hs
  have e2 : f' = f := funext hf
  subst e1 e2
  unfold WR_ at h ⊢
  rw [hc 1 (by omega), hc 2 (by omega), hc 3 (by omega), hc 4 (by omega), hc 5 (by omega), hc 6 (by omega), hc 7 (by omega), hc 8 (by omega), hc 9 (by omega), hc 10 (by omega), hc 11 (by omega), hc 12 (by omega), hc 13 (by omega)]
  exact h
/-- cells of which the invariant speaks -/
def kpc_ : List Nat := [0, 1, 2, 3, 4, 5, 6, 7, 8, 9, 10, 11, 12, 13, 14, 15, 16, 17, 18, 19, 20, 21, 22, 23, 24, 25, 26, 27, 28, 29, 30, 31, 32, 50, 51, 52, 53, 54, 55, 56, 57, 58, 59, 60, 65, 66, 67, 68, 70, 74]
theorem Inv.cg {G G' : GS} (hI : Inv G) (h : ∀ k ∈ kpc_, G' k = G k) (h49 : ∀ j ∈ [3, 4, 5, 7, 10, 16, 28, 29, 35, 39, 45], G' 49 j = G 49 j) : Inv G' := by
  have hk : ∀ k, k < 33 → G' k = G k := by
    intro k hk
    refine h k ?_
    exact (by decide : ∀ k, k < 33 → k ∈ kpc_) k hk
  have r1 : ∀ k, rs_ G' k = rs_ G k := by
    intro k
    unfold rs_
    split <;> exact h49 _ (by decide)
  have r2 : ∀ k, rf_ G' k = rf_ G k := by
    intro k
    unfold rf_
    split <;> exact h _ (by decide)
  obtain ⟨a1, a2, a3, a4, a5, a6, a7⟩ := hI
  refine ⟨a1.cg (fun k hk' => hk k (by omega)) r1 r2, ?_, ?_, ?_, ?_, ?_, ?_⟩
  · rw [hk 0 (by omega), hk 32 (by omega), h 54 (by decide), h49 10 (by decide)]; exact a2
  · rw [hk 0 (by omega), h49 28 (by decide), h49 29 (by decide)]; exact a3
  · rw [hk 27 (by omega), hk 12 (by omega), hk 28 (by omega), hk 29 (by omega), hk 30 (by omega), hk 31 (by omega), h 51 (by decide), h49 3 (by decide)]; exact a4
  · rw [hk 0 (by omega), h49 45 (by decide), h 74 (by decide)]
    rcases a5 with a5 | ⟨b1, b2, b3⟩
    · exact Or.inl a5
    · exact Or.inr ⟨b1, b2, b3.cg (fun k hk' => hk (k + 13) (by omega)) (fun _ => rfl) (fun _ => rfl)⟩
  · rw [h 55 (by decide)]; exact a6
  · rw [h49 5 (by decide), h49 3 (by decide), h 51 (by decide)]; exact a7
theorem gf_gf (G : GS) (k : Nat) (f g : Nat → Int32) : gf_ (gf_ G k f) k g = gf_ G k g := by
  funext a
  unfold gf_
  by_cases h : a = k
  · rw [if_pos h, if_pos h]
  · rw [if_neg h, if_neg h, if_neg h]
theorem gf_sw (G : GS) {k j : Nat} (f g : Nat → Int32) (hkj : k ≠ j) : gf_ (gf_ G k f) j g = gf_ (gf_ G j g) k f := by
  funext a
  unfold gf_
  by_cases h : a = k
  · subst h; rw [if_neg hkj, if_pos rfl, if_pos rfl]
  · by_cases h2 : a = j
    · subst h2; rw [if_pos rfl, if_neg h, if_pos rfl]
    · simp only [if_neg h, if_neg h2]
theorem gf_id (G : GS) (k : Nat) : gf_ G k (G k) = G := by
  funext a
  unfold gf_
  by_cases h : a = k
  · rw [if_pos h, h]
  · rw [if_neg h]
theorem tb_ {M l : Nat} (hM : M < 2 ^ 31) (hl : l < 32) : (nI M >>> (nI l &&& 31)) &&& 1 = nI (M / 2 ^ l % 2) := by
  rw [pk_shrN hM (nI l &&& 31) l ((by decide +kernel : ∀ l, l < 32 → ((nI l &&& 31).toBitVec.smod 32).toNat = l) l hl)]
  refine pk_andN ?_ 1 (by decide)
  have := Nat.div_le_self M (2 ^ l)
  omega
theorem tb_1 {M l : Nat} (hM : M < 2 ^ 31) (hl : l < 32) : ((nI M >>> (nI l &&& 31)) &&& 1 = 1) ↔ M.testBit l = true := by
  rw [tb_ hM hl, Nat.testBit_eq_decide_div_mod_eq, decide_eq_true_iff]
  exact nI_eq (b := 1) (by omega) (by omega)
theorem es_cg {as as' op ar : Nat → Int32} {b : Nat} (h : ∀ k, k < 9 → as k = as' k) : ∀ n, (∀ j, b ≤ j → j < b + n → CO_ (op j) (ar j)) → es_ as op ar b n = es_ as' op ar b n
  | 0, _ => rfl
  | n + 1, hc => by
    have ih := es_cg h n (fun j h1 h2 => hc j h1 (by omega))
    unfold es_
    rw [ih]
    rcases hc (b + n) (by omega) (by omega) with ho | ⟨ho, k, hk, ha⟩ | ho
    · unfold e1_; rw [if_pos ho, if_pos ho]
    · unfold e1_; rw [if_neg (by rw [ho]; decide), if_pos ho, if_neg (by rw [ho]; decide), if_pos ho, ha, nI_clamp (by omega), h k hk]
    · have n0 : ¬ op (b + n) = 0 := by rcases ho with h | h | h | h | h | h | h | h | h | h <;> rw [h] <;> decide
      have n1 : ¬ op (b + n) = 1 := by rcases ho with h | h | h | h | h | h | h | h | h | h <;> rw [h] <;> decide
      unfold e1_
      rw [if_neg n0, if_neg n1, if_neg n0, if_neg n1]
/-- what one hears by the law's lines -/
def lv_ (as op ar lf lt lw : Nat → Int32) : Nat → Nat → Int32
  | 0, _ => 1
  | r + 1, l => if lf l = lt l ∨ es_ as op ar (lf l).toNatClampNeg ((lt l).toNatClampNeg - (lf l).toNatClampNeg) = [1] then (if lw l = 0 then 1 else 0) else lv_ as op ar lf lt lw r (l + 1)
theorem lv_01 (as op ar lf lt lw : Nat → Int32) : ∀ r l, lv_ as op ar lf lt lw r l = 0 ∨ lv_ as op ar lf lt lw r l = 1
  | 0, _ => Or.inr rfl
  | r + 1, l => by
    unfold lv_
    split
    · split
      · exact Or.inr rfl
      · exact Or.inl rfl
    · exact lv_01 as op ar lf lt lw r (l + 1)
/-- the law's lines -/
def LL_ (G : GS) (N M : Nat) (e : Nat → Nat) : Prop := N ≤ 16 ∧ M < 65536 ∧ (∀ l, l < N → e l ≤ e (l + 1)) ∧ (∀ l, l ≤ N → e l ≤ 400) ∧
  ∀ l, l < N → G 10 l = nI (e (l + 1)) ∧ G 57 l = nI (e l) ∧ G 58 l = nI (e (l + 1)) ∧ (e l = e (l + 1) ∨ WT_ (G 59) (G 60) (e l) (e (l + 1))) ∧ (∀ j, e l ≤ j → j < e (l + 1) → sr_ (G 11 j) (G 59 j) (G 60 j)) ∧ (G 56 l = 0 ∨ G 56 l = 1) ∧ (M.testBit l = true ↔ G 56 l = 0)
section HEA
variable {Q : Int32 → GS → Prop} {G : GS} {N M : Nat} {e : Nat → Nat} {as : Nat → Int32}
set_option maxHeartbeats 1000000 in
theorem hl_c (hL : LL_ G N M e) (h90 : G 9 0 = nI N) (h91 : G 9 1 = nI M) (has : ∀ k, k < 9 → as k = ca_ G k) (h : ∀ f n, Q (lv_ as (G 59) (G 60) (G 57) (G 58) (G 56) N 0) (gu_ (gf_ G 39 f) 38 1 n)) :
    ∀ (r l : Nat) (f : Nat → Int32) (n : Int32), l + r = N → lv_ as (G 59) (G 60) (G 57) (G 58) (G 56) r l = lv_ as (G 59) (G 60) (G 57) (G 58) (G 56) N 0 → lp_X2_hearsThem_56 Q (r + 1) (nI (e l)) (nI l) (gu_ (gf_ G 39 f) 38 1 n) := by
  obtain ⟨hN, hM, hmo, hle, H⟩ := hL
  intro r
  induction r with
  | zero =>
    intro l f n hl hv
    refine ⟨fun _ => ?_, fun z => absurd ?_ z⟩
    · have h2 := h f n
      rw [← hv] at h2
      exact h2
    · show G 9 0 ≤ nI l
      rw [h90]
      exact nI_le (by omega) (by omega)
  | succ r ih =>
    intro l f n hl hv
    have hl' : l < N := by omega
    obtain ⟨k1, k2, k3, k4, k5, k6, k7⟩ := H l hl'
    have m1 := hmo l hl'
    have m2 := hle (l + 1) (by omega)
    have cl : (nI l).toNatClampNeg = l := nI_clamp (by omega)
    have e10 : (gu_ (gf_ G 39 f) 38 1 n) 10 (nI l).toNatClampNeg = nI (e (l + 1)) := by rw [cl]; exact k1
    refine ⟨fun z => absurd z ?_, fun _ => ⟨vp_in_nI (by omega) (by omega), ?_⟩⟩
    · show ¬ G 9 0 ≤ nI l
      rw [h90]
      exact nI_ge hl' (by omega)
    rw [e10]
    have hyes : (G 57 l = G 58 l ∨ es_ as (G 59) (G 60) (e l) (e (l + 1) - e l) = [1]) → ∀ f n, (¬ (nI M >>> (nI l &&& 31)) &&& 1 = 1 → Q 0 (gu_ (gf_ G 39 f) 38 1 n)) ∧ ((nI M >>> (nI l &&& 31)) &&& 1 = 1 → Q 1 (gu_ (gf_ G 39 f) 38 1 n)) := by
      intro hy f n
      have h2 := h f n
      rw [← hv] at h2
      unfold lv_ at h2
      rw [k2, k3, nI_clamp (by omega), nI_clamp (by omega)] at h2
      rw [k2, k3] at hy
      rw [if_pos hy] at h2
      rw [tb_1 (by omega) (by omega), k7]
      refine ⟨fun c => ?_, fun c => ?_⟩
      · rw [if_neg c] at h2; exact h2
      · rw [if_pos c] at h2; exact h2
    have hno : ¬ (G 57 l = G 58 l ∨ es_ as (G 59) (G 60) (e l) (e (l + 1) - e l) = [1]) → ∀ f n, lp_X2_hearsThem_56 Q (r + 1) (nI (e (l + 1))) (nI l + 1) (gu_ (gf_ G 39 f) 38 1 n) := by
      intro hy f n
      rw [nI_1]
      refine ih (l + 1) f n (by omega) ?_
      rw [← hv]
      conv => rhs; unfold lv_
      rw [k2, k3, nI_clamp (by omega), nI_clamp (by omega)]
      rw [k2, k3] at hy
      rw [if_neg hy]
    by_cases hee : e l = e (l + 1)
    · refine ⟨fun z => absurd z (by rw [hee]; exact fun z => Int32.lt_irrefl z), fun _ => ⟨fun z => absurd z (by decide), fun _ => ?_⟩⟩
      have e91 : (gu_ (gf_ G 39 f) 38 1 n) 9 1 = nI M := h91
      rw [e91]
      exact hyes (Or.inl (by rw [k2, k3, hee])) f n
    · refine ⟨fun _ => ?_, fun z => absurd (nI_lt (by omega) (by omega)) z⟩
      rcases k4 with k4 | ⟨kf, w1, w2, w3⟩
      · exact absurd k4 hee
      have hne : ¬ G 57 l = G 58 l := by
        rw [k2, k3]
        exact fun z => hee ((nI_eq (by omega) (by omega)).mp z)
      refine ⟨e (l + 1) - e l + 1, ?_⟩
      rw [gu_u]
      refine so_cl (G := G) (b := e l) (kf := kf) (op := G 59) (ar := G 60) (as := as) m2 has w3 k5 w2 ?_ ?_ (e (l + 1) - e l) (e l) [] f (by omega) (Nat.le_refl _) (by rw [Nat.sub_self]; rfl) (by rw [w1]; trivial) (by rw [w1]; decide) trivial
      · intro f n hes
        refine ⟨fun _ => ?_, fun z => absurd rfl z⟩
        have e10' : (gu_ (gf_ G 39 f) 38 1 n) 10 (nI l).toNatClampNeg = nI (e (l + 1)) := by rw [cl]; exact k1
        rw [e10']
        exact hno (fun z => z.elim hne (fun z => by rw [hes] at z; exact absurd z (by decide))) f n
      · intro f n hes
        refine ⟨fun z => absurd z (by decide), fun _ => ?_⟩
        have e91 : (gu_ (gf_ G 39 f) 38 1 n) 9 1 = nI M := h91
        rw [e91]
        exact hyes (Or.inr hes) f n
set_option maxHeartbeats 1000000 in
theorem hl_r (hL : LL_ G N M e) (h16 : G 49 16 = nI N) (h : ∀ f, Q (lv_ (G 62) (G 59) (G 60) (G 57) (G 58) (G 56) N 0) (gf_ G 63 f)) :
    ∀ (r l : Nat) (f : Nat → Int32), l + r = N → lv_ (G 62) (G 59) (G 60) (G 57) (G 58) (G 56) r l = lv_ (G 62) (G 59) (G 60) (G 57) (G 58) (G 56) N 0 → lp_X10_doesHear_203 Q (r + 1) (nI l) (gf_ G 63 f) := by
  obtain ⟨hN, hM, hmo, hle, H⟩ := hL
  intro r
  induction r with
  | zero =>
    intro l f hl hv
    refine ⟨fun _ => ?_, fun z => absurd ?_ z⟩
    · have h2 := h f
      rw [← hv] at h2
      exact h2
    · show G 49 16 ≤ nI l
      rw [h16]
      exact nI_le (by omega) (by omega)
  | succ r ih =>
    intro l f hl hv
    have hl' : l < N := by omega
    obtain ⟨k1, k2, k3, k4, k5, k6, k7⟩ := H l hl'
    have m1 := hmo l hl'
    have m2 := hle (l + 1) (by omega)
    have cl : (nI l).toNatClampNeg = l := nI_clamp (by omega)
    refine ⟨fun z => absurd z ?_, fun _ => ?_⟩
    · show ¬ G 49 16 ≤ nI l
      rw [h16]
      exact nI_ge hl' (by omega)
    have hyes : (G 57 l = G 58 l ∨ es_ (G 62) (G 59) (G 60) (e l) (e (l + 1) - e l) = [1]) → ∀ f, vp_in (nI l) 32 ∧ ((¬ (gf_ G 63 f) 56 (nI l).toNatClampNeg = 0 → Q 0 (gf_ G 63 f)) ∧ ((gf_ G 63 f) 56 (nI l).toNatClampNeg = 0 → Q 1 (gf_ G 63 f))) := by
      intro hy f
      have h2 := h f
      rw [← hv] at h2
      unfold lv_ at h2
      rw [k2, k3, nI_clamp (by omega), nI_clamp (by omega)] at h2
      rw [k2, k3] at hy
      rw [if_pos hy] at h2
      rw [cl]
      refine ⟨vp_in_nI (by omega) (by omega), fun c => ?_, fun c => ?_⟩
      · have c : ¬ G 56 l = 0 := c
        rw [if_neg c] at h2; exact h2
      · have c : G 56 l = 0 := c
        rw [if_pos c] at h2; exact h2
    have hno : ¬ (G 57 l = G 58 l ∨ es_ (G 62) (G 59) (G 60) (e l) (e (l + 1) - e l) = [1]) → ∀ f, lp_X10_doesHear_203 Q (r + 1) (nI l + 1) (gf_ G 63 f) := by
      intro hy f
      rw [nI_1]
      refine ih (l + 1) f (by omega) ?_
      rw [← hv]
      conv => rhs; unfold lv_
      rw [k2, k3, nI_clamp (by omega), nI_clamp (by omega)]
      rw [k2, k3] at hy
      rw [if_neg hy]
    refine ⟨vp_in_nI (by omega) (by omega), ?_⟩
    have e57 : (gf_ G 63 f) 57 (nI l).toNatClampNeg = G 57 l := by rw [cl]; rfl
    have e58 : (gf_ G 63 f) 58 (nI l).toNatClampNeg = G 58 l := by rw [cl]; rfl
    rw [e57, e58]
    by_cases hee : e l = e (l + 1)
    · have hq : G 57 l = G 58 l := by rw [k2, k3, hee]
      exact ⟨fun z => absurd hq z, fun _ => ⟨fun z => absurd z (by decide), fun _ => hyes (Or.inl hq) f⟩⟩
    · rcases k4 with k4 | ⟨kf, w1, w2, w3⟩
      · exact absurd k4 hee
      have hne : ¬ G 57 l = G 58 l := by
        rw [k2, k3]
        exact fun z => hee ((nI_eq (by omega) (by omega)).mp z)
      refine ⟨fun _ => ⟨e (l + 1) - e l + 1, ?_⟩, fun z => absurd z hne⟩
      have e0 : (400 : Int32) * 0 + G 57 l = nI (e l) := by
        rw [k2, show (400 : Int32) * 0 = 0 by decide, Int32.zero_add]
      rw [e0]
      refine so_rl (b := e l) (kf := kf) (by omega) k3 m2 w3 (fun j a b => sr_co (k5 j a b)) w2 ?_ ?_ (e (l + 1) - e l) (e l) [] f (by omega) (Nat.le_refl _) (by rw [Nat.sub_self]; rfl) (by rw [w1]; trivial) (by rw [w1]; decide) trivial
      · intro f hes
        exact ⟨fun _ => hno (fun z => z.elim hne (fun z => by rw [hes] at z; exact absurd z (by decide))) f, fun z => absurd rfl z⟩
      · intro f hes
        exact ⟨fun z => absurd z (by decide), fun _ => hyes (Or.inr hes) f⟩
end HEA
