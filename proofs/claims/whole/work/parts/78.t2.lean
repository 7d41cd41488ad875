/-! TOKENS by the reference -/
def ws_ : List Nat := [0, 5, 10, 15, 18, 22, 26, 30, 35, 41, 45, 50, 55, 61, 66, 70]
theorem ws_1 : ∀ i, i < 15 → ws_.getD (i + 1) 0 = ws_.getD i 0 + 1 + kl_.getD i 0 ∧ ws_.getD (i + 1) 0 ≤ 70 ∧ 1 ≤ kl_.getD i 0 ∧ kl_.getD i 0 ≤ 5 ∧ wf_ (ws_.getD i 0 + 1 + kl_.getD i 0) = 32 := by decide +kernel
theorem ws_2 : ∀ i, i < 15 → ∀ j, j < kl_.getD i 0 → wf_ (ws_.getD i 0 + 1 + j) = (kb_.getD i []).getD j 0 ∧ wf_ (ws_.getD i 0 + 1 + j) ≠ 32 := by decide +kernel
def LK_ (k v : Nat) (G : GS) : Prop := (k = 0 → G 49 13 = 0) ∧ (k = 1 → G 49 13 = 1) ∧ (k = 2 → G 49 13 = 3 ∧ G 49 14 = nI v) ∧ (200 ≤ k → G 49 13 = 2 ∧ G 49 14 = nI (k - 200)) ∧ (k ∈ sgs_ → G 49 13 = 4 ∧ G 49 14 = nI k)
theorem LK_1 {v : Nat} {G : GS} (h : G 49 13 = 1) : LK_ 1 v G := ⟨fun z => absurd z (by decide), fun _ => h, fun z => absurd z (by decide), fun z => absurd z (by decide), fun z => absurd z (by decide)⟩
def RT5_ (G G' : GS) : Prop := FR [49] G G' ∧ ∀ j, j ∉ [11, 12, 13, 14] → G' 49 j = G 49 j
theorem RT5_.rf (G : GS) : RT5_ G G := ⟨FR.rf _ _, fun _ _ => rfl⟩
theorem RT5_.gu {G G' : GS} (h : RT5_ G G') {j : Nat} (v : Int32) (hj : j ∈ [11, 12, 13, 14]) : RT5_ G (gu_ G' 49 j v) := ⟨h.1.gu _ (by decide), fun i hi => by
  show upd (G' 49) j v i = _
  rw [up_miss _ _ (fun e => hi (by rw [e]; exact hj))]; exact h.2 i hi⟩
section TKR
variable {Q : Int32 → GS → Prop} {G : GS} {b : Nat → Nat} {T : Nat}
theorem raw_1 {G' : GS} (hb : TB_ b T G) (e10 : G 49 10 = nI T) (hc : RT5_ G G') {i : Nat} (hi : i < T) (h : Q (nI (b i)) G') : wp_X10_raw (nI i) G' Q := by
  obtain ⟨t1, t2⟩ := hb
  have e : G' 49 10 = nI T := (hc.2 10 (by decide)).trans e10
  unfold wp_X10_raw
  rw [e, nI_clamp (by omega), hc.1 54 (by decide), (t2 i hi).2.2]
  exact ⟨fun z => absurd z (nI_ge hi (by omega)), fun _ => ⟨vp_in_nI (by omega) (by omega), h⟩⟩
theorem raw_0 {G' : GS} (hT : T ≤ 400) (e10 : G 49 10 = nI T) (hc : RT5_ G G') {i : Nat} (hi : T ≤ i) (hi2 : i ≤ 1000) (h : Q (-1) G') : wp_X10_raw (nI i) G' Q := by
  have e : G' 49 10 = nI T := (hc.2 10 (by decide)).trans e10
  unfold wp_X10_raw
  rw [e]
  exact ⟨fun _ => h, fun z => absurd (nI_le hi (by omega)) z⟩
theorem ler_ {c : Nat} (hc : c < 256) (h1 : le_ c = true → Q 1 G) (h0 : ¬ le_ c = true → Q 0 G) : wp_X10_isLetter (nI c) G Q := by
  have a1 : nI c < 97 ↔ c < 97 := (nL_ (c := 97) (by omega) (by omega)).1
  have a2 : 122 < nI c ↔ 122 < c := (nL_ (a := 122) (by omega) (by omega)).1
  have a3 : nI c < 65 ↔ c < 65 := (nL_ (c := 65) (by omega) (by omega)).1
  have a4 : 90 < nI c ↔ 90 < c := (nL_ (a := 90) (by omega) (by omega)).1
  rw [le_iff] at h1 h0
  refine isin_ (fun z1 z2 => ⟨fun _ => h1 ?_, fun z => absurd z (by decide)⟩) (fun z1 => ⟨fun z => absurd rfl z, fun _ => isin_ (fun z3 z4 => ⟨fun z => absurd z (by decide), fun _ => h1 ?_⟩) (fun z3 => ⟨fun _ => h0 ?_, fun z => absurd rfl z⟩)⟩)
  · rw [a1] at z1; rw [a2] at z2; omega
  · rw [a3] at z3; rw [a4] at z4; omega
  · rw [a1, a2] at z1; rw [a3, a4] at z3; omega
theorem ler_m (h0 : Q 0 G) : wp_X10_isLetter (-1) G Q :=
  isin_ (fun z1 z2 => absurd (by decide) z1) (fun _ => ⟨fun z => absurd rfl z, fun _ => isin_ (fun z3 _ => absurd (by decide) z3) (fun _ => ⟨fun _ => h0, fun z => absurd rfl z⟩)⟩)
theorem dir_ {c : Nat} (hc : c < 256) (h1 : di_ c = true → Q 1 G) (h0 : ¬ di_ c = true → Q 0 G) : wp_X10_isDigit (nI c) G Q := by
  have a1 : nI c < 48 ↔ c < 48 := (nL_ (c := 48) (by omega) (by omega)).1
  have a4 : 57 < nI c ↔ 57 < c := (nL_ (a := 57) (by omega) (by omega)).1
  rw [di_iff] at h1 h0
  refine isin_ (fun z1 z2 => ⟨Or.inr rfl, h1 ?_⟩) (fun z => ⟨Or.inl rfl, h0 ?_⟩)
  · rw [a1] at z1; rw [a4] at z2; omega
  · rw [a1, a4] at z; omega
theorem dir_m (h0 : Q 0 G) : wp_X10_isDigit (-1) G Q := isin_ (fun z1 _ => absurd (by decide) z1) (fun _ => ⟨Or.inl rfl, h0⟩)
theorem sgr_ {c : Nat} (hc : c < 256) (h1 : sg_ c = true → Q 1 G) (h0 : ¬ sg_ c = true → Q 0 G) : wp_X10_isMarkSign (nI c) G Q := by
  have e : ∀ k : Nat, k < 256 → (nI c = nI k ↔ c = k) := fun k hk => (nL_ (by omega) (by omega)).2.2
  have hs : sg_ c = true ↔ (c = 59 ∨ c = 43 ∨ c = 45 ∨ c = 42 ∨ c = 47 ∨ c = 40 ∨ c = 41 ∨ c = 60 ∨ c = 61 ∨ c = 62) := by
    unfold sg_ sgs_
    rw [decide_eq_true_iff]
    simp only [List.mem_cons, List.not_mem_nil, or_false]
  rw [hs] at h1 h0
  have e59 : nI c = 59 ↔ c = 59 := e 59 (by omega)
  have e43 : nI c = 43 ↔ c = 43 := e 43 (by omega)
  have e45 : nI c = 45 ↔ c = 45 := e 45 (by omega)
  have e42 : nI c = 42 ↔ c = 42 := e 42 (by omega)
  have e47 : nI c = 47 ↔ c = 47 := e 47 (by omega)
  have e40 : nI c = 40 ↔ c = 40 := e 40 (by omega)
  have e41 : nI c = 41 ↔ c = 41 := e 41 (by omega)
  have e60 : nI c = 60 ↔ c = 60 := e 60 (by omega)
  have e61 : nI c = 61 ↔ c = 61 := e 61 (by omega)
  have e62 : nI c = 62 ↔ c = 62 := e 62 (by omega)
  unfold wp_X10_isMarkSign
  rw [e59, e43, e45, e42, e47, e40, e41, e60, e61, e62]
  exact ⟨fun _ => h1 (by omega), fun _ => ⟨fun _ => h1 (by omega), fun _ => ⟨fun _ => h1 (by omega), fun _ => ⟨fun _ => h1 (by omega), fun _ => ⟨fun _ => h1 (by omega), fun _ => ⟨fun _ => h1 (by omega), fun _ => ⟨fun _ => h1 (by omega), fun _ => ⟨fun _ => h1 (by omega), fun _ => ⟨fun _ => h1 (by omega), fun _ => ⟨fun _ => h0 (by omega), fun _ => h1 (by omega)⟩⟩⟩⟩⟩⟩⟩⟩⟩⟩
set_option maxHeartbeats 1000000 in
theorem wat_r {G' : GS} (hb : TB_ b T G) (h55 : G 55 = wf_) (hc : RT5_ G G') {q nx : Nat} (hq : q < nx) (hn : nx ≤ T) (hl : ∀ i, q ≤ i → i < nx → le_ (b i) = true) (h1 : ∀ i, i < 15 → kf_ b q nx = 200 + i → Q (nI i) G') (h0 : kf_ b q nx = 1 → Q (-1) G') : wp_X10_wordAt (nI q) (nI nx) G' Q := by
  have hT := hb.1
  have g55 : G' 55 = wf_ := (hc.1 55 (by decide)).trans h55
  have g54 : ∀ i, i < T → G' 54 i = nI (b i) := fun i hi => by rw [hc.1 54 (by decide)]; exact (hb.2 i hi).2.2
  have nsp : ∀ i, q ≤ i → i < nx → nI (b i) ≠ 32 := fun i h1 h2 e => by
    have h3 := le_iff.mp (hl i h1 h2)
    have h4 := (hb.2 i (by omega)).1
    have : b i = 32 := (nL_ (c := 32) (by omega) (by omega)).2.2.mp e
    omega
  have k93 : ∀ (i : Nat), i < 15 → ∀ (R : Int32 → Int32 → Int32 → Int32 → GS → Prop) (x3 : Int32), R (nI q) (nI nx) x3 (nI (ws_.getD (i + 1) 0)) G' → ∃ kf, lp_X10_wordAt_93 Q R kf (nI q) (nI nx) x3 (nI (ws_.getD i 0) + 1) G' := by
    intro i hi R x3 hR
    obtain ⟨w1, w2, w3, w4, w5⟩ := ws_1 i hi
    have key : ∀ (r j : Nat), j + r = kl_.getD i 0 → lp_X10_wordAt_93 Q R (r + 1) (nI q) (nI nx) x3 (nI (ws_.getD i 0 + 1 + j)) G' := by
      intro r
      induction r with
      | zero =>
        intro j hj
        have : j = kl_.getD i 0 := by omega
        subst this
        refine ⟨vp_in_nI (by omega) (by omega), ?_⟩
        rw [nI_clamp (by omega), g55, w5, ← w1]
        exact ⟨fun _ => hR, fun z => absurd rfl z⟩
      | succ r ih =>
        intro j hj
        refine ⟨vp_in_nI (by omega) (by omega), ?_⟩
        rw [nI_clamp (by omega), g55]
        refine ⟨fun z => absurd z (ws_2 i hi j (by omega)).2, fun _ => ?_⟩
        rw [nI_1]
        exact ih (j + 1) (by omega)
    rw [nI_1]
    exact ⟨kl_.getD i 0 + 1, key _ 0 (by omega)⟩
  have key : ∀ (r i : Nat), i + r = 15 → (∀ j, j < i → ¬ WM_ b q nx j) → lp_X10_wordAt_5 Q (r + 1) (nI q) (nI nx) (nI i - 1) (nI (ws_.getD i 0)) G' := by
    intro r
    induction r with
    | zero =>
      intro i hi hno
      have : i = 15 := by omega
      subst this
      exact ⟨fun _ => h0 (kf_0 hno), fun z => absurd (by decide) z⟩
    | succ r ih =>
      intro i hi hno
      obtain ⟨w1, w2, w3, w4, w5⟩ := ws_1 i (by omega)
      refine ⟨fun z => absurd z (nI_ge (b := 70) (by omega) (by omega)), fun _ => ?_⟩
      have ei : nI i - 1 + 1 = nI i := Int32.sub_add_cancel _ _
      rw [ei]
      have nxt : ¬ WM_ b q nx i → ∃ kf, lp_X10_wordAt_93 Q (fun y1 y2 y3 y4 G => lp_X10_wordAt_5 Q (r + 1) y1 y2 y3 y4 G) kf (nI q) (nI nx) (nI i) (nI (ws_.getD i 0) + 1) G' := by
        intro hw
        refine k93 i (by omega) _ _ ?_
        have := ih (i + 1) (by omega) (fun j hj => by
          by_cases e : j = i
          · rw [e]; exact hw
          · exact hno j (by omega))
        rw [nI_pred] at this
        exact this
      have cmp : ∀ (e j : Nat), j + e = nx - q → j ≤ kl_.getD i 0 → (∀ t, t < j → (kb_.getD i []).getD t 0 = nI (b (q + t))) → lp_X10_wordAt_19 Q (fun y1 y2 y3 y4 G => lp_X10_wordAt_5 Q (r + 1) y1 y2 y3 y4 G) (e + 1) (nI q) (nI nx) (nI i) (nI (ws_.getD i 0)) (nI j) G' := by
        have bk : ∀ j, j ≤ nx - q → j ≤ kl_.getD i 0 → (∀ t, t < j → (kb_.getD i []).getD t 0 = nI (b (q + t))) → (q + j ≠ nx → ¬ WM_ b q nx i) → bk_X10_wordAt_60 Q (fun y1 y2 y3 y4 G => lp_X10_wordAt_5 Q (r + 1) y1 y2 y3 y4 G) (nI q) (nI nx) (nI i) (nI (ws_.getD i 0)) (nI j) G' := by
          intro j hj1 hj2 ht hne
          unfold bk_X10_wordAt_60
          rw [nI_add, (nL_ (by omega) (by omega)).2.2]
          have ea : nI (ws_.getD i 0) + 1 + nI j = nI (ws_.getD i 0 + 1 + j) := by rw [nI_1, nI_add]
          refine ⟨fun z => nxt (hne z), fun z => ?_⟩
          rw [ea, nI_clamp (by omega), g55]
          refine ⟨vp_in_nI (by omega) (by omega), fun y => nxt (fun w => ?_), fun y => ?_⟩
          · have : j = kl_.getD i 0 := by have := w.1; omega
            rw [this] at y
            exact y w5
          · have hjk : j = kl_.getD i 0 := by
              rcases Nat.lt_or_ge j (kl_.getD i 0) with h | h
              · exact absurd y (ws_2 i (by omega) j h).2
              · omega
            exact h1 i (by omega) (kf_1 (by omega) ⟨by omega, fun t h2 => ht t (by omega)⟩)
        intro e
        induction e with
        | zero =>
          intro j hj hk ht
          refine ⟨fun _ => bk j (by omega) hk ht (fun z => absurd z (by omega)), fun z => absurd ?_ z⟩
          rw [nI_add]; exact nI_le (by omega) (by omega)
        | succ e ihe =>
          intro j hj hk ht
          have ea : nI (ws_.getD i 0) + 1 + nI j = nI (ws_.getD i 0 + 1 + j) := by rw [nI_1, nI_add]
          refine ⟨fun z => absurd z (by rw [nI_add]; exact nI_ge (by omega) (by omega)), fun _ => ?_⟩
          rw [nI_add, ea, nI_clamp (by omega), nI_clamp (by omega), g55, g54 _ (by omega)]
          refine ⟨vp_in_nI (by omega) (by omega), vp_in_nI (by omega) (by omega), fun z => bk j (by omega) hk ht (fun _ w => ?_), fun z => ?_⟩
          · rcases Nat.lt_or_ge j (kl_.getD i 0) with h | h
            · exact z ((ws_2 i (by omega) j h).1.trans (w.2 j h))
            · have := w.1; omega
          · have hjk : j < kl_.getD i 0 := by
              rcases Nat.lt_or_ge j (kl_.getD i 0) with h | h
              · exact h
              · have : j = kl_.getD i 0 := by omega
                rw [this, w5] at z
                exact absurd z.symm (nsp _ (by omega) (by omega))
            rw [nI_1]
            refine ihe (j + 1) (by omega) (by omega) (fun t h2 => ?_)
            by_cases et : t = j
            · rw [et, ← (ws_2 i (by omega) j hjk).1]; exact z
            · exact ht t (by omega)
      exact ⟨nx - q + 1, cmp (nx - q) 0 (by omega) (by omega) (fun t h2 => absurd h2 (by omega))⟩
  exact ⟨16, key 15 0 (by omega) (fun j hj => absurd hj (by omega))⟩
set_option maxHeartbeats 2000000 in
theorem rds_r (hb : TB_ b T G) (e10 : G 49 10 = nI T) (h55 : G 55 = wf_) {p : Nat} (hp : p ≤ T) (e11 : G 49 11 = nI p) (hQ : ∀ G', RT5_ G G' → G' 49 12 = nI (tq_ b T p) → G' 49 11 = nI (tn_ b T (tq_ b T p)) → LK_ (tK_ b T (tq_ b T p)) (tv_ b T (tq_ b T p)) G' → Q 0 G') : wp_X10_reads G Q := by
  have hT := hb.1
  generalize hq : tq_ b T p = q at hQ
  have hqT : q ≤ T := by
    have := (sN_le (f := fun i => bl_ (b i)) (T := T) (p := p)).2.1 hp
    rw [← hq]; exact this
  have nm : ∀ c : Nat, c < 256 → ¬ nI c = -1 := fun c hc e => nI_pos (n := c) (by omega) (by rw [e]; decide)
  have lets : ∀ (h : q < T) (hl : le_ (b q) = true), ∀ (r i : Nat) (G2 : GS), i + r = T → q < i → sN_ (fun i => le_ (b i)) T i = sN_ (fun i => le_ (b i)) T (q + 1) → RT5_ G G2 → G2 49 12 = nI q → G2 49 11 = nI i → G2 49 13 = 1 → lp_X10_reads_95 Q (r + 1) G2 := by
    intro h hl
    have en : tn_ b T q = sN_ (fun i => le_ (b i)) T (q + 1) := by unfold tn_; rw [if_pos h, if_pos hl]
    have ek : tK_ b T q = kf_ b q (tn_ b T q) := by unfold tK_; rw [if_pos h, if_pos hl]
    have fin : ∀ (i : Nat) (G2 : GS), q < i → i = sN_ (fun i => le_ (b i)) T (q + 1) → RT5_ G G2 → G2 49 12 = nI q → G2 49 11 = nI i → G2 49 13 = 1 → wp_X10_wordAt (G2 49 12) (G2 49 11) G2 (fun r17 G18 => ((r17 = (-1 : Int32) → Q 0 (gu_ G18 49 14 r17)) ∧ (¬ r17 = (-1 : Int32) → Q 0 (gu_ (gu_ G18 49 14 r17) 49 13 (2 : Int32))))) := by
      intro i G2 hqi hi c2 e12 e11 e13
      have hs := sN_le (f := fun i => le_ (b i)) (T := T) (p := q + 1)
      rw [e12, e11]
      refine wat_r hb h55 c2 hqi (by rw [hi]; exact hs.2.1 (by omega)) (fun j h1 h2 => ?_) (fun w hw ekw => ⟨fun z => absurd z (nm w (by omega)), fun _ => ?_⟩) (fun ek1 => ⟨fun _ => ?_, fun z => absurd rfl z⟩)
      · by_cases e : j = q
        · rw [e]; exact hl
        · exact (hs.2.2 j (by omega) (by omega)).2
      · have ekk : tK_ b T q = 200 + w := by rw [ek, en, ← hi]; exact ekw
        refine hQ _ ((c2.gu _ (by decide)).gu _ (by decide)) e12 (by rw [en, ← hi]; exact e11) ?_
        rw [ekk]
        refine ⟨fun z => absurd z (by omega), fun z => absurd z (by omega), fun z => absurd z (by omega), fun _ => ⟨rfl, ?_⟩, fun z => absurd z ((by decide : ∀ w, w < 15 → 200 + w ∉ sgs_) w hw)⟩
        rw [show 200 + w - 200 = w by omega]; rfl
      · have ekk : tK_ b T q = 1 := by rw [ek, en, ← hi]; exact ek1
        refine hQ _ (c2.gu _ (by decide)) e12 (by rw [en, ← hi]; exact e11) ?_
        rw [ekk]
        exact LK_1 e13
    intro r
    induction r with
    | zero =>
      intro i G2 hi hqi hs c2 e12 e11 e13
      show wp_X10_raw (G2 49 11) G2 _
      rw [e11]
      refine raw_0 hT e10 c2 (by omega) (by omega) (ler_m ⟨fun _ => ?_, fun z => absurd rfl z⟩)
      exact fin i G2 hqi (by rw [← hs, sN_st (fun z => absurd z.1 (by omega))]) c2 e12 e11 e13
    | succ r ih =>
      intro i G2 hi hqi hs c2 e12 e11 e13
      show wp_X10_raw (G2 49 11) G2 _
      rw [e11]
      refine raw_1 hb e10 c2 (by omega) (ler_ (hb.2 i (by omega)).1 (fun hli => ⟨fun z => absurd z (by decide), fun _ => ?_⟩) (fun hli => ⟨fun _ => ?_, fun z => absurd rfl z⟩))
      · rw [e11, nI_1]
        exact ih (i + 1) _ (by omega) (by omega) (by rw [← hs]; exact (sN_go (f := fun i => le_ (b i)) (by omega) hli).symm) (c2.gu _ (by decide)) e12 rfl e13
      · exact fin i G2 hqi (by rw [← hs, sN_st (f := fun i => le_ (b i)) (fun z => hli z.2)]) c2 e12 e11 e13
  have digs : ∀ (h : q < T) (hl : ¬ le_ (b q) = true) (hd : di_ (b q) = true), ∀ (r i : Nat) (G2 : GS), i + r = T → q < i → sN_ (fun i => di_ (b i)) T i = sN_ (fun i => di_ (b i)) T (q + 1) → RT5_ G G2 → G2 49 12 = nI q → G2 49 11 = nI i → G2 49 13 = 1 → (i - q ≤ 4 → G2 49 14 = nI (dg_ b q (i - q)) ∧ dg_ b q (i - q) < 10 ^ (i - q)) → lp_X10_reads_171 Q (r + 1) G2 := by
    intro h hl hd
    have en : tn_ b T q = sN_ (fun i => di_ (b i)) T (q + 1) := by unfold tn_; rw [if_pos h, if_neg hl, if_pos hd]
    have ek : tK_ b T q = if tn_ b T q - q ≤ 4 then 2 else 1 := by unfold tK_; rw [if_pos h, if_neg hl, if_pos hd]
    have fin : ∀ (i : Nat) (G2 : GS), q < i → i ≤ T → i = sN_ (fun i => di_ (b i)) T (q + 1) → RT5_ G G2 → G2 49 12 = nI q → G2 49 11 = nI i → G2 49 13 = 1 → (i - q ≤ 4 → G2 49 14 = nI (dg_ b q (i - q)) ∧ dg_ b q (i - q) < 10 ^ (i - q)) → (((5 : Int32) ≤ ((G2 49 11) - (G2 49 12)) → Q 0 G2) ∧ (¬ (5 : Int32) ≤ ((G2 49 11) - (G2 49 12)) → Q 0 (gu_ G2 49 13 (3 : Int32)))) := by
      intro i G2 hqi hiT hi c2 e12 e11 e13 ev
      rw [e11, e12, pk_sub (by omega)]
      refine ⟨fun z => ?_, fun z => ?_⟩
      · have hn : ¬ i - q ≤ 4 := fun y => nI_ge (b := 5) (by omega) (by omega) z
        refine hQ _ c2 e12 (by rw [en, ← hi]; exact e11) ?_
        rw [ek, en, ← hi, if_neg hn]
        exact LK_1 e13
      · have hn : i - q ≤ 4 := by
          rcases Nat.lt_or_ge 4 (i - q) with y | y
          · exact absurd (nI_le (a := 5) y (by omega)) z
          · exact y
        refine hQ _ (c2.gu _ (by decide)) e12 (by rw [en, ← hi]; exact e11) ?_
        rw [ek, en, ← hi, if_pos hn]
        refine ⟨fun z => absurd z (by omega), fun z => absurd z (by omega), fun _ => ⟨rfl, ?_⟩, fun z => absurd z (by omega), fun z => absurd z (by decide)⟩
        unfold tv_
        rw [en, ← hi]; exact (ev hn).1
    intro r
    induction r with
    | zero =>
      intro i G2 hi hqi hs c2 e12 e11 e13 ev
      show wp_X10_raw (G2 49 11) G2 _
      rw [e11]
      refine raw_0 hT e10 c2 (by omega) (by omega) (dir_m ⟨fun _ => ?_, fun z => absurd rfl z⟩)
      exact fin i G2 hqi (by omega) (by rw [← hs, sN_st (fun z => absurd z.1 (by omega))]) c2 e12 e11 e13 ev
    | succ r ih =>
      intro i G2 hi hqi hs c2 e12 e11 e13 ev
      show wp_X10_raw (G2 49 11) G2 _
      rw [e11]
      refine raw_1 hb e10 c2 (by omega) (dir_ (hb.2 i (by omega)).1 (fun hli => ⟨fun z => absurd z (by decide), fun _ => ⟨fun z => ?_, fun z => ?_⟩⟩) (fun hli => ⟨fun _ => ?_, fun z => absurd rfl z⟩))
      · have h5 : ¬ i - q < 4 := fun y => by
          obtain ⟨v1, v2⟩ := ev (by omega)
          have : 10 ^ (i - q) ≤ 10 ^ 3 := Nat.pow_le_pow_right (by omega) (by omega)
          rw [v1] at z
          exact nI_ge (b := 10000) (by omega) (by omega) z
        rw [e11, nI_1]
        exact ih (i + 1) _ (by omega) (by omega) (by rw [← hs]; exact (sN_go (f := fun i => di_ (b i)) (by omega) hli).symm) ((c2.gu _ (by decide)).gu _ (by decide)) e12 rfl e13 (fun y => absurd y (by omega))
      · rw [e11]
        refine raw_1 hb e10 c2 (by omega) ?_
        rw [e11, nI_1]
        refine ih (i + 1) _ (by omega) (by omega) (by rw [← hs]; exact (sN_go (f := fun i => di_ (b i)) (by omega) hli).symm) ((c2.gu _ (by decide)).gu _ (by decide)) e12 rfl e13 (fun y => ?_)
        obtain ⟨v1, v2⟩ := ev (by omega)
        have hd2 := di_iff.mp hli
        have e1 : i + 1 - q = i - q + 1 := by omega
        have e2 : dg_ b q (i - q + 1) = dg_ b q (i - q) * 10 + (b i - 48) := by
          show dg_ b q (i - q) * 10 + (b (q + (i - q)) - 48) = _
          rw [show q + (i - q) = i by omega]
        rw [e1, e2]
        refine ⟨?_, by rw [Nat.pow_succ]; omega⟩
        show (10 : Int32) * G2 49 14 + nI (b i) - 48 = _
        rw [v1, Int32.mul_comm, num_ hd2.1]
      · exact fin i G2 hqi (by omega) (by rw [← hs, sN_st (f := fun i => di_ (b i)) (fun z => hli z.2)]) c2 e12 e11 e13 ev
  have body : ∀ (G4 : GS), RT5_ G G4 → G4 49 11 = nI q → wp_X10_raw (G4 49 11) (gu_ (gu_ G4 49 12 (G4 49 11)) 49 13 (1 : Int32)) (fun r5 G6 => ((¬ r5 = (-1 : Int32) → wp_X10_isLetter r5 (gu_ (gu_ G6 49 11 ((G6 49 11) + (1 : Int32))) 49 14 r5) (fun r7 G8 => ((r7 = 0 → wp_X10_isDigit r5 G8 (fun r9 G10 => ((r9 = 0 → wp_X10_isMarkSign r5 G10 (fun r11 G12 => ((r11 = 0 → Q 0 G12) ∧ (¬ r11 = 0 → Q 0 (gu_ G12 49 13 (4 : Int32)))))) ∧ (¬ r9 = 0 → (∃ kf, lp_X10_reads_171 Q kf (gu_ G10 49 14 (r5 - (48 : Int32)))))))) ∧ (¬ r7 = 0 → (∃ kf, lp_X10_reads_95 Q kf G8))))) ∧ (r5 = (-1 : Int32) → Q 0 (gu_ G6 49 13 (0 : Int32))))) := by
    intro G4 c4 e11
    rw [e11]
    have c5 : RT5_ G (gu_ (gu_ G4 49 12 (nI q)) 49 13 1) := (c4.gu _ (by decide)).gu _ (by decide)
    have e11' : (gu_ (gu_ G4 49 12 (nI q)) 49 13 1) 49 11 = nI q := e11
    by_cases h : q < T
    · have hb1 := (hb.2 q h).1
      refine raw_1 hb e10 c5 h ⟨fun _ => ?_, fun z => absurd z (nm _ hb1)⟩
      rw [e11', nI_1]
      have c6 : RT5_ G (gu_ (gu_ (gu_ (gu_ G4 49 12 (nI q)) 49 13 1) 49 11 (nI (q + 1))) 49 14 (nI (b q))) := (c5.gu _ (by decide)).gu _ (by decide)
      refine ler_ hb1 (fun hl => ⟨fun z => absurd z (by decide), fun _ => ⟨T - (q + 1) + 1, lets h hl _ _ _ (by omega) (by omega) rfl c6 rfl rfl rfl⟩⟩) (fun hl => ⟨fun _ => dir_ hb1 (fun hd => ⟨fun z => absurd z (by decide), fun _ => ⟨T - (q + 1) + 1, digs h hl hd _ _ _ (by omega) (by omega) rfl (c6.gu _ (by decide)) rfl rfl rfl (fun _ => ?_)⟩⟩) (fun hd => ⟨fun _ => sgr_ hb1 (fun hs => ⟨fun z => absurd z (by decide), fun _ => ?_⟩) (fun hs => ⟨fun _ => ?_, fun z => absurd rfl z⟩), fun z => absurd rfl z⟩), fun z => absurd rfl z⟩)
      · rw [show q + 1 - q = 0 + 1 by omega]
        have hd2 := di_iff.mp hd
        refine ⟨?_, ?_⟩
        · show nI (b q) - 48 = nI (0 * 10 + (b (q + 0) - 48))
          rw [show (48 : Int32) = nI 48 from rfl, pk_sub hd2.1, Nat.add_zero, Nat.zero_mul, Nat.zero_add]
        · show 0 * 10 + (b (q + 0) - 48) < 10 ^ (0 + 1)
          rw [Nat.add_zero, Nat.zero_add, Nat.pow_one]; omega
      · have ek : tK_ b T q = b q := by unfold tK_; rw [if_pos h, if_neg hl, if_neg hd, if_pos hs]
        have en : tn_ b T q = q + 1 := by unfold tn_; rw [if_pos h, if_neg hl, if_neg hd]
        have hsg := nsg_ _ hb1 hs
        refine hQ _ (c6.gu _ (by decide)) rfl (by rw [en]; rfl) ?_
        rw [ek]
        exact ⟨fun z => absurd z hsg.1, fun z => absurd z hsg.2.1, fun z => absurd z hsg.2.2.1, fun z => absurd z (by have := hsg.2.2.2.1; omega), fun _ => ⟨rfl, rfl⟩⟩
      · have ek : tK_ b T q = 1 := by unfold tK_; rw [if_pos h, if_neg hl, if_neg hd, if_neg hs]
        have en : tn_ b T q = q + 1 := by unfold tn_; rw [if_pos h, if_neg hl, if_neg hd]
        refine hQ _ c6 rfl (by rw [en]; rfl) ?_
        rw [ek]
        exact LK_1 rfl
    · refine raw_0 hT e10 c5 (by omega) (by omega) ⟨fun z => absurd rfl z, fun _ => ?_⟩
      have ek : tK_ b T q = 0 := by unfold tK_; rw [if_neg h]
      have en : tn_ b T q = T := by unfold tn_; rw [if_neg h]
      refine hQ _ (c5.gu _ (by decide)) rfl (by rw [en, show T = q by omega]; exact e11) ?_
      rw [ek]
      exact ⟨fun _ => rfl, fun z => absurd z (by decide), fun z => absurd z (by decide), fun z => absurd z (by decide), fun z => absurd z (by decide)⟩
  have key : ∀ (r i : Nat) (G2 : GS), i + r = T → sN_ (fun i => bl_ (b i)) T i = q → RT5_ G G2 → G2 49 11 = nI i → lp_X10_reads_0 Q (r + 1) G2 := by
    intro r
    induction r with
    | zero =>
      intro i G2 hi hs c2 e11
      have en : q = i := by rw [← hs, sN_st (fun z => absurd z.1 (by omega))]
      show wp_X10_raw (G2 49 11) G2 _
      rw [e11]
      refine raw_0 hT e10 c2 (by omega) (by omega) ⟨fun z => absurd z (by decide), fun _ => ?_⟩
      rw [e11]
      refine raw_0 hT e10 c2 (by omega) (by omega) ⟨fun _ => ?_, fun z => absurd z (by decide)⟩
      exact body G2 c2 (by rw [en]; exact e11)
    | succ r ih =>
      intro i G2 hi hs c2 e11
      have hbi := (hb.2 i (by omega)).1
      have go : bl_ (b i) = true → lp_X10_reads_0 Q (r + 1) (gu_ G2 49 11 (G2 49 11 + 1)) := by
        intro hl
        rw [e11, nI_1]
        exact ih (i + 1) _ (by omega) (by rw [← hs]; exact (sN_go (f := fun i => bl_ (b i)) (by omega) hl).symm) (c2.gu _ (by decide)) rfl
      show wp_X10_raw (G2 49 11) G2 _
      rw [e11]
      have k32 : nI (b i) = 32 ↔ b i = 32 := (nL_ (c := 32) (by omega) (by omega)).2.2
      have k10 : nI (b i) = 10 ↔ b i = 10 := (nL_ (c := 10) (by omega) (by omega)).2.2
      refine raw_1 hb e10 c2 (by omega) ?_
      rw [k32]
      refine ⟨fun z => go (bl_iff.mpr (Or.inl z)), fun z1 => ?_⟩
      rw [e11]
      refine raw_1 hb e10 c2 (by omega) ?_
      rw [k10]
      refine ⟨fun z2 => body G2 c2 ?_, fun z => go (bl_iff.mpr (Or.inr z))⟩
      rw [← hs, sN_st (f := fun i => bl_ (b i)) (fun z => (bl_iff.mp z.2).elim z1 z2)]; exact e11
  by_cases h : p < T
  · have hbi := (hb.2 p h).1
    have go : bl_ (b p) = true → ∃ kf, lp_X10_reads_0 Q kf (gu_ G 49 11 (G 49 11 + 1)) := by
      intro hl
      rw [e11, nI_1]
      exact ⟨T - (p + 1) + 1, key _ (p + 1) _ (by omega) (by rw [← hq]; exact (sN_go (f := fun i => bl_ (b i)) h hl).symm) ((RT5_.rf G).gu _ (by decide)) rfl⟩
    have k32 : nI (b p) = 32 ↔ b p = 32 := (nL_ (c := 32) (by omega) (by omega)).2.2
    have k10 : nI (b p) = 10 ↔ b p = 10 := (nL_ (c := 10) (by omega) (by omega)).2.2
    unfold wp_X10_reads
    rw [e11]
    refine raw_1 hb e10 (RT5_.rf G) h ?_
    rw [k32]
    refine ⟨fun z => go (bl_iff.mpr (Or.inl z)), fun z1 => ?_⟩
    rw [e11]
    refine raw_1 hb e10 (RT5_.rf G) h ?_
    rw [k10]
    refine ⟨fun z2 => body G (RT5_.rf G) ?_, fun z => go (bl_iff.mpr (Or.inr z))⟩
    rw [← hq]
    unfold tq_
    rw [sN_st (f := fun i => bl_ (b i)) (fun z => (bl_iff.mp z.2).elim z1 z2)]; exact e11
  · have eq : q = p := by rw [← hq]; exact sN_st (fun z => h z.1)
    unfold wp_X10_reads
    rw [e11]
    refine raw_0 hT e10 (RT5_.rf G) (by omega) (by omega) ⟨fun z => absurd z (by decide), fun _ => ?_⟩
    rw [e11]
    refine raw_0 hT e10 (RT5_.rf G) (by omega) (by omega) ⟨fun _ => ?_, fun z => absurd z (by decide)⟩
    exact body G (RT5_.rf G) (by rw [eq]; exact e11)
end TKR
