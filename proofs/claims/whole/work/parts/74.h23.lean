section FIC
variable {Q : Int32 → GS → Prop} {G : GS} {n N k t : Nat} {row td : Nat → Nat}
/-- the class's row and what is left -/
def RX_ (k : Nat) (row : Nat → Nat) (G : GS) : Prop := ∀ i, i < k → G 45 i = nI (row i)
def LX_ (td : Nat → Nat) (N : Nat) (row : Nat → Nat) (k : Nat) (G : GS) : Prop := ∀ w, w < 25 → dc_ row k w ≤ tc_ct td N w ∧ G 46 w = nI (tc_ct td N w - dc_ row k w)
theorem hwf_c (hk : k ≤ 6) (hlt : ∀ i, i < k → row i < t) (ht : t ≤ 24) (hr : RX_ k row G) {a : Nat → Nat} (ha : ∀ w, w < 25 → a w ≤ 100 ∧ G 46 w = nI (a w)) (h1 : (∀ i, i < k → a (t - row i) ≠ 0) → Q 1 G) (h0 : (∃ i, i < k ∧ a (t - row i) = 0) → Q 0 G) : wp_X3_hasWordsFor (nI t) (nI k) G Q := by
  have key : ∀ (r i : Nat), i + r = k → (∀ j, j < i → a (t - row j) ≠ 0) → lp_X3_hasWordsFor_2 Q (r + 1) (nI t) (nI k) (nI i) G := by
    intro r
    induction r with
    | zero =>
      intro i hi h
      have : i = k := by omega
      subst this
      exact ⟨fun _ => h1 h, fun z => absurd (Int32.le_refl _) z⟩
    | succ r ih =>
      intro i hi h
      have hl := hlt i (by omega)
      have hw := ha (t - row i) (by omega)
      refine ⟨fun z => absurd z (nI_ge (by omega) (by omega)), fun _ => ⟨vp_in_nI (by omega) (by omega), ?_⟩⟩
      rw [nI_clamp (by omega), hr i (by omega), pk_sub (by omega), nI_clamp (by omega), hw.2, nI_1]
      refine ⟨vp_in_nI (by omega) (by omega), fun z => ih (i + 1) (by omega) (fun j hj => ?_), fun z => h0 ⟨i, by omega, (nI_eq (b := 0) (by omega) (by omega)).mp z⟩⟩
      by_cases c : j = i
      · rw [c]; intro y; exact z (by rw [y]; rfl)
      · exact h j (by omega)
  exact ⟨k + 1, key k 0 (by omega) (fun j hj => absurd hj (by omega))⟩
theorem chl_c {y : Int32} (hk : k ≤ 6) (hlt : ∀ i, i < k → row i < t) (ht : t ≤ 24) (hr : RX_ k row G) (hQ : ∀ G', FR [46] G G' → (∀ w, w < 25 → G' 46 w = G 46 w + y * nI (smN (fun j => if t - row j = w then 1 else 0) k)) → Q 0 G') : wp_X3_changeLeft (nI t) (nI k) y G Q := by
  have key : ∀ (r i : Nat) (G' : GS), i + r = k → FR [46] G G' → (∀ w, w < 25 → G' 46 w = G 46 w + y * nI (smN (fun j => if t - row j = w then 1 else 0) i)) → lp_X3_changeLeft_3 Q (r + 1) (nI t) (nI k) y (nI i) G' := by
    intro r
    induction r with
    | zero =>
      intro i G' hi f h
      have : i = k := by omega
      subst this
      exact ⟨fun _ => hQ G' f h, fun z => absurd (Int32.le_refl _) z⟩
    | succ r ih =>
      intro i G' hi f h
      have hl := hlt i (by omega)
      have e45 : G' 45 (nI i).toNatClampNeg = nI (row i) := by rw [nI_clamp (by omega), f 45 (by decide)]; exact hr i (by omega)
      refine ⟨fun z => absurd z (nI_ge (by omega) (by omega)), fun _ => ⟨vp_in_nI (by omega) (by omega), ?_⟩⟩
      rw [e45, pk_sub (by omega), nI_clamp (by omega), nI_1]
      refine ⟨vp_in_nI (by omega) (by omega), ih (i + 1) _ (by omega) (f.gu _ (by decide)) (fun w hw => ?_)⟩
      show upd (G' 46) (t - row i) _ w = G 46 w + y * nI (smN (fun j => if t - row j = w then 1 else 0) i + if t - row i = w then 1 else 0)
      by_cases c : w = t - row i
      · rw [c, up_hit, if_pos rfl, h _ (by omega), ← nI_1, Int32.mul_add, Int32.mul_one, Int32.add_assoc]
      · rw [up_miss _ _ c, if_neg (Ne.symm c), Nat.add_zero]; exact h w hw
  exact ⟨k + 1, key k 0 G (by omega) (FR.rf _ _) (fun w hw => by show G 46 w = G 46 w + y * 0; rw [Int32.mul_zero, Int32.add_zero])⟩
def fxl_ : List Nat := [43, 44, 45, 46]
set_option maxHeartbeats 4000000 in
theorem fit_c (hn : 1 ≤ n) (hn6 : n ≤ 6) (hN15 : N ≤ 15) (htd : ∀ q, q < N → td q ≤ 24) (hN : n * (n - 1) = 2 * N) : ∀ (r k f : Nat) (row : Nat → Nat) (s : FS) (G : GS) (Q : Int32 → GS → Prop), k + r = n → 1 ≤ k → r < f → QV_ k row → RX_ k row G → LX_ td N row k G → G 43 3 = s.1 → FF_ 44 n s G →
    (∀ G', FR fxl_ G G' → RX_ k row G' → LX_ td N row k G' → G' 43 3 = (fo_ (sf2_ (fun row => jb_ td N row n 61)) n 24 r row s).1 → FF_ 44 n (fo_ (sf2_ (fun row => jb_ td N row n 61)) n 24 r row s) G' → Q 0 G') → rc_X3_extend f (nI k) (nI n) G Q := by
  have tle : ∀ w, tc_ct td N w ≤ 15 := fun w => by
    have := smN_le (f := fun q => if td q = w then 1 else 0) (c := 1) (fun q => ite1 _) N
    unfold tc_ct; omega
  intro r
  induction r with
  | zero =>
    intro k f row s G Q hk hk1 hf hq hr hl h43 hff hQ
    obtain ⟨f, rfl⟩ : ∃ f', f = f' + 1 := ⟨f - 1, by omega⟩
    have : k = n := by omega
    subst this
    have ex : ∀ j, j < k → ex_ k row j = row j := fun j hj => if_pos hj
    have hb : jb_ td N (ex_ k row) k 61 = true := jb_all (hq.ex hn) htd hN (fun w hw => by rw [dc_cg k ex w]; exact (hl w hw).1)
    have es : fo_ (sf2_ (fun row => jb_ td N row k 61)) k 24 0 row s = (s.1 + 1, if s.1 = 0 then ex_ k row else s.2) := if_pos hb
    rw [es] at hQ
    refine ⟨fun _ => ⟨fun z => ?_, fun z => ?_⟩, fun z => absurd (Int32.le_refl _) z⟩
    · rw [h43] at z
      refine hQ _ ((FR.rf _ G).gu _ (by decide)) hr hl ?_ (fun _ i hi => ?_)
      · show G 43 3 + 1 = _
        rw [h43]
      · show G 44 i = nI ((if s.1 = 0 then ex_ k row else s.2) i)
        rw [if_neg z]; exact hff z i hi
    · rw [h43] at z
      refine hQ _ (((FR.rf _ G).gf _ (by decide)).gu _ (by decide)) hr hl ?_ (fun _ i hi => ?_)
      · show G 43 3 + 1 = _
        rw [h43]
      · show va_cpy (G 45) (G 44) 0 0 6 i = nI ((if s.1 = 0 then ex_ k row else s.2) i)
        rw [if_pos z, cpz_ (by omega), ex i hi]; exact hr i hi
  | succ r ih =>
    intro k f row s G Q hk hk1 hf hq hr hl h43 hff hQ
    obtain ⟨f, rfl⟩ : ∃ f', f = f' + 1 := ⟨f - 1, by omega⟩
    have hp : nI k - 1 = nI (k - 1) := by
      obtain ⟨k', rfl⟩ : ∃ k', k = k' + 1 := ⟨k - 1, by omega⟩
      exact nI_pred k'
    have ek : n - (r + 1) = k := by omega
    have hr24 := hq.2.2
    refine ⟨fun z => absurd z (nI_ge (by omega) (by omega)), fun _ => ⟨fun _ => ?_, fun z => absurd (nI_lt (b := 6) (by omega) (by omega)) z⟩⟩
    rw [hp, nI_clamp (by omega), hr (k - 1) (by omega), nI_1]
    refine ⟨vp_in_nI (by omega) (by omega), ?_⟩
    have hfo : fo_ (sf2_ (fun row => jb_ td N row n 61)) n 24 (r + 1) row s = lo_ (fun t s => fo_ (sf2_ (fun row => jb_ td N row n 61)) n 24 r (at_ k t row) s) (25 - (row (k - 1) + 1)) (row (k - 1) + 1) s := by
      conv => lhs; unfold fo_
      rw [ek]
      have e1 : 25 - (row (k - 1) + 1) = (24 - r - row (k - 1)) + (25 - (row (k - 1) + 1) - (24 - r - row (k - 1))) := by omega
      rw [e1]
      refine (lo_mo _ _ _ _ (fun t s t1 t2 => ?_)).symm
      show fo_ (sf2_ (fun row => jb_ td N row n 61)) n 24 r (at_ k t row) s = s
      cases r with
      | zero => omega
      | succ r =>
        unfold fo_
        have ek2 : n - (r + 1) = k + 1 := by omega
        rw [ek2, show k + 1 - 1 = k by omega, at_h, show 24 - r - t = 0 by omega]
        rfl
    rw [hfo] at hQ
    have loop : ∀ (c t : Nat) (s : FS) (G' : GS), t + c = 25 → row (k - 1) < t → FR fxl_ G G' → RX_ k row G' → LX_ td N row k G' → G' 43 3 = s.1 → FF_ 44 n s G' → (∀ G', FR fxl_ G G' → RX_ k row G' → LX_ td N row k G' → G' 43 3 = (lo_ (fun t s => fo_ (sf2_ (fun row => jb_ td N row n 61)) n 24 r (at_ k t row) s) c t s).1 → FF_ 44 n (lo_ (fun t s => fo_ (sf2_ (fun row => jb_ td N row n 61)) n 24 r (at_ k t row) s) c t s) G' → Q 0 G') → lp_X3_extend_55 (fun ba1 ba2 G Q => rc_X3_extend f ba1 ba2 G Q) Q (c + 1) (nI k) (nI n) (nI t) G' := by
      intro c
      induction c with
      | zero =>
        intro t s G' ht hlt f1 r1 l1 e1 ff1 g
        exact ⟨fun _ => g G' f1 r1 l1 e1 ff1, fun z => absurd (nI_lt (a := 24) (by omega) (by omega)) z⟩
      | succ c ihc =>
        intro t s G' ht hlt f1 r1 l1 e1 ff1 g
        have ltt : ∀ j, j < k → row j < t := fun j hj => by
          by_cases c : j = k - 1
          · rw [c]; exact hlt
          · have := hq.lt (show j < k - 1 by omega) (by omega); omega
        have elo : lo_ (fun t s => fo_ (sf2_ (fun row => jb_ td N row n 61)) n 24 r (at_ k t row) s) (c + 1) t s = lo_ (fun t s => fo_ (sf2_ (fun row => jb_ td N row n 61)) n 24 r (at_ k t row) s) c (t + 1) (fo_ (sf2_ (fun row => jb_ td N row n 61)) n 24 r (at_ k t row) s) := rfl
        rw [elo] at g
        have dcu : ∀ w, dc_ (at_ k t row) (k + 1) w = dc_ row k w + smN (fun j => if t - row j = w then 1 else 0) k := fun w => by
          rw [dc_s, dc_cg (row := at_ k t row) (row' := row) k (fun i hi => at_n _ _ (by omega)) w]
          congr 1
          refine smN_cg k (fun j hj => ?_)
          rw [at_h, at_n _ _ (show j ≠ k by omega)]
        have cnt : ∀ w, smN (fun j => if t - row j = w then 1 else 0) k ≤ 1 := fun w => by
          have gen : ∀ m, m ≤ k → smN (fun j => if t - row j = w then 1 else 0) m ≤ 1 ∧ ((∀ j, j < m → t - row j ≠ w) → smN (fun j => if t - row j = w then 1 else 0) m = 0) := by
            intro m
            induction m with
            | zero => intro _; exact ⟨Nat.zero_le _, fun _ => rfl⟩
            | succ m ihm =>
              intro hm
              obtain ⟨i1, i2⟩ := ihm (by omega)
              refine ⟨?_, fun h => ?_⟩
              · show smN _ m + (if t - row m = w then 1 else 0) ≤ 1
                by_cases cw : t - row m = w
                · rw [if_pos cw, i2 (fun j hj e => ?_)]
                  · omega
                  · have h1 := hq.lt hj (show m < k by omega)
                    have h2 := ltt m (by omega)
                    have h3 := ltt j (by omega)
                    omega
                · rw [if_neg cw]; omega
              · show smN _ m + (if t - row m = w then 1 else 0) = 0
                rw [if_neg (h m (by omega)), i2 (fun j hj => h j (by omega))]
          exact (gen k (Nat.le_refl _)).1
        refine ⟨fun z => absurd z (nI_nlt (a := 24) (by omega) (by omega)), fun _ => ?_⟩
        refine hwf_c (a := fun w => tc_ct td N w - dc_ row k w) (by omega) ltt (by omega) r1 (fun w hw => ⟨by have := tle w; omega, (l1 w hw).2⟩) (fun hy => ⟨fun z => absurd z (by decide), fun _ => ⟨vp_in_nI (by omega) (by omega), ?_⟩⟩) (fun hno => ⟨fun _ => ?_, fun z => absurd rfl z⟩)
        · have cle : ∀ w, w < 25 → smN (fun j => if t - row j = w then 1 else 0) k ≤ tc_ct td N w - dc_ row k w := fun w hw => by
            by_cases c0 : smN (fun j => if t - row j = w then 1 else 0) k = 0
            · omega
            · have : ∃ j, j < k ∧ t - row j = w := by
                apply Classical.byContradiction
                intro hne
                refine c0 ((sm_0 k).mpr (fun j hj => ?_))
                show (if t - row j = w then 1 else 0) = 0
                rw [if_neg (fun e => hne ⟨j, hj, e⟩)]
              obtain ⟨j, hj, e⟩ := this
              have h1 := hy j hj
              have h2 := cnt w
              rw [e] at h1
              have h1 : tc_ct td N w - dc_ row k w ≠ 0 := h1
              omega
          rw [nI_clamp (by omega)]
          refine chl_c (row := row) (by omega) ltt (by omega) (fun i hi => ?_) (fun G2 f2 h2 => ?_)
          · show upd (G' 45) k (nI t) i = _
            rw [up_miss _ _ (by omega)]; exact r1 i hi
          rw [nI_1]
          have l2 : LX_ td N (at_ k t row) (k + 1) G2 := fun w hw => by
            have h3 := cle w hw
            have h4 := (l1 w hw).1
            have e46 : (gu_ G' 45 k (nI t)) 46 w = G' 46 w := rfl
            rw [dcu w]
            refine ⟨by omega, ?_⟩
            rw [h2 w hw, e46, (l1 w hw).2, Int32.neg_mul, Int32.one_mul, ← Int32.sub_eq_add_neg, pk_sub h3]
            congr 1; omega
          have r2 : RX_ (k + 1) (at_ k t row) G2 := fun i hi => by
            rw [f2 45 (by decide)]
            show upd (G' 45) k (nI t) i = _
            by_cases c : i = k
            · rw [c, up_hit, at_h]
            · rw [up_miss _ _ c, at_n _ _ c]; exact r1 i (by omega)
          have e2 : G2 43 3 = s.1 := by
            rw [f2 43 (by decide)]; exact e1
          have ff2 : FF_ 44 n s G2 := fun z i hi => by
            rw [f2 44 (by decide)]; exact ff1 z i hi
          have f02 : FR fxl_ G G2 := (f1.gu _ (by decide)).tr (f2.sub (by decide))
          refine ih (k + 1) f (at_ k t row) s G2 _ (by omega) (by omega) (by omega) (hq.up hk1 hlt (by omega)) r2 l2 e2 ff2 (fun G3 f3 r3 l3 e3 ff3 => ?_)
          have r3' : RX_ k row G3 := fun i hi => by rw [r3 i (by omega), at_n _ _ (by omega)]
          refine chl_c (row := row) (by omega) ltt (by omega) r3' (fun G4 f4 h4 => ?_)
          rw [nI_1]
          refine ihc (t + 1) _ G4 (by omega) (by omega) ((f02.tr f3).tr (f4.sub (by decide))) (fun i hi => by rw [f4 45 (by decide)]; exact r3' i hi) (fun w hw => ?_) (by rw [f4 43 (by decide)]; exact e3) (fun z i hi => by rw [f4 44 (by decide)]; exact ff3 z i hi) g
          have h5 := cle w hw
          have h6 := (l1 w hw).1
          have h7 := (l3 w hw).2
          rw [dcu w] at h7
          refine ⟨h6, ?_⟩
          rw [h4 w hw, h7, Int32.one_mul, nI_add]
          congr 1; omega
        · have hid : fo_ (sf2_ (fun row => jb_ td N row n 61)) n 24 r (at_ k t row) s = s := by
            obtain ⟨i, hi, h0⟩ := hno
            refine fo_no hn r (k + 1) (at_ k t row) s (by omega) (by omega) (hq.up hk1 hlt (by omega)) (fun x hx he => ?_)
            rw [Bool.eq_false_iff]
            intro hb
            have hw : t - row i < 61 := by omega
            have h1 := (jb_iff 61).mp hb (t - row i) hw
            have h2 : dc_ x (k + 1) (t - row i) = dc_ row k (t - row i) + smN (fun j => if t - row j = t - row i then 1 else 0) k := by
              rw [dc_cg (k + 1) he, dcu]
            have h3 : 1 ≤ smN (fun j => if t - row j = t - row i then 1 else 0) k := by
              rcases Nat.eq_zero_or_pos (smN (fun j => if t - row j = t - row i then 1 else 0) k) with z | z
              · have := (sm_0 k).mp z i hi
                have : (if t - row i = t - row i then 1 else 0) = 0 := this
                rw [if_pos rfl] at this
                exact absurd this (by decide)
              · exact z
            have mono : ∀ m, k + 1 + m ≤ n → dc_ x (k + 1) (t - row i) ≤ dc_ x (k + 1 + m) (t - row i) := by
              intro m
              induction m with
              | zero => intro _; exact Nat.le_refl _
              | succ m ihm =>
                intro hm
                have := ihm (by omega)
                rw [show k + 1 + (m + 1) = k + 1 + m + 1 by omega]
                have h9 := dc_s x (k + 1 + m) (t - row i)
                omega
            have h4 := mono (n - (k + 1)) (by omega)
            rw [show k + 1 + (n - (k + 1)) = n by omega] at h4
            have h0 : tc_ct td N (t - row i) - dc_ row k (t - row i) = 0 := h0
            omega
          rw [hid] at g
          rw [nI_1]
          exact ihc (t + 1) s G' (by omega) (by omega) f1 r1 l1 e1 ff1 g
    exact ⟨25 - (row (k - 1) + 1) + 1, loop _ _ s G (by omega) (by omega) (FR.rf _ _) hr hl h43 hff hQ⟩
theorem fil_c (hQ : ∀ G', FR [46] G G' → (∀ w, w < 25 → G' 46 w = 0) → Q 0 G') : wp_J7_fill 0 G Q := by
  have key : ∀ (r i : Nat) (G' : GS), i + r = 25 → FR [46] G G' → (∀ w, w < i → G' 46 w = 0) → lp_J7_fill_5 Q (r + 1) 0 (nI i) 25 G' := by
    intro r
    induction r with
    | zero =>
      intro i G' hi f h
      have : i = 25 := by omega
      subst this
      exact ⟨fun _ => hQ G' f h, fun z => absurd (Int32.le_refl _) z⟩
    | succ r ih =>
      intro i G' hi f h
      refine ⟨fun z => absurd z (nI_ge (b := 25) (by omega) (by omega)), fun _ => ⟨vp_in_nI (by omega) (by omega), ?_⟩⟩
      rw [nI_clamp (by omega), nI_1]
      refine ih (i + 1) _ (by omega) (f.gu _ (by decide)) (fun w hw => ?_)
      show upd (G' 46) i 0 w = _
      by_cases c : w = i
      · rw [c, up_hit]
      · rw [up_miss _ _ c]; exact h w (by omega)
  exact ⟨26, key 25 0 G (by omega) (FR.rf _ _) (fun w hw => absurd hw (by omega))⟩
set_option maxHeartbeats 1000000 in
theorem cnr_c (hn : 1 ≤ n) (hn6 : n ≤ 6) (hN : (nI n * (nI n - 1)) / 2 = nI N) (hN2 : n * (n - 1) = 2 * N) (ht : TC_ G N td) (hQ : ∀ G', FR fxl_ G G' → FF_ 44 n (fo_ (sf2_ (fun row => jb_ td N row n 61)) n 24 (n - 1) (fun _ => 0) (0, fun _ => 0)) G' → Q (fo_ (sf2_ (fun row => jb_ td N row n 61)) n 24 (n - 1) (fun _ => 0) (0, fun _ => 0)).1 G') : wp_X3_countRows (nI n) G Q := by
  obtain ⟨t1, t2, t3⟩ := ht
  unfold wp_X3_countRows
  rw [hN, t2]
  refine ⟨fun _ => fil_c (fun G1 f1 h1 => ⟨N + 1, ?_⟩), fun z => absurd rfl z⟩
  have f01 : FR fxl_ G G1 := ((FR.rf _ G).gu _ (by decide)).tr (f1.sub (by decide))
  have e43 : G1 43 3 = 0 := by rw [f1 43 (by decide)]; rfl
  have key : ∀ (r q : Nat) (G' : GS), q + r = N → FR fxl_ G G' → G' 43 3 = 0 → (∀ w, w < 25 → G' 46 w = nI (tc_ct td q w)) → lp_X3_countRows_31 Q (r + 1) (nI n) (nI q) G' := by
    intro r
    induction r with
    | zero =>
      intro q G' hq f e0 h
      have : q = N := by omega
      subst this
      refine ⟨fun _ => ?_, fun z => absurd ?_ z⟩
      · refine fit_c hn hn6 t1 (fun v hv => (t3 v hv).2.1) hN2 (n - 1) 1 12 (fun _ => 0) (0, fun _ => 0) (gu_ G' 45 0 0) _ (by omega) (by omega) (by omega) ⟨rfl, fun i hi => absurd hi (by omega), Nat.zero_le _⟩ (fun i hi => by rw [show i = 0 by omega]; rfl) (fun w hw => ⟨Nat.zero_le _, ?_⟩) e0 (fun z => absurd rfl z) (fun G2 f2 r2 l2 e2 ff2 => ?_)
        · show G' 46 w = nI (tc_ct td q w - 0)
          rw [Nat.sub_zero]; exact h w hw
        · rw [e2]
          exact hQ G2 ((f.gu _ (by decide)).tr f2) ff2
      · rw [f 1 (by decide), t2]; exact Int32.le_refl _
    | succ r ih =>
      intro q G' hq f e0 h
      obtain ⟨a1, a2, a3⟩ := t3 q (by omega)
      have e8 : G' 8 (nI q).toNatClampNeg = nI (td q) := by rw [nI_clamp (by omega), f 8 (by decide)]; exact a3
      refine ⟨fun z => absurd z ?_, fun _ => ⟨vp_in_nI (by omega) (by omega), ?_⟩⟩
      · rw [f 1 (by decide), t2]; exact nI_ge (by omega) (by omega)
      rw [e8, nI_clamp (by omega), h _ (by omega), nI_1, nI_1]
      refine ⟨vp_in_nI (by omega) (by omega), ih (q + 1) _ (by omega) (f.gu _ (by decide)) e0 (fun w hw => ?_)⟩
      show upd (G' 46) (td q) _ w = nI (tc_ct td q w + if td q = w then 1 else 0)
      by_cases c : w = td q
      · rw [c, up_hit, if_pos rfl]
      · rw [up_miss _ _ c, if_neg (Ne.symm c), Nat.add_zero]; exact h w hw
  exact key N 0 G1 (by omega) f01 e43 (fun w hw => h1 w hw)
end FIC
section STT
variable {G : GS} {K : Int32 → Int32 → GS → Prop}
theorem tri_ : ∀ n, n < 7 → (nI n * (nI n - 1)) / 2 = nI (n * (n - 1) / 2) ∧ n * (n - 1) = 2 * (n * (n - 1) / 2) ∧ n * (n - 1) / 2 ≤ 15 := by decide +kernel
set_option maxHeartbeats 1000000 in
theorem st_fit (a b : Int32) (hI : Inv G) (hK : ∀ r G2, Inv G2 → K r r G2) : wp_X9_fit a b G (fun r G1 => wp_X10_fit a b G1 (fun r' G2 => K r r' G2)) := by
  have hN : Inv (gu_ G 49 0 0) := hI.sc (Sc.rf G).t0
  have bad : (a < 1 ∨ 6 < a) → wp_X10_fit a b G (fun r' G2 => K (-1) r' G2) := fun hb =>
    isin_ (fun y1 y2 => absurd hb (fun z => z.elim y1 y2)) (fun _ => ⟨fun _ => hK _ _ hN, fun z => absurd rfl z⟩)
  refine ⟨fun z => bad (Or.inl z), fun y1 => ⟨fun z => bad (Or.inr z), fun y2 => ?_⟩⟩
  obtain ⟨n, hn6, rfl⟩ := nI_of2 (M := 6) (n := 6) (by decide) (fun z => y1 (Int32.lt_trans z (by decide))) (Int32.not_lt.mp y2)
  have hn : 1 ≤ n := by
    rcases Nat.lt_or_ge n 1 with h | h
    · exact absurd (nI_lt (b := 1) h (by omega)) y1
    · exact h
  obtain ⟨N, td, tc, tr⟩ := told_of hI
  obtain ⟨k1, k2, k3⟩ := tri_ n (by omega)
  have main : (b = 0 ∨ ∃ i, i < n ∧ b = nI (10 + i) ∧ b - 10 = nI i ∧ ¬ b = 0) → bk_X9_fit_25 (fun r G1 => wp_X10_fit (nI n) b G1 (fun r' G2 => K r r' G2)) (nI n) b G := by
    intro hb
    have lead : ∀ (G1 : GS) (K2 : Int32 → GS → Prop), bk_X10_fit_36 K2 (nI n) b (gu_ G1 49 0 0) → wp_X10_fit (nI n) b G1 K2 := by
      intro G1 K2 h
      refine isin_ (fun _ _ => ⟨fun z => absurd z (by decide), fun _ => ⟨fun _ => h, fun n0 => ?_⟩⟩) (fun z => absurd z (fun z => z.elim y1 y2))
      rcases hb with e | ⟨i, hi, e, -, -⟩
      · exact absurd e n0
      · exact inr_r (n := n) (by omega) (fun _ _ _ _ => ⟨fun _ => h, fun z => absurd z (by decide)⟩) (fun hno => absurd e (hno i hi))
    have tr1 : ∀ {L : List Nat} {G1 : GS}, FR L G G1 → (49 ∉ L ∧ 70 ∉ L) → TR_ (gu_ G1 49 0 0) N td := by
      intro L G1 f1 hl
      obtain ⟨t1, t2, t3⟩ := tr
      refine ⟨t1, ?_, fun q hq => ?_⟩
      · show G1 49 39 = _
        rw [f1 49 hl.1]; exact t2
      · show _ ∧ _ ∧ G1 70 q = _
        rw [f1 70 hl.2]; exact t3 q hq
    by_cases hNN : n * (n - 1) / 2 = N
    · rw [hNN] at k1 k2
      refine cnr_c hn hn6 k1 k2 tc (fun G1 f1 ff1 => ?_)
      generalize hs : fo_ (sf2_ (fun row => jb_ td N row n 61)) n 24 (n - 1) (fun _ => 0) (0, fun _ => 0) = s at ff1 ⊢
      have fin : ∀ G2, FR [71, 72, 73] (gu_ G1 49 0 0) G2 → Inv G2 := fun G2 f2 => hI.sc (((Sc.fr f1 (by decide)).t0).tr (Sc.fr f2 (by decide)))
      have ref : ∀ r : Int32, (∀ G2, FR [71, 72, 73] (gu_ G1 49 0 0) G2 → FF_ 73 n s G2 → ((¬ b = 0 → ((¬ s.1 = 0 → (vp_in (b - (10 : Int32)) 6 ∧ K r (G2 73 ((b - (10 : Int32)).toNatClampNeg)) G2)) ∧ (s.1 = 0 → K r (-1 : Int32) G2))) ∧ (b = 0 → K r s.1 G2))) → wp_X10_fit (nI n) b G1 (fun r' G2 => K r r' G2) := by
        intro r h
        refine lead G1 _ (fts_r hn hn6 k1 (tr1 f1 (by decide)) (fun G2 f2 ff2 => ?_))
        rw [hs] at ff2 ⊢
        exact h G2 f2 ff2
      refine ⟨fun n0 => ⟨fun s0 => ?_, fun s0 => ?_⟩, fun e0 => ref _ (fun G2 f2 _ => ⟨fun z => absurd e0 z, fun _ => hK _ _ (fin G2 f2)⟩)⟩
      · rcases hb with e0 | ⟨i, hi, ei, e10, -⟩
        · exact absurd e0 n0
        rw [e10, nI_clamp (by omega), ff1 s0 i hi]
        refine ⟨vp_in_nI (by omega) (by omega), ref _ (fun G2 f2 ff2 => ⟨fun _ => ⟨fun _ => ?_, fun z => absurd z s0⟩, fun z => absurd z n0⟩)⟩
        rw [e10, nI_clamp (by omega), ff2 s0 i hi]
        exact ⟨vp_in_nI (by omega) (by omega), hK _ _ (fin G2 f2)⟩
      · exact ref _ (fun G2 f2 ff2 => ⟨fun _ => ⟨fun z => absurd s0 z, fun _ => hK _ _ (fin G2 f2)⟩, fun z => absurd z n0⟩)
    · have hNe : ¬ G 1 12 = (nI n * (nI n - 1)) / 2 := by
        rw [tc.2.1, k1]
        intro e
        exact hNN ((nI_eq (by have := tc.1; omega) (by omega)).mp e).symm
      refine ⟨fun e => absurd e hNe, fun _ => ?_⟩
      have f1 : FR [43] G (gu_ G 43 3 0) := (FR.rf _ G).gu _ (by decide)
      have fin : Inv (gu_ (gu_ G 43 3 0) 49 0 0) := hI.sc ((Sc.fr f1 (by decide)).t0)
      have ref : ∀ r : Int32, ((¬ b = 0 → K r (-1 : Int32) (gu_ (gu_ G 43 3 0) 49 0 0)) ∧ (b = 0 → K r 0 (gu_ (gu_ G 43 3 0) 49 0 0))) → wp_X10_fit (nI n) b (gu_ G 43 3 0) (fun r' G2 => K r r' G2) := by
        intro r h
        refine lead _ _ ⟨fun e => absurd e ?_, fun _ => ⟨fun n0 => ⟨fun z => absurd rfl z, fun _ => h.1 n0⟩, fun e0 => h.2 e0⟩⟩
        have e39 : (gu_ (gu_ G 43 3 0) 49 0 0) 49 39 = nI N := tr.2.1
        rw [e39, k1]
        intro e
        exact hNN ((nI_eq (by omega) (by have := tr.1; omega)).mp e)
      exact ⟨fun n0 => ⟨fun z => absurd rfl z, fun _ => ref _ ⟨fun _ => hK _ _ fin, fun z => absurd z n0⟩⟩, fun e0 => ref _ ⟨fun z => absurd e0 z, fun _ => hK _ _ fin⟩⟩
  refine ⟨fun e => main (Or.inl e), fun n0 => ?_⟩
  refine inr_c (n := n) (by omega) (fun i hi e e10 => ⟨fun _ => main (Or.inr ⟨i, hi, e, e10, n0⟩), fun z => absurd z (by decide)⟩) (fun hno => ⟨fun z => absurd rfl z, fun _ => ?_⟩)
  refine isin_ (fun _ _ => ⟨fun z => absurd z (by decide), fun _ => ⟨fun z => absurd z n0, fun _ => ?_⟩⟩) (fun z => absurd z (fun z => z.elim y1 y2))
  exact inr_r (n := n) (by omega) (fun i hi e _ => absurd e (hno i hi)) (fun _ => ⟨fun z => absurd rfl z, fun _ => hK _ _ hN⟩)
end STT
