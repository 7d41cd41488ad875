/-! the class's cover -/
theorem xn_ {b : Nat} (hb : b < 2 ^ 32) : nI b ^^^ (-1 : Int32) = nI (4294967295 - b) := by
  rw [Int32.xor_neg_one]
  apply Int32.toBitVec_inj.mp
  apply BitVec.eq_of_toNat_eq
  show (~~~(BitVec.ofNat 32 b)).toNat = (BitVec.ofNat 32 (4294967295 - b)).toNat
  rw [BitVec.toNat_not, BitVec.toNat_ofNat, BitVec.toNat_ofNat, Nat.mod_eq_of_lt hb, Nat.mod_eq_of_lt (by omega)]
theorem nt_ {b w : Nat} (hb : b < 2 ^ 32) (hw : w < 32) : (4294967295 - b).testBit w = !b.testBit w := by
  have e : 4294967295 - b = 2 ^ 32 - (b + 1) := by omega
  rw [e, Nat.testBit_two_pow_sub_succ hb, decide_eq_true hw, Bool.true_and]
/-- the tones' mirror -/
def MI_ (row : Nat → Nat) (k mi : Nat) : Prop := mi < 2 ^ 25 ∧ ∀ b, mi.testBit b = true ↔ ∃ j, j < k ∧ 24 - row j = b
/-- the words that are missing -/
def MS_ (td : Nat → Nat) (N : Nat) (row : Nat → Nat) (k ms : Nat) : Prop := ms < 2 ^ 25 ∧ ∀ w, ms.testBit w = true ↔ ((∃ q, q < N ∧ td q = w) ∧ dc_ row k w = 0)
theorem MI_up {row : Nat → Nat} {k mi t : Nat} (h : MI_ row k mi) (ht : t ≤ 24) : MI_ (at_ k t row) (k + 1) (mi ||| 2 ^ (24 - t)) := by
  refine ⟨Nat.or_lt_two_pow h.1 (Nat.pow_lt_pow_right (by decide) (by omega)), fun b => ?_⟩
  rw [Nat.testBit_or, Bool.or_eq_true, h.2 b, Nat.testBit_two_pow, decide_eq_true_iff]
  constructor
  · rintro (⟨j, h1, h2⟩ | e)
    · exact ⟨j, by omega, by rw [at_n _ _ (by omega)]; exact h2⟩
    · exact ⟨k, by omega, by rw [at_h]; exact e⟩
  · rintro ⟨j, h1, h2⟩
    by_cases c : j = k
    · rw [c, at_h] at h2; exact Or.inr h2
    · rw [at_n _ _ c] at h2
      exact Or.inl ⟨j, by omega, h2⟩
theorem sm_0 {f : Nat → Nat} : ∀ k, smN f k = 0 ↔ ∀ i, i < k → f i = 0
  | 0 => ⟨fun _ i hi => absurd hi (by omega), fun _ => rfl⟩
  | k + 1 => by
    show smN f k + f k = 0 ↔ _
    constructor
    · intro h i hi
      by_cases c : i = k
      · rw [c]; omega
      · exact (sm_0 k).mp (by omega) i (by omega)
    · intro h
      have := (sm_0 k).mpr (fun i hi => h i (by omega))
      have := h k (by omega)
      omega
theorem dc_up0 {row : Nat → Nat} {k t w : Nat} : dc_ (at_ k t row) (k + 1) w = 0 ↔ (dc_ row k w = 0 ∧ ∀ j, j < k → t - row j ≠ w) := by
  rw [dc_s, dc_cg (row := at_ k t row) (row' := row) k (fun i hi => at_n _ _ (by omega)) w]
  have : (dc_ row k w + smN (fun j => if at_ k t row k - at_ k t row j = w then 1 else 0) k = 0) ↔ (dc_ row k w = 0 ∧ smN (fun j => if at_ k t row k - at_ k t row j = w then 1 else 0) k = 0) := by omega
  rw [this, sm_0]
  constructor
  · rintro ⟨h1, h2⟩
    refine ⟨h1, fun j hj e => ?_⟩
    have h3 : (if at_ k t row k - at_ k t row j = w then 1 else 0) = 0 := h2 j hj
    rw [at_h, at_n _ _ (show j ≠ k by omega), if_pos e] at h3
    exact absurd h3 (by decide)
  · rintro ⟨h1, h2⟩
    refine ⟨h1, fun j hj => ?_⟩
    show (if at_ k t row k - at_ k t row j = w then 1 else 0) = 0
    rw [at_h, at_n _ _ (show j ≠ k by omega), if_neg (h2 j hj)]
theorem MS_up {td : Nat → Nat} {N : Nat} {row : Nat → Nat} {k mi ms t : Nat} (hq : QV_ k row) (hk : 1 ≤ k) (h1 : row (k - 1) < t) (ht : t ≤ 24) (hm : MI_ row k mi) (hs : MS_ td N row k ms) : MS_ td N (at_ k t row) (k + 1) (ms &&& (4294967295 - mi / 2 ^ (24 - t))) := by
  have hd : mi / 2 ^ (24 - t) ≤ mi := Nat.div_le_self _ _
  have hmi := hm.1
  refine ⟨Nat.lt_of_le_of_lt Nat.and_le_left hs.1, fun w => ?_⟩
  rw [Nat.testBit_and, Bool.and_eq_true, hs.2 w, dc_up0]
  have lt : ∀ j, j < k → row j < t := fun j hj => by
    by_cases c : j = k - 1
    · rw [c]; exact h1
    · have := hq.lt (show j < k - 1 by omega) (by omega); omega
  constructor
  · rintro ⟨⟨a, b⟩, c⟩
    have hw : w < 25 := by
      rcases Nat.lt_or_ge w 25 with h | h
      · exact h
      · have := (hs.2 w).mpr ⟨a, b⟩
        rw [Nat.testBit_lt_two_pow (Nat.lt_of_lt_of_le hs.1 (Nat.pow_le_pow_right (by decide) h))] at this
        exact absurd this (by decide)
    rw [nt_ (by omega) (by omega), Bool.not_eq_true', Nat.testBit_div_two_pow] at c
    refine ⟨a, b, fun j hj e => ?_⟩
    have h3 := (hm.2 (24 - row j)).mpr ⟨j, hj, rfl⟩
    have h4 := lt j hj
    rw [show w + (24 - t) = 24 - row j by omega, h3] at c
    exact absurd c (by decide)
  · rintro ⟨a, b, c⟩
    have hw : w < 25 := by
      rcases Nat.lt_or_ge w 25 with h | h
      · exact h
      · have := (hs.2 w).mpr ⟨a, b⟩
        rw [Nat.testBit_lt_two_pow (Nat.lt_of_lt_of_le hs.1 (Nat.pow_le_pow_right (by decide) h))] at this
        exact absurd this (by decide)
    refine ⟨⟨a, b⟩, ?_⟩
    rw [nt_ (by omega) (by omega), Bool.not_eq_true', Nat.testBit_div_two_pow, Bool.eq_false_iff]
    intro z
    obtain ⟨j, hj, e⟩ := (hm.2 _).mp z
    have h4 := lt j hj
    exact c j hj (by omega)
/-- too many words for the couples to come -/
theorem pr_ {td : Nat → Nat} {N : Nat} {row : Nat → Nat} {n k ms : Nat} (hkn : k ≤ n) (hn : n ≤ 5) (hs : MS_ td N row k ms) (hlt : (n * (n - 1) - k * (k - 1)) / 2 < pn_ 32 ms) (x : Nat → Nat) (hx : QV_ n x) (he : ∀ j, j < k → x j = row j) : ha_ td x n N = false := by
  rw [Bool.eq_false_iff]
  intro ha
  have ha := (ha_iff N).mp ha
  have e1 := sd_ (row := x) n (fun i hi => hx.le hi)
  have e2 := sd_ (row := x) k (fun i hi => hx.le (by omega))
  have e3 : pn_ 32 ms = smN (fun w => if ms.testBit w then 1 else 0) 25 := by
    rw [show (32 : Nat) = 25 + 7 from rfl, pc_more hs.1, pn_sm]
  have mono : ∀ w, ∀ m, k + m ≤ n → dc_ x k w ≤ dc_ x (k + m) w := by
    intro w m
    induction m with
    | zero => intro _; exact Nat.le_refl _
    | succ m ih =>
      intro hm
      have := ih (by omega)
      rw [show k + (m + 1) = k + m + 1 by omega, dc_s]
      omega
  have e4 : smN (fun w => dc_ x k w + if ms.testBit w then 1 else 0) 25 ≤ smN (fun w => dc_ x n w) 25 := by
    refine smN_mo 25 (fun w hw => ?_)
    have h1 := mono w (n - k) (by omega)
    rw [show k + (n - k) = n by omega] at h1
    by_cases c : ms.testBit w = true
    · obtain ⟨⟨q, hq, eq⟩, h0⟩ := (hs.2 w).mp c
      have h2 := ha q hq
      rw [eq] at h2
      have h3 : dc_ x k w = 0 := by rw [dc_cg k he w]; exact h0
      show dc_ x k w + (if ms.testBit w = true then 1 else 0) ≤ dc_ x n w
      rw [if_pos c]
      omega
    · show dc_ x k w + (if ms.testBit w = true then 1 else 0) ≤ dc_ x n w
      rw [if_neg c]
      exact h1
  rw [smN_add, ← e3] at e4
  have e5 : smN (dc_ x k) 25 = smN (fun w => dc_ x k w) 25 := rfl
  omega
theorem cpl_ : ∀ n, n < 6 → ∀ k, k < n → ((nI n * (nI n - 1)) - (nI k * (nI k - 1))) / 2 = nI ((n * (n - 1) - k * (k - 1)) / 2) ∧ (n * (n - 1) - k * (k - 1)) / 2 ≤ 10 := by decide +kernel
section COV
variable {Q : Int32 → GS → Prop} {G : GS} {n N : Nat} {td : Nat → Nat}
/-- the row's cell in the class -/
def RC_w (k : Nat) (row : Nat → Nat) (G : GS) : Prop := ∀ i, i < k → G 48 i = nI (row i)
set_option maxHeartbeats 2000000 in
theorem cov_c (hn : 1 ≤ n) (hn5 : n ≤ 5) : ∀ (r k f : Nat) (row : Nat → Nat) (mi ms : Nat) (G : GS) (Q : Int32 → GS → Prop), k + r = n → 1 ≤ k → r < f → QV_ k row → RC_w k row G → MI_ row k mi → MS_ td N row k ms →
    (∀ x, fs_ (fun row => ha_ td row n N) n 24 r row = some x → ∀ G', FR [48] G G' → RC_w n x G' → Q 1 G') → (fs_ (fun row => ha_ td row n N) n 24 r row = none → ∀ G', FR [48] G G' → RC_w k row G' → Q 0 G') → rc_X1_extend f (nI k) (nI n) (nI mi) (nI ms) G Q := by
  intro r
  induction r with
  | zero =>
    intro k f row mi ms G Q hk hk1 hf hq hr hm hs h1 h0
    obtain ⟨f, rfl⟩ : ∃ f', f = f' + 1 := ⟨f - 1, by omega⟩
    have : k = n := by omega
    subst this
    have hms : ms < 2 ^ 31 := Nat.lt_trans hs.1 (by decide)
    have ex : ∀ j, j < k → ex_ k row j = row j := fun j hj => if_pos hj
    have iff : ha_ td (ex_ k row) k N = true ↔ ms = 0 := by
      rw [ha_iff]
      constructor
      · intro h
        refine Nat.eq_of_testBit_eq (fun w => ?_)
        rw [Nat.zero_testBit, Bool.eq_false_iff]
        intro z
        obtain ⟨⟨q, hq2, e⟩, d0⟩ := (hs.2 w).mp z
        have := h q hq2
        rw [e, dc_cg k ex w] at this
        exact this d0
      · intro h q hq2 z
        rw [dc_cg k ex] at z
        have := (hs.2 (td q)).mpr ⟨⟨q, hq2, rfl⟩, z⟩
        rw [h, Nat.zero_testBit] at this
        exact absurd this (by decide)
    refine ⟨fun _ => ⟨fun z => ?_, fun z => ?_⟩, fun z => absurd (Int32.le_refl _) z⟩
    · refine h0 ?_ G (FR.rf _ _) hr
      have hfa : ha_ td (ex_ k row) k N = false := Bool.eq_false_iff.mpr (fun y => z (by rw [iff.mp y]; rfl))
      show (if ha_ td (ex_ k row) k N = true then some (ex_ k row) else none) = none
      rw [hfa]
      rfl
    · have z0 : ms = 0 := (nI_eq (b := 0) hms (by omega)).mp z
      refine h1 (ex_ k row) ?_ G (FR.rf _ _) (fun i hi => by rw [ex i hi]; exact hr i hi)
      unfold fs_
      rw [iff.mpr z0]
      rfl
  | succ r ih =>
    intro k f row mi ms G Q hk hk1 hf hq hr hm hs h1 h0
    obtain ⟨f, rfl⟩ : ∃ f', f = f' + 1 := ⟨f - 1, by omega⟩
    have hms : ms < 2 ^ 31 := Nat.lt_trans hs.1 (by decide)
    obtain ⟨c1, c2⟩ := cpl_ n (by omega) k (by omega)
    have hp : nI k - 1 = nI (k - 1) := by
      obtain ⟨k', rfl⟩ : ∃ k', k = k' + 1 := ⟨k - 1, by omega⟩
      exact nI_pred k'
    have ek : n - (r + 1) = k := by omega
    refine ⟨fun z => absurd z (nI_ge (by omega) (by omega)), fun _ => ⟨fun _ => bc32 hms ?_, fun z => absurd (nI_lt (b := 5) (by omega) (by omega)) z⟩⟩
    have hpn : pn_ 32 ms ≤ 32 := pc_le 32 ms
    rw [c1]
    refine ⟨fun _ => ?_, fun z => ?_⟩
    · rw [hp, nI_clamp (by omega), hr (k - 1) (by omega), nI_1]
      refine ⟨vp_in_nI (by omega) (by omega), ?_⟩
      have hr24 := hq.2.2
      have hfs : fs_ (fun row => ha_ td row n N) n 24 (r + 1) row = fz_ (fun t => fs_ (fun row => ha_ td row n N) n 24 r (at_ k t row)) (25 - (row (k - 1) + 1)) (row (k - 1) + 1) := by
        conv => lhs; unfold fs_
        rw [ek]
        have e1 : 25 - (row (k - 1) + 1) = (24 - r - row (k - 1)) + (25 - (row (k - 1) + 1) - (24 - r - row (k - 1))) := by omega
        rw [e1]
        refine (fz_mo _ _ _ (fun t t1 t2 => ?_)).symm
        show fs_ (fun row => ha_ td row n N) n 24 r (at_ k t row) = none
        cases r with
        | zero => omega
        | succ r =>
          unfold fs_
          have ek2 : n - (r + 1) = k + 1 := by omega
          rw [ek2, show k + 1 - 1 = k by omega, at_h, show 24 - r - t = 0 by omega]
          rfl
      rw [hfs] at h1 h0
      have loop : ∀ (c t : Nat) (G' : GS), t + c = 25 → row (k - 1) < t → FR [48] G G' → RC_w k row G' → (∀ x, fz_ (fun t => fs_ (fun row => ha_ td row n N) n 24 r (at_ k t row)) c t = some x → ∀ G', FR [48] G G' → RC_w n x G' → Q 1 G') → (fz_ (fun t => fs_ (fun row => ha_ td row n N) n 24 r (at_ k t row)) c t = none → ∀ G', FR [48] G G' → RC_w k row G' → Q 0 G') → lp_X1_extend_60 (fun ba1 ba2 ba3 ba4 G Q => rc_X1_extend f ba1 ba2 ba3 ba4 G Q) Q (c + 1) (nI k) (nI n) (nI mi) (nI ms) (nI t) G' := by
        intro c
        induction c with
        | zero =>
          intro t G' ht hlt f1 hr1 g1 g0
          exact ⟨fun _ => g0 rfl G' f1 hr1, fun z => absurd (nI_lt (a := 24) (by omega) (by omega)) z⟩
        | succ c ihc =>
          intro t G' ht hlt f1 hr1 g1 g0
          refine ⟨fun z => absurd z (nI_nlt (a := 24) (by omega) (by omega)), fun _ => ⟨vp_in_nI (by omega) (by omega), ?_⟩⟩
          have e24 : (24 : Int32) - nI t = nI (24 - t) := pk_sub (a := 24) (by omega)
          have hmi := hm.1
          have hd : mi / 2 ^ (24 - t) ≤ mi := Nat.div_le_self _ _
          rw [e24, sh1_ _ (by omega), no_, usN (by omega) (by omega), xn_ (by omega), na_, nI_clamp (by omega), nI_1, nI_1]
          have efz : fz_ (fun t => fs_ (fun row => ha_ td row n N) n 24 r (at_ k t row)) (c + 1) t = match fs_ (fun row => ha_ td row n N) n 24 r (at_ k t row) with
            | some x => some x
            | none => fz_ (fun t => fs_ (fun row => ha_ td row n N) n 24 r (at_ k t row)) c (t + 1) := rfl
          have hr2 : RC_w (k + 1) (at_ k t row) (gu_ G' 48 k (nI t)) := fun i hi => by
            show upd (G' 48) k (nI t) i = _
            by_cases c : i = k
            · rw [c, up_hit, at_h]
            · rw [up_miss _ _ c, at_n _ _ c]; exact hr1 i (by omega)
          refine ih (k + 1) f (at_ k t row) _ _ (gu_ G' 48 k (nI t)) _ (by omega) (by omega) (by omega) (hq.up hk1 hlt (by omega)) hr2 (MI_up hm (by omega)) (MS_up hq hk1 hlt (by omega) hm hs) (fun x ex G2 f2 hx => ⟨fun z => absurd z (by decide), fun _ => ?_⟩) (fun ex G2 f2 hx => ⟨fun _ => ?_, fun z => absurd rfl z⟩)
          · rw [ex] at efz
            exact g1 x efz G2 ((f1.gu _ (by decide)).tr f2) hx
          · rw [ex] at efz
            refine ihc (t + 1) G2 (by omega) (by omega) ((f1.gu _ (by decide)).tr f2) (fun i hi => ?_) (fun x e => g1 x (efz.trans e)) (fun e => g0 (efz.trans e))
            rw [hx i (by omega), at_n _ _ (by omega)]
      exact ⟨25 - (row (k - 1) + 1) + 1, loop _ _ G (by omega) (by omega) (FR.rf _ _) hr h1 h0⟩
    · refine h0 (fs_no hn (r + 1) k row hk hk1 hq (fun x hx he => pr_ (by omega) hn5 hs ?_ x hx he)) G (FR.rf _ _) hr
      rcases Nat.lt_or_ge ((n * (n - 1) - k * (k - 1)) / 2) (pn_ 32 ms) with h | h
      · exact h
      · exact absurd (nI_le h (by omega)) z
/-- the told words, by the class -/
def TC_ (G : GS) (N : Nat) (td : Nat → Nat) : Prop := N ≤ 15 ∧ G 1 12 = nI N ∧ ∀ q, q < N → 1 ≤ td q ∧ td q ≤ 24 ∧ G 8 q = nI (td q)
theorem tol_c (ht : TC_ G N td) (hQ : ∀ ms, MS_ td N (fun _ => 0) 1 ms → Q (nI ms) G) : wp_X8_toldSet G Q := by
  obtain ⟨t1, t2, t3⟩ := ht
  have key : ∀ (r q W : Nat), q + r = N → W < 2 ^ 25 → (∀ w, W.testBit w = true ↔ ∃ v, v < q ∧ td v = w) → lp_X8_toldSet_4 Q (r + 1) (nI W) (nI q) G := by
    intro r
    induction r with
    | zero =>
      intro q W hq hW h
      have : q = N := by omega
      subst this
      refine ⟨fun _ => hQ W ⟨hW, fun w => (h w).trans ⟨fun z => ⟨z, rfl⟩, fun z => z.1⟩⟩, fun z => absurd ?_ z⟩
      rw [t2]; exact Int32.le_refl _
    | succ r ih =>
      intro q W hq hW h
      obtain ⟨a1, a2, a3⟩ := t3 q (by omega)
      refine ⟨fun z => absurd z ?_, fun _ => ⟨vp_in_nI (by omega) (by omega), ?_⟩⟩
      · rw [t2]; exact nI_ge (by omega) (by omega)
      rw [nI_clamp (by omega), a3, sh1_ _ (by omega), no_, nI_1]
      refine ih (q + 1) _ (by omega) (Nat.or_lt_two_pow hW (Nat.pow_lt_pow_right (by decide) (by omega))) (fun w => ?_)
      rw [Nat.testBit_or, Bool.or_eq_true, h w, Nat.testBit_two_pow, decide_eq_true_iff]
      constructor
      · rintro (⟨v, h1, h2⟩ | e)
        · exact ⟨v, by omega, h2⟩
        · exact ⟨q, by omega, e⟩
      · rintro ⟨v, h1, h2⟩
        by_cases c : v = q
        · rw [c] at h2; exact Or.inr h2
        · exact Or.inl ⟨v, by omega, h2⟩
  exact ⟨N + 1, key N 0 0 (by omega) (by decide) (fun w => ⟨fun z => absurd z (by rw [Nat.zero_testBit]; decide), fun ⟨v, h1, _⟩ => absurd h1 (by omega)⟩)⟩
theorem lea_c {ms : Nat} (hs : MS_ td N (fun _ => 0) 1 ms) (h1 : ∀ n x, 1 ≤ n → n ≤ 5 → (∀ k, 1 ≤ k → k < n → few_ td N k = none) → few_ td N n = some x → ∀ G', FR [48] G G' → RC_w n x G' → Q (nI n) G') (h0 : (∀ k, 1 ≤ k → k < 6 → few_ td N k = none) → ∀ G', FR [48] G G' → Q (-1) G') : wp_X1_leastSize (nI ms) G Q := by
  have key : ∀ (r n : Nat) (G' : GS), n + r = 6 → 1 ≤ n → FR [48] G G' → G' 48 0 = nI 0 → (∀ k, 1 ≤ k → k < n → few_ td N k = none) → lp_X1_leastSize_9 Q (r + 1) (nI ms) (nI n) G' := by
    intro r
    induction r with
    | zero =>
      intro n G' hn hn1 f e0 hk
      have : n = 6 := by omega
      subst this
      exact ⟨fun _ => h0 hk G' f, fun z => absurd (by decide) z⟩
    | succ r ih =>
      intro n G' hn hn1 f e0 hk
      refine ⟨fun z => absurd z (nI_nlt (a := 5) (by omega) (by omega)), fun _ => ?_⟩
      refine cov_c (td := td) (N := N) hn1 (by omega) (n - 1) 1 12 (fun _ => 0) 16777216 ms G' _ (by omega) (by omega) (by omega) ⟨rfl, fun i hi => absurd hi (by omega), Nat.zero_le _⟩ (fun i hi => by rw [show i = 0 by omega]; exact e0) ⟨by decide, fun b => ?_⟩ hs (fun x e G2 f2 hr => ⟨fun z => absurd z (by decide), fun _ => h1 n x hn1 (by omega) hk e G2 (f.tr f2) hr⟩) (fun e G2 f2 hr => ⟨fun _ => ?_, fun z => absurd rfl z⟩)
      · rw [show (16777216 : Nat) = 2 ^ 24 from rfl, Nat.testBit_two_pow, decide_eq_true_iff]
        exact ⟨fun e => ⟨0, by omega, e⟩, fun ⟨j, _, e⟩ => e⟩
      · rw [nI_1]
        refine ih (n + 1) G2 (by omega) (by omega) (f.tr f2) (hr 0 (by omega)) (fun k k1 k2 => ?_)
        by_cases c : k = n
        · rw [c]; exact e
        · exact hk k k1 (by omega)
  exact ⟨6, key 5 1 _ (by omega) (by omega) ((FR.rf _ G).gu _ (by decide)) rfl (fun k k1 k2 => absurd k2 (by omega))⟩
end COV
section STF
variable {G : GS} {K : Int32 → Int32 → GS → Prop}
theorem told_of {G : GS} (hI : Inv G) : ∃ N td, TC_ G N td ∧ TR_ G N td := by
  obtain ⟨⟨hA, hB, hC, hD, hE, hF, hG, hH, hIt, hJ, ⟨n, a1, a2, a3, a4⟩, hr⟩, hrest⟩ := hI
  have a3 : G 49 39 = nI n := a3
  have key : ∀ q, q < n → 1 ≤ (G 8 q).toNatClampNeg ∧ (G 8 q).toNatClampNeg ≤ 24 ∧ G 8 q = nI (G 8 q).toNatClampNeg ∧ G 70 q = nI (G 8 q).toNatClampNeg := fun q hq => by
    obtain ⟨v, b1, b2, b3, b4⟩ := a4 q hq
    have b4 : G 70 q = nI v := b4
    rw [b3, nI_clamp (by omega)]
    exact ⟨b1, b2, rfl, b4⟩
  exact ⟨n, fun q => (G 8 q).toNatClampNeg, ⟨a1, a2, fun q hq => ⟨(key q hq).1, (key q hq).2.1, (key q hq).2.2.1⟩⟩, ⟨a1, a3, fun q hq => ⟨(key q hq).1, (key q hq).2.1, (key q hq).2.2.2⟩⟩⟩
set_option maxHeartbeats 1000000 in
theorem st_fewest (a : Int32) (hI : Inv G) (hK : ∀ r G2, Inv G2 → K r r G2) : wp_X9_fewest a G (fun r G1 => wp_X10_fewest a G1 (fun r' G2 => K r r' G2)) := by
  have hN : Inv (gu_ G 49 0 0) := hI.sc (Sc.rf G).t0
  obtain ⟨N, td, tc, tr⟩ := told_of hI
  have main : (a = 0 ∨ ∃ i, i < 5 ∧ a = nI (10 + i) ∧ a - 10 = nI i ∧ ¬ a = 0) → bk_X9_fewest_14 (fun r G1 => wp_X10_fewest a G1 (fun r' G2 => K r r' G2)) a G := by
    intro ha
    have lead : ∀ (G1 : GS) (K2 : Int32 → GS → Prop), bk_X10_fewest_23 K2 a (gu_ G1 49 0 0) → wp_X10_fewest a G1 K2 := by
      intro G1 K2 h
      refine ⟨fun _ => h, fun n0 => ?_⟩
      rcases ha with e | ⟨i, hi, e, -, -⟩
      · exact absurd e n0
      · exact inr_r (n := 5) (by omega) (fun _ _ _ _ => ⟨fun _ => h, fun z => absurd z (by decide)⟩) (fun hno => absurd e (hno i hi))
    refine tol_c tc (fun ms hms => lea_c hms (fun n x hn hn5 hk e G1 f1 r1 => ?_) (fun hk G1 f1 => ?_))
    · have tr1 : TR_ (gu_ G1 49 0 0) N td := by
        obtain ⟨t1, t2, t3⟩ := tr
        refine ⟨t1, ?_, fun q hq => ?_⟩
        · show G1 49 39 = _
          rw [f1 49 (by decide)]; exact t2
        · show _ ∧ _ ∧ G1 70 q = _
          rw [f1 70 (by decide)]; exact t3 q hq
      have fin : ∀ G2, FR [71, 72] (gu_ G1 49 0 0) G2 → Inv G2 := fun G2 f2 => hI.sc (((Sc.fr f1 (by decide)).t0).tr (Sc.fr f2 (by decide)))
      have ref : ∀ r : Int32, (∀ G2, FR [71, 72] (gu_ G1 49 0 0) G2 → RW_ n x G2 → ((¬ a = 0 → ((nI n ≤ (a - (10 : Int32)) → K r (-1 : Int32) G2) ∧ (¬ nI n ≤ (a - (10 : Int32)) → (vp_in (a - (10 : Int32)) 6 ∧ K r (G2 71 ((a - (10 : Int32)).toNatClampNeg)) G2)))) ∧ (a = 0 → K r (nI n) G2))) → wp_X10_fewest a G1 (fun r' G2 => K r r' G2) := by
        intro r h
        refine lead G1 _ (few_r tr1 (fun n' x' hn' hn5' hk' e' G2 f2 r2 => ?_) (fun hk' => ?_))
        · have en : n' = n := by
            rcases Nat.lt_trichotomy n' n with h | h | h
            · exact absurd ((hk n' hn' h).symm.trans e') (by simp)
            · exact h
            · exact absurd ((hk' n hn h).symm.trans e) (by simp)
          subst en
          have ex : x' = x := Option.some.inj (e'.symm.trans e)
          subst ex
          exact h G2 f2 r2
        · exact absurd ((hk' n hn (by omega)).symm.trans e) (by simp)
      refine ⟨fun n0 => ?_, fun e0 => ref _ (fun G2 f2 r2 => ⟨fun z => absurd e0 z, fun _ => hK _ _ (fin G2 f2)⟩)⟩
      rcases ha with e0 | ⟨i, hi, ei, e10, -⟩
      · exact absurd e0 n0
      refine inr_c (n := n) (by omega) (fun i2 hi2 ei2 e102 => ⟨fun z => absurd z (by decide), fun _ => ?_⟩) (fun hno => ⟨fun _ => ?_, fun z => absurd rfl z⟩)
      · have : i2 = i := (nI_eq (by omega) (by omega)).mp (e102.symm.trans e10)
        subst this
        rw [e10, nI_clamp (by omega), r1 i2 hi2]
        refine ⟨vp_in_nI (by omega) (by omega), ref _ (fun G2 f2 r2 => ⟨fun _ => ?_, fun z => absurd z n0⟩)⟩
        rw [e10, nI_clamp (by omega), r2 i2 hi2]
        exact ⟨fun z => absurd z (nI_ge hi2 (by omega)), fun _ => ⟨vp_in_nI (by omega) (by omega), hK _ _ (fin G2 f2)⟩⟩
      · refine ref _ (fun G2 f2 r2 => ⟨fun _ => ?_, fun z => absurd z n0⟩)
        rw [e10]
        refine ⟨fun _ => hK _ _ (fin G2 f2), fun z => absurd ?_ z⟩
        rcases Nat.lt_or_ge i n with h | h
        · exact absurd ei (hno i h)
        · exact nI_le h (by omega)
    · have tr1 : TR_ (gu_ G1 49 0 0) N td := by
        obtain ⟨t1, t2, t3⟩ := tr
        refine ⟨t1, ?_, fun q hq => ?_⟩
        · show G1 49 39 = _
          rw [f1 49 (by decide)]; exact t2
        · show _ ∧ _ ∧ G1 70 q = _
          rw [f1 70 (by decide)]; exact t3 q hq
      have fin : ∀ G2, FR [71, 72] (gu_ G1 49 0 0) G2 → Inv G2 := fun G2 f2 => hI.sc (((Sc.fr f1 (by decide)).t0).tr (Sc.fr f2 (by decide)))
      have ref : wp_X10_fewest a G1 (fun r' G2 => K (-1) r' G2) := by
        refine lead G1 _ (few_r tr1 (fun n' x' hn' hn5' hk' e' => ?_) (fun _ G2 f2 => ⟨fun n0 => ?_, fun _ => hK _ _ (fin G2 f2)⟩))
        · exact absurd ((hk n' hn' (by omega)).symm.trans e') (by simp)
        · rcases ha with e0 | ⟨i, hi, ei, e10, -⟩
          · exact absurd e0 n0
          rw [e10]
          refine ⟨fun _ => hK _ _ (fin G2 f2), fun z => absurd ?_ z⟩
          exact Int32.le_trans (show (-1 : Int32) ≤ 0 by decide) (nI_pos' (by omega))
      refine ⟨fun n0 => ?_, fun _ => ref⟩
      rcases ha with e0 | ⟨i, hi, ei, e10, -⟩
      · exact absurd e0 n0
      refine ⟨fun _ => ⟨fun _ => ref, fun z => absurd rfl z⟩, fun _ => ⟨fun _ => ⟨fun _ => ref, fun z => absurd rfl z⟩, fun z => absurd ?_ z⟩⟩
      rw [e10]
      exact Int32.le_trans (show (-1 : Int32) ≤ 0 by decide) (nI_pos' (by omega))
  refine ⟨fun e => main (Or.inl e), fun n0 => ?_⟩
  refine inr_c (n := 5) (by omega) (fun i hi e e10 => ⟨fun _ => main (Or.inr ⟨i, hi, e, e10, n0⟩), fun z => absurd z (by decide)⟩) (fun hno => ⟨fun z => absurd rfl z, fun _ => ?_⟩)
  exact ⟨fun z => absurd z n0, fun _ => inr_r (n := 5) (by omega) (fun i hi e _ => absurd e (hno i hi)) (fun _ => ⟨fun z => absurd rfl z, fun _ => hK _ _ hN⟩)⟩
end STF
