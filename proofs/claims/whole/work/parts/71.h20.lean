/-! sums -/
theorem smN_z : ∀ k, smN (fun _ => 0) k = 0
  | 0 => rfl
  | k + 1 => by show smN (fun _ => 0) k + 0 = 0; rw [smN_z k]
theorem smN_co (f : Nat → Nat → Nat) (m : Nat) : ∀ k, smN (fun w => smN (fun j => f w j) m) k = smN (fun j => smN (fun w => f w j) k) m
  | 0 => by show 0 = smN (fun j => 0) m; rw [smN_z]
  | k + 1 => by
    show smN (fun w => smN (fun j => f w j) m) k + smN (fun j => f k j) m = smN (fun j => smN (fun w => f w j) k + f k j) m
    rw [smN_co f m k, smN_add]
theorem smN_1 {c : Nat} : ∀ k, smN (fun w => if c = w then 1 else 0) k = if c < k then 1 else 0
  | 0 => by show 0 = _; rw [if_neg (by omega)]
  | k + 1 => by
    show smN (fun w => if c = w then 1 else 0) k + (if c = k then 1 else 0) = _
    rw [smN_1 k]
    by_cases h1 : c < k
    · rw [if_pos h1, if_neg (by omega), if_pos (by omega)]
    · by_cases h2 : c = k
      · rw [if_neg h1, if_pos h2, if_pos (by omega)]
      · rw [if_neg h1, if_neg h2, if_neg (by omega)]
theorem smN_c (c : Nat) : ∀ k, smN (fun _ => c) k = k * c
  | 0 => by show 0 = 0 * c; rw [Nat.zero_mul]
  | k + 1 => by show smN (fun _ => c) k + c = _; rw [smN_c c k, Nat.succ_mul]
theorem smN_mo {f g : Nat → Nat} : ∀ k, (∀ i, i < k → f i ≤ g i) → smN f k ≤ smN g k
  | 0, _ => Nat.le_refl _
  | k + 1, h => by
    show smN f k + f k ≤ smN g k + g k
    have h1 := smN_mo k (fun i hi => h i (by omega))
    have h2 := h k (by omega)
    omega
theorem smN_eq {f g : Nat → Nat} : ∀ k, (∀ i, i < k → f i ≤ g i) → smN f k = smN g k → ∀ i, i < k → f i = g i
  | 0, _, _, i, hi => absurd hi (by omega)
  | k + 1, h, e, i, hi => by
    have e : smN f k + f k = smN g k + g k := e
    have h1 := smN_mo k (fun i hi => h i (by omega))
    have h2 := h k (by omega)
    by_cases c : i = k
    · rw [c]; omega
    · exact smN_eq k (fun i hi => h i (by omega)) (by omega) i (by omega)
theorem dc_s (row : Nat → Nat) (k w : Nat) : dc_ row (k + 1) w = dc_ row k w + smN (fun j => if row k - row j = w then 1 else 0) k := rfl
theorem dc_cg {row row' : Nat → Nat} : ∀ k, (∀ i, i < k → row i = row' i) → ∀ w, dc_ row k w = dc_ row' k w
  | 0, _, _ => rfl
  | k + 1, h, w => by
    rw [dc_s, dc_s, dc_cg k (fun i hi => h i (by omega)) w]
    congr 1
    refine smN_cg k (fun j hj => ?_)
    rw [h k (by omega), h j (by omega)]
theorem sd_ {row : Nat → Nat} : ∀ m, (∀ i, i < m → row i ≤ 24) → 2 * smN (fun w => dc_ row m w) 25 = m * (m - 1)
  | 0, _ => by
    have : smN (fun w => dc_ row 0 w) 25 = 0 := smN_z 25
    rw [this]
  | m + 1, h => by
    have ih := sd_ (row := row) m (fun i hi => h i (by omega))
    have e : smN (fun w => dc_ row (m + 1) w) 25 = smN (fun w => dc_ row m w) 25 + m := by
      have e1 : smN (fun w => dc_ row (m + 1) w) 25 = smN (fun w => dc_ row m w + smN (fun j => if row m - row j = w then 1 else 0) m) 25 := rfl
      rw [e1, smN_add]
      congr 1
      rw [smN_co (fun w j => if row m - row j = w then 1 else 0) m 25]
      have : smN (fun j => smN (fun w => if row m - row j = w then 1 else 0) 25) m = smN (fun _ => 1) m := by
        refine smN_cg m (fun j hj => ?_)
        rw [smN_1, if_pos (by have := h m (by omega); omega)]
      rw [this, smN_c, Nat.mul_one]
    rw [e, Nat.mul_add, ih]
    cases m with
    | zero => rfl
    | succ m =>
      rw [show m + 1 + 1 - 1 = m + 1 by omega, show m + 1 - 1 = m by omega]
      simp only [Nat.succ_mul, Nat.mul_succ]
      omega
/-- rising tones, 24 at most -/
def QV_ (k : Nat) (row : Nat → Nat) : Prop := row 0 = 0 ∧ (∀ i, i + 1 < k → row i < row (i + 1)) ∧ row (k - 1) ≤ 24
theorem QV_.lt {k : Nat} {row : Nat → Nat} (h : QV_ k row) {i j : Nat} (hj : j < i) (hi : i < k) : row j < row i := PV_lt (n := k) (most := 24) ⟨h.1, h.2.1, by have := h.2.2; omega⟩ hj hi
theorem QV_.le {k : Nat} {row : Nat → Nat} (h : QV_ k row) {i : Nat} (hi : i < k) : row i ≤ 24 := by
  by_cases c : i = k - 1
  · rw [c]; exact h.2.2
  · have := h.lt (show i < k - 1 by omega) (by omega)
    have := h.2.2
    omega
theorem QV_.up {k t : Nat} {row : Nat → Nat} (h : QV_ k row) (hk : 1 ≤ k) (h1 : row (k - 1) < t) (h2 : t ≤ 24) : QV_ (k + 1) (at_ k t row) := by
  have := PV_.up (n := k + 1) (most := 24) (k := k) (row := row) ⟨h.1, h.2.1, by omega⟩ hk h1 (by omega)
  exact ⟨this.1, this.2.1, by have := this.2.2; omega⟩
theorem QV_.ex {n : Nat} {row : Nat → Nat} (h : QV_ n row) (hn : 1 ≤ n) : QV_ n (ex_ n row) := by
  have := PV_.ex (n := n) (most := 24) (row := row) ⟨h.1, h.2.1, by have := h.2.2; omega⟩ hn
  exact ⟨this.1, this.2.1, by have := this.2.2; omega⟩
theorem fz_no {g : Nat → Option (Nat → Nat)} : ∀ c t, (∀ i, t ≤ i → i < t + c → g i = none) → fz_ g c t = none
  | 0, _, _ => rfl
  | c + 1, t, h => by
    unfold fz_
    rw [h t (Nat.le_refl _) (by omega)]
    exact fz_no c (t + 1) (fun i h1 h2 => h i (by omega) (by omega))
theorem fz_mo {g : Nat → Option (Nat → Nat)} : ∀ c t d, (∀ i, t + c ≤ i → i < t + c + d → g i = none) → fz_ g (c + d) t = fz_ g c t
  | 0, t, d, h => by
    rw [Nat.zero_add]
    exact fz_no d t (fun i h1 h2 => h i (by omega) (by omega))
  | c + 1, t, d, h => by
    rw [show c + 1 + d = c + d + 1 by omega]
    unfold fz_
    rw [fz_mo c (t + 1) d (fun i h1 h2 => h i (by omega) (by omega))]
/-- no row that goes on has it -/
theorem fs_no {B : (Nat → Nat) → Bool} {n : Nat} (hn : 1 ≤ n) : ∀ (r k : Nat) (row : Nat → Nat), k + r = n → 1 ≤ k → QV_ k row → (∀ x, QV_ n x → (∀ j, j < k → x j = row j) → B x = false) → fs_ B n 24 r row = none
  | 0, k, row, hk, hk1, hq, h => by
    have : k = n := by omega
    subst this
    unfold fs_
    rw [h (ex_ k row) (hq.ex hn) (fun j hj => if_pos hj)]
    rfl
  | r + 1, k, row, hk, hk1, hq, h => by
    have ek : n - (r + 1) = k := by omega
    unfold fs_
    rw [ek]
    refine fz_no _ _ (fun t h1 h2 => ?_)
    refine fs_no hn r (k + 1) (at_ k t row) (by omega) (by omega) (hq.up hk1 (by omega) (by omega)) (fun x hx he => h x hx (fun j hj => ?_))
    rw [he j (by omega), at_n _ _ (by omega)]
/-- all told words are between some two -/
def ha_ (td : Nat → Nat) (row : Nat → Nat) (n : Nat) : Nat → Bool
  | 0 => true
  | k + 1 => ha_ td row n k && !(Nat.beq (dc_ row n (td k)) 0)
theorem ha_iff {td row : Nat → Nat} {n : Nat} : ∀ k, ha_ td row n k = true ↔ ∀ q, q < k → dc_ row n (td q) ≠ 0
  | 0 => ⟨fun _ v hv => absurd hv (by omega), fun _ => rfl⟩
  | k + 1 => by
    unfold ha_
    rw [Bool.and_eq_true, ha_iff k, Bool.not_eq_true', Bool.eq_false_iff]
    constructor
    · intro h v hv
      by_cases c : v = k
      · rw [c]; intro z; exact h.2 (by rw [z]; rfl)
      · exact h.1 v (by omega)
    · intro h
      exact ⟨fun v hv => h v (by omega), fun z => h k (by omega) (Nat.eq_of_beq_eq_true z)⟩
def few_ (td : Nat → Nat) (N n : Nat) : Option (Nat → Nat) := fs_ (fun row => ha_ td row n N) n 24 (n - 1) (fun _ => 0)
/-- the told words, by the reference -/
def TR_ (G : GS) (N : Nat) (td : Nat → Nat) : Prop := N ≤ 15 ∧ G 49 39 = nI N ∧ ∀ q, q < N → 1 ≤ td q ∧ td q ≤ 24 ∧ G 70 q = nI (td q)
section FEW
variable {Q : Int32 → GS → Prop} {G : GS} {n N : Nat} {row td : Nat → Nat}
theorem hat_r (hn6 : n ≤ 6) (hv : PV_ n 24 n row) (hr : RW_ n row G) (ht : TR_ G N td) (h1 : ha_ td row n N = true → ∀ G', FR [72] G G' → Q 1 G') (h0 : ha_ td row n N = false → ∀ G', FR [72] G G' → Q 0 G') : wp_X10_haveAllTold (nI n) G Q := by
  refine cnw_r hn6 (by omega) hv hr (fun G' f h => ⟨N + 1, ?_⟩)
  obtain ⟨t1, t2, t3⟩ := ht
  have e49 : G' 49 39 = nI N := by rw [f 49 (by decide)]; exact t2
  have key : ∀ (r q : Nat), q + r = N → (∀ v, v < q → dc_ row n (td v) ≠ 0) → lp_X10_haveAllTold_7 Q (r + 1) (nI q) G' := by
    intro r
    induction r with
    | zero =>
      intro q hq hd
      have : q = N := by omega
      subst this
      refine ⟨fun _ => h1 ((ha_iff q).mpr hd) G' f, fun z => absurd ?_ z⟩
      rw [e49]; exact Int32.le_refl _
    | succ r ih =>
      intro q hq hd
      obtain ⟨a1, a2, a3⟩ := t3 q (by omega)
      have := dc_le row n (td q) hn6
      have e70 : G' 70 (nI q).toNatClampNeg = nI (td q) := by rw [nI_clamp (by omega), f 70 (by decide)]; exact a3
      refine ⟨fun z => absurd z ?_, fun _ => ⟨vp_in_nI (by omega) (by omega), ?_⟩⟩
      · rw [e49]; exact nI_ge (by omega) (by omega)
      rw [e70, nI_clamp (by omega), h _ (by omega), nI_1]
      refine ⟨vp_in_nI (by omega) (by omega), fun z => ih (q + 1) (by omega) (fun v hv => ?_), fun z => h0 ?_ G' f⟩
      · by_cases c : v = q
        · rw [c]; intro y; exact z (by rw [y]; rfl)
        · exact hd v (by omega)
      · rw [Bool.eq_false_iff]
        intro y
        exact (ha_iff N).mp y q (by omega) ((nI_eq (b := 0) (by omega) (by omega)).mp z)
  exact key N 0 (by omega) (fun v hv => absurd hv (by omega))
theorem TR_.cg {G' : GS} (h : TR_ G N td) {L : List Nat} (f : FR L G G') (hl : 49 ∉ L ∧ 70 ∉ L) : TR_ G' N td := by
  obtain ⟨t1, t2, t3⟩ := h
  refine ⟨t1, by rw [f 49 hl.1]; exact t2, fun q hq => ?_⟩
  rw [f 70 hl.2]; exact t3 q hq
theorem ex1_ : ex_ 1 (fun _ => 0) = fun i => i := by
  funext j
  unfold ex_
  by_cases c : j < 1
  · rw [if_pos c]; show 0 = j; omega
  · rw [if_neg c]; show 0 + 1 + (j - 1) = j; omega
set_option maxHeartbeats 1000000 in
theorem fwn_r (hn : 1 ≤ n) (hn5 : n ≤ 5) (ht : TR_ G N td) {R : Int32 → GS → Prop} (hf : ∀ x, few_ td N n = some x → ∀ G', FR [71, 72] G G' → RW_ n x G' → Q (nI n) G') (hg : few_ td N n = none → ∀ G', FR [71, 72] G G' → R (nI (n + 1)) G') :
    wp_X10_firstRow (nI n) G (fun _ G2 => ∃ kf, lp_X10_fewestTones_14 Q R kf (nI n) 1 G2) := by
  refine fir_r (by omega) (fun G1 f1 r1 => ?_)
  have main := enu_ (S := Option (Nat → Nat)) (step := sp_ (fun row => ha_ td row n N)) (n := n) (most := 24)
    (Lp := fun row s => match s with
      | some x => ∀ G', FR [71, 72] G G' → RW_ n x G' → Q (nI n) G'
      | none => ∃ kf, ∀ G', FR [71, 72] G G' → RW_ n row G' → lp_X10_fewestTones_14 Q R kf (nI n) 1 G')
    (Fin := fun s => match s with
      | some x => ∀ G', FR [71, 72] G G' → RW_ n x G' → Q (nI n) G'
      | none => ∀ G', FR [71, 72] G G' → R (nI (n + 1)) G')
    hn ?_ (n - 1) 1 (fun _ => 0) none (by omega) (by omega) ⟨rfl, fun i hi => absurd hi (by omega), by show 0 + (n - 1) ≤ 24; omega⟩ ?_ ?_
  · rw [ex1_] at main
    obtain ⟨kf, hk⟩ := main
    exact ⟨kf, hk G1 (f1.sub (by decide)) r1⟩
  · intro row s hv z0 z1
    cases s with
    | some x =>
      cases e : nr_ n 24 row (n - 1) with
      | none => exact z0 e
      | some row' => exact z1 row' e
    | none =>
      by_cases hb : ha_ td row n N = true
      · have es : sp_ (fun row => ha_ td row n N) row none = some row := by
          show (if ha_ td row n N = true then some row else none) = some row
          rw [if_pos hb]
        rw [es] at z0 z1
        have fin : ∀ G', FR [71, 72] G G' → RW_ n row G' → Q (nI n) G' := by
          cases e : nr_ n 24 row (n - 1) with
          | none => exact z0 e
          | some row' => exact z1 row' e
        exact ⟨1, fun G' f hr => ⟨fun z => absurd z (by decide), fun _ => hat_r (by omega) hv hr (ht.cg f (by decide)) (fun _ G2 f2 => ⟨fun z => absurd z (by decide), fun _ => fin G2 (f.tr (f2.sub (by decide))) (fun i hi => by rw [f2 71 (by decide)]; exact hr i hi)⟩) (fun h => absurd (hb.symm.trans h) (by decide))⟩⟩
      · have hb : ha_ td row n N = false := Bool.eq_false_iff.mpr hb
        have es : sp_ (fun row => ha_ td row n N) row none = none := by
          show (if ha_ td row n N = true then some row else none) = none
          rw [hb]; rfl
        rw [es] at z0 z1
        have nx : ∃ kf, ∀ G2, FR [71, 72] G G2 → RW_ n row G2 → wp_X10_nextRow (nI n) 24 G2 (fun r4 G5 => lp_X10_fewestTones_14 Q R kf (nI n) r4 G5) := by
          cases e : nr_ n 24 row (n - 1) with
          | none =>
            refine ⟨1, fun G2 f2 hr2 => nex_r (most := 24) hn (by omega) (by omega) hv hr2 (fun _ => ⟨fun _ => ?_, fun z => absurd rfl z⟩) (fun row' G3 e3 _ _ => absurd (e.symm.trans e3) (by simp))⟩
            rw [nI_1]
            exact z0 e G2 f2
          | some row' =>
            obtain ⟨kf, hk⟩ := z1 row' e
            refine ⟨kf, fun G2 f2 hr2 => nex_r (most := 24) hn (by omega) (by omega) hv hr2 (fun e0 => absurd (e.symm.trans e0) (by simp)) (fun row2 G3 e3 f3 h3 => ?_)⟩
            have : row2 = row' := Option.some.inj (e3.symm.trans e)
            subst this
            exact hk G3 (f2.tr (f3.sub (by decide))) h3
        obtain ⟨kf, hk⟩ := nx
        exact ⟨kf + 1, fun G' f hr => ⟨fun z => absurd z (by decide), fun _ => hat_r (by omega) hv hr (ht.cg f (by decide)) (fun h => absurd (h.symm.trans hb) (by decide)) (fun _ G2 f2 => ⟨fun _ => hk G2 (f.tr (f2.sub (by decide))) (fun i hi => by rw [f2 71 (by decide)]; exact hr i hi), fun z => absurd rfl z⟩)⟩⟩
  · intro _
    rw [fo_none]
    cases e : fs_ (fun row => ha_ td row n N) n 24 (n - 1) (fun _ => 0) with
    | none => exact hg e
    | some x => exact hf x e
  · intro row' z
    exact absurd z (by show ¬ none = some row'; simp)
theorem few_r (ht : TR_ G N td) (h1 : ∀ n x, 1 ≤ n → n ≤ 5 → (∀ k, 1 ≤ k → k < n → few_ td N k = none) → few_ td N n = some x → ∀ G', FR [71, 72] G G' → RW_ n x G' → Q (nI n) G') (h0 : (∀ k, 1 ≤ k → k < 6 → few_ td N k = none) → ∀ G', FR [71, 72] G G' → Q (-1) G') : wp_X10_fewestTones G Q := by
  have key : ∀ (r n : Nat) (G' : GS), n + r = 6 → 1 ≤ n → FR [71, 72] G G' → (∀ k, 1 ≤ k → k < n → few_ td N k = none) → lp_X10_fewestTones_2 Q (r + 1) (nI n) G' := by
    intro r
    induction r with
    | zero =>
      intro n G' hn hn1 f hk
      have : n = 6 := by omega
      subst this
      exact ⟨fun _ => h0 hk G' f, fun z => absurd (by decide) z⟩
    | succ r ih =>
      intro n G' hn hn1 f hk
      refine ⟨fun z => absurd z (nI_nlt (a := 5) (by omega) (by omega)), fun _ => ?_⟩
      refine fwn_r (N := N) (td := td) hn1 (by omega) (ht.cg f (by decide)) (fun x e G2 f2 hr => h1 n x hn1 (by omega) hk e G2 (f.tr f2) hr) (fun e G2 f2 => ih (n + 1) G2 (by omega) (by omega) (f.tr f2) (fun k k1 k2 => ?_))
      by_cases c : k = n
      · rw [c]; exact e
      · exact hk k k1 (by omega)
  exact ⟨6, key 5 1 G (by omega) (by omega) (FR.rf _ _) (fun k k1 k2 => absurd k2 (by omega))⟩
end FEW
