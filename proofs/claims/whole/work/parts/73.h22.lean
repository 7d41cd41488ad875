/-! rows whose words are just told -/
def tc_ct (td : Nat → Nat) (N w : Nat) : Nat := smN (fun q => if td q = w then 1 else 0) N
def jb_ (td : Nat → Nat) (N : Nat) (row : Nat → Nat) (n : Nat) : Nat → Bool
  | 0 => true
  | w + 1 => jb_ td N row n w && Nat.beq (dc_ row n w) (tc_ct td N w)
theorem jb_iff {td row : Nat → Nat} {N n : Nat} : ∀ w, jb_ td N row n w = true ↔ ∀ v, v < w → dc_ row n v = tc_ct td N v
  | 0 => ⟨fun _ v hv => absurd hv (by omega), fun _ => rfl⟩
  | w + 1 => by
    unfold jb_
    rw [Bool.and_eq_true, jb_iff w]
    constructor
    · intro h v hv
      by_cases c : v = w
      · rw [c]; exact Nat.eq_of_beq_eq_true h.2
      · exact h.1 v (by omega)
    · intro h
      exact ⟨fun v hv => h v (by omega), by rw [h w (by omega)]; exact Nat.beq_refl _⟩
abbrev FS : Type := Int32 × (Nat → Nat)
def sf2_ (B : (Nat → Nat) → Bool) (row : Nat → Nat) (s : FS) : FS := if B row then (s.1 + 1, if s.1 = 0 then row else s.2) else s
theorem lo_id {S : Type} {g : Nat → S → S} {s : S} : ∀ c t, (∀ i, t ≤ i → i < t + c → g i s = s) → lo_ g c t s = s
  | 0, _, _ => rfl
  | c + 1, t, h => by
    unfold lo_
    rw [h t (Nat.le_refl _) (by omega)]
    exact lo_id c (t + 1) (fun i h1 h2 => h i (by omega) (by omega))
theorem lo_mo {S : Type} {g : Nat → S → S} : ∀ c t d (s : S), (∀ i s, t + c ≤ i → i < t + c + d → g i s = s) → lo_ g (c + d) t s = lo_ g c t s
  | 0, t, d, s, h => by
    rw [Nat.zero_add]
    exact lo_id d t (fun i h1 h2 => h i s (by omega) (by omega))
  | c + 1, t, d, s, h => by
    rw [show c + 1 + d = c + d + 1 by omega]
    unfold lo_
    rw [lo_mo c (t + 1) d _ (fun i s h1 h2 => h i s (by omega) (by omega))]
theorem fo_no {B : (Nat → Nat) → Bool} {n : Nat} (hn : 1 ≤ n) : ∀ (r k : Nat) (row : Nat → Nat) (s : FS), k + r = n → 1 ≤ k → QV_ k row → (∀ x, QV_ n x → (∀ j, j < k → x j = row j) → B x = false) → fo_ (sf2_ B) n 24 r row s = s
  | 0, k, row, s, hk, hk1, hq, h => by
    have : k = n := by omega
    subst this
    show (if B (ex_ k row) = true then _ else s) = s
    rw [h (ex_ k row) (hq.ex hn) (fun j hj => if_pos hj)]
    rfl
  | r + 1, k, row, s, hk, hk1, hq, h => by
    have ek : n - (r + 1) = k := by omega
    unfold fo_
    rw [ek]
    refine lo_id _ _ (fun t h1 h2 => ?_)
    refine fo_no hn r (k + 1) (at_ k t row) s (by omega) (by omega) (hq.up hk1 (by omega) (by omega)) (fun x hx he => h x hx (fun j hj => ?_))
    rw [he j (by omega), at_n _ _ (by omega)]
theorem tcs_ {td : Nat → Nat} {N : Nat} (h : ∀ q, q < N → td q ≤ 24) : smN (fun w => tc_ct td N w) 25 = N := by
  have e : smN (fun w => tc_ct td N w) 25 = smN (fun q => smN (fun w => if td q = w then 1 else 0) 25) N := smN_co (fun w q => if td q = w then 1 else 0) N 25
  rw [e]
  have : smN (fun q => smN (fun w => if td q = w then 1 else 0) 25) N = smN (fun _ => 1) N := by
    refine smN_cg N (fun q hq => ?_)
    rw [smN_1, if_pos (by have := h q hq; omega)]
  rw [this, smN_c, Nat.mul_one]
theorem tc_0 {td : Nat → Nat} {N w : Nat} (h : ∀ q, q < N → td q ≤ 24) (hw : 25 ≤ w) : tc_ct td N w = 0 := by
  refine (sm_0 N).mpr (fun q hq => ?_)
  show (if td q = w then 1 else 0) = 0
  rw [if_neg (by have := h q hq; omega)]
theorem dc_0 {row : Nat → Nat} {w : Nat} (hw : 25 ≤ w) : ∀ k, (∀ i, i < k → row i ≤ 24) → dc_ row k w = 0
  | 0, _ => rfl
  | k + 1, h => by
    rw [dc_s, dc_0 hw k (fun i hi => h i (by omega)), Nat.zero_add]
    refine (sm_0 k).mpr (fun j hj => ?_)
    show (if row k - row j = w then 1 else 0) = 0
    rw [if_neg (by have := h k (by omega); omega)]
/-- as many, none too often: just told -/
theorem jb_all {td row : Nat → Nat} {N n : Nat} (hq : QV_ n row) (ht : ∀ q, q < N → td q ≤ 24) (hN : n * (n - 1) = 2 * N) (h : ∀ w, w < 25 → dc_ row n w ≤ tc_ct td N w) : jb_ td N row n 61 = true := by
  have e1 := sd_ (row := row) n (fun i hi => hq.le hi)
  have e2 := tcs_ ht
  have e3 := smN_eq (f := fun w => dc_ row n w) (g := fun w => tc_ct td N w) 25 h (by omega)
  refine (jb_iff 61).mpr (fun v hv => ?_)
  rcases Nat.lt_or_ge v 25 with c | c
  · exact e3 v c
  · rw [tc_0 ht c, dc_0 c n (fun i hi => hq.le hi)]
def FF_ (c n : Nat) (s : FS) (G : GS) : Prop := s.1 ≠ 0 → ∀ i, i < n → G c i = nI (s.2 i)
section JUS
variable {Q : Int32 → GS → Prop} {G : GS} {n N : Nat} {row td : Nat → Nat}
theorem sb1_ (a : Int32) (t : Nat) : a - nI t - 1 = a - nI (t + 1) := by
  rw [← nI_1]
  generalize nI t = b
  grind
set_option maxHeartbeats 1000000 in
theorem jus_r (hn6 : n ≤ 6) (hN : (nI n * (nI n - 1)) / 2 = nI N) (hv : PV_ n 24 n row) (hr : RW_ n row G) (ht : TR_ G N td) (h1 : jb_ td N row n 61 = true → ∀ G', FR [72] G G' → Q 1 G') (h0 : jb_ td N row n 61 = false → ∀ G', FR [72] G G' → Q 0 G') : wp_X10_areJustTold (nI n) G Q := by
  obtain ⟨t1, t2, t3⟩ := ht
  have tle : ∀ w, tc_ct td N w ≤ 15 := fun w => by
    have := smN_le (f := fun q => if td q = w then 1 else 0) (c := 1) (fun q => ite1 _) N
    unfold tc_ct; omega
  unfold wp_X10_areJustTold
  rw [hN, t2]
  refine ⟨fun _ => cnw_r hn6 (by omega) hv hr (fun G1 f1 c1 => ⟨N + 1, ?_⟩), fun z => absurd rfl z⟩
  have k2 : ∀ G', FR [72] G G' → (∀ w, w < 61 → G' 72 w = nI (dc_ row n w) - nI (tc_ct td N w)) → ∀ (r w : Nat), w + r = 61 → (∀ v, v < w → dc_ row n v = tc_ct td N v) → lp_X10_areJustTold_63 Q (r + 1) (nI w) G' := by
    intro G' f h r
    induction r with
    | zero =>
      intro w hw hd
      have : w = 61 := by omega
      subst this
      exact ⟨fun _ => h1 ((jb_iff 61).mpr hd) G' f, fun z => absurd (Int32.le_refl _) z⟩
    | succ r ih =>
      intro w hw hd
      have d1 := dc_le row n w hn6
      have d2 := tle w
      have ez : nI (dc_ row n w) - nI (tc_ct td N w) = 0 ↔ dc_ row n w = tc_ct td N w := by
        rw [iQ, pk_sub_toInt (by omega) (by omega), show (0 : Int32).toInt = 0 from by decide]
        omega
      refine ⟨fun z => absurd z (nI_ge (b := 61) (by omega) (by omega)), fun _ => ⟨vp_in_nI (by omega) (by omega), ?_⟩⟩
      rw [nI_clamp (by omega), h w (by omega), nI_1, ez]
      refine ⟨fun z => ih (w + 1) (by omega) (fun v hv => ?_), fun z => h0 ?_ G' f⟩
      · by_cases c : v = w
        · rw [c]; exact z
        · exact hd v (by omega)
      · rw [Bool.eq_false_iff]
        intro y
        exact z ((jb_iff 61).mp y w (by omega))
  have k1 : ∀ (r q : Nat) (G' : GS), q + r = N → FR [72] G G' → (∀ w, w < 61 → G' 72 w = nI (dc_ row n w) - nI (tc_ct td q w)) → lp_X10_areJustTold_23 Q (r + 1) (nI q) G' := by
    intro r
    induction r with
    | zero =>
      intro q G' hq f h
      have : q = N := by omega
      subst this
      refine ⟨fun _ => ⟨62, k2 G' f h 61 0 (by omega) (fun v hv => absurd hv (by omega))⟩, fun z => absurd ?_ z⟩
      rw [f 49 (by decide), t2]; exact Int32.le_refl _
    | succ r ih =>
      intro q G' hq f h
      obtain ⟨a1, a2, a3⟩ := t3 q (by omega)
      have e70 : G' 70 (nI q).toNatClampNeg = nI (td q) := by rw [nI_clamp (by omega), f 70 (by decide)]; exact a3
      refine ⟨fun z => absurd z ?_, fun _ => ⟨vp_in_nI (by omega) (by omega), ?_⟩⟩
      · rw [f 49 (by decide), t2]; exact nI_ge (by omega) (by omega)
      rw [e70, nI_clamp (by omega), h _ (by omega), nI_1, sb1_]
      refine ⟨vp_in_nI (by omega) (by omega), ih (q + 1) _ (by omega) (f.gu _ (by decide)) (fun w hw => ?_)⟩
      show upd (G' 72) (td q) _ w = nI (dc_ row n w) - nI (tc_ct td q w + if td q = w then 1 else 0)
      by_cases c : w = td q
      · rw [c, up_hit, if_pos rfl]
      · rw [up_miss _ _ c, if_neg (Ne.symm c), Nat.add_zero]; exact h w hw
  exact k1 N 0 G1 (by omega) f1 (fun w hw => by rw [c1 w hw]; show _ = nI (dc_ row n w) - 0; rw [Int32.sub_zero])
set_option maxHeartbeats 1000000 in
theorem fts_r (hn : 1 ≤ n) (hn6 : n ≤ 6) (hN : (nI n * (nI n - 1)) / 2 = nI N) (ht : TR_ G N td) (hQ : ∀ G', FR [71, 72, 73] G G' → FF_ 73 n (fo_ (sf2_ (fun row => jb_ td N row n 61)) n 24 (n - 1) (fun _ => 0) (0, fun _ => 0)) G' → Q (fo_ (sf2_ (fun row => jb_ td N row n 61)) n 24 (n - 1) (fun _ => 0) (0, fun _ => 0)).1 G') : wp_X10_fits (nI n) G Q := by
  unfold wp_X10_fits
  rw [hN, ht.2.1]
  refine ⟨fun _ => fir_r hn6 (fun G1 f1 r1 => ?_), fun z => absurd rfl z⟩
  have main := enu_ (S := FS) (step := sf2_ (fun row => jb_ td N row n 61)) (n := n) (most := 24)
    (Lp := fun row s => ∃ kf, ∀ G', FR [71, 72, 73] G G' → RW_ n row G' → FF_ 73 n s G' → lp_X10_fits_25 Q kf (nI n) s.1 1 G')
    (Fin := fun s => ∀ G', FR [71, 72, 73] G G' → FF_ 73 n s G' → Q s.1 G')
    hn ?_ (n - 1) 1 (fun _ => 0) (0, fun _ => 0) (by omega) (by omega) ⟨rfl, fun i hi => absurd hi (by omega), by show 0 + (n - 1) ≤ 24; omega⟩ (fun _ => hQ) ?_
  · rw [ex1_] at main
    obtain ⟨kf, hk⟩ := main
    exact ⟨kf, hk G1 (f1.sub (by decide)) r1 (fun z => absurd rfl z)⟩
  · intro row s hv z0 z1
    have nx : ∃ kf, ∀ G2, FR [71, 72, 73] G G2 → RW_ n row G2 → FF_ 73 n (sf2_ (fun row => jb_ td N row n 61) row s) G2 → wp_X10_nextRow (nI n) 24 G2 (fun r4 G5 => lp_X10_fits_25 Q kf (nI n) (sf2_ (fun row => jb_ td N row n 61) row s).1 r4 G5) := by
      cases e : nr_ n 24 row (n - 1) with
      | none =>
        exact ⟨1, fun G2 f2 hr2 hf2 => nex_r (most := 24) hn hn6 (by omega) hv hr2 (fun _ => ⟨fun _ => z0 e G2 f2 hf2, fun z => absurd rfl z⟩) (fun row' G3 e3 _ _ => absurd (e.symm.trans e3) (by simp))⟩
      | some row' =>
        obtain ⟨kf, hk⟩ := z1 row' e
        refine ⟨kf, fun G2 f2 hr2 hf2 => nex_r (most := 24) hn hn6 (by omega) hv hr2 (fun e0 => absurd (e.symm.trans e0) (by simp)) (fun row2 G3 e3 f3 h3 => ?_)⟩
        have : row2 = row' := Option.some.inj (e3.symm.trans e)
        subst this
        exact hk G3 (f2.tr (f3.sub (by decide))) h3 (fun z i hi => by rw [f3 73 (by decide)]; exact hf2 z i hi)
    obtain ⟨kf, hk⟩ := nx
    refine ⟨kf + 1, fun G' f hr hf => ⟨fun z => absurd z (by decide), fun _ => ?_⟩⟩
    refine jus_r hn6 hN hv hr (ht.cg f (by decide)) (fun hb G2 f2 => ⟨fun z => absurd z (by decide), fun _ => ?_⟩) (fun hb G2 f2 => ⟨fun _ => ?_, fun z => absurd rfl z⟩)
    · have es : sf2_ (fun row => jb_ td N row n 61) row s = (s.1 + 1, if s.1 = 0 then row else s.2) := if_pos hb
      rw [es] at hk
      have f02 : FR [71, 72, 73] G G2 := f.tr (f2.sub (by decide))
      have hr2 : RW_ n row G2 := fun i hi => by rw [f2 71 (by decide)]; exact hr i hi
      by_cases c : s.1 = 0
      · have key : ∀ (r i : Nat) (G3 : GS), i + r = n → FR [71, 72, 73] G G3 → RW_ n row G3 → (∀ j, j < i → G3 73 j = nI (row j)) → lp_X10_fits_40 Q (fun y1 y2 y3 G => lp_X10_fits_25 Q kf y1 y2 y3 G) (r + 1) (nI n) s.1 (nI i) G3 := by
          intro r
          induction r with
          | zero =>
            intro i G3 hi f3 r3 h3
            have : i = n := by omega
            subst this
            exact ⟨fun _ => hk G3 f3 r3 (fun _ j hj => by show G3 73 j = nI ((if s.1 = 0 then row else s.2) j); rw [if_pos c]; exact h3 j hj), fun z => absurd (Int32.le_refl _) z⟩
          | succ r ih =>
            intro i G3 hi f3 r3 h3
            refine ⟨fun z => absurd z (nI_ge (by omega) (by omega)), fun _ => ⟨fun z => absurd c z, fun _ => ⟨vp_in_nI (by omega) (by omega), ?_⟩⟩⟩
            rw [nI_clamp (by omega), r3 i (by omega), nI_1]
            refine ih (i + 1) _ (by omega) (f3.gu _ (by decide)) r3 (fun j hj => ?_)
            show upd (G3 73) i _ j = _
            by_cases cj : j = i
            · rw [cj, up_hit]
            · rw [up_miss _ _ cj]; exact h3 j (by omega)
        exact ⟨n + 1, key n 0 G2 (by omega) f02 hr2 (fun j hj => absurd hj (by omega))⟩
      · refine ⟨1, ⟨fun z => absurd z (nI_nle hn (by omega)), fun _ => ⟨fun _ => ?_, fun z => absurd z c⟩⟩⟩
        refine hk G2 f02 hr2 (fun _ j hj => ?_)
        show G2 73 j = nI ((if s.1 = 0 then row else s.2) j)
        rw [if_neg c, f2 73 (by decide)]
        exact hf c j hj
    · have es : sf2_ (fun row => jb_ td N row n 61) row s = s := by
        show (if jb_ td N row n 61 = true then _ else s) = s
        rw [hb]; rfl
      rw [es] at hk
      exact hk G2 (f.tr (f2.sub (by decide))) (fun i hi => by rw [f2 71 (by decide)]; exact hr i hi) (fun z i hi => by rw [f2 73 (by decide)]; exact hf z i hi)
  · intro row' z
    exact absurd z (by show ¬ none = some row'; simp)
end JUS
