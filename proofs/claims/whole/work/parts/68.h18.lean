/-! the first row that has a property -/
def fz_ (g : Nat → Option (Nat → Nat)) : Nat → Nat → Option (Nat → Nat)
  | 0, _ => none
  | c + 1, t => match g t with
    | some x => some x
    | none => fz_ g c (t + 1)
def fs_ (B : (Nat → Nat) → Bool) (n most : Nat) : Nat → (Nat → Nat) → Option (Nat → Nat)
  | 0, row => if B (ex_ n row) then some (ex_ n row) else none
  | r + 1, row => fz_ (fun t => fs_ B n most r (at_ (n - (r + 1)) t row)) (most - r - row (n - (r + 1) - 1)) (row (n - (r + 1) - 1) + 1)
def sp_ (B : (Nat → Nat) → Bool) (row : Nat → Nat) (s : Option (Nat → Nat)) : Option (Nat → Nat) := match s with
  | some x => some x
  | none => if B row then some row else none
theorem lo_some {S : Type} {g : Nat → Option S → Option S} {x : S} (h : ∀ t, g t (some x) = some x) : ∀ c t, lo_ g c t (some x) = some x
  | 0, _ => rfl
  | c + 1, t => by unfold lo_; rw [h t]; exact lo_some h c (t + 1)
theorem fo_some {B : (Nat → Nat) → Bool} {n most : Nat} {x : Nat → Nat} : ∀ r row, fo_ (sp_ B) n most r row (some x) = some x
  | 0, _ => rfl
  | r + 1, row => lo_some (fun t => fo_some r _) _ _
theorem lo_none {g : Nat → Option (Nat → Nat) → Option (Nat → Nat)} {h : Nat → Option (Nat → Nat)} (h0 : ∀ t, g t none = h t) (h1 : ∀ t x, g t (some x) = some x) : ∀ c t, lo_ g c t none = fz_ h c t
  | 0, _ => rfl
  | c + 1, t => by
    unfold lo_ fz_
    rw [h0 t]
    cases e : h t with
    | some x => exact lo_some (fun t => h1 t x) c (t + 1)
    | none => exact lo_none h0 h1 c (t + 1)
theorem fo_none {B : (Nat → Nat) → Bool} {n most : Nat} : ∀ r row, fo_ (sp_ B) n most r row none = fs_ B n most r row
  | 0, _ => rfl
  | r + 1, row => lo_none (fun t => fo_none r _) (fun t x => fo_some r _) _ _
/-- counts of words -/
def dc_ (row : Nat → Nat) (k w : Nat) : Nat := smN (fun i => smN (fun j => if row i - row j = w then 1 else 0) i) k
theorem ite1 (p : Prop) [Decidable p] : (if p then 1 else 0 : Nat) ≤ 1 := by split <;> omega
theorem dc_le (row : Nat → Nat) (k w : Nat) (hk : k ≤ 6) : dc_ row k w ≤ 36 := by
  have : ∀ m, m ≤ 6 → smN (fun i => smN (fun j => if row i - row j = w then 1 else 0) i) m ≤ m * 6 := by
    intro m
    induction m with
    | zero => intro _; exact Nat.zero_le _
    | succ m ih =>
      intro hm
      have h1 := ih (by omega)
      have h2 := smN_le (f := fun j => if row m - row j = w then 1 else 0) (c := 1) (fun j => ite1 _) m
      show smN _ m + smN (fun j => if row m - row j = w then 1 else 0) m ≤ _
      omega
  have := this k hk
  unfold dc_
  omega
theorem PV_mo {n most k : Nat} {row : Nat → Nat} (h : PV_ n most k row) : ∀ d j, j + d + 1 < k → row j < row (j + d + 1)
  | 0, j, hj => h.2.1 j hj
  | d + 1, j, hj => by
    have h1 := PV_mo h d j (by omega)
    have h2 := h.2.1 (j + d + 1) (by omega)
    rw [show j + (d + 1) + 1 = j + d + 1 + 1 by omega]
    omega
theorem PV_lt {n most k i j : Nat} {row : Nat → Nat} (h : PV_ n most k row) (hj : j < i) (hi : i < k) : row j < row i := by
  have := PV_mo h (i - j - 1) j (by omega)
  rw [show j + (i - j - 1) + 1 = i by omega] at this
  exact this
section CNT
variable {Q : Int32 → GS → Prop} {G : GS} {n most : Nat} {row : Nat → Nat}
set_option maxHeartbeats 1000000 in
theorem cnw_r (hn6 : n ≤ 6) (hm : most ≤ 30) (hv : PV_ n most n row) (hr : RW_ n row G) (hQ : ∀ G', FR [72] G G' → (∀ w, w < 61 → G' 72 w = nI (dc_ row n w)) → Q 0 G') : wp_X10_countsWords (nI n) G Q := by
  have hbd : ∀ i, i < n → row i ≤ most := fun i hi => by have := PV_bd hv (n - 1 - i) i (by omega); omega
  have rw' : ∀ G', FR [72] G G' → ∀ i, i < n → G' 71 (nI i).toNatClampNeg = nI (row i) := fun G' f i hi => by
    rw [nI_clamp (by omega), f 71 (by decide)]; exact hr i hi
  have k1 : ∀ (i : Nat), i < n → ∀ (R : Int32 → Int32 → GS → Prop), (∀ G', FR [72] G G' → (∀ w, w < 61 → G' 72 w = nI (dc_ row (i + 1) w)) → R (nI n) (nI (i + 1)) G') → ∀ (r j : Nat) (G' : GS), j + r = i → FR [72] G G' → (∀ w, w < 61 → G' 72 w = nI (dc_ row i w + smN (fun j => if row i - row j = w then 1 else 0) j)) → lp_X10_countsWords_30 Q R (r + 1) (nI n) (nI i) (nI j) G' := by
    intro i hi R hR r
    induction r with
    | zero =>
      intro j G' hj f h
      have : j = i := by omega
      subst this
      refine ⟨fun _ => ?_, fun z => absurd (Int32.le_refl _) z⟩
      rw [nI_1]
      exact hR G' f h
    | succ r ih =>
      intro j G' hj f h
      have h1 := PV_lt hv (show j < i by omega) hi
      have h2 := hbd i hi
      refine ⟨fun z => absurd z (nI_ge (by omega) (by omega)), fun _ => ⟨vp_in_nI (by omega) (by omega), vp_in_nI (by omega) (by omega), ?_⟩⟩
      rw [rw' G' f i hi, rw' G' f j (by omega), pk_sub (by omega), nI_clamp (by omega), h _ (by omega), nI_1, nI_1]
      refine ⟨vp_in_nI (by omega) (by omega), ih (j + 1) _ (by omega) (f.gu _ (by decide)) (fun w hw => ?_)⟩
      show upd (G' 72) (row i - row j) _ w = nI (dc_ row i w + (smN (fun j => if row i - row j = w then 1 else 0) j + if row i - row j = w then 1 else 0))
      by_cases c : w = row i - row j
      · rw [c, up_hit, if_pos rfl]; rfl
      · rw [up_miss _ _ c, if_neg (Ne.symm c), Nat.add_zero]; exact h w hw
  have k2 : ∀ (r i : Nat) (G' : GS), i + r = n → FR [72] G G' → (∀ w, w < 61 → G' 72 w = nI (dc_ row i w)) → lp_X10_countsWords_23 Q (r + 1) (nI n) (nI i) G' := by
    intro r
    induction r with
    | zero =>
      intro i G' hi f h
      have : i = n := by omega
      subst this
      exact ⟨fun _ => hQ G' f h, fun z => absurd (Int32.le_refl _) z⟩
    | succ r ih =>
      intro i G' hi f h
      exact ⟨fun z => absurd z (nI_ge (by omega) (by omega)), fun _ => ⟨i + 1, k1 i (by omega) _ (fun G2 f2 h2 => ih (i + 1) G2 (by omega) f2 h2) i 0 G' (by omega) f (fun w hw => by rw [h w hw]; rfl)⟩⟩
  have k3 : ∀ (r w : Nat) (G' : GS), w + r = 61 → FR [72] G G' → (∀ v, v < w → G' 72 v = nI 0) → lp_X10_countsWords_2 Q (r + 1) (nI n) (nI w) G' := by
    intro r
    induction r with
    | zero =>
      intro w G' hw f h
      have : w = 61 := by omega
      subst this
      exact ⟨fun _ => ⟨n + 1, k2 n 0 G' (by omega) f (fun w hw => h w hw)⟩, fun z => absurd (Int32.le_refl _) z⟩
    | succ r ih =>
      intro w G' hw f h
      refine ⟨fun z => absurd z (nI_ge (b := 61) (by omega) (by omega)), fun _ => ⟨vp_in_nI (by omega) (by omega), ?_⟩⟩
      rw [nI_clamp (by omega), nI_1]
      refine ih (w + 1) _ (by omega) (f.gu _ (by decide)) (fun v hv => ?_)
      show upd (G' 72) w 0 v = _
      by_cases c : v = w
      · rw [c, up_hit]; rfl
      · rw [up_miss _ _ c]; exact h v (by omega)
  exact ⟨62, k3 61 0 G (by omega) (FR.rf _ _) (fun v hv => absurd hv (by omega))⟩
/-- all words unlike -/
def un_ (row : Nat → Nat) (n : Nat) : Nat → Bool
  | 0 => true
  | w + 1 => un_ row n w && Nat.ble (dc_ row n w) 1
theorem un_iff : ∀ w, un_ row n w = true ↔ ∀ v, v < w → dc_ row n v ≤ 1
  | 0 => ⟨fun _ v hv => absurd hv (by omega), fun _ => rfl⟩
  | w + 1 => by
    unfold un_
    rw [Bool.and_eq_true, un_iff w, Nat.ble_eq]
    constructor
    · intro h v hv
      by_cases c : v = w
      · rw [c]; exact h.2
      · exact h.1 v (by omega)
    · intro h
      exact ⟨fun v hv => h v (by omega), h w (by omega)⟩
theorem unl_r (hn6 : n ≤ 6) (hm : most ≤ 30) (hv : PV_ n most n row) (hr : RW_ n row G) (h1 : un_ row n 61 = true → ∀ G', FR [72] G G' → Q 1 G') (h0 : un_ row n 61 = false → ∀ G', FR [72] G G' → Q 0 G') : wp_X10_areUnlike (nI n) G Q := by
  refine cnw_r hn6 hm hv hr (fun G' f h => ⟨62, ?_⟩)
  have key : ∀ (r w : Nat), w + r = 61 → (∀ v, v < w → dc_ row n v ≤ 1) → lp_X10_areUnlike_7 Q (r + 1) (nI w) G' := by
    intro r
    induction r with
    | zero =>
      intro w hw hd
      have : w = 61 := by omega
      subst this
      exact ⟨fun _ => h1 ((un_iff 61).mpr hd) G' f, fun z => absurd (Int32.le_refl _) z⟩
    | succ r ih =>
      intro w hw hd
      have := dc_le row n w hn6
      refine ⟨fun z => absurd z (nI_ge (b := 61) (by omega) (by omega)), fun _ => ⟨vp_in_nI (by omega) (by omega), ?_⟩⟩
      rw [nI_clamp (by omega), h w (by omega), nI_1]
      refine ⟨fun z => ih (w + 1) (by omega) (fun v hv => ?_), fun z => h0 ?_ G' f⟩
      · by_cases c : v = w
        · rw [c]; exact (nI_leI (b := 1) (by omega) (by omega)).mp z
        · exact hd v (by omega)
      · rw [Bool.eq_false_iff]
        intro y
        exact z (nI_le (b := 1) ((un_iff 61).mp y w (by omega)) (by omega))
  exact key 61 0 (by omega) (fun v hv => absurd hv (by omega))
/-- the ruler's row -/
def rb_ (n most : Nat) (row : Nat → Nat) : Bool := Nat.beq (row (n - 1)) most && un_ row n 61
set_option maxHeartbeats 1000000 in
theorem rul_r (hn : 1 ≤ n) (hn6 : n ≤ 6) (hm : most ≤ 24) (hnm : n - 1 ≤ most) {R : Int32 → Int32 → GS → Prop} (hf : ∀ x, fs_ (rb_ n most) n most (n - 1) (fun _ => 0) = some x → ∀ G', FR [71, 72] G G' → RW_ n x G' → Q 0 G') (hg : fs_ (rb_ n most) n most (n - 1) (fun _ => 0) = none → ∀ G', FR [71, 72] G G' → R (nI n) (nI (most + 1)) G') :
    wp_X10_firstRow (nI n) G (fun _ G2 => ∃ kf, lp_X10_findsRuler_11 Q R kf (nI n) (nI most) 1 G2) := by
  refine fir_r hn6 (fun G1 f1 r1 => ?_)
  have hp : nI n - 1 = nI (n - 1) := by
    obtain ⟨n', rfl⟩ : ∃ n', n = n' + 1 := ⟨n - 1, by omega⟩
    exact nI_pred n'
  have main := enu_ (S := Option (Nat → Nat)) (step := sp_ (rb_ n most)) (n := n) (most := most)
    (Lp := fun row s => match s with
      | some x => ∀ G', FR [71, 72] G G' → RW_ n x G' → Q 0 G'
      | none => ∃ kf, ∀ G', FR [71, 72] G G' → RW_ n row G' → lp_X10_findsRuler_11 Q R kf (nI n) (nI most) 1 G')
    (Fin := fun s => match s with
      | some x => ∀ G', FR [71, 72] G G' → RW_ n x G' → Q 0 G'
      | none => ∀ G', FR [71, 72] G G' → R (nI n) (nI (most + 1)) G')
    hn ?_ (n - 1) 1 (fun _ => 0) none (by omega) (by omega) ⟨rfl, fun i hi => absurd hi (by omega), by show 0 + (n - 1) ≤ most; omega⟩ ?_ ?_
  · have e : ex_ 1 (fun _ => 0) = fun i => i := by
      funext j
      unfold ex_
      by_cases c : j < 1
      · rw [if_pos c]; show 0 = j; omega
      · rw [if_neg c]; show 0 + 1 + (j - 1) = j; omega
    rw [e] at main
    obtain ⟨kf, hk⟩ := main
    exact ⟨kf, hk G1 (f1.sub (by decide)) r1⟩
  · intro row s hv z0 z1
    cases s with
    | some x =>
      cases e : nr_ n most row (n - 1) with
      | none => exact z0 e
      | some row' => exact z1 row' e
    | none =>
      have nx : rb_ n most row = false → ∃ kf, ∀ G2, FR [71, 72] G G2 → RW_ n row G2 → wp_X10_nextRow (nI n) (nI most) G2 (fun r4 G5 => lp_X10_findsRuler_11 Q R kf (nI n) (nI most) r4 G5) := by
        intro hb
        have es : sp_ (rb_ n most) row none = none := by
          show (if rb_ n most row = true then some row else none) = none
          rw [hb]; rfl
        rw [es] at z0 z1
        cases e : nr_ n most row (n - 1) with
        | none =>
          refine ⟨1, fun G2 f2 hr2 => nex_r hn hn6 (by omega) hv hr2 (fun _ => ⟨fun _ => ?_, fun z => absurd rfl z⟩) (fun row' G3 e3 _ _ => absurd (e.symm.trans e3) (by simp))⟩
          rw [nI_1]
          exact z0 e G2 f2
        | some row' =>
          obtain ⟨kf, hk⟩ := z1 row' e
          refine ⟨kf, fun G2 f2 hr2 => nex_r hn hn6 (by omega) hv hr2 (fun e0 => absurd (e.symm.trans e0) (by simp)) (fun row2 G3 e3 f3 h3 => ?_)⟩
          have : row2 = row' := Option.some.inj (e3.symm.trans e)
          subst this
          exact hk G3 (f2.tr (f3.sub (by decide))) h3
      have hbd := hv.2.2
      have ep : ∀ G', RW_ n row G' → G' 71 (nI n - 1).toNatClampNeg = nI (row (n - 1)) := fun G' hr => by rw [hp, nI_clamp (by omega)]; exact hr _ (by omega)
      have vin : vp_in (nI n - 1) 6 := by rw [hp]; exact vp_in_nI (by omega) (by omega)
      by_cases c : row (n - 1) = most
      · by_cases cu : un_ row n 61 = true
        · have hb : rb_ n most row = true := by
            unfold rb_
            rw [c, Nat.beq_refl, cu]; rfl
          have es : sp_ (rb_ n most) row none = some row := by
            show (if rb_ n most row = true then some row else none) = some row
            rw [if_pos hb]
          rw [es] at z0 z1
          have fin : ∀ G', FR [71, 72] G G' → RW_ n row G' → Q 0 G' := by
            cases e : nr_ n most row (n - 1) with
            | none => exact z0 e
            | some row' => exact z1 row' e
          refine ⟨1, fun G' f hr => ⟨fun z => absurd z (by decide), fun _ => ⟨vin, ?_⟩⟩⟩
          rw [ep G' hr, c]
          refine ⟨fun z => absurd rfl z, fun _ => unl_r hn6 (by omega) hv hr (fun _ G2 f2 => ⟨fun z => absurd z (by decide), fun _ => fin G2 (f.tr (f2.sub (by decide))) (fun i hi => by rw [f2 71 (by decide)]; exact hr i hi)⟩) (fun h => absurd (cu.symm.trans h) (by decide))⟩
        · have cu : un_ row n 61 = false := Bool.eq_false_iff.mpr cu
          have hb : rb_ n most row = false := by
            unfold rb_
            rw [cu, Bool.and_false]
          obtain ⟨kf, hk⟩ := nx hb
          refine ⟨kf + 1, fun G' f hr => ⟨fun z => absurd z (by decide), fun _ => ⟨vin, ?_⟩⟩⟩
          rw [ep G' hr, c]
          refine ⟨fun z => absurd rfl z, fun _ => unl_r hn6 (by omega) hv hr (fun h => absurd (h.symm.trans cu) (by decide)) (fun _ G2 f2 => ⟨fun _ => hk G2 (f.tr (f2.sub (by decide))) (fun i hi => by rw [f2 71 (by decide)]; exact hr i hi), fun z => absurd rfl z⟩)⟩
      · have hb : rb_ n most row = false := by
          unfold rb_
          rw [Bool.and_eq_false_iff]
          exact Or.inl (by rw [Bool.eq_false_iff]; intro z; exact c (Nat.eq_of_beq_eq_true z))
        obtain ⟨kf, hk⟩ := nx hb
        refine ⟨kf + 1, fun G' f hr => ⟨fun z => absurd z (by decide), fun _ => ⟨vin, ?_⟩⟩⟩
        rw [ep G' hr]
        exact ⟨fun _ => hk G' f hr, fun z => absurd ((nI_eq (by omega) (by omega)).mp z) c⟩
  · intro _
    rw [fo_none]
    cases e : fs_ (rb_ n most) n most (n - 1) (fun _ => 0) with
    | none => exact hg e
    | some x => exact hf x e
  · intro row' z
    exact absurd z (by show ¬ none = some row'; simp)
end CNT
/-! the rulers themselves -/
def rz_ (n most : Nat) : Option (List Nat) := (fs_ (rb_ n most) n most (n - 1) (fun _ => 0)).map (fun x => (List.range n).map x)
def rt_ : List (List Nat) := [[], [0], [0, 1], [0, 1, 3], [0, 1, 4, 6], [0, 1, 4, 9, 11], [0, 1, 4, 10, 12, 17]]
def rm_l : List Nat := [0, 0, 1, 3, 6, 11, 17]
theorem rz_1 : ∀ n, n < 6 → 1 ≤ n → (∀ most, most < rm_l.getD n 0 → n - 1 ≤ most → rz_ n most = none) ∧ rz_ n (rm_l.getD n 0) = some (rt_.getD n []) := by decide +kernel
