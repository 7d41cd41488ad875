/-! rows of rising tones, one behind the other -/
def lo_ {S : Type} (g : Nat → S → S) : Nat → Nat → S → S
  | 0, _, s => s
  | c + 1, t, s => lo_ g c (t + 1) (g t s)
def ex_ (k : Nat) (row : Nat → Nat) : Nat → Nat := fun j => if j < k then row j else row (k - 1) + 1 + (j - k)
def la_ (n most k : Nat) (row : Nat → Nat) : Nat → Nat := fun j => if j < k then row j else most - (n - 1 - j)
def fo_ {S : Type} (step : (Nat → Nat) → S → S) (n most : Nat) : Nat → (Nat → Nat) → S → S
  | 0, row, s => step (ex_ n row) s
  | r + 1, row, s => lo_ (fun t s => fo_ step n most r (at_ (n - (r + 1)) t row) s) (most - r - row (n - (r + 1) - 1)) (row (n - (r + 1) - 1) + 1) s
def nr_ (n most : Nat) (row : Nat → Nat) : Nat → Option (Nat → Nat)
  | 0 => none
  | i + 1 => if row (i + 1) = most - (n - 1 - (i + 1)) then nr_ n most row i else some (fun j => if j < i + 1 then row j else row (i + 1) + 1 + (j - (i + 1)))
theorem nr_cg {n most : Nat} {row row' : Nat → Nat} : ∀ i, (∀ j, j ≤ i → row j = row' j) → nr_ n most row i = nr_ n most row' i
  | 0, _ => rfl
  | i + 1, h => by
    unfold nr_
    rw [nr_cg i (fun j hj => h j (by omega)), h (i + 1) (Nat.le_refl _)]
    split
    · rfl
    · congr 1
      funext j
      by_cases c : j < i + 1
      · rw [if_pos c, if_pos c, h j (by omega)]
      · rw [if_neg c, if_neg c]
/-- a row's first k tones, with room for n -/
def PV_ (n most k : Nat) (row : Nat → Nat) : Prop := row 0 = 0 ∧ (∀ i, i + 1 < k → row i < row (i + 1)) ∧ row (k - 1) + (n - k) ≤ most
theorem PV_.up {n most k t : Nat} {row : Nat → Nat} (h : PV_ n most k row) (hk : 1 ≤ k) (h1 : row (k - 1) < t) (h2 : t + (n - (k + 1)) ≤ most) : PV_ n most (k + 1) (at_ k t row) := by
  obtain ⟨a, b, c⟩ := h
  refine ⟨by rw [at_n _ _ (by omega)]; exact a, fun i hi => ?_, by rw [show k + 1 - 1 = k by omega, at_h]; exact h2⟩
  by_cases e : i + 1 = k
  · rw [at_n _ _ (show i ≠ k by omega), e, at_h]
    rw [show k - 1 = i by omega] at h1
    exact h1
  · rw [at_n _ _ (show i ≠ k by omega), at_n _ _ e]
    exact b i (by omega)
theorem PV_.ex {n most : Nat} {row : Nat → Nat} (h : PV_ n most n row) (hn : 1 ≤ n) : PV_ n most n (ex_ n row) := by
  obtain ⟨a, b, c⟩ := h
  have e : ∀ j, j < n → ex_ n row j = row j := fun j hj => if_pos hj
  exact ⟨by rw [e 0 (by omega)]; exact a, fun i hi => by rw [e i (by omega), e (i + 1) hi]; exact b i hi, by rw [e _ (by omega)]; exact c⟩
set_option maxHeartbeats 1000000 in
theorem enu_ {S : Type} {step : (Nat → Nat) → S → S} {n most : Nat} {Lp : (Nat → Nat) → S → Prop} {Fin : S → Prop} (hn : 1 ≤ n)
    (Hs : ∀ row s, PV_ n most n row → (nr_ n most row (n - 1) = none → Fin (step row s)) → (∀ row', nr_ n most row (n - 1) = some row' → Lp row' (step row s)) → Lp row s) :
    ∀ (r k : Nat) (row : Nat → Nat) (s : S), k + r = n → 1 ≤ k → PV_ n most k row → (nr_ n most (la_ n most k row) (k - 1) = none → Fin (fo_ step n most r row s)) → (∀ row', nr_ n most (la_ n most k row) (k - 1) = some row' → Lp row' (fo_ step n most r row s)) → Lp (ex_ k row) s := by
  intro r
  induction r with
  | zero =>
    intro k row s hk hk1 hv h0 h1
    have : k = n := by omega
    subst this
    have e : nr_ k most (ex_ k row) (k - 1) = nr_ k most (la_ k most k row) (k - 1) := nr_cg _ (fun j hj => by
      unfold ex_ la_
      rw [if_pos (by omega), if_pos (by omega)])
    refine Hs _ s (hv.ex hn) (fun z => h0 (e ▸ z)) (fun row' z => h1 row' (e ▸ z))
  | succ r ih =>
    intro k row s hk hk1 hv h0 h1
    have ek : n - (r + 1) = k := by omega
    have inner : ∀ (c t : Nat) (s : S), t + c = most - r + 1 → 1 ≤ c → row (k - 1) < t → (nr_ n most (la_ n most k row) (k - 1) = none → Fin (lo_ (fun t s => fo_ step n most r (at_ k t row) s) c t s)) → (∀ row', nr_ n most (la_ n most k row) (k - 1) = some row' → Lp row' (lo_ (fun t s => fo_ step n most r (at_ k t row) s) c t s)) → Lp (ex_ (k + 1) (at_ k t row)) s := by
      intro c
      induction c with
      | zero => intro t s _ h _; omega
      | succ c ihc =>
        intro t s ht _ hlt g0 g1
        have hle := hv.2.2
        refine ih (k + 1) (at_ k t row) s (by omega) (by omega) (hv.up hk1 hlt (by omega)) ?_ ?_
        · intro z
          obtain ⟨k', rfl⟩ : ∃ k', k = k' + 1 := ⟨k - 1, by omega⟩
          have et : la_ n most (k' + 1 + 1) (at_ (k' + 1) t row) (k' + 1) = t := by
            unfold la_
            rw [if_pos (by omega), at_h]
          rw [show k' + 1 + 1 - 1 = k' + 1 by omega] at z
          unfold nr_ at z
          rw [et] at z
          by_cases c0 : t = most - (n - 1 - (k' + 1))
          · rw [if_pos c0] at z
            have hc : c = 0 := by omega
            subst hc
            refine g0 ?_
            rw [show k' + 1 - 1 = k' by omega, ← z]
            refine nr_cg _ (fun j hj => ?_)
            unfold la_
            rw [if_pos (by omega), if_pos (by omega), at_n _ _ (by omega)]
          · rw [if_neg c0] at z
            exact absurd z (by simp)
        · intro row' z
          obtain ⟨k', rfl⟩ : ∃ k', k = k' + 1 := ⟨k - 1, by omega⟩
          have et : la_ n most (k' + 1 + 1) (at_ (k' + 1) t row) (k' + 1) = t := by
            unfold la_
            rw [if_pos (by omega), at_h]
          rw [show k' + 1 + 1 - 1 = k' + 1 by omega] at z
          unfold nr_ at z
          rw [et] at z
          by_cases c0 : t = most - (n - 1 - (k' + 1))
          · rw [if_pos c0] at z
            have hc : c = 0 := by omega
            subst hc
            refine g1 row' ?_
            rw [show k' + 1 - 1 = k' by omega, ← z]
            refine nr_cg _ (fun j hj => ?_)
            unfold la_
            rw [if_pos (by omega), if_pos (by omega), at_n _ _ (by omega)]
          · rw [if_neg c0] at z
            have er : row' = ex_ (k' + 1 + 1) (at_ (k' + 1) (t + 1) row) := by
              rw [← Option.some.inj z]
              funext j
              unfold ex_ la_
              by_cases j1 : j < k' + 1
              · rw [if_pos j1, if_pos (show j < k' + 1 + 1 by omega), if_pos (show j < k' + 1 + 1 by omega), at_n _ _ (by omega), at_n _ _ (by omega)]
              · rw [if_neg j1]
                by_cases j2 : j = k' + 1
                · rw [if_pos (show j < k' + 1 + 1 by omega), j2, at_h]; omega
                · rw [if_neg (show ¬ j < k' + 1 + 1 by omega), show k' + 1 + 1 - 1 = k' + 1 by omega, at_h]; omega
            rw [er]
            have hle2 : t ≤ most - r := by omega
            exact ihc (t + 1) _ (by omega) (by omega) (by omega) g0 g1
    have e1 : ex_ k row = ex_ (k + 1) (at_ k (row (k - 1) + 1) row) := by
      funext j
      unfold ex_
      by_cases j1 : j < k
      · rw [if_pos j1, if_pos (show j < k + 1 by omega), at_n _ _ (by omega)]
      · rw [if_neg j1]
        by_cases j2 : j = k
        · rw [if_pos (show j < k + 1 by omega), j2, at_h]; omega
        · rw [if_neg (show ¬ j < k + 1 by omega), show k + 1 - 1 = k by omega, at_h]; omega
    rw [e1]
    have hle := hv.2.2
    refine inner (most - r - row (k - 1)) (row (k - 1) + 1) s (by omega) (by omega) (by omega) ?_ ?_
    · intro z
      have := h0 z
      unfold fo_ at this
      rw [ek] at this
      exact this
    · intro row' z
      have := h1 row' z
      unfold fo_ at this
      rw [ek] at this
      exact this
/-- the rows' cell -/
def RW_ (n : Nat) (row : Nat → Nat) (G : GS) : Prop := ∀ i, i < n → G 71 i = nI (row i)
theorem PV_bd {n most : Nat} {row : Nat → Nat} (h : PV_ n most n row) : ∀ d i, i + d + 1 = n → row i + d ≤ most
  | 0, i, hi => by
    have := h.2.2
    rw [show n - 1 = i by omega] at this
    omega
  | d + 1, i, hi => by
    have h1 := PV_bd h d (i + 1) (by omega)
    have h2 := h.2.1 i (by omega)
    omega
section ROW
variable {Q : Int32 → GS → Prop} {G : GS} {n most : Nat}
theorem fir_r (hn : n ≤ 6) (hQ : ∀ G', FR [71] G G' → RW_ n (fun i => i) G' → Q 0 G') : wp_X10_firstRow (nI n) G Q := by
  have key : ∀ (r i : Nat) (G' : GS), i + r = n → FR [71] G G' → RW_ i (fun i => i) G' → lp_X10_firstRow_2 Q (r + 1) (nI n) (nI i) G' := by
    intro r
    induction r with
    | zero =>
      intro i G' hi f h
      have : i = n := by omega
      subst this
      exact ⟨fun _ => hQ G' f h, fun z => absurd (Int32.le_refl _) z⟩
    | succ r ih =>
      intro i G' hi f h
      refine ⟨fun z => absurd z (nI_ge (by omega) (by omega)), fun _ => ⟨vp_in_nI (by omega) (by omega), ?_⟩⟩
      rw [nI_clamp (by omega), nI_1]
      refine ih (i + 1) _ (by omega) (f.gu _ (by decide)) (fun j hj => ?_)
      show upd (G' 71) i (nI i) j = nI j
      by_cases c : j = i
      · rw [c, up_hit]
      · rw [up_miss _ _ c]; exact h j (by omega)
  exact ⟨n + 1, key n 0 G (by omega) (FR.rf _ _) (fun j hj => absurd hj (by omega))⟩
set_option maxHeartbeats 1000000 in
theorem nex_r {row : Nat → Nat} (hn : 1 ≤ n) (hn6 : n ≤ 6) (hm : most ≤ 30) (hv : PV_ n most n row) (hr : RW_ n row G) (h0 : nr_ n most row (n - 1) = none → Q 0 G) (h1 : ∀ row' G', nr_ n most row (n - 1) = some row' → FR [71] G G' → RW_ n row' G' → Q 1 G') : wp_X10_nextRow (nI n) (nI most) G Q := by
  have hbd : ∀ i, i < n → row i + (n - 1 - i) ≤ most := fun i hi => PV_bd hv (n - 1 - i) i (by omega)
  have key : ∀ i, i < n → nr_ n most row i = nr_ n most row (n - 1) → ∃ kf, lp_X10_nextRow_4 Q kf (nI n) (nI most) (nI i) G := by
    intro i
    induction i with
    | zero =>
      intro hi e
      exact ⟨1, ⟨fun _ => ⟨fun z => absurd z (by decide), fun _ => h0 (by rw [← e]; rfl)⟩, fun z => absurd (Int32.le_refl _) z⟩⟩
    | succ i ih =>
      intro hi e
      have hb := hbd (i + 1) hi
      have ed : nI most - (nI n - 1 - nI (i + 1)) = nI (most - (n - 1 - (i + 1))) := by
        rw [show nI n - 1 = nI (n - 1) from by obtain ⟨n', rfl⟩ : ∃ n', n = n' + 1 := ⟨n - 1, by omega⟩; exact nI_pred n', pk_sub (by omega), pk_sub (by omega)]
      have er : G 71 (nI (i + 1)).toNatClampNeg = nI (row (i + 1)) := by rw [nI_clamp (by omega)]; exact hr _ hi
      by_cases c : row (i + 1) = most - (n - 1 - (i + 1))
      · obtain ⟨kf, hk⟩ := ih (by omega) (by rw [← e]; conv => rhs; unfold nr_; rw [if_pos c])
        refine ⟨kf + 1, ⟨fun z => absurd z (nI_nle (by omega) (by omega)), fun _ => ⟨vp_in_nI (by omega) (by omega), ?_⟩⟩⟩
        rw [ed, er, c]
        refine ⟨fun z => absurd rfl z, fun _ => ?_⟩
        rw [nI_pred]; exact hk
      · refine ⟨1, ⟨fun z => absurd z (nI_nle (by omega) (by omega)), fun _ => ⟨vp_in_nI (by omega) (by omega), ?_⟩⟩⟩
        rw [ed, er]
        refine ⟨fun _ => ?_, fun z => absurd ((nI_eq (by omega) (by omega)).mp z) c⟩
        refine ⟨fun _ => ⟨vp_in_nI (by omega) (by omega), ?_⟩, fun z => absurd (nI_lt (a := 0) (by omega) (by omega)) z⟩
        rw [er, nI_1, nI_1, nI_clamp (by omega)]
        have e2 : nr_ n most row (n - 1) = some (fun j => if j < i + 1 then row j else row (i + 1) + 1 + (j - (i + 1))) := by
          rw [← e]
          conv => lhs; unfold nr_
          rw [if_neg c]
        have k2 : ∀ (r k : Nat) (G' : GS), k + r = n → i + 2 ≤ k → FR [71] G G' → RW_ k (fun j => if j < i + 1 then row j else row (i + 1) + 1 + (j - (i + 1))) G' → lp_X10_nextRow_56 Q (r + 1) (nI n) (nI k) G' := by
          intro r
          induction r with
          | zero =>
            intro k G' hk _ f h
            have : k = n := by omega
            subst this
            exact ⟨fun _ => h1 _ G' e2 f h, fun z => absurd (Int32.le_refl _) z⟩
          | succ r ih =>
            intro k G' hk hk2 f h
            have ep : nI k - 1 = nI (k - 1) := by
              obtain ⟨k', rfl⟩ : ∃ k', k = k' + 1 := ⟨k - 1, by omega⟩
              exact nI_pred k'
            refine ⟨fun z => absurd z (nI_ge (by omega) (by omega)), fun _ => ?_⟩
            rw [ep, nI_clamp (by omega), nI_clamp (by omega), h (k - 1) (by omega), nI_1, nI_1]
            refine ⟨vp_in_nI (by omega) (by omega), vp_in_nI (by omega) (by omega), ?_⟩
            refine ih (k + 1) _ (by omega) (by omega) (f.gu _ (by decide)) (fun j hj => ?_)
            show upd (G' 71) k _ j = _
            by_cases c : j = k
            · rw [c, up_hit]
              congr 1
              show (if k - 1 < i + 1 then _ else _) + 1 = if k < i + 1 then _ else _
              rw [if_neg (show ¬ k - 1 < i + 1 by omega), if_neg (show ¬ k < i + 1 by omega)]
              omega
            · rw [up_miss _ _ c]; exact h j (by omega)
        refine ⟨n - (i + 2) + 1, k2 (n - (i + 2)) (i + 2) _ (by omega) (by omega) ((FR.rf _ G).gu _ (by decide)) (fun j hj => ?_)⟩
        show upd (G 71) (i + 1) _ j = _
        by_cases cj : j = i + 1
        · rw [cj, up_hit]
          congr 1
          show _ = if i + 1 < i + 1 then _ else _
          rw [if_neg (Nat.lt_irrefl _)]; omega
        · rw [up_miss _ _ cj]
          show _ = nI (if j < i + 1 then _ else _)
          rw [if_pos (by omega)]
          exact hr j (by omega)
  have hp : nI n - 1 = nI (n - 1) := by
    obtain ⟨n', rfl⟩ : ∃ n', n = n' + 1 := ⟨n - 1, by omega⟩
    exact nI_pred n'
  unfold wp_X10_nextRow
  rw [hp]
  exact key (n - 1) (by omega) rfl
end ROW
