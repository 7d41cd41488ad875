/-! the class's reading of a law -/
theorem kf_300 (b : Nat → Nat) (q nx : Nat) : kf_ b q nx < 300 ∧ kf_ b q nx ≠ 0 ∧ kf_ b q nx ≠ 2 := by
  rcases kf_c b q nx with e | ⟨i, hi, -, e⟩ <;> omega
theorem tfa_ {b : Nat → Nat} {T p : Nat} (hb : ∀ i, i < T → b i < 256) (hp : p ≤ T) : p ≤ tq_ b T p ∧ tq_ b T p ≤ T ∧ tK_ b T (tq_ b T p) < 300 ∧ tn_ b T (tq_ b T p) ≤ T ∧ (tK_ b T (tq_ b T p) ≠ 0 → p < tn_ b T (tq_ b T p)) ∧ (tK_ b T (tq_ b T p) = 2 → tv_ b T (tq_ b T p) ≤ 9999) := by
  have h1 := sN_le (f := fun i => bl_ (b i)) (T := T) (p := p)
  have hq1 : p ≤ tq_ b T p := h1.1
  have hq2 : tq_ b T p ≤ T := h1.2.1 hp
  generalize tq_ b T p = q at *
  refine ⟨hq1, hq2, ?_, ?_, fun hk => ?_, fun hk => ?_⟩
  · unfold tK_
    split
    · split
      · exact (kf_300 b q _).1
      · split
        · split <;> omega
        · split
          · have := hb q (by omega); omega
          · omega
    · omega
  · unfold tn_
    split
    · have h2 := sN_le (f := fun i => le_ (b i)) (T := T) (p := q + 1)
      have h3 := sN_le (f := fun i => di_ (b i)) (T := T) (p := q + 1)
      split
      · exact h2.2.1 (by omega)
      · split
        · exact h3.2.1 (by omega)
        · omega
    · exact Nat.le_refl _
  · have hlt : q < T := by
      apply Classical.byContradiction
      intro z
      apply hk
      unfold tK_
      rw [if_neg z]
    unfold tn_
    rw [if_pos hlt]
    have h2 := sN_le (f := fun i => le_ (b i)) (T := T) (p := q + 1)
    have h3 := sN_le (f := fun i => di_ (b i)) (T := T) (p := q + 1)
    split
    · omega
    · split
      · omega
      · omega
  · have hlt : q < T := by
      apply Classical.byContradiction
      intro z
      unfold tK_ at hk
      rw [if_neg z] at hk
      omega
    by_cases hl : le_ (b q) = true
    · unfold tK_ at hk
      rw [if_pos hlt, if_pos hl] at hk
      exact absurd hk (kf_300 b q _).2.2
    by_cases hd : di_ (b q) = true
    · have en : tn_ b T q = sN_ (fun i => di_ (b i)) T (q + 1) := by unfold tn_; rw [if_pos hlt, if_neg hl, if_pos hd]
      have hn : tn_ b T q - q ≤ 4 := by
        apply Classical.byContradiction
        intro z
        unfold tK_ at hk
        rw [if_pos hlt, if_neg hl, if_pos hd, if_neg z] at hk
        omega
      have h3 := sN_le (f := fun i => di_ (b i)) (T := T) (p := q + 1)
      have h4 := dg_lt (b := b) (q := q) (tn_ b T q - q) (fun i hi => by
        by_cases e : i = 0
        · rw [e, Nat.add_zero]; exact hd
        · exact (h3.2.2 (q + i) (by omega) (by rw [← en]; omega)).2)
      have h5 : 10 ^ (tn_ b T q - q) ≤ 10 ^ 4 := Nat.pow_le_pow_right (by omega) hn
      unfold tv_
      omega
    · exfalso
      unfold tK_ at hk
      rw [if_pos hlt, if_neg hl, if_neg hd] at hk
      by_cases hs : sg_ (b q) = true
      · rw [if_pos hs] at hk
        exact (nsg_ _ (hb q hlt) hs).2.2.1 hk
      · rw [if_neg hs] at hk; omega
theorem ac_0 {v nx aw lw cm : Nat} {wt : List Nat} {cl : List Cd} {ls : List (Nat × List Cd)} : ac_ 0 v nx aw lw cm wt cl ls = .inl 1 := by
  have hV : ∀ cm, acV 0 v nx lw cm wt cl ls = .inl 1 := fun cm => by
    unfold acV
    rw [if_neg (by decide), if_neg (by decide)]
  have hT : acT 0 nx lw cm wt cl ls = .inl 1 := by
    unfold acT
    rw [if_neg (by decide), if_neg (by decide)]
  match aw with
  | 0 =>
    show (if (0 : Nat) = 200 ∨ (0 : Nat) = 201 then (if ls.length = 16 then (Sum.inl 3 : Nat ⊕ MS) else .inr (1, 0 - 200, cm, wt, cl, ls, nx)) else .inl 1) = _
    rw [if_neg (by decide)]
  | 1 =>
    show (if (0 : Nat) = 202 then (Sum.inr (2, lw, cm, wt, cl, ls, nx) : Nat ⊕ MS) else if (0 : Nat) = 59 then .inr (0, lw, cm, wt, [], ls ++ [(lw, cl)], nx) else .inl 1) = _
    rw [if_neg (by decide), if_neg (by decide)]
  | 2 =>
    show (if (0 : Nat) = 205 ∨ (0 : Nat) = 40 then (if 8 ≤ opn_ wt then (Sum.inl 3 : Nat ⊕ MS) else .inr (2, lw, cm, 0 :: wt, cl, ls, nx)) else acV 0 v nx lw 0 wt cl ls) = _
    rw [if_neg (by decide)]; exact hV 0
  | 3 => exact hV cm
  | 4 =>
    show (if (0 : Nat) = 2 then (if v = 0 then (Sum.inl 2 : Nat ⊕ MS) else acV 0 v nx lw cm wt cl ls) else .inl 1) = _
    rw [if_neg (by decide)]
  | 5 =>
    show acE 0 nx lw cm wt cl ls = _
    unfold acE
    rw [if_neg (by decide)]
    by_cases c : cm = 1
    · rw [if_pos c]; exact hT
    · rw [if_neg c, if_neg (by decide)]
  | n + 6 => exact hT
theorem ac_p {k v nx aw lw cm aw' lw' cm' p' : Nat} {wt wt' : List Nat} {cl cl' : List Cd} {ls ls' : List (Nat × List Cd)} (e : ac_ k v nx aw lw cm wt cl ls = .inr (aw', lw', cm', wt', cl', ls', p')) : p' = nx := by
  have hx : ∀ {a b c : Nat} {d : List Nat} {f : List Cd} {g : List (Nat × List Cd)}, (Sum.inr (a, b, c, d, f, g, nx) : Nat ⊕ MS) = .inr (aw', lw', cm', wt', cl', ls', p') → p' = nx := fun h => by
    have := Sum.inr.inj h
    simp only [Prod.mk.injEq] at this
    exact this.2.2.2.2.2.2.symm
  have hn : ∀ {f : Nat}, (Sum.inl f : Nat ⊕ MS) = .inr (aw', lw', cm', wt', cl', ls', p') → p' = nx := fun h => absurd h (by simp)
  have hV : ∀ cm, acV k v nx lw cm wt cl ls = .inr (aw', lw', cm', wt', cl', ls', p') → p' = nx := fun cm h => by
    unfold acV at h
    split at h
    · exact hx h
    · split at h
      · exact hx h
      · exact hn h
  have hT : acT k nx lw cm wt cl ls = .inr (aw', lw', cm', wt', cl', ls', p') → p' = nx := fun h => by
    unfold acT at h
    split at h
    · exact hx h
    · split at h
      · split at h
        · split at h
          · exact hx h
          · exact hn h
        · split at h
          · exact hx h
          · exact hn h
      · exact hn h
  match aw, e with
  | 0, e =>
    have e : (if k = 200 ∨ k = 201 then (if ls.length = 16 then (Sum.inl 3 : Nat ⊕ MS) else .inr (1, k - 200, cm, wt, cl, ls, nx)) else .inl 1) = _ := e
    split at e
    · split at e
      · exact hn e
      · exact hx e
    · exact hn e
  | 1, e =>
    have e : (if k = 202 then (Sum.inr (2, lw, cm, wt, cl, ls, nx) : Nat ⊕ MS) else if k = 59 then .inr (0, lw, cm, wt, [], ls ++ [(lw, cl)], nx) else .inl 1) = _ := e
    split at e
    · exact hx e
    · split at e
      · exact hx e
      · exact hn e
  | 2, e =>
    have e : (if k = 205 ∨ k = 40 then (if 8 ≤ opn_ wt then (Sum.inl 3 : Nat ⊕ MS) else .inr (2, lw, cm, k :: wt, cl, ls, nx)) else acV k v nx lw 0 wt cl ls) = _ := e
    split at e
    · split at e
      · exact hn e
      · exact hx e
    · exact hV 0 e
  | 3, e => exact hV cm e
  | 4, e =>
    have e : (if k = 2 then (if v = 0 then (Sum.inl 2 : Nat ⊕ MS) else acV k v nx lw cm wt cl ls) else .inl 1) = _ := e
    split at e
    · split at e
      · exact hn e
      · exact hV cm e
    · exact hn e
  | 5, e =>
    have e : acE k nx lw cm wt cl ls = _ := e
    unfold acE at e
    split at e
    · exact hx e
    · split at e
      · exact hT e
      · split at e
        · exact hx e
        · exact hn e
  | n + 6, e => exact hT e
def st0_ : MS := (0, 0, 0, [], [], [], 0)
theorem MV0 {T : Nat} : MV_ T st0_ := ⟨⟨by omega, by omega, Nat.zero_le _, trivial, Nat.zero_le _, Nat.le_refl _, fun x hx => absurd hx (by simp), Nat.zero_le _⟩, rfl, rfl⟩
theorem rn_inl {b : Nat → Nat} {T n aw lw cm p f : Nat} {wt : List Nat} {cl : List Cd} {ls : List (Nat × List Cd)} (hne : ¬ (tK_ b T (tq_ b T p) = 0 ∧ aw = 0)) (ea : ac_ (tK_ b T (tq_ b T p)) (tv_ b T (tq_ b T p)) (tn_ b T (tq_ b T p)) aw lw cm wt cl ls = .inl f) : rn_ b T (n + 1) (aw, lw, cm, wt, cl, ls, p) = some (.inl (f, tq_ b T p)) := by
  unfold rn_
  rw [if_neg hne, ea]
theorem rn_inr {b : Nat → Nat} {T n aw lw cm p : Nat} {wt : List Nat} {cl : List Cd} {ls : List (Nat × List Cd)} {st' : MS} (hne : ¬ (tK_ b T (tq_ b T p) = 0 ∧ aw = 0)) (ea : ac_ (tK_ b T (tq_ b T p)) (tv_ b T (tq_ b T p)) (tn_ b T (tq_ b T p)) aw lw cm wt cl ls = .inr st') : rn_ b T (n + 1) (aw, lw, cm, wt, cl, ls, p) = rn_ b T n st' := by
  conv => lhs; unfold rn_
  rw [if_neg hne, ea]
/-- what the lines of a law are -/
def LN_ (T : Nat) (ls : List (Nat × List Cd)) : Prop := (fl2_ ls).length ≤ T ∧ (∀ x ∈ ls, x.1 ≤ 1 ∧ (x.2 = [] ∨ tys_ x.2 [] = some [1])) ∧ ls.length ≤ 16
section T7
variable {Q : Int32 → GS → Prop} {G : GS} {b : Nat → Nat} {T : Nat}
set_option maxHeartbeats 1000000 in
theorem rea_c (hb : TB_ b T G) (hF : ∀ n f q, rn_ b T n st0_ = some (.inl (f, q)) → ∀ G', FR [33, 34, 35, 36, 37] G G' → G' 33 2 = nI f → G' 33 3 = nI q → Q 0 G') (hS : ∀ n ls, rn_ b T n st0_ = some (.inr ls) → LN_ T ls → ∀ G', FR [33, 34, 35, 36, 37] G G' → CX_ [] [] ls G' → G' 33 2 = 0 → G' 33 3 = -1 → Q 1 G') : wp_X6_readLaw (nI T) G Q := by
  have hT := hb.1
  have hb2 : ∀ i, i < T → b i < 256 := fun i hi => (hb.2 i hi).1
  have key : ∀ (r i aw lw cm : Nat) (wt : List Nat) (cl : List Cd) (ls : List (Nat × List Cd)) (p : Nat) (G' : GS) (m : Nat), T - p ≤ r → i ≤ p → MV_ T (aw, lw, cm, wt, cl, ls, p) → (∀ n, rn_ b T (n + m) st0_ = rn_ b T n (aw, lw, cm, wt, cl, ls, p)) → FR [33, 34, 35, 36, 37] G G' → CX_ wt cl ls G' → G' 33 9 = nI aw → (1 ≤ aw → G' 33 10 = if lw = 0 then 1 else 0) → (aw = 3 ∨ aw = 4 ∨ aw = 5 → G' 33 11 = nI cm) → G' 33 8 = nI p → G' 33 4 = nI T → G' 33 2 = 0 → G' 33 3 = -1 → lp_X6_readLaw_44 Q (r + 1) (nI i) G' := by
    intro r
    induction r with
    | zero =>
      intro i aw lw cm wt cl ls p G' m hr hi hV hrun f c e9 e10 e11 e8 e4 e1 e2
      have hp := hV.1.2.2.1
      have hTB : TB_ b T G' := by
        refine ⟨hT, fun i hi => ?_⟩
        rw [f 32 (by decide), f 54 (by decide)]; exact hb.2 i hi
      obtain ⟨t1, t2, t3, t4, t5, t6⟩ := tfa_ hb2 hp
      refine ⟨fun z => absurd z (nI_nlt (a := 400) (by omega) (by omega)), fun _ => stp_c hTB e4 hp e8 (fun G2 k1 q1 q2 q3 q4 => ?_)⟩
      have k0 : tK_ b T (tq_ b T p) = 0 := by
        unfold tK_
        rw [if_neg (by omega)]
      have hrn := hrun 1
      rw [k0] at q3
      rw [q3]
      refine ⟨fun z => absurd rfl z, fun _ => ?_⟩
      have g9 : G2 33 9 = nI aw := (k1.2 9 (by decide)).trans e9
      have haw6 : aw ≤ 6 := by
        have := hV.2
        unfold MA_ at this
        split at this <;> first | omega | exact this.elim
      rw [g9]
      refine ⟨fun z => ?_, fun z => ?_⟩
      · have haw : aw ≠ 0 := fun e => z (by rw [e]; rfl)
        have c2 : CX_ wt cl ls G2 := c.g9 (k1.2 13 (by decide)) (k1.2 14 (by decide)) (k1.1 34 (by decide)) (k1.1 35 (by decide)) (k1.1 36 (by decide)) (k1.1 37 (by decide))
        refine acc_c (k := 0) (v := 0) (nx := T) hV hT (fun z => absurd rfl z) (Nat.le_refl _) c2 g9 (fun y => (k1.2 10 (by decide)).trans (e10 y)) (fun y => (k1.2 11 (by decide)).trans (e11 y)) q3 (fun y => absurd y (by decide)) (by omega) ?_
        rw [ac_0]
        intro G3 k3 x1 x2
        refine ⟨fun y => absurd rfl y, fun _ => hF (1 + m) 1 (tq_ b T p) ?_ G3 ((f.tr (k1.1.sub (by decide))).tr k3.1) x1 (by rw [x2]; exact q1)⟩
        rw [hrn]
        refine rn_inl (fun y => haw y.2) ?_
        rw [k0, ac_0]
      · have haw : aw = 0 := (nI_eq (b := 0) (by omega) (by omega)).mp z
        subst haw
        obtain ⟨w1, w2⟩ := hV.2
        subst w1 w2
        obtain ⟨⟨a2, a3, a4, a5, a6, a7, a8, a9⟩, -⟩ := hV
        refine hS (1 + m) ls ?_ ⟨by have : (fl2_ ls).length + 0 + 0 ≤ p := a7; omega, a8, a9⟩ G2 (f.tr (k1.1.sub (by decide))) (c.g9 (k1.2 13 (by decide)) (k1.2 14 (by decide)) (k1.1 34 (by decide)) (k1.1 35 (by decide)) (k1.1 36 (by decide)) (k1.1 37 (by decide))) ((k1.2 2 (by decide)).trans e1) ((k1.2 3 (by decide)).trans e2)
        rw [hrn]
        show (if tK_ b T (tq_ b T p) = 0 ∧ 0 = 0 then _ else _) = _
        rw [if_pos ⟨k0, rfl⟩]
    | succ r ih =>
      intro i aw lw cm wt cl ls p G' m hr hi hV hrun f c e9 e10 e11 e8 e4 e1 e2
      have hp := hV.1.2.2.1
      have hTB : TB_ b T G' := by
        refine ⟨hT, fun i hi => ?_⟩
        rw [f 32 (by decide), f 54 (by decide)]; exact hb.2 i hi
      obtain ⟨t1, t2, t3, t4, t5, t6⟩ := tfa_ hb2 hp
      refine ⟨fun z => absurd z (nI_nlt (a := 400) (by omega) (by omega)), fun _ => stp_c hTB e4 hp e8 (fun G2 k1 q1 q2 q3 q4 => ?_)⟩
      have g9 : G2 33 9 = nI aw := (k1.2 9 (by decide)).trans e9
      have haw6 : aw ≤ 6 := by
        have := hV.2
        unfold MA_ at this
        split at this <;> first | omega | exact this.elim
      have c2 : CX_ wt cl ls G2 := c.g9 (k1.2 13 (by decide)) (k1.2 14 (by decide)) (k1.1 34 (by decide)) (k1.1 35 (by decide)) (k1.1 36 (by decide)) (k1.1 37 (by decide))
      have acc : ¬ (tK_ b T (tq_ b T p) = 0 ∧ aw = 0) → wp_X6_accept G2 (fun r5 G6 => ((¬ r5 = 0 → lp_X6_readLaw_44 Q (r + 1) (nI i + 1) G6) ∧ (r5 = 0 → Q (0 : Int32) G6))) := by
        intro hne
        refine acc_c (v := tv_ b T (tq_ b T p)) (nx := tn_ b T (tq_ b T p)) hV hT t5 t4 c2 g9 (fun y => (k1.2 10 (by decide)).trans (e10 y)) (fun y => (k1.2 11 (by decide)).trans (e11 y)) q3 (fun y => ⟨q4 y, t6 y⟩) t3 ?_
        cases ea : ac_ (tK_ b T (tq_ b T p)) (tv_ b T (tq_ b T p)) (tn_ b T (tq_ b T p)) aw lw cm wt cl ls with
        | inl fa =>
          intro G3 k3 x1 x2
          refine ⟨fun y => absurd rfl y, fun _ => hF (0 + 1 + m) fa (tq_ b T p) (by rw [hrun]; exact rn_inl hne ea) G3 ((f.tr (k1.1.sub (by decide))).tr k3.1) x1 (by rw [x2]; exact q1)⟩
        | inr st' =>
          have hkne : tK_ b T (tq_ b T p) ≠ 0 := fun z => by
            rw [z, ac_0] at ea
            exact absurd ea (by simp)
          have hV2 := ac_inv hV t5 t4 t6 t3 ea
          have hpn := t5 hkne
          obtain ⟨aw', lw', cm', wt', cl', ls', p'⟩ := st'
          have hp' : p' = tn_ b T (tq_ b T p) := ac_p ea
          intro G3 c3 x9 x10 x11 k3
          refine ⟨fun _ => ?_, fun y => absurd y (by decide)⟩
          rw [nI_1]
          refine ih (i + 1) aw' lw' cm' wt' cl' ls' p' G3 (m + 1) (by omega) (by omega) hV2 (fun n => ?_) ((f.tr (k1.1.sub (by decide))).tr k3.1) c3 x9 x10 x11 ?_ ?_ ?_ ?_
          · rw [show n + (m + 1) = (n + 1) + m by omega, hrun]; exact rn_inr hne ea
          · rw [k3.2 8 (by decide), q2, hp']
          · rw [k3.2 4 (by decide), k1.2 4 (by decide)]; exact e4
          · rw [k3.2 2 (by decide), k1.2 2 (by decide)]; exact e1
          · rw [k3.2 3 (by decide), k1.2 3 (by decide)]; exact e2
      rw [q3]
      refine ⟨fun z => acc (fun y => z (by rw [y.1]; rfl)), fun z => ?_⟩
      have k0 : tK_ b T (tq_ b T p) = 0 := (nI_eq (b := 0) (by omega) (by omega)).mp z
      rw [g9]
      refine ⟨fun y => acc (fun x => y (by rw [x.2]; rfl)), fun y => ?_⟩
      have haw : aw = 0 := (nI_eq (b := 0) (by omega) (by omega)).mp y
      subst haw
      obtain ⟨w1, w2⟩ := hV.2
      subst w1 w2
      obtain ⟨⟨a2, a3, a4, a5, a6, a7, a8, a9⟩, -⟩ := hV
      refine hS (0 + 1 + m) ls ?_ ⟨by have : (fl2_ ls).length + 0 + 0 ≤ p := a7; omega, a8, a9⟩ G2 (f.tr (k1.1.sub (by decide))) c2 ((k1.2 2 (by decide)).trans e1) ((k1.2 3 (by decide)).trans e2)
      rw [hrun]
      show (if tK_ b T (tq_ b T p) = 0 ∧ 0 = 0 then _ else _) = _
      rw [if_pos ⟨k0, rfl⟩]
  refine ⟨T + 1, ?_⟩
  refine key T 0 0 0 0 [] [] [] 0 _ 0 (by omega) (Nat.le_refl _) MV0 (fun n => rfl) ?_ ⟨rfl, fun i hi => absurd hi (by show ¬ i < 0; omega), rfl, rfl, rfl, fun l hl => absurd hl (by show ¬ l < 0; omega), ⟨0, by decide, rfl, fun l hl => absurd hl (by show ¬ l < 0; omega)⟩, fun j hj => absurd hj (by show ¬ j < 0; omega)⟩ rfl (fun z => absurd z (by decide)) (fun z => absurd z (by decide)) rfl rfl rfl rfl
  exact (((((((((FR.rf _ G).gu _ (by decide)).gu _ (by decide)).gu _ (by decide)).gu _ (by decide)).gu _ (by decide)).gu _ (by decide)).gu _ (by decide)).gu _ (by decide)).gu _ (by decide) |>.gu _ (by decide)
end T7
