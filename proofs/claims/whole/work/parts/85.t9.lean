/-! values: products, sums, comparisons -/
abbrev RES : Type := (Nat × Nat) ⊕ List (Nat × List Cd)
section T9
variable {Q : Int32 → GS → Prop} {b : Nat → Nat} {T : Nat} {G0 : GS} {ls : List (Nat × List Cd)} {res : RES}
/-- the machine's fault is the reference's -/
def RB_f (G0 : GS) (Q : Int32 → GS → Prop) (res : RES) : Prop := ∀ f q, res = .inl (f, q) → RE_ G0 Q f q
theorem rn_f {n aw lw cm p f : Nat} {wt : List Nat} {cl : List Cd} (hr : rn_ b T n (aw, lw, cm, wt, cl, ls, p) = some res) (hne : ¬ (tK_ b T (tq_ b T p) = 0 ∧ aw = 0)) (ea : ac_ (tK_ b T (tq_ b T p)) (tv_ b T (tq_ b T p)) (tn_ b T (tq_ b T p)) aw lw cm wt cl ls = .inl f) : res = .inl (f, tq_ b T p) := by
  cases n with
  | zero => exact absurd hr (by show ¬ none = some res; simp)
  | succ n =>
    rw [rn_inl hne ea] at hr
    exact (Option.some.inj hr).symm
theorem rn_n {n aw lw cm p : Nat} {wt : List Nat} {cl : List Cd} {st' : MS} (hr : rn_ b T n (aw, lw, cm, wt, cl, ls, p) = some res) (hne : ¬ (tK_ b T (tq_ b T p) = 0 ∧ aw = 0)) (ea : ac_ (tK_ b T (tq_ b T p)) (tv_ b T (tq_ b T p)) (tn_ b T (tq_ b T p)) aw lw cm wt cl ls = .inr st') : ∃ n', n = n' + 1 ∧ rn_ b T n' st' = some res := by
  cases n with
  | zero => exact absurd hr (by show ¬ none = some res; simp)
  | succ n =>
    rw [rn_inr hne ea] at hr
    exact ⟨n, rfl, hr⟩
/-- a value is read: states 2, 3, 4 -/
theorem val_r {n aw lw cm cm2 p : Nat} {wt w : List Nat} {cl : List Cd} {G : GS} (hb : TB_ b T G0) (e10 : G0 49 10 = nI T) (h55 : G0 55 = wf_) (hV : MV_ T (aw, lw, cm, wt, cl, ls, p)) (haw : 1 ≤ aw) (hac : ac_ (tK_ b T (tq_ b T p)) (tv_ b T (tq_ b T p)) (tn_ b T (tq_ b T p)) aw lw cm wt cl ls = acV (tK_ b T (tq_ b T p)) (tv_ b T (tq_ b T p)) (tn_ b T (tq_ b T p)) lw cm2 wt cl ls) (hr : rn_ b T n (aw, lw, cm, wt, cl, ls, p) = some res) (h : RS_ b T G0 w cl ls p G)
    (hS : ∀ n' cl' p' G', n = n' + 1 → rn_ b T n' (5, lw, cm2, wt, cl', ls, p') = some res → MV_ T (5, lw, cm2, wt, cl', ls, p') → RS_ b T G0 w cl' ls p' G' → SF_ G G' → Q 0 G') (hF : RB_f G0 Q res) : wp_X10_readUnit G Q := by
  have hp := hV.1.2.2.1
  obtain ⟨t1, t2, t3, t4, t5, t6⟩ := tfa_ (fun i hi => (hb.2 i hi).1) hp
  have hne : ¬ (tK_ b T (tq_ b T p) = 0 ∧ aw = 0) := fun z => by omega
  have h7 := hV.1.2.2.2.2.2.1
  have hT := hb.1
  refine uni_r hb e10 h55 hp h ?_ (fun x hx G' r' s' => ?_) (fun hn => ?_)
  · by_cases hk : tK_ b T (tq_ b T p) = 0
    · exact Or.inr hk
    · left
      have := t5 hk
      rw [List.length_append]
      omega
  · have ea : ac_ (tK_ b T (tq_ b T p)) (tv_ b T (tq_ b T p)) (tn_ b T (tq_ b T p)) aw lw cm wt cl ls = .inr (5, lw, cm2, wt, cl ++ [x], ls, tn_ b T (tq_ b T p)) := by
      rw [hac]
      unfold acV
      rcases hx with ⟨e1, e2⟩ | ⟨e1, e2⟩
      · rw [if_pos e1, e2]
      · rw [if_neg (by omega), if_pos e1, e2]
    obtain ⟨n', en, hr'⟩ := rn_n hr hne ea
    exact hS n' _ _ G' en hr' (ac_inv hV t5 t4 t6 t3 ea) r' s'
  · have ea : ac_ (tK_ b T (tq_ b T p)) (tv_ b T (tq_ b T p)) (tn_ b T (tq_ b T p)) aw lw cm wt cl ls = .inl 1 := by
      rw [hac]
      unfold acV
      rw [if_neg (fun z => hn (Or.inl z)), if_neg (fun z => hn (Or.inr z))]
    exact hF _ _ (rn_f hr hne ea)
theorem rk_sg : ∀ k, k < 300 → (rK_ k = 6 ↔ k = 42 ∨ k = 47) ∧ (rK_ k = 5 ↔ k = 43 ∨ k = 45) ∧ (rK_ k = 4 ↔ k = 60 ∨ k = 61 ∨ k = 62) ∧ rK_ k ≤ 6 := by decide +kernel
theorem dw_c6 {k r : Nat} {w : List Nat} (h : r ≤ rK_ k) (hw : hr_k w < r) : dw_ r (k :: w) = w := by
  have : dw_ r (k :: w) = dw_ r w := if_pos h
  rw [this, dw_id hw]
theorem pp_c6 {k r : Nat} {w : List Nat} {c : List Cd} (hr : 1 ≤ r) (h : r ≤ rK_ k) (hw : hr_k w < r) : pp_ r (k :: w) c = (w, c ++ [(oc_ k, 0)]) := by
  rw [pp_y h, pp_id hr hw]
/-- codes stay below their room -/
theorem len_ {aw lw cm p r : Nat} {wt : List Nat} {cl : List Cd} (hr : 1 ≤ r) (hT : T ≤ 400) (hV : MV_ T (aw, lw, cm, wt, cl, ls, p)) : (fl2_ ls ++ (pp_ r wt cl).2).length + nbr_ (pp_ r wt cl).1 ≤ 400 := by
  have h7 := hV.1.2.2.2.2.2.1
  have h3 := hV.1.2.2.1
  have := (pp_cnt hr wt cl).1
  rw [List.length_append]
  omega
theorem lenc_ {aw lw cm p r : Nat} {wt w' : List Nat} {cl c' : List Cd} {x : Cd} (hr : 1 ≤ r) (hT : T ≤ 400) (hV : MV_ T (aw, lw, cm, wt, cl, ls, p)) (e : pp_ r wt cl = (w', c' ++ [x])) : (fl2_ ls ++ c').length < 400 := by
  have h := len_ hr hT hV
  rw [e] at h
  have h : (fl2_ ls ++ (c' ++ [x])).length + nbr_ w' ≤ 400 := h
  rw [List.length_append, List.length_append] at h
  have h : (fl2_ ls).length + (c'.length + 1) + nbr_ w' ≤ 400 := h
  rw [List.length_append]
  omega
set_option maxHeartbeats 1000000 in
theorem pro_l {lw cm : Nat} {wt w : List Nat} {Gs : GS} (hb : TB_ b T G0) (e10 : G0 49 10 = nI T) (h55 : G0 55 = wf_) (hh : hr_k wt < 6) (N : Nat)
    (hS : ∀ n' wt' cl' p' G', n' ≤ N → rn_ b T n' (5, lw, cm, wt', cl', ls, p') = some res → MV_ T (5, lw, cm, wt', cl', ls, p') → dw_ 6 wt' = wt → rK_ (tK_ b T (tq_ b T p')) < 6 → RS_ b T G0 w (pp_ 6 wt' cl').2 ls p' G' → SF_ Gs G' → Q 0 G') (hF : RB_f G0 Q res) :
    ∀ (n : Nat), n ≤ N → ∀ (wt' : List Nat) (cl' : List Cd) (p : Nat) (G : GS) (kf : Nat), rn_ b T n (5, lw, cm, wt', cl', ls, p) = some res → MV_ T (5, lw, cm, wt', cl', ls, p) → dw_ 6 wt' = wt → RS_ b T G0 w (pp_ 6 wt' cl').2 ls p G → SF_ Gs G → n < kf → lp_X10_readProduct_10 Q kf G := by
  intro n
  induction n using Nat.strongRecOn with
  | _ n ih =>
    intro hnN wt' cl' p G kf hr hV hd h hsf hkf
    obtain ⟨kf, rfl⟩ : ∃ k', kf = k' + 1 := ⟨kf - 1, by omega⟩
    have hp := hV.1.2.2.1
    have hT := hb.1
    have hb2 : ∀ i, i < T → b i < 256 := fun i hi => (hb.2 i hi).1
    obtain ⟨t1, t2, t3, t4, t5, t6⟩ := tfa_ hb2 hp
    have hk := kcl_ (b := b) (T := T) (q := tq_ b T p) hb2
    have hrs := rk_sg _ t3
    have hlk := h.2.2.2.2
    have go : tK_ b T (tq_ b T p) = 42 ∨ tK_ b T (tq_ b T p) = 47 → bk_X10_readProduct_28 Q (fun G => lp_X10_readProduct_10 Q kf G) G := by
      intro hmul
      have hr6 : rK_ (tK_ b T (tq_ b T p)) = 6 := hrs.1.mpr hmul
      have ea : ac_ (tK_ b T (tq_ b T p)) (tv_ b T (tq_ b T p)) (tn_ b T (tq_ b T p)) 5 lw cm wt' cl' ls = .inr (if tK_ b T (tq_ b T p) = 47 then 4 else 3, lw, cm, tK_ b T (tq_ b T p) :: wt, (pp_ 6 wt' cl').2, ls, tn_ b T (tq_ b T p)) := by
        show acE _ _ _ _ _ _ _ = _
        unfold acE
        rw [if_pos (by omega), hr6, pp_dw, hd]
      obtain ⟨n1, en1, hr1⟩ := rn_n hr (fun z => by omega) ea
      have hV1 := ac_inv hV t5 t4 t6 t3 ea
      -- the operator's right side
      have hp1 := hV1.1.2.2.1
      obtain ⟨u1, u2, u3, u4, u5, u6⟩ := tfa_ hb2 hp1
      have fin : ∀ (x1 : Int32) (G2 : GS), (x1 = 0 ↔ tK_ b T (tq_ b T p) = 47) → RS_ b T G0 w (pp_ 6 wt' cl').2 ls (tn_ b T (tq_ b T p)) G2 → SF_ Gs G2 → (tK_ b T (tq_ b T p) = 47 → tK_ b T (tq_ b T (tn_ b T (tq_ b T p))) = 2 ∧ tv_ b T (tq_ b T (tn_ b T (tq_ b T p))) ≠ 0) → bk_X10_readProduct_74 Q (fun G => lp_X10_readProduct_10 Q kf G) x1 G2 := by
        intro x1 G2 hx1 r2 s2 h47
        have hac : ac_ (tK_ b T (tq_ b T (tn_ b T (tq_ b T p)))) (tv_ b T (tq_ b T (tn_ b T (tq_ b T p)))) (tn_ b T (tq_ b T (tn_ b T (tq_ b T p)))) (if tK_ b T (tq_ b T p) = 47 then 4 else 3) lw cm (tK_ b T (tq_ b T p) :: wt) (pp_ 6 wt' cl').2 ls = acV (tK_ b T (tq_ b T (tn_ b T (tq_ b T p)))) (tv_ b T (tq_ b T (tn_ b T (tq_ b T p)))) (tn_ b T (tq_ b T (tn_ b T (tq_ b T p)))) lw cm (tK_ b T (tq_ b T p) :: wt) (pp_ 6 wt' cl').2 ls := by
          by_cases c : tK_ b T (tq_ b T p) = 47
          · rw [if_pos c]
            show (if _ = 2 then (if _ = 0 then _ else _) else _) = _
            rw [if_pos (h47 c).1, if_neg (h47 c).2]
          · rw [if_neg c]; rfl
        refine val_r hb e10 h55 hV1 (by split <;> omega) hac hr1 r2 (fun n2 cl2 p2 G3 en2 hr2 hV2 r3 s3 => ⟨fun _ => ?_, fun z => absurd z (by decide)⟩) (fun f q e => ?_)
        · have hpp : pp_ 6 (tK_ b T (tq_ b T p) :: wt) cl2 = (wt, cl2 ++ [(oc_ (tK_ b T (tq_ b T p)), 0)]) := pp_c6 (by omega) (by omega) hh
          have hl3 : (fl2_ ls ++ cl2).length < 400 := lenc_ (by omega) hT hV2 hpp
          have cont : ∀ G4, RS_ b T G0 w (cl2 ++ [(oc_ (tK_ b T (tq_ b T p)), 0)]) ls p2 G4 → SF_ G3 G4 → lp_X10_readProduct_10 Q kf G4 := by
            intro G4 r4 s4
            refine ih n2 (by omega) (by omega) (tK_ b T (tq_ b T p) :: wt) cl2 p2 G4 kf hr2 hV2 (dw_c6 (by omega) hh) ?_ ((s2.tr s3).tr s4) (by omega)
            rw [hpp]; exact r4
          refine ⟨fun z => ?_, fun z => ?_⟩
          · have e47 := hx1.mp z
            refine emi_r r3 hl3 (fun G4 r4 s4 => cont G4 (by rw [e47]; exact r4) s4)
          · have e42 : tK_ b T (tq_ b T p) = 42 := by
              rcases hmul with y | y
              · exact y
              · exact absurd (hx1.mpr y) z
            refine emi_r r3 hl3 (fun G4 r4 s4 => cont G4 (by rw [e42]; exact r4) s4)
        · intro G4 f4 x4 y4
          exact ⟨fun z => absurd rfl z, fun _ => hF f q e G4 f4 x4 y4⟩
      refine isg_r (ch := 42) hk hlk (by decide) (fun e => ?_) (fun e => ?_)
      · refine rd3_r hb e10 h55 hp h (fun G2 r2 s2 => ⟨fun _ => ⟨fun _ => ?_, fun z => absurd z (by decide)⟩, fun z => absurd z (by decide)⟩)
        exact fin 1 G2 ⟨fun z => absurd z (by decide), fun z => by omega⟩ r2 (hsf.tr s2) (fun z => by omega)
      · have e47 : tK_ b T (tq_ b T p) = 47 := hmul.resolve_left e
        refine rd3_r hb e10 h55 hp h (fun G2 r2 s2 => ⟨fun z => absurd rfl z, fun _ => ?_⟩)
        have lk2 := r2.2.2.2.2
        have hk2 := kcl_ (b := b) (T := T) (q := tq_ b T (tn_ b T (tq_ b T p))) hb2
        rw [if_pos e47] at hr1
        by_cases c2 : tK_ b T (tq_ b T (tn_ b T (tq_ b T p))) = 2
        · rw [(lk2.2.2.1 c2).1, (lk2.2.2.1 c2).2]
          refine ⟨fun _ => ⟨fun z => absurd rfl z, fun _ => ⟨fun z => ?_, fun z => ?_⟩⟩, fun z => absurd rfl z⟩
          · exact fin 0 G2 ⟨fun _ => e47, fun _ => rfl⟩ r2 (hsf.tr s2) (fun _ => ⟨c2, fun y => z (by rw [y]; rfl)⟩)
          · have v0 : tv_ b T (tq_ b T (tn_ b T (tq_ b T p))) = 0 := (nI_eq (b := 0) (by have := u6 c2; omega) (by omega)).mp z
            refine err_r (f := 2) r2 (hF _ _ (rn_f hr1 (fun z => by omega) ?_))
            show (if _ = 2 then (if _ = 0 then _ else _) else _) = _
            rw [if_pos c2, if_pos v0]
        · have n3 : ¬ G2 49 13 = 3 := by
            rcases hk2 with y | y | y | y | y
            · rw [lk2.1 y]; decide
            · rw [lk2.2.1 y]; decide
            · exact absurd y c2
            · rw [(lk2.2.2.2.2 y).1]; decide
            · rw [(lk2.2.2.2.1 y.1).1]; decide
          refine ⟨fun z => absurd z n3, fun _ => err_r (f := 1) r2 (hF _ _ (rn_f hr1 (fun z => by omega) ?_))⟩
          show (if _ = 2 then _ else Sum.inl 1) = _
          rw [if_neg c2]
    refine isg_r (ch := 42) hk hlk (by decide) (fun e => ⟨fun _ => go (Or.inl e), fun z => absurd z (by decide)⟩) (fun e1 => ⟨fun z => absurd rfl z, fun _ => ?_⟩)
    refine isg_r (ch := 47) hk hlk (by decide) (fun e => ⟨fun z => absurd z (by decide), fun _ => go (Or.inr e)⟩) (fun e2 => ⟨fun _ => ?_, fun z => absurd rfl z⟩)
    refine hS n wt' cl' p G hnN hr hV hd ?_ h hsf
    have : rK_ (tK_ b T (tq_ b T p)) ≠ 6 := fun z => (hrs.1.mp z).elim e1 e2
    omega
theorem pro_r {n aw lw cm cm2 p : Nat} {wt w : List Nat} {cl : List Cd} {G : GS} (hb : TB_ b T G0) (e10 : G0 49 10 = nI T) (h55 : G0 55 = wf_) (hh : hr_k wt < 6) (hV : MV_ T (aw, lw, cm, wt, cl, ls, p)) (haw : 1 ≤ aw) (hac : ac_ (tK_ b T (tq_ b T p)) (tv_ b T (tq_ b T p)) (tn_ b T (tq_ b T p)) aw lw cm wt cl ls = acV (tK_ b T (tq_ b T p)) (tv_ b T (tq_ b T p)) (tn_ b T (tq_ b T p)) lw cm2 wt cl ls) (hr : rn_ b T n (aw, lw, cm, wt, cl, ls, p) = some res) (h : RS_ b T G0 w cl ls p G)
    (hS : ∀ n' wt' cl' p' G', n' < n → rn_ b T n' (5, lw, cm2, wt', cl', ls, p') = some res → MV_ T (5, lw, cm2, wt', cl', ls, p') → dw_ 6 wt' = wt → rK_ (tK_ b T (tq_ b T p')) < 6 → RS_ b T G0 w (pp_ 6 wt' cl').2 ls p' G' → SF_ G G' → Q 0 G') (hF : RB_f G0 Q res) : wp_X10_readProduct G Q := by
  refine val_r hb e10 h55 hV haw hac hr h (fun n1 cl1 p1 G1 en hr1 hV1 r1 s1 => ⟨fun _ => ⟨n1 + 1, ?_⟩, fun z => absurd z (by decide)⟩) (fun f q e G' f' x y => ⟨fun z => absurd rfl z, fun _ => hF f q e G' f' x y⟩)
  refine pro_l hb e10 h55 hh n1 (Gs := G) (fun n' wt' cl' p' G' hn' => hS n' wt' cl' p' G' (by omega)) hF n1 (Nat.le_refl _) wt cl1 p1 G1 (n1 + 1) hr1 hV1 (dw_id hh) ?_ s1 (by omega)
  rw [pp_id (by omega) hh]; exact r1
set_option maxHeartbeats 1000000 in
theorem sum_l {lw cm : Nat} {wt w : List Nat} {Gs : GS} (hb : TB_ b T G0) (e10 : G0 49 10 = nI T) (h55 : G0 55 = wf_) (hh : hr_k wt < 5) (N : Nat)
    (hS : ∀ n' wt' cl' p' G', n' ≤ N → rn_ b T n' (5, lw, cm, wt', cl', ls, p') = some res → MV_ T (5, lw, cm, wt', cl', ls, p') → dw_ 5 wt' = wt → rK_ (tK_ b T (tq_ b T p')) < 5 → RS_ b T G0 w (pp_ 5 wt' cl').2 ls p' G' → SF_ Gs G' → Q 0 G') (hF : RB_f G0 Q res) :
    ∀ (n : Nat), n ≤ N → ∀ (wt' : List Nat) (cl' : List Cd) (p : Nat) (G : GS) (kf : Nat), rn_ b T n (5, lw, cm, wt', cl', ls, p) = some res → MV_ T (5, lw, cm, wt', cl', ls, p) → dw_ 5 wt' = wt → rK_ (tK_ b T (tq_ b T p)) < 6 → RS_ b T G0 w (pp_ 5 wt' cl').2 ls p G → SF_ Gs G → n < kf → lp_X10_readSum_10 Q kf G := by
  intro n
  induction n using Nat.strongRecOn with
  | _ n ih =>
    intro hnN wt' cl' p G kf hr hV hd hr6 h hsf hkf
    obtain ⟨kf, rfl⟩ : ∃ k', kf = k' + 1 := ⟨kf - 1, by omega⟩
    have hp := hV.1.2.2.1
    have hT := hb.1
    have hb2 : ∀ i, i < T → b i < 256 := fun i hi => (hb.2 i hi).1
    obtain ⟨t1, t2, t3, t4, t5, t6⟩ := tfa_ hb2 hp
    have hk := kcl_ (b := b) (T := T) (q := tq_ b T p) hb2
    have hrs := rk_sg _ t3
    have hlk := h.2.2.2.2
    have go : ∀ z0 : Int32, tK_ b T (tq_ b T p) = 43 ∨ tK_ b T (tq_ b T p) = 45 → z0 = oc_ (tK_ b T (tq_ b T p)) → bk_X10_readSum_42 Q (fun G => lp_X10_readSum_10 Q kf G) z0 G := by
      intro z0 hadd hz
      have hr5 : rK_ (tK_ b T (tq_ b T p)) = 5 := hrs.2.1.mpr hadd
      have ea : ac_ (tK_ b T (tq_ b T p)) (tv_ b T (tq_ b T p)) (tn_ b T (tq_ b T p)) 5 lw cm wt' cl' ls = .inr (3, lw, cm, tK_ b T (tq_ b T p) :: wt, (pp_ 5 wt' cl').2, ls, tn_ b T (tq_ b T p)) := by
        show acE _ _ _ _ _ _ _ = _
        unfold acE
        rw [if_pos (by omega), hr5, pp_dw, hd, if_neg (by omega)]
      obtain ⟨n1, en1, hr1⟩ := rn_n hr (fun z => by omega) ea
      have hV1 := ac_inv hV t5 t4 t6 t3 ea
      refine rd3_r hb e10 h55 hp h (fun G2 r2 s2 => ?_)
      refine pro_r (cm2 := cm) hb e10 h55 (by show rK_ _ < 6; omega) hV1 (by omega) rfl hr1 r2 (fun n2 wt2 cl2 p2 G3 hn2 hr2 hV2 hd2 hk2 r3 s3 => ⟨fun _ => ?_, fun z => absurd z (by decide)⟩) (fun f q e G' f' x y => ⟨fun z => absurd rfl z, fun _ => hF f q e G' f' x y⟩)
      have hpp : pp_ 5 wt2 cl2 = (wt, (pp_ 6 wt2 cl2).2 ++ [(oc_ (tK_ b T (tq_ b T p)), 0)]) := by
        rw [← pp_pp (r := 6) (r' := 5) (by omega) wt2 cl2, pp_dw, hd2]
        exact pp_c6 (by omega) (by omega) hh
      have hd5 : dw_ 5 wt2 = wt := by rw [← pp_dw wt2 cl2, hpp]
      refine emi_r r3 (lenc_ (by omega) hT hV2 hpp) (fun G4 r4 s4 => ?_)
      refine ih n2 (by omega) (by omega) wt2 cl2 p2 G4 kf hr2 hV2 hd5 hk2 ?_ (((hsf.tr s2).tr s3).tr s4) (by omega)
      rw [hpp, ← hz]; exact r4
    have e14 : tK_ b T (tq_ b T p) = 43 ∨ tK_ b T (tq_ b T p) = 45 → G 49 14 = nI (tK_ b T (tq_ b T p)) := fun z => (hlk.2.2.2.2 (by rcases z with y | y <;> rw [y] <;> decide)).2
    have i43 : nI (tK_ b T (tq_ b T p)) = 43 ↔ tK_ b T (tq_ b T p) = 43 := (kI t3 (c := 43) (by omega)).1
    refine isg_r (ch := 43) hk hlk (by decide) (fun e => ⟨fun _ => ?_, fun z => absurd z (by decide)⟩) (fun e1 => ⟨fun z => absurd rfl z, fun _ => ?_⟩)
    · rw [e14 (Or.inl e), i43]
      exact ⟨fun z => absurd e z, fun _ => go 2 (Or.inl e) (by rw [e]; decide)⟩
    refine isg_r (ch := 45) hk hlk (by decide) (fun e => ⟨fun z => absurd z (by decide), fun _ => ?_⟩) (fun e2 => ⟨fun _ => ?_, fun z => absurd rfl z⟩)
    · rw [e14 (Or.inr e), i43]
      exact ⟨fun _ => go 3 (Or.inr e) (by rw [e]; decide), fun z => absurd z (by omega)⟩
    · refine hS n wt' cl' p G hnN hr hV hd ?_ h hsf
      have : rK_ (tK_ b T (tq_ b T p)) ≠ 5 := fun z => (hrs.2.1.mp z).elim e1 e2
      omega
theorem sum_r {n aw lw cm cm2 p : Nat} {wt w : List Nat} {cl : List Cd} {G : GS} (hb : TB_ b T G0) (e10 : G0 49 10 = nI T) (h55 : G0 55 = wf_) (hh : hr_k wt < 5) (hV : MV_ T (aw, lw, cm, wt, cl, ls, p)) (haw : 1 ≤ aw) (hac : ac_ (tK_ b T (tq_ b T p)) (tv_ b T (tq_ b T p)) (tn_ b T (tq_ b T p)) aw lw cm wt cl ls = acV (tK_ b T (tq_ b T p)) (tv_ b T (tq_ b T p)) (tn_ b T (tq_ b T p)) lw cm2 wt cl ls) (hr : rn_ b T n (aw, lw, cm, wt, cl, ls, p) = some res) (h : RS_ b T G0 w cl ls p G)
    (hS : ∀ n' wt' cl' p' G', n' < n → rn_ b T n' (5, lw, cm2, wt', cl', ls, p') = some res → MV_ T (5, lw, cm2, wt', cl', ls, p') → dw_ 5 wt' = wt → rK_ (tK_ b T (tq_ b T p')) < 5 → RS_ b T G0 w (pp_ 5 wt' cl').2 ls p' G' → SF_ G G' → Q 0 G') (hF : RB_f G0 Q res) : wp_X10_readSum G Q := by
  refine pro_r hb e10 h55 (by omega) hV haw hac hr h (fun n1 wt1 cl1 p1 G1 hn1 hr1 hV1 hd1 hk1 r1 s1 => ⟨fun _ => ⟨n1 + 1, ?_⟩, fun z => absurd z (by decide)⟩) (fun f q e G' f' x y => ⟨fun z => absurd rfl z, fun _ => hF f q e G' f' x y⟩)
  have hpp : pp_ 5 wt1 cl1 = (wt, (pp_ 6 wt1 cl1).2) := by
    rw [← pp_pp (r := 6) (r' := 5) (by omega) wt1 cl1, pp_dw, hd1]
    exact pp_id (by omega) hh
  refine sum_l hb e10 h55 hh n1 (Gs := G) (fun n' wt' cl' p' G' hn' => hS n' wt' cl' p' G' (by omega)) hF n1 (Nat.le_refl _) wt1 cl1 p1 G1 (n1 + 1) hr1 hV1 ?_ hk1 ?_ s1 (by omega)
  · rw [← pp_dw wt1 cl1, hpp]
  · rw [hpp]; exact r1
set_option maxHeartbeats 1000000 in
theorem cmp_r {n lw cm p : Nat} {wt : List Nat} {cl : List Cd} {G : GS} (hb : TB_ b T G0) (e10 : G0 49 10 = nI T) (h55 : G0 55 = wf_) (hV : MV_ T (2, lw, cm, wt, cl, ls, p)) (hk2 : ¬ (tK_ b T (tq_ b T p) = 205 ∨ tK_ b T (tq_ b T p) = 40)) (hr : rn_ b T n (2, lw, cm, wt, cl, ls, p) = some res) (h : RS_ b T G0 wt cl ls p G)
    (hS : ∀ n' wt' cl' p' G', n' < n → rn_ b T n' (5, lw, 1, wt', cl', ls, p') = some res → MV_ T (5, lw, 1, wt', cl', ls, p') → dw_ 4 wt' = wt → rK_ (tK_ b T (tq_ b T p')) < 5 → RS_ b T G0 wt (pp_ 4 wt' cl').2 ls p' G' → SF_ G G' → Q 0 G') (hF : RB_f G0 Q res) : wp_X10_readCompared G Q := by
  have hT := hb.1
  have hb2 : ∀ i, i < T → b i < 256 := fun i hi => (hb.2 i hi).1
  have hh : hr_k wt ≤ 3 := hV.2.2.1
  have hac : ac_ (tK_ b T (tq_ b T p)) (tv_ b T (tq_ b T p)) (tn_ b T (tq_ b T p)) 2 lw cm wt cl ls = acV (tK_ b T (tq_ b T p)) (tv_ b T (tq_ b T p)) (tn_ b T (tq_ b T p)) lw 0 wt cl ls := if_neg hk2
  refine sum_r hb e10 h55 (by omega) hV (by omega) hac hr h (fun n1 wt1 cl1 p1 G1 hn1 hr1 hV1 hd1 hk1 r1 s1 => ⟨fun _ => ?_, fun z => absurd z (by decide)⟩) (fun f q e G' f' x y => ⟨fun z => absurd rfl z, fun _ => hF f q e G' f' x y⟩)
  have hp1 := hV1.1.2.2.1
  obtain ⟨t1, t2, t3, t4, t5, t6⟩ := tfa_ hb2 hp1
  have hk := kcl_ (b := b) (T := T) (q := tq_ b T p1) hb2
  have hrs := rk_sg _ t3
  have hlk := r1.2.2.2.2
  have hpp1 : pp_ 4 wt1 cl1 = (wt, (pp_ 5 wt1 cl1).2) := by
    rw [← pp_pp (r := 5) (r' := 4) (by omega) wt1 cl1, pp_dw, hd1]
    exact pp_id (by omega) (by omega)
  have go : ∀ z0 : Int32, rK_ (tK_ b T (tq_ b T p1)) = 4 → z0 = oc_ (tK_ b T (tq_ b T p1)) → bk_X10_readCompared_73 Q z0 G1 := by
    intro z0 hr4 hz
    have ea : ac_ (tK_ b T (tq_ b T p1)) (tv_ b T (tq_ b T p1)) (tn_ b T (tq_ b T p1)) 5 lw 0 wt1 cl1 ls = .inr (3, lw, 1, tK_ b T (tq_ b T p1) :: wt, (pp_ 5 wt1 cl1).2, ls, tn_ b T (tq_ b T p1)) := by
      show acE _ _ _ _ _ _ _ = _
      unfold acE
      rw [if_neg (by omega), if_neg (by omega), if_pos hr4, hpp1]
    obtain ⟨n2, en2, hr2⟩ := rn_n hr1 (fun z => by omega) ea
    have hV2 := ac_inv hV1 t5 t4 t6 t3 ea
    refine rd3_r hb e10 h55 hp1 r1 (fun G2 r2 s2 => ?_)
    refine sum_r (cm2 := 1) hb e10 h55 (by show rK_ _ < 5; omega) hV2 (by omega) rfl hr2 r2 (fun n3 wt3 cl3 p3 G3 hn3 hr3 hV3 hd3 hk3 r3 s3 => ⟨fun _ => ?_, fun z => absurd z (by decide)⟩) (fun f q e G' f' x y => ⟨fun z => absurd rfl z, fun _ => hF f q e G' f' x y⟩)
    have hpp : pp_ 4 wt3 cl3 = (wt, (pp_ 5 wt3 cl3).2 ++ [(oc_ (tK_ b T (tq_ b T p1)), 0)]) := by
      rw [← pp_pp (r := 5) (r' := 4) (by omega) wt3 cl3, pp_dw, hd3]
      exact pp_c6 (by omega) (by omega) (by omega)
    refine emi_r r3 (lenc_ (by omega) hT hV3 hpp) (fun G4 r4 s4 => ?_)
    refine hS n3 wt3 cl3 p3 G4 (by omega) hr3 hV3 (by rw [← pp_dw wt3 cl3, hpp]) hk3 ?_ (((s1.tr s2).tr s3).tr s4)
    rw [hpp, ← hz]; exact r4
  have e14 : tK_ b T (tq_ b T p1) = 60 ∨ tK_ b T (tq_ b T p1) = 61 ∨ tK_ b T (tq_ b T p1) = 62 → G1 49 14 = nI (tK_ b T (tq_ b T p1)) := fun z => (hlk.2.2.2.2 (by rcases z with y | y | y <;> rw [y] <;> decide)).2
  have bk : tK_ b T (tq_ b T p1) = 60 ∨ tK_ b T (tq_ b T p1) = 61 ∨ tK_ b T (tq_ b T p1) = 62 → bk_X10_readCompared_43 Q G1 := by
    intro z
    have i60 : nI (tK_ b T (tq_ b T p1)) = 60 ↔ tK_ b T (tq_ b T p1) = 60 := (kI t3 (c := 60) (by omega)).1
    have i61 : nI (tK_ b T (tq_ b T p1)) = 61 ↔ tK_ b T (tq_ b T p1) = 61 := (kI t3 (c := 61) (by omega)).1
    unfold bk_X10_readCompared_43
    rw [e14 z, i60, i61]
    refine ⟨fun y1 => ⟨fun y2 => ?_, fun y2 => ?_⟩, fun y1 => ?_⟩
    · have y3 : tK_ b T (tq_ b T p1) = 62 := by omega
      exact go 8 (hrs.2.2.1.mpr z) (by rw [y3]; decide)
    · exact go 7 (hrs.2.2.1.mpr z) (by rw [y2]; decide)
    · exact go 6 (hrs.2.2.1.mpr z) (by rw [y1]; decide)
  refine isg_r (ch := 60) hk hlk (by decide) (fun e => ⟨fun _ => bk (Or.inl e), fun z => absurd z (by decide)⟩) (fun e1 => ⟨fun z => absurd rfl z, fun _ => ?_⟩)
  refine isg_r (ch := 61) hk hlk (by decide) (fun e => ⟨fun _ => bk (Or.inr (Or.inl e)), fun z => absurd z (by decide)⟩) (fun e2 => ⟨fun z => absurd rfl z, fun _ => ?_⟩)
  refine isg_r (ch := 62) hk hlk (by decide) (fun e => ⟨fun _ => bk (Or.inr (Or.inr e)), fun z => absurd z (by decide)⟩) (fun e3 => ⟨fun z => absurd rfl z, fun _ => ?_⟩)
  refine err_r (f := 1) r1 (hF _ _ (rn_f hr1 (fun z => by omega) ?_))
  show acE _ _ _ _ _ _ _ = _
  unfold acE
  rw [if_neg (by omega), if_neg (by omega), if_neg (fun z => by have := hrs.2.2.1.mp z; omega)]
end T9
