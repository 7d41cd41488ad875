/-! the law's text by the reference -/
def RZx_ (b : Nat → Nat) (T : Nat) (G0 : GS) (c : List Cd) (ls : List (Nat × List Cd)) (p : Nat) (G : GS) : Prop := RS_ b T G0 [] c ls p (gu_ G 49 25 0)
theorem ed_le {x : Nat × List Cd} {ls : List (Nat × List Cd)} {l : Nat} (h : l ≤ ls.length) : ed_ (ls ++ [x]) l = ed_ ls l := by
  unfold ed_
  rw [List.take_append_of_le_length h]
theorem ed_all (ls : List (Nat × List Cd)) : ed_ ls ls.length = (fl2_ ls).length := by
  unfold ed_
  rw [List.take_length]
section TC
variable {Q : Int32 → GS → Prop} {b : Nat → Nat} {T : Nat} {G0 G : GS} {c : List Cd} {ls : List (Nat × List Cd)} {p : Nat} {res : RES}
theorem RZx_.of (h : RS_ b T G0 [] c ls p G) : RZx_ b T G0 c ls p G := by
  obtain ⟨f, ⟨p1, p2, p3, p4, p5, p6⟩, t⟩ := h
  exact ⟨f.g49 _ (by decide), ⟨p1, p2, p3, rfl, p5, p6⟩, t.cg rfl rfl rfl rfl⟩
theorem RZx_.ff (h : RZx_ b T G0 c ls p G) : RFf_ G0 G := by
  obtain ⟨f, -, -⟩ := h
  refine ⟨fun r hr => ?_, fun j hj => ?_, f.2.2.1, f.2.2.2⟩
  · have := f.1 r hr
    rw [← this]
    show G r = (if r = 49 then _ else G r)
    rw [if_neg (fun e => hr (by rw [e]; decide))]
  · have := f.2.1 j hj
    rw [← this]
    show G 49 j = upd (G 49) 25 0 j
    rw [up_miss _ _ (fun e => hj (by rw [e]; decide))]
theorem rd2x (hb : TB_ b T G0) (e10 : G0 49 10 = nI T) (h55 : G0 55 = wf_) (hp : p ≤ T) (hf : RFf_ G0 G) (hP : RP_ [] c ls (gu_ G 49 25 0)) (e11 : G 49 11 = nI p) (hQ : ∀ G', RZx_ b T G0 c ls p G' → SF_ G G' → Q 0 G') : wp_X10_reads G Q := by
  have hTB : TB_ b T G := ⟨hb.1, fun i hi => by rw [hf.1 32 (by decide), hf.1 54 (by decide)]; exact hb.2 i hi⟩
  refine rds_r hTB ((hf.2.1 10 (by decide)).trans e10) ((hf.1 55 (by decide)).trans h55) hp e11 (fun G' k1 q1 q2 q3 => hQ G' ⟨RFf_.g49 ⟨?_, fun j hj => ?_, fun l hl => ?_, fun j hj => ?_⟩ _ (by decide), ?_, q1, q2, q3.cg rfl rfl⟩ ⟨k1.1 56 (by decide), k1.1 57 (by decide), k1.1 58 (by decide)⟩)
  · exact hf.1.tr (k1.1.sub (by decide))
  · rw [k1.2 j (fun z => hj ((by decide : ∀ j, j ∈ [11, 12, 13, 14] → j ∈ rfl_) j z))]; exact hf.2.1 j hj
  · rw [k1.1 56 (by decide), k1.1 57 (by decide), k1.1 58 (by decide)]; exact hf.2.2.1 l hl
  · rw [k1.1 59 (by decide), k1.1 60 (by decide)]; exact hf.2.2.2 j hj
  · exact hP.cg (k1.2 22 (by decide)) (k1.2 23 (by decide)) rfl (k1.1 56 (by decide)) (k1.1 57 (by decide)) (k1.1 58 (by decide)) (k1.1 59 (by decide)) (k1.1 60 (by decide)) (k1.1 61 (by decide))
theorem rdx_r (hb : TB_ b T G0) (e10 : G0 49 10 = nI T) (h55 : G0 55 = wf_) (hp : p ≤ T) (h : RZx_ b T G0 c ls p G) (hQ : ∀ G', RZx_ b T G0 c ls (tn_ b T (tq_ b T p)) G' → SF_ G G' → Q 0 G') : wp_X10_reads G Q :=
  rd2x hb e10 h55 (tfa_ (fun i hi => (hb.2 i hi).1) hp).2.2.2.1 h.ff h.2.1 h.2.2.2.1 hQ
theorem err_x {f : Nat} (h : RZx_ b T G0 c ls p G) (hQ : RE_ G0 Q f (tq_ b T p)) : wp_X10_errs (nI f) G Q := hQ _ ((h.ff.g49 _ (by decide)).g49 _ (by decide)) rfl h.2.2.1
theorem RZx_.lk (h : RZx_ b T G0 c ls p G) : LK_ (tK_ b T (tq_ b T p)) (tv_ b T (tq_ b T p)) G := h.2.2.2.2.cg rfl rfl
theorem RZx_.g56 (h : RZx_ b T G0 c ls p G) (v : Int32) : RZx_ b T G0 c ls p (gu_ G 56 (16 + ls.length) v) := by
  obtain ⟨f, ⟨p1, p2, p3, p4, p5, p6⟩, t⟩ := h
  refine ⟨⟨fun r hr => ?_, f.2.1, fun l hl => ?_, f.2.2.2⟩, ⟨p1, p2, p3, p4, p5, fun l hl => ?_⟩, t.cg rfl rfl rfl rfl⟩
  · rw [← f.1 r hr]
    show (if r = 49 then _ else (if r = 56 then _ else G r)) = (if r = 49 then _ else G r)
    rw [if_neg (fun e => hr (by rw [e]; decide)), if_neg (fun e => hr (by rw [e]; decide)), if_neg (fun e => hr (by rw [e]; decide))]
  · have := f.2.2.1 l hl
    refine ⟨?_, this.2⟩
    show upd (G 56) (16 + ls.length) v l = _
    rw [up_miss _ _ (by omega)]; exact this.1
  · have := p6 l hl
    refine ⟨?_, this.2⟩
    show upd (G 56) (16 + ls.length) v (16 + l) = _
    rw [up_miss _ _ (by omega)]; exact this.1
theorem RZx_.g57 (h : RZx_ b T G0 c ls p G) (v : Int32) : RZx_ b T G0 c ls p (gu_ G 57 (16 + ls.length) v) := by
  obtain ⟨f, ⟨p1, p2, p3, p4, p5, p6⟩, t⟩ := h
  refine ⟨⟨fun r hr => ?_, f.2.1, fun l hl => ?_, f.2.2.2⟩, ⟨p1, p2, p3, p4, p5, fun l hl => ?_⟩, t.cg rfl rfl rfl rfl⟩
  · rw [← f.1 r hr]
    show (if r = 49 then _ else (if r = 57 then _ else G r)) = (if r = 49 then _ else G r)
    rw [if_neg (fun e => hr (by rw [e]; decide)), if_neg (fun e => hr (by rw [e]; decide)), if_neg (fun e => hr (by rw [e]; decide))]
  · have := f.2.2.1 l hl
    refine ⟨this.1, ?_, this.2.2⟩
    show upd (G 57) (16 + ls.length) v l = _
    rw [up_miss _ _ (by omega)]; exact this.2.1
  · have := p6 l hl
    refine ⟨this.1, ?_, this.2.2⟩
    show upd (G 57) (16 + ls.length) v (16 + l) = _
    rw [up_miss _ _ (by omega)]; exact this.2.1
theorem RZx_.cls {lw : Nat} {v : Int32} (h : RZx_ b T G0 c ls p G) (h56 : G 56 (16 + ls.length) = nI lw) (h57 : G 57 (16 + ls.length) = nI (fl2_ ls).length) (hv : v = G 49 22) : RZx_ b T G0 [] (ls ++ [(lw, c)]) p (gu_ G 58 (16 + ls.length) v) := by
  obtain ⟨f, ⟨p1, p2, p3, p4, p5, p6⟩, t⟩ := h
  have ef : fl2_ (ls ++ [(lw, c)]) ++ [] = fl2_ ls ++ c := by rw [List.append_nil, fl2_app]
  refine ⟨⟨fun r hr => ?_, f.2.1, fun l hl => ?_, f.2.2.2⟩, ⟨?_, ?_, p3, p4, p5, fun l hl => ?_⟩, t.cg rfl rfl rfl rfl⟩
  · rw [← f.1 r hr]
    show (if r = 49 then _ else (if r = 58 then _ else G r)) = (if r = 49 then _ else G r)
    rw [if_neg (fun e => hr (by rw [e]; decide)), if_neg (fun e => hr (by rw [e]; decide)), if_neg (fun e => hr (by rw [e]; decide))]
  · have := f.2.2.1 l hl
    refine ⟨this.1, this.2.1, ?_⟩
    show upd (G 58) (16 + ls.length) v l = _
    rw [up_miss _ _ (by omega)]; exact this.2.2
  · rw [ef]; exact p1
  · rw [ef]; exact p2
  · rw [List.length_append] at hl
    have hl : l < ls.length + 1 := hl
    show G 56 (16 + l) = _ ∧ G 57 (16 + l) = _ ∧ upd (G 58) (16 + ls.length) v (16 + l) = _
    rw [getD_app, ed_le (show l ≤ ls.length by omega)]
    by_cases e : l = ls.length
    · subst e
      rw [if_neg (Nat.lt_irrefl _), if_pos rfl, h56, h57, ed_all, up_hit, hv]
      refine ⟨rfl, rfl, ?_⟩
      have e1 : ed_ (ls ++ [(lw, c)]) (ls.length + 1) = (fl2_ ls ++ c).length := by
        have := ed_all (ls ++ [(lw, c)])
        rw [List.length_append, fl2_app] at this
        exact this
      rw [e1]
      exact p1
    · rw [if_pos (by omega), up_miss _ _ (by omega), ed_le (show l + 1 ≤ ls.length by omega)]
      exact p6 l (by omega)
theorem any_x {n lw cm : Nat} (hb : TB_ b T G0) (e10 : G0 49 10 = nI T) (h55 : G0 55 = wf_) (hr : rn_ b T n (2, lw, cm, [], [], ls, p) = some res) (hV : MV_ T (2, lw, cm, [], [], ls, p)) (h : RZx_ b T G0 [] ls p G)
    (hS : ∀ n' aw cm wt cl p G', n' ≤ n → rn_ b T n' (aw, lw, cm, wt, cl, ls, p) = some res → MV_ T (aw, lw, cm, wt, cl, ls, p) → DU_ b T aw cm p → (tK_ b T (tq_ b T p)) ≠ 204 → (tK_ b T (tq_ b T p)) ≠ 203 → (pp_ 1 wt cl).1 = [] → RS_ b T G0 [] (pp_ 1 wt cl).2 ls p G' → SF_ G G' → Q 0 G') (hF : RB_f G0 Q res) : wp_X10_readAny G Q :=
  ⟨n + 1, (any_l (Gs := G) hb e10 h55 n hS hF n (Nat.le_refl _)).1 cm [] [] p (gu_ G 49 25 0) (n + 1) hr hV h (SF_.rf _) (by omega)⟩
theorem tx81 {n aw lw cm : Nat} {wt : List Nat} {cl : List Cd} {R2 : Int32 → GS → Prop} (hb : TB_ b T G0) (e10 : G0 49 10 = nI T) (h55 : G0 55 = wf_) (hr : rn_ b T n (aw, lw, cm, wt, cl, ls, p) = some res) (hV : MV_ T (aw, lw, cm, wt, cl, ls, p)) (haw : 1 ≤ aw) (hl : ls.length < 16) (hac : ac_ (tK_ b T (tq_ b T p)) (tv_ b T (tq_ b T p)) (tn_ b T (tq_ b T p)) aw lw cm wt cl ls = if (tK_ b T (tq_ b T p)) = 59 then .inr (0, lw, cm, [], [], ls ++ [(lw, c)], (tn_ b T (tq_ b T p))) else .inl 1) (h : RZx_ b T G0 c ls p G) (h56 : G 56 (16 + ls.length) = nI lw) (h57 : G 57 (16 + ls.length) = nI (fl2_ ls).length)
    (hR : ∀ n' cm' ls' p' G', n' < n → ls'.length = ls.length + 1 → rn_ b T n' (0, lw, cm', [], [], ls', p') = some res → MV_ T (0, lw, cm', [], [], ls', p') → RZx_ b T G0 [] ls' p' G' → R2 (nI (ls.length + 1)) G') (hF : RB_f G0 Q res) : bk_X10_readText_81 Q R2 (nI ls.length) (nI (16 + ls.length)) G := by
  have hp := hV.1.2.2.1
  have hb2 : ∀ i, i < T → b i < 256 := fun i hi => (hb.2 i hi).1
  obtain ⟨t1, t2, t3, t4, t5, t6⟩ := tfa_ hb2 hp
  have hk := kcl_ (b := b) (T := T) (q := tq_ b T p) hb2
  have hne : ¬ ((tK_ b T (tq_ b T p)) = 0 ∧ aw = 0) := fun z => by omega
  unfold bk_X10_readText_81
  rw [nI_clamp (by omega), nI_1]
  have h2 := RZx_.cls (v := G 49 22) h h56 h57 rfl
  refine ⟨vp_in_nI (by omega) (by omega), isg_r (ch := 59) hk h2.lk (by decide) (fun e => ⟨fun _ => ?_, fun z => absurd z (by decide)⟩) (fun e => ⟨fun z => absurd rfl z, fun _ => ?_⟩)⟩
  · obtain ⟨n1, en, hr1⟩ := rn_n hr hne (hac.trans (if_pos e))
    exact rdx_r hb e10 h55 hp h2 (fun G3 r3 s3 => hR n1 cm _ _ G3 (by omega) List.length_append hr1 (ac_inv hV t5 t4 t6 t3 (hac.trans (if_pos e))) r3)
  · exact err_x (f := 1) h2 (hF _ _ (rn_f hr hne (hac.trans (if_neg e))))
set_option maxHeartbeats 1000000 in
theorem txt_l (hb : TB_ b T G0) (e10 : G0 49 10 = nI T) (h55 : G0 55 = wf_) (hS : ∀ ls p G', res = .inr ls → RZx_ b T G0 [] ls p G' → Q (nI ls.length) G') (hF : RB_f G0 Q res) :
    ∀ n lw cm ls p G kf, rn_ b T n (0, lw, cm, [], [], ls, p) = some res → MV_ T (0, lw, cm, [], [], ls, p) → RZx_ b T G0 [] ls p G → n < kf → lp_X10_readText_2 Q kf (nI ls.length) G := by
  intro n
  induction n using Nat.strongRecOn with
  | _ n ih =>
    intro lw cm ls p G kf hr hV h hkf
    obtain ⟨kf, rfl⟩ : ∃ k', kf = k' + 1 := ⟨kf - 1, by omega⟩
    have hT := hb.1
    have hb2 : ∀ i, i < T → b i < 256 := fun i hi => (hb.2 i hi).1
    have hp := hV.1.2.2.1
    have h16 := hV.1.2.2.2.2.2.2.2
    obtain ⟨t1, t2, t3, t4, t5, t6⟩ := tfa_ hb2 hp
    have hk := kcl_ (b := b) (T := T) (q := tq_ b T p) hb2
    have hlk := h.lk
    have e0 : (G 49 13 = 0 ↔ (tK_ b T (tq_ b T p)) = 0) ∧ (G 49 13 = 2 ↔ 200 ≤ (tK_ b T (tq_ b T p))) := by
      rcases hk with e | e | e | e | e
      · rw [hlk.1 e]; exact ⟨⟨fun _ => e, fun _ => rfl⟩, ⟨fun z => absurd z (by decide), fun z => by omega⟩⟩
      · rw [hlk.2.1 e]; exact ⟨⟨fun z => absurd z (by decide), fun z => by omega⟩, ⟨fun z => absurd z (by decide), fun z => by omega⟩⟩
      · rw [(hlk.2.2.1 e).1]; exact ⟨⟨fun z => absurd z (by decide), fun z => by omega⟩, ⟨fun z => absurd z (by decide), fun z => by omega⟩⟩
      · have := sgl_ _ e
        rw [(hlk.2.2.2.2 e).1]; exact ⟨⟨fun z => absurd z (by decide), fun z => by omega⟩, ⟨fun z => absurd z (by decide), fun z => by omega⟩⟩
      · rw [(hlk.2.2.2.1 e.1).1]; exact ⟨⟨fun z => absurd z (by decide), fun z => by omega⟩, ⟨fun _ => e.1, fun _ => rfl⟩⟩
    have no : ¬ ((tK_ b T (tq_ b T p)) = 200 ∨ (tK_ b T (tq_ b T p)) = 201) → ((¬ (G 49 13) = 0 → wp_X10_errs (1 : Int32) G (fun r1 G2 => Q r1 G2)) ∧ ((G 49 13) = 0 → Q (nI ls.length) G)) := by
      intro hn
      refine ⟨fun z => err_x (f := 1) h (hF _ _ (rn_f hr (fun y => z (e0.1.mpr y.1)) (if_neg hn))), fun z => hS ls p G ?_ h⟩
      have k0 := e0.1.mp z
      cases n with
      | zero => exact absurd hr (by show ¬ none = some res; simp)
      | succ n =>
        have hr : (if (tK_ b T (tq_ b T p)) = 0 ∧ 0 = 0 then _ else _) = some res := hr
        rw [if_pos ⟨k0, rfl⟩] at hr
        exact (Option.some.inj hr).symm
    refine ⟨fun z => no (fun y => z (e0.2.mpr (by omega))), fun z => ?_⟩
    have hk2 := e0.2.mp z
    have i1 : (1 : Int32) < nI ((tK_ b T (tq_ b T p)) - 200) ↔ 1 < (tK_ b T (tq_ b T p)) - 200 := by
      rw [iL, nI_toInt (by omega), show (1 : Int32).toInt = 1 by decide]
      omega
    rw [(hlk.2.2.2.1 hk2).2, i1]
    refine ⟨fun y => no (fun x => by omega), fun y => ?_⟩
    have h01 : (tK_ b T (tq_ b T p)) = 200 ∨ (tK_ b T (tq_ b T p)) = 201 := by omega
    have i16 : nI ls.length = 16 ↔ ls.length = 16 := nI_eq (b := 16) (by omega) (by omega)
    have hne : ¬ ((tK_ b T (tq_ b T p)) = 0 ∧ 0 = 0) := fun z => by omega
    rw [i16]
    refine ⟨fun c16 => ?_, fun c16 => err_x (f := 3) h (hF _ _ (rn_f hr hne ?_))⟩
    · have ea : ac_ (tK_ b T (tq_ b T p)) (tv_ b T (tq_ b T p)) (tn_ b T (tq_ b T p)) 0 lw cm [] [] ls = .inr (1, (tK_ b T (tq_ b T p)) - 200, cm, [], [], ls, (tn_ b T (tq_ b T p))) := by
        show (if _ then (if _ then _ else _) else _) = _
        rw [if_pos h01, if_neg c16]
      obtain ⟨n1, en1, hr1⟩ := rn_n hr hne ea
      have hV1 := ac_inv hV t5 t4 t6 t3 ea
      have ed : (16 : Int32) + nI ls.length = nI (16 + ls.length) := by rw [show (16 : Int32) = nI 16 from rfl, nI_add]
      rw [ed, nI_clamp (by omega)]
      refine ⟨vp_in_nI (by omega) (by omega), rdx_r hb e10 h55 hp (h.g56 _) (fun G2 r2 s2 => ?_)⟩
      have hL : ((tK_ b T (tq_ b T p)) - 200) = ((tK_ b T (tq_ b T p)) - 200) := rfl
      have q56 : G2 56 (16 + ls.length) = nI ((tK_ b T (tq_ b T p)) - 200) := by rw [s2.1]; exact up_hit _ _ _
      have hp2 := t4
      generalize (tn_ b T (tq_ b T p)) = p2 at *
      generalize (tK_ b T (tq_ b T p)) - 200 = lw2 at *
      have hR : ∀ n' cm' ls' p' G', n' < n1 → ls'.length = ls.length + 1 → rn_ b T n' (0, lw2, cm', [], [], ls', p') = some res → MV_ T (0, lw2, cm', [], [], ls', p') → RZx_ b T G0 [] ls' p' G' → lp_X10_readText_2 Q kf (nI (ls.length + 1)) G' := by
        intro n' cm' ls' p' G' hn' el hr' hV' h'
        rw [← el]
        exact ih n' (by omega) lw2 cm' ls' p' G' kf hr' hV' h' (by omega)
      have r3 := r2.g57 (G2 49 22)
      have q57 : gu_ G2 57 (16 + ls.length) (G2 49 22) 57 (16 + ls.length) = nI (fl2_ ls).length := by
        show upd (G2 57) (16 + ls.length) (G2 49 22) (16 + ls.length) = _
        rw [up_hit]
        have := r2.2.1.1
        rw [List.append_nil] at this
        exact this
      obtain ⟨u1, u2, u3, u4, u5, u6⟩ := tfa_ hb2 hp2
      have hk3 := kcl_ (b := b) (T := T) (q := tq_ b T p2) hb2
      refine iwd_r (m := 2) hk3 r3.lk (by omega) (fun e => ⟨fun z => absurd z (by decide), fun _ => ?_⟩) (fun e1 => ⟨fun _ => ?_, fun z => absurd rfl z⟩)
      · have ea2 : ac_ (tK_ b T (tq_ b T p2)) (tv_ b T (tq_ b T p2)) (tn_ b T (tq_ b T p2)) 1 lw2 cm [] [] ls = .inr (2, lw2, cm, [], [], ls, tn_ b T (tq_ b T p2)) := if_pos e
        obtain ⟨n2, en2, hr2⟩ := rn_n hr1 (fun z => by omega) ea2
        have hV2 := ac_inv hV1 u5 u4 u6 u3 ea2
        refine rdx_r hb e10 h55 hp2 r3 (fun G4 r4 s4 => ?_)
        refine any_x hb e10 h55 hr2 hV2 r4 (fun n' aw cm' wt cl p3 G5 hn' hr' hV' hdu k4 k3 hw r5 s5 => ⟨fun _ => ?_, fun z => absurd z (by decide)⟩) (fun f q e G' f' x y => ⟨fun z => absurd rfl z, fun _ => hF f q e G' f' x y⟩)
        have s6 := s4.tr s5
        refine tx81 hb e10 h55 hr' hV' (by rcases hdu with y | y <;> omega) (by omega) ?_ (RZx_.of r5) (by rw [s6.1]; exact q56) (by rw [s6.2.1]; exact q57) (fun n' cm' ls' p' G' hn' => hR n' cm' ls' p' G' (by omega)) hF
        rw [DU_ac hdu]
        unfold acT
        rw [if_neg (fun z => z.elim k4 k3)]
        by_cases c9 : tK_ b T (tq_ b T p3) = 59
        · rw [if_pos (Or.inr c9), if_pos hw]
        · rw [if_neg c9]
          by_cases c8 : tK_ b T (tq_ b T p3) = 41
          · rw [if_pos (Or.inl c8), if_pos hw]
          · rw [if_neg (fun z => z.elim c8 c9)]
      · refine tx81 hb e10 h55 hr1 hV1 (by omega) (by omega) ?_ r3 q56 q57 hR hF
        show (if _ then _ else _) = _
        rw [if_neg e1]
    · show (if _ then (if _ then _ else _) else _) = _
      rw [if_pos h01, if_pos c16]
end TC
