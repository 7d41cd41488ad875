/-! conditions: the reference's loop -/
section TB
variable {Q : Int32 → GS → Prop} {b : Nat → Nat} {T : Nat} {G0 G : GS} {w : List Nat} {c : List Cd} {ls : List (Nat × List Cd)} {p : Nat} {res : RES}
theorem wai_x {s : Nat} {x : Int32} (hx : x = pcd_ s) (h : RSo_ b T G0 (opn_ (s :: w)) w c ls p G) (hl : w.length ≤ 29) (hQ : ∀ G', RS_ b T G0 (s :: w) c ls p G' → SF_ G G' → Q 0 G') : wp_X10_waits x G Q := by
  subst hx; exact wai_r h hl hQ
theorem stn_r {aw lw cm r s p2 : Nat} {x : Int32} {wt : List Nat} {cl : List Cd} (hx : x = pcd_ s) (hs : s ∈ [205, 204, 203]) (hr : rK_ s + 1 = r) (hT : T ≤ 400) (hV : MV_ T (aw, lw, cm, wt, cl, ls, p2)) (h : RS_ b T G0 (pp_ r wt cl).1 (pp_ r wt cl).2 ls p G) (hQ : ∀ G', RS_ b T G0 (pp_ (rK_ s) wt cl).1 (pp_ (rK_ s) wt cl).2 ls p G' → SF_ G G' → Q 0 G') : wp_X10_settles x G Q := by
  have q5 := (by decide : ∀ s, s ∈ [205, 204, 203] → 1 ≤ rK_ s) s hs
  subst hx
  have hcn := pp_cnt (r := r) (by omega) wt cl
  have ho := pp_ok (r := r) (c := cl) hV.1.2.2.2.1
  refine stl_r hs ho (by have := pp_hr (r := r) (by omega) wt cl; omega) (okW_29 ho (by have := hV.1.2.2.2.2.1; omega)) (len_ (by omega) hT hV) h (fun G' r' s' => hQ G' ?_ s')
  rw [pp_pp (by omega)] at r'; exact r'
def DU_ (b : Nat → Nat) (T aw cm p : Nat) : Prop := (aw = 5 ∧ cm = 1 ∧ rK_ (tK_ b T (tq_ b T p)) < 5) ∨ aw = 6
theorem DU_ac {aw lw cm : Nat} {wt : List Nat} {cl : List Cd} (haw : DU_ b T aw cm p) : ac_ (tK_ b T (tq_ b T p)) (tv_ b T (tq_ b T p)) (tn_ b T (tq_ b T p)) aw lw cm wt cl ls = acT (tK_ b T (tq_ b T p)) (tn_ b T (tq_ b T p)) lw cm wt cl ls := by
  rcases haw with ⟨e1, e2, e3⟩ | e1
  · subst e1
    show acE _ _ _ _ _ _ _ = _
    unfold acE
    rw [if_neg (by omega), if_pos e2]
  · subst e1; rfl
set_option maxHeartbeats 2000000 in
theorem any_l {lw : Nat} {Gs : GS} (hb : TB_ b T G0) (e10 : G0 49 10 = nI T) (h55 : G0 55 = wf_) (N : Nat)
    (hS : ∀ n' aw cm wt cl p G', n' ≤ N → rn_ b T n' (aw, lw, cm, wt, cl, ls, p) = some res → MV_ T (aw, lw, cm, wt, cl, ls, p) → DU_ b T aw cm p → (tK_ b T (tq_ b T p)) ≠ 204 → (tK_ b T (tq_ b T p)) ≠ 203 → (pp_ 1 wt cl).1 = [] → RS_ b T G0 [] (pp_ 1 wt cl).2 ls p G' → SF_ Gs G' → Q 0 G') (hF : RB_f G0 Q res) : ∀ n, n ≤ N →
    (∀ cm wt cl p G kf, rn_ b T n (2, lw, cm, wt, cl, ls, p) = some res → MV_ T (2, lw, cm, wt, cl, ls, p) → RS_ b T G0 wt cl ls p G → SF_ Gs G → n < kf → lp_X10_readAny_9 Q kf (nI (brn_ wt)) 1 G) ∧
    (∀ aw cm wt cl p G kf, DU_ b T aw cm p → rn_ b T n (aw, lw, cm, wt, cl, ls, p) = some res → MV_ T (aw, lw, cm, wt, cl, ls, p) → RS_ b T G0 (pp_ 3 wt cl).1 (pp_ 3 wt cl).2 ls p G → SF_ Gs G → n < kf → lp_X10_readAny_9 Q kf (nI (brn_ wt)) 0 G) := by
  intro n
  induction n using Nat.strongRecOn with
  | _ n ih =>
    intro hnN
    have hT := hb.1
    have hb2 : ∀ i, i < T → b i < 256 := fun i hi => (hb.2 i hi).1
    refine ⟨fun cm wt cl p G kf hr hV h hsf hkf => ?_, fun aw cm wt cl p G kf haw hr hV h hsf hkf => ?_⟩
    · obtain ⟨kf, rfl⟩ : ∃ k', kf = k' + 1 := ⟨kf - 1, by omega⟩
      have hp := hV.1.2.2.1
      obtain ⟨t1, t2, t3, t4, t5, t6⟩ := tfa_ hb2 hp
      have hk := kcl_ (b := b) (T := T) (q := tq_ b T p) hb2
      have hlk := h.2.2.2.2
      have hne : ¬ ((tK_ b T (tq_ b T p)) = 0 ∧ 2 = 0) := fun z => by omega
      have go : ∀ x3 : Int32, ((tK_ b T (tq_ b T p)) = 205 ∨ (tK_ b T (tq_ b T p)) = 40) → (x3 = 0 ↔ (tK_ b T (tq_ b T p)) = 40) → bk_X10_readAny_32 Q (fun y1 y2 G => lp_X10_readAny_9 Q kf y1 y2 G) (nI (brn_ wt)) 1 x3 G := by
        intro x3 ho hx
        have h8 := hV.1.2.2.2.2.1
        have e8 : nI (opn_ wt) = 8 ↔ opn_ wt = 8 := nI_eq (b := 8) (by omega) (by omega)
        unfold bk_X10_readAny_32
        rw [h.2.1.2.2.1, e8]
        refine ⟨fun c8 => ?_, fun c8 => err_r (f := 3) h (hF _ _ (rn_f hr hne ?_))⟩
        · have ea : ac_ (tK_ b T (tq_ b T p)) (tv_ b T (tq_ b T p)) (tn_ b T (tq_ b T p)) 2 lw cm wt cl ls = .inr (2, lw, cm, (tK_ b T (tq_ b T p)) :: wt, cl, ls, (tn_ b T (tq_ b T p))) := by
            show (if _ then (if _ then _ else _) else _) = _
            rw [if_pos ho, if_neg (by omega)]
          obtain ⟨n1, en1, hr1⟩ := rn_n hr hne ea
          have hV1 := ac_inv hV t5 t4 t6 t3 ea
          have hop : opn_ ((tK_ b T (tq_ b T p)) :: wt) = opn_ wt + 1 := by
            show (if _ then 1 else 0) + opn_ wt = _
            rw [if_pos ho, Nat.add_comm]
          have r1 : RSo_ b T G0 (opn_ ((tK_ b T (tq_ b T p)) :: wt)) wt cl ls p (gu_ G 49 23 (nI (opn_ wt) + 1)) := RSo_.opn (o := opn_ wt) h (by rw [hop, nI_1])
          have hl := okW_29 hV.1.2.2.2.1 h8
          have cont : ∀ G2, RS_ b T G0 ((tK_ b T (tq_ b T p)) :: wt) cl ls p G2 → SF_ G G2 → wp_X10_reads G2 (fun _ G3 => lp_X10_readAny_9 Q kf (nI (brn_ ((tK_ b T (tq_ b T p)) :: wt))) 1 G3) := fun G2 r2 s2 => rd3_r hb e10 h55 hp r2 (fun G3 r3 s3 => (ih n1 (by omega) (by omega)).1 cm _ cl _ G3 kf hr1 hV1 r3 ((hsf.tr s2).tr s3) (by omega))
          have hbr : brn_ ((tK_ b T (tq_ b T p)) :: wt) = (if (tK_ b T (tq_ b T p)) = 40 then 1 else 0) + brn_ wt := rfl
          refine ⟨fun z => ⟨fun y => absurd y z, fun _ => ?_⟩, fun z => ⟨fun _ => ?_, fun y => absurd z y⟩⟩
          · have e : (tK_ b T (tq_ b T p)) ≠ 40 := fun y => z (hx.mpr y)
            have e5 : (tK_ b T (tq_ b T p)) = 205 := ho.resolve_right e
            rw [if_neg e, Nat.zero_add] at hbr
            rw [hbr] at cont
            exact wai_x (s := (tK_ b T (tq_ b T p))) (by rw [e5]; decide) r1 hl (fun G2 r2 s2 => cont G2 r2 s2)
          · have e : (tK_ b T (tq_ b T p)) = 40 := hx.mp z
            rw [if_pos e, Nat.add_comm] at hbr
            rw [hbr, ← nI_1] at cont
            exact wai_x (s := (tK_ b T (tq_ b T p))) (by rw [e]; decide) r1 hl (fun G2 r2 s2 => cont G2 r2 s2)
        · show (if _ then (if _ then _ else _) else _) = _
          rw [if_pos ho, if_pos (by omega)]
      refine ⟨fun z => absurd z (by decide), fun _ => ?_⟩
      refine iwd_r (m := 5) hk hlk (by omega) (fun e => ⟨fun _ => go 1 (Or.inl e) ⟨fun z => absurd z (by decide), fun z => by omega⟩, fun z => absurd z (by decide)⟩) (fun e1 => ⟨fun z => absurd rfl z, fun _ => ?_⟩)
      refine isg_r (ch := 40) hk hlk (by decide) (fun e => ⟨fun z => absurd z (by decide), fun _ => go 0 (Or.inr e) ⟨fun _ => e, fun _ => rfl⟩⟩) (fun e2 => ⟨fun _ => ?_, fun z => absurd rfl z⟩)
      refine cmp_r hb e10 h55 hV (fun z => z.elim e1 e2) hr h (fun n' wt' cl' p' G' hn' hr' hV' hd' hk' r' s' => ⟨fun _ => ?_, fun z => absurd z (by decide)⟩) (fun f q e G' f' x y => ⟨fun z => absurd rfl z, fun _ => hF f q e G' f' x y⟩)
      have hbr : brn_ wt = brn_ wt' := by rw [← hd', brn_dw (by omega)]
      refine stn_r (r := 4) (s := 205) (by decide) (by decide) (by decide) hT hV' (by rw [pp_dw, hd']; exact r') (fun G2 r2 s2 => ?_)
      rw [hbr]
      exact (ih n' (by omega) (by omega)).2 5 1 wt' cl' p' G2 kf (Or.inl ⟨rfl, rfl, hk'⟩) hr' hV' r2 ((hsf.tr s').tr s2) (by omega)
    · obtain ⟨kf, rfl⟩ : ∃ k', kf = k' + 1 := ⟨kf - 1, by omega⟩
      have hp := hV.1.2.2.1
      obtain ⟨t1, t2, t3, t4, t5, t6⟩ := tfa_ hb2 hp
      have hk := kcl_ (b := b) (T := T) (q := tq_ b T p) hb2
      have hlk := h.2.2.2.2
      have hac := DU_ac (lw := lw) (wt := wt) (cl := cl) (ls := ls) haw
      have hne : ¬ ((tK_ b T (tq_ b T p)) = 0 ∧ aw = 0) := fun z => by rcases haw with y | y <;> omega
      have hbr : ∀ r, 1 ≤ r → brn_ (pp_ r wt cl).1 = brn_ wt := fun r hr => by rw [pp_dw, brn_dw hr]
      have hon : ∀ r, 1 ≤ r → okW (pp_ r wt cl).1 ∧ (pp_ r wt cl).1.length ≤ 29 := fun r hr => by
        have ho := pp_ok (r := r) (c := cl) hV.1.2.2.2.1
        exact ⟨ho, okW_29 ho (by have := hV.1.2.2.2.2.1; have := (pp_cnt hr wt cl).2; omega)⟩
      have psh : ∀ (x : Int32), x = pcd_ (tK_ b T (tq_ b T p)) → ((tK_ b T (tq_ b T p)) = 204 ∨ (tK_ b T (tq_ b T p)) = 203) → ∀ G1, RS_ b T G0 (pp_ (rK_ (tK_ b T (tq_ b T p))) wt cl).1 (pp_ (rK_ (tK_ b T (tq_ b T p))) wt cl).2 ls p G1 → SF_ Gs G1 → wp_X10_waits x G1 (fun _ G22 => wp_X10_reads G22 (fun _ G24 => lp_X10_readAny_9 Q kf (nI (brn_ wt)) 1 G24)) := by
        intro x hx h34 G1 r1 s1
        have hrk : 1 ≤ rK_ (tK_ b T (tq_ b T p)) := by rcases h34 with y | y <;> rw [y] <;> decide
        have ea : ac_ (tK_ b T (tq_ b T p)) (tv_ b T (tq_ b T p)) (tn_ b T (tq_ b T p)) aw lw cm wt cl ls = .inr (2, lw, cm, (tK_ b T (tq_ b T p)) :: (pp_ (rK_ (tK_ b T (tq_ b T p))) wt cl).1, (pp_ (rK_ (tK_ b T (tq_ b T p))) wt cl).2, ls, (tn_ b T (tq_ b T p))) := by rw [hac]; exact if_pos h34
        obtain ⟨n1, en1, hr1⟩ := rn_n hr hne ea
        have hV1 := ac_inv hV t5 t4 t6 t3 ea
        have hopn : opn_ ((tK_ b T (tq_ b T p)) :: (pp_ (rK_ (tK_ b T (tq_ b T p))) wt cl).1) = opn_ (pp_ (rK_ (tK_ b T (tq_ b T p))) wt cl).1 := by
          show (if _ then 1 else 0) + _ = _
          rw [if_neg (by omega), Nat.zero_add]
        have hb' : brn_ ((tK_ b T (tq_ b T p)) :: (pp_ (rK_ (tK_ b T (tq_ b T p))) wt cl).1) = brn_ wt := by
          show (if _ then 1 else 0) + _ = _
          rw [if_neg (by omega), Nat.zero_add, hbr _ hrk]
        refine wai_x hx (by rw [hopn]; exact r1) (hon _ hrk).2 (fun G2 r2 s2 => rd3_r hb e10 h55 hp r2 (fun G3 r3 s3 => ?_))
        have := (ih n1 (by omega) (by omega)).1 cm _ _ _ G3 kf hr1 hV1 r3 ((s1.tr s2).tr s3) (by omega)
        rw [hb'] at this; exact this
      refine ⟨fun _ => ?_, fun z => absurd rfl z⟩
      refine iwd_r (m := 4) hk hlk (by omega) (fun e => ⟨fun z => absurd z (by decide), fun _ => ?_⟩) (fun e1 => ⟨fun _ => ?_, fun z => absurd rfl z⟩)
      · refine stn_r (r := 3) (s := 204) (by decide) (by decide) (by decide) hT hV h (fun G2 r2 s2 => ?_)
        exact psh _ (by rw [e]; decide) (Or.inl e) G2 (by rw [e]; exact r2) (hsf.tr s2)
      refine iwd_r (m := 3) hk hlk (by omega) (fun e => ⟨fun z => absurd z (by decide), fun _ => ?_⟩) (fun e2 => ⟨fun _ => ?_, fun z => absurd rfl z⟩)
      · refine stn_r (r := 3) (s := 204) (by decide) (by decide) (by decide) hT hV h (fun G2 r2 s2 => ?_)
        refine stn_r (r := 2) (s := 203) (by decide) (by decide) (by decide) hT hV r2 (fun G3 r3 s3 => ?_)
        exact psh _ (by rw [e]; decide) (Or.inr e) G3 (by rw [e]; exact r3) ((hsf.tr s2).tr s3)
      · refine stn_r (r := 3) (s := 204) (by decide) (by decide) (by decide) hT hV h (fun G2 r2 s2 => ?_)
        refine stn_r (r := 2) (s := 203) (by decide) (by decide) (by decide) hT hV r2 (fun G3 r3 s3 => ?_)
        have r3 : RS_ b T G0 (pp_ 1 wt cl).1 (pp_ 1 wt cl).2 ls p G3 := r3
        have hb1 := hbr 1 (by omega)
        have ho1 := hon 1 (by omega)
        have hr1 := pp_hr (r := 1) (by omega) wt cl
        have hln := len_ (r := 1) (by omega) hT hV
        have hbl : brn_ wt ≤ 8 := brn_le hV.1.2.2.2.1 hV.1.2.2.2.2.1
        cases ew : (pp_ 1 wt cl).1 with
        | nil =>
          rw [ew] at hb1 r3
          have hb1 : 0 = brn_ wt := hb1
          rw [← hb1]
          exact ⟨fun z => absurd rfl z, fun _ => hS n aw cm wt cl p G3 hnN hr hV haw e1 e2 ew r3 ((hsf.tr s2).tr s3)⟩
        | cons s w2 =>
          rw [ew] at hb1 r3 ho1 hr1 hln
          have hs : s = 40 := by
            rcases ws_cases ho1.1.1 with y | y | y | y | y | y | y | y | y | y | y <;> subst y <;> first | rfl | (exfalso; revert hr1; show ¬ rK_ _ < 1; decide)
          subst hs
          have hb1 : 1 + brn_ w2 = brn_ wt := hb1
          have lk3 := r3.2.2.2.2
          refine ⟨fun _ => ?_, fun z => absurd ((nI_eq (b := 0) (by omega) (by omega)).mp z) (by omega)⟩
          refine isg_r (ch := 41) hk lk3 (by decide) (fun e => ⟨fun _ => ?_, fun z => absurd z (by decide)⟩) (fun e3 => ⟨fun z => absurd rfl z, fun _ => ?_⟩)
          · have ea : ac_ (tK_ b T (tq_ b T p)) (tv_ b T (tq_ b T p)) (tn_ b T (tq_ b T p)) aw lw cm wt cl ls = .inr (6, lw, cm, w2, (pp_ 1 wt cl).2, ls, (tn_ b T (tq_ b T p))) := by
              rw [hac]
              unfold acT
              rw [if_neg (by omega), if_pos (Or.inl e), ew, if_neg (by simp), if_pos e]
              rfl
            obtain ⟨n1, en1, hrn⟩ := rn_n hr hne ea
            have hV1 := ac_inv hV t5 t4 t6 t3 ea
            have p23 : G3 49 23 = nI (opn_ w2 + 1) := by
              rw [r3.2.1.2.2.1]
              show nI (1 + opn_ w2) = _
              rw [Nat.add_comm]
            have p25 : G3 49 25 = nI (w2.length + 1) := r3.2.1.2.2.2.1
            have q4 : RS_ b T G0 w2 (pp_ 1 wt cl).2 ls p (gu_ (gu_ G3 49 25 (nI w2.length)) 49 23 (nI (opn_ w2))) := RSo_.opn (o := opn_ (40 :: w2)) (RSo_.pop (s := 40) r3) rfl
            rw [p25, p23, nI_pred, nI_pred]
            have hl2 : w2.length + 1 ≤ 29 := ho1.2
            refine stl_r (s := 205) (by decide) ho1.1.2.2 ho1.1.2.1 (by omega) ?_ q4 (fun G4 r4 s4 => rd3_r hb e10 h55 hp r4 (fun G5 r5 s5 => ?_))
            · have hln : _ + (0 + nbr_ w2) ≤ 400 := hln
              omega
            · have eb : nI (brn_ wt) - 1 = nI (brn_ w2) := by rw [← hb1, Nat.add_comm, nI_pred]
              rw [eb]
              exact (ih n1 (by omega) (by omega)).2 6 cm w2 _ _ G5 kf (Or.inr rfl) hrn hV1 r5 ((((hsf.tr s2).tr s3).tr s4).tr s5) (by omega)
          · refine err_r (f := 1) r3 (hF _ _ (rn_f hr hne ?_))
            rw [hac]
            unfold acT
            rw [if_neg (by omega)]
            by_cases c9 : (tK_ b T (tq_ b T p)) = 59
            · rw [if_pos (Or.inr c9), ew, if_neg (by simp), if_neg e3]
            · rw [if_neg (by omega)]
theorem any_r {n lw cm : Nat} (hb : TB_ b T G0) (e10 : G0 49 10 = nI T) (h55 : G0 55 = wf_) (hr : rn_ b T n (2, lw, cm, [], [], ls, p) = some res) (hV : MV_ T (2, lw, cm, [], [], ls, p)) (h : RS_ b T G0 [] [] ls p G)
    (hS : ∀ n' aw cm wt cl p G', n' ≤ n → rn_ b T n' (aw, lw, cm, wt, cl, ls, p) = some res → MV_ T (aw, lw, cm, wt, cl, ls, p) → DU_ b T aw cm p → (tK_ b T (tq_ b T p)) ≠ 204 → (tK_ b T (tq_ b T p)) ≠ 203 → (pp_ 1 wt cl).1 = [] → RS_ b T G0 [] (pp_ 1 wt cl).2 ls p G' → SF_ G G' → Q 0 G') (hF : RB_f G0 Q res) : wp_X10_readAny G Q := by
  obtain ⟨f, ⟨p1, p2, p3, p4, p5, p6⟩, t⟩ := h
  exact ⟨n + 1, (any_l (Gs := G) hb e10 h55 n hS hF n (Nat.le_refl _)).1 cm [] [] p (gu_ G 49 25 0) (n + 1) hr hV ⟨f.g49 _ (by decide), ⟨p1, p2, p3, rfl, p5, p6⟩, t.cg rfl rfl rfl rfl⟩ (SF_.rf _) (by omega)⟩
end TB
