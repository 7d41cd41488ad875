/-! conditions -/
def RPo_ (o : Nat) (w : List Nat) (c : List Cd) (ls : List (Nat × List Cd)) (G : GS) : Prop :=
  G 49 22 = nI (fl2_ ls ++ c).length ∧ (∀ j, j < (fl2_ ls ++ c).length → G 59 (400 + j) = ((fl2_ ls ++ c).getD j (0, 0)).1 ∧ G 60 (400 + j) = ((fl2_ ls ++ c).getD j (0, 0)).2) ∧ G 49 23 = nI o ∧ G 49 25 = nI w.length ∧ (∀ i, i < w.length → G 61 i = pcd_ (w.getD (w.length - 1 - i) 0)) ∧ ∀ l, l < ls.length → G 56 (16 + l) = nI (ls.getD l (0, [])).1 ∧ G 57 (16 + l) = nI (ed_ ls l) ∧ G 58 (16 + l) = nI (ed_ ls (l + 1))
def RSo_ (b : Nat → Nat) (T : Nat) (G0 : GS) (o : Nat) (w : List Nat) (c : List Cd) (ls : List (Nat × List Cd)) (p : Nat) (G : GS) : Prop := RFf_ G0 G ∧ RPo_ o w c ls G ∧ RTk_ b T p G
theorem RTk_.cg {b : Nat → Nat} {T p : Nat} {G G' : GS} (h : RTk_ b T p G) (e11 : G' 49 11 = G 49 11) (e12 : G' 49 12 = G 49 12) (e13 : G' 49 13 = G 49 13) (e14 : G' 49 14 = G 49 14) : RTk_ b T p G' := ⟨e12.trans h.1, e11.trans h.2.1, h.2.2.cg e13 e14⟩
section TA
variable {Q : Int32 → GS → Prop} {b : Nat → Nat} {T : Nat} {G0 G : GS} {w : List Nat} {c : List Cd} {ls : List (Nat × List Cd)} {p o : Nat}
theorem emi_o {oc a : Int32} (h : RSo_ b T G0 o w c ls p G) (hl : (fl2_ ls ++ c).length < 400) (hQ : ∀ G', RSo_ b T G0 o w (c ++ [(oc, a)]) ls p G' → SF_ G G' → Q 0 G') : wp_X10_emits oc a G Q := by
  obtain ⟨f, ⟨p1, p2, p3, p4, p5, p6⟩, t1, t2, t3⟩ := h
  have ea : (400 : Int32) + nI (fl2_ ls ++ c).length = nI (400 + (fl2_ ls ++ c).length) := by rw [show (400 : Int32) = nI 400 from rfl, nI_add]
  have et : fl2_ ls ++ (c ++ [(oc, a)]) = (fl2_ ls ++ c) ++ [(oc, a)] := (List.append_assoc _ _ _).symm
  unfold wp_X10_emits
  rw [p1, ea, nI_clamp (by omega), nI_1]
  refine ⟨vp_in_nI (by omega) (by omega), hQ _ ⟨⟨?_, ?_, f.2.2.1, fun j hj => ?_⟩, ⟨?_, ?_, p3, p4, p5, p6⟩, t1, t2, t3.cg rfl rfl⟩ (SF_.rf _)⟩
  · exact ((f.1.gu _ (by decide)).gu _ (by decide)).gu _ (by decide)
  · intro j hj
    show upd (G 49) 22 _ j = _
    rw [up_miss _ _ (fun e => hj (by rw [e]; decide))]; exact f.2.1 j hj
  · show upd (G 59) _ _ j = _ ∧ upd (G 60) _ _ j = _
    rw [up_miss _ _ (by omega), up_miss _ _ (by omega)]; exact f.2.2.2 j hj
  · rw [et]
    exact congrArg nI (List.length_append (as := fl2_ ls ++ c) (bs := [(oc, a)])).symm
  · rw [et]
    intro j hj
    rw [List.length_append] at hj
    have hj : j < (fl2_ ls ++ c).length + 1 := hj
    show upd (G 59) (400 + (fl2_ ls ++ c).length) oc (400 + j) = _ ∧ upd (G 60) (400 + (fl2_ ls ++ c).length) a (400 + j) = _
    rw [getD_app]
    by_cases e : j = (fl2_ ls ++ c).length
    · rw [e, up_hit, up_hit, if_neg (Nat.lt_irrefl _), if_pos rfl]; exact ⟨rfl, rfl⟩
    · rw [up_miss _ _ (by omega), up_miss _ _ (by omega), if_pos (by omega)]; exact p2 j (by omega)
/-- the top of what waits goes -/
theorem RSo_.pop {s : Nat} (h : RSo_ b T G0 o (s :: w) c ls p G) : RSo_ b T G0 o w c ls p (gu_ G 49 25 (nI w.length)) := by
  obtain ⟨f, ⟨p1, p2, p3, p4, p5, p6⟩, t⟩ := h
  refine ⟨f.g49 _ (by decide), ⟨p1, p2, p3, rfl, fun i hi => ?_, p6⟩, t.cg rfl rfl rfl rfl⟩
  show G 61 i = _
  rw [p5 i (by show i < w.length + 1; omega)]
  congr 1
  have e : (s :: w).length - 1 - i = (w.length - 1 - i) + 1 := by show w.length + 1 - 1 - i = _; omega
  rw [e]; rfl
theorem RSo_.opn {o2 : Nat} (h : RSo_ b T G0 o w c ls p G) {v : Int32} (hv : v = nI o2) : RSo_ b T G0 o2 w c ls p (gu_ G 49 23 v) := by
  obtain ⟨f, ⟨p1, p2, p3, p4, p5, p6⟩, t⟩ := h
  exact ⟨f.g49 _ (by decide), ⟨p1, p2, hv, p4, p5, p6⟩, t.cg rfl rfl rfl rfl⟩
theorem wai_r {s : Nat} (h : RSo_ b T G0 (opn_ (s :: w)) w c ls p G) (hl : w.length ≤ 29) (hQ : ∀ G', RS_ b T G0 (s :: w) c ls p G' → SF_ G G' → Q 0 G') : wp_X10_waits (pcd_ s) G Q := by
  obtain ⟨f, ⟨p1, p2, p3, p4, p5, p6⟩, t⟩ := h
  unfold wp_X10_waits
  rw [p4, nI_clamp (by omega), nI_1]
  refine ⟨vp_in_nI (by omega) (by omega), hQ _ ⟨⟨(f.1.gu _ (by decide)).gu _ (by decide), ?_, f.2.2.1, f.2.2.2⟩, ⟨p1, p2, p3, rfl, fun i hi => ?_, p6⟩, t.cg rfl rfl rfl rfl⟩ (SF_.rf _)⟩
  · intro j hj
    show upd (G 49) 25 _ j = _
    rw [up_miss _ _ (fun e => hj (by rw [e]; decide))]; exact f.2.1 j hj
  · have hi : i < w.length + 1 := hi
    show upd (G 61) w.length (pcd_ s) i = _
    by_cases e : i = w.length
    · rw [e, up_hit, getD_top]
    · rw [up_miss _ _ e, p5 i (by omega)]
      congr 1
      have e2 : (s :: w).length - 1 - i = (w.length - 1 - i) + 1 := by show w.length + 1 - 1 - i = _; omega
      rw [e2]; rfl
theorem pcd_inj : ∀ a, a ∈ wsg_ → ∀ s, s ∈ [205, 204, 203] → rK_ a ≤ rK_ s → (pcd_ a = pcd_ s ↔ a = s) ∧ (a ≠ s → rK_ a < rK_ s) ∧ (pcd_ s = 9 ↔ s = 205) ∧ pcd_ s = oc_ s ∧ 1 ≤ rK_ s := by decide +kernel
set_option maxHeartbeats 1000000 in
theorem stl_body {s : Nat} (hs : s ∈ [205, 204, 203]) (hw : okW w) (hh : hr_k w ≤ rK_ s) (hl : w.length ≤ 29) (hc : (fl2_ ls ++ c).length + nbr_ w ≤ 400) (h : RS_ b T G0 w c ls p G) {K : GS → Prop} (hn : (pp_ (rK_ s) w c = (w, c)) → Q 0 G)
    (hy : ∀ w' , w = s :: w' → ∀ G', RS_ b T G0 w' (c ++ [(oc_ s, 0)]) ls p G' → SF_ G G' → K G') :
    (((G 49 25) ≤ 0 → Q 0 G) ∧ (¬ (G 49 25) ≤ 0 → (vp_in ((G 49 25) - (1 : Int32)) 40 ∧ ((¬ (G 61 (((G 49 25) - (1 : Int32)).toNatClampNeg)) = pcd_ s → Q 0 G) ∧ ((G 61 (((G 49 25) - (1 : Int32)).toNatClampNeg)) = pcd_ s → wp_X10_emits (pcd_ s) (0 : Int32) (gu_ G 49 25 ((G 49 25) - (1 : Int32))) (fun _ G6 => ((¬ pcd_ s = (9 : Int32) → K G6) ∧ (pcd_ s = (9 : Int32) → K (gu_ G6 49 23 ((G6 49 23) - (1 : Int32))))))))))) := by
  have p4 : G 49 25 = nI w.length := h.2.1.2.2.2.1
  rw [p4]
  cases w with
  | nil => exact ⟨fun _ => hn rfl, fun z => absurd (by decide) z⟩
  | cons a w =>
    have hl : w.length + 1 ≤ 29 := hl
    have el : (a :: w).length = w.length + 1 := rfl
    obtain ⟨q1, q2, q3, q4, q5⟩ := pcd_inj a hw.1 s hs hh
    have e61 : G 61 (nI w.length).toNatClampNeg = pcd_ a := by
      rw [nI_clamp (by omega), h.2.1.2.2.2.2.1 w.length (by show w.length < w.length + 1; omega), getD_top]
    rw [el, nI_pred, e61, q1]
    refine ⟨fun z => absurd z (nI_nle (by omega) (by omega)), fun _ => ⟨vp_in_nI (by omega) (by omega), fun z => hn (pp_n (by have := q2 z; omega)), fun z => ?_⟩⟩
    subst z
    have hso : RSo_ b T G0 (opn_ (a :: w)) w c ls p (gu_ G 49 25 (nI w.length)) := RSo_.pop h
    have h40 : a ≠ 40 := fun e => by rw [e] at hs; exact absurd hs (by decide)
    have hnb : nbr_ (a :: w) = 1 + nbr_ w := by
      show (if a = 40 then 0 else 1) + nbr_ w = _
      rw [if_neg h40]
    rw [q4]
    refine emi_o hso (by omega) (fun G2 r2 s2 => ?_)
    rw [← q4, q3]
    refine ⟨fun z => hy w rfl G2 ?_ s2, fun z => hy w rfl _ ?_ s2⟩
    · have : opn_ (a :: w) = opn_ w := by
        show (if a = 205 ∨ a = 40 then 1 else 0) + opn_ w = _
        rw [if_neg (fun y => y.elim z h40), Nat.zero_add]
      rw [this] at r2
      exact r2
    · have ho : opn_ (a :: w) = 1 + opn_ w := by
        show (if a = 205 ∨ a = 40 then 1 else 0) + opn_ w = _
        rw [if_pos (Or.inl z)]
      exact RSo_.opn r2 (by rw [r2.2.1.2.2.1, ho, Nat.add_comm, nI_pred])
theorem stl_l {s : Nat} (hs : s ∈ [205, 204, 203]) : ∀ (w : List Nat) (c : List Cd) (G : GS), okW w → hr_k w ≤ rK_ s → w.length ≤ 29 → (fl2_ ls ++ c).length + nbr_ w ≤ 400 → RS_ b T G0 w c ls p G → (∀ G', RS_ b T G0 (pp_ (rK_ s) w c).1 (pp_ (rK_ s) w c).2 ls p G' → SF_ G G' → Q 0 G') → lp_X10_settles_0 Q (w.length + 1) (pcd_ s) G
  | [], c, G, hw, hh, hl, hc, h, hQ => stl_body (K := fun G' => lp_X10_settles_0 Q 0 (pcd_ s) G') hs hw hh hl hc h (fun e => hQ G h (SF_.rf _)) (fun w' e => absurd e (by simp))
  | a :: w, c, G, hw, hh, hl, hc, h, hQ => by
    refine stl_body (K := fun G' => lp_X10_settles_0 Q (w.length + 1) (pcd_ s) G') hs hw hh hl hc h (fun e => hQ G (by rw [e]; exact h) (SF_.rf _)) (fun w' e G' r' s' => ?_)
    have ea : a = s := (List.cons.inj e).1
    have ew : w = w' := (List.cons.inj e).2
    subst ea ew
    have hq5 := (pcd_inj a hw.1 a hs (Nat.le_refl _)).2.2.2.2
    have h40 : a ≠ 40 := fun e => by rw [e] at hs; exact absurd hs (by decide)
    have hnb : nbr_ (a :: w) = 1 + nbr_ w := by
      show (if a = 40 then 0 else 1) + nbr_ w = _
      rw [if_neg h40]
    have hcap : cap_ a ≤ rK_ a := (by decide : ∀ a, a ∈ [205, 204, 203] → cap_ a ≤ rK_ a) a hs
    have hl : w.length + 1 ≤ 29 := hl
    refine stl_l hs w _ G' hw.2.2 (Nat.le_trans hw.2.1 hcap) (by omega) ?_ r' (fun G2 r2 s2 => hQ G2 ?_ (s'.tr s2))
    · have : (fl2_ ls ++ (c ++ [(oc_ a, (0 : Int32))])).length = (fl2_ ls ++ c).length + 1 := by
        rw [← List.append_assoc]; exact List.length_append
      omega
    · rw [pp_y (Nat.le_refl _)]; exact r2
theorem stl_r {s : Nat} (hs : s ∈ [205, 204, 203]) (hw : okW w) (hh : hr_k w ≤ rK_ s) (hl : w.length ≤ 29) (hc : (fl2_ ls ++ c).length + nbr_ w ≤ 400) (h : RS_ b T G0 w c ls p G) (hQ : ∀ G', RS_ b T G0 (pp_ (rK_ s) w c).1 (pp_ (rK_ s) w c).2 ls p G' → SF_ G G' → Q 0 G') : wp_X10_settles (pcd_ s) G Q := by
  refine stl_body (K := fun G' => ∃ kf, lp_X10_settles_0 Q kf (pcd_ s) G') hs hw hh hl hc h (fun e => hQ G (by rw [e]; exact h) (SF_.rf _)) (fun w' e G' r' s' => ?_)
  subst e
  have h40 : s ≠ 40 := fun e => by rw [e] at hs; exact absurd hs (by decide)
  have hnb : nbr_ (s :: w') = 1 + nbr_ w' := by
    show (if s = 40 then 0 else 1) + nbr_ w' = _
    rw [if_neg h40]
  have hcap : cap_ s ≤ rK_ s := (by decide : ∀ a, a ∈ [205, 204, 203] → cap_ a ≤ rK_ a) s hs
  have hl : w'.length + 1 ≤ 29 := hl
  refine ⟨w'.length + 1, stl_l hs w' _ G' hw.2.2 (Nat.le_trans hw.2.1 hcap) (by omega) ?_ r' (fun G2 r2 s2 => hQ G2 ?_ (s'.tr s2))⟩
  · have : (fl2_ ls ++ (c ++ [(oc_ s, (0 : Int32))])).length = (fl2_ ls ++ c).length + 1 := by
      rw [← List.append_assoc]; exact List.length_append
    omega
  · rw [pp_y (Nat.le_refl _)]; exact r2
theorem brn_dw {r : Nat} (hr : 1 ≤ r) : ∀ w, brn_ (dw_ r w) = brn_ w
  | [] => rfl
  | s :: w => by
    unfold dw_
    by_cases h : r ≤ rK_ s
    · rw [if_pos h, brn_dw hr w]
      have : s ≠ 40 := fun e => by
        rw [e] at h
        have : rK_ 40 = 0 := by decide
        omega
      show _ = (if s = 40 then 1 else 0) + brn_ w
      rw [if_neg this, Nat.zero_add]
    · rw [if_neg h]
theorem brn_le {w : List Nat} (h : okW w) (h8 : opn_ w ≤ 8) : brn_ w ≤ 8 := by have := (okW_len h).2.2.2.1; omega
end TA
