def bk_X10_fit_36 (Q : Int32 → GS → Prop)  (x1 : Int32) (x2 : Int32) (G : GS) : Prop := wp_X10_fits x1 G (fun r5 G6 => ((¬ x2 = 0 → ((¬ r5 = 0 → (vp_in (x2 - (10 : Int32)) 6 ∧ Q (G6 73 ((x2 - (10 : Int32)).toNatClampNeg)) G6)) ∧ (r5 = 0 → Q (-1 : Int32) G6))) ∧ (x2 = 0 → Q r5 G6)))
set_option maxRecDepth 100000 in
set_option maxHeartbeats 4000000 in
theorem t_X10_fit_36 {E : EV} (hE : EI_ E) (Q : Int32 → GS → Prop)  {x1 : Int32} {x2 : Int32} {G : GS} (h : bk_X10_fit_36 Q x1 x2 G) : PW_ E mi_X10_fit (rm_ 4) 0 0 36 [(0, .ref (ev_ad E 49)), (1, .int x1), (2, .int x2)] [] G (qi_ Q) := by
  refine pw_aload_n dX10_fit_36 rfl 0 rfl ?_
  refine pw_iload_n dX10_fit_37 rfl 1 rfl ?_
  refine pw_callV (As := [.int x1]) (rest := []) (s_X10_fits hE h) dX10_fit_38 ly_49 rfl (Or.inl ml_X10_299) cm_X10_fits rfl (rm_ok (by decide)) rm_0 (Nat.le_of_ble_eq_true rfl) ?_
  rintro _ G6 ⟨r5, rfl, h⟩
  refine pw_istore_n (lv' := [(3, .int r5), (0, .ref (ev_ad E 49)), (1, .int x1), (2, .int x2)]) dX10_fit_41 rfl (by decide) rfl ?_
  refine pw_iload_n dX10_fit_42 rfl 3 rfl ?_
  refine pw_if_ne (tgt := 50) dX10_fit_43 (by decide) (fun hc => ?_) (fun hc => ?_)
  · have h := h.1 hc
    refine pw_iload_n dX10_fit_50 rfl 0 rfl ?_
    refine pw_if_ne (tgt := 58) dX10_fit_51 (by decide) (fun hc => ?_) (fun hc => ?_)
    · have h := h.1 hc
      refine pw_aload_n dX10_fit_58 rfl 1 rfl ?_
      refine pw_getr (q := 73) dX10_fit_59 fa_X10_84 ly_49 rfl ?_
      refine pw_iload_n dX10_fit_62 rfl 3 rfl ?_
      refine pw_bipush (v := (10 : Int32)) dX10_fit_63 (by decide) ?_
      refine pw_isub dX10_fit_65 ?_
      obtain ⟨hv7, h⟩ := h
      refine pw_iald (v := G6 73 ((x2 - (10 : Int32)).toNatClampNeg)) dX10_fit_66 ly_73 hv7 rfl ?_
      exact pw_ireturn dX10_fit_67 rfl rfl ⟨_, rfl, h⟩
    · have h := h.2 hc
      refine pw_iconst (v := (-1 : Int32)) dX10_fit_54 (by decide) ?_
      refine pw_goto (tgt := 67) dX10_fit_55 (by decide) ?_
      exact pw_ireturn dX10_fit_67 rfl rfl ⟨_, rfl, h⟩
  · have h := h.2 hc
    refine pw_iload_n dX10_fit_46 rfl 0 rfl ?_
    refine pw_goto (tgt := 67) dX10_fit_47 (by decide) ?_
    exact pw_ireturn dX10_fit_67 rfl rfl ⟨_, rfl, h⟩
def wp_X10_fit (a1 : Int32) (a2 : Int32) (G : GS) (Q : Int32 → GS → Prop) : Prop := wp_X10_isIn a1 (1 : Int32) (6 : Int32) (gu_ G 49 0 (0 : Int32)) (fun r1 G2 => ((r1 = 0 → Q (-1 : Int32) G2) ∧ (¬ r1 = 0 → ((a2 = 0 → bk_X10_fit_36 Q a1 a2 G2) ∧ (¬ a2 = 0 → wp_X10_isIn a2 (10 : Int32) ((9 : Int32) + a1) G2 (fun r3 G4 => ((¬ r3 = 0 → bk_X10_fit_36 Q a1 a2 G4) ∧ (r3 = 0 → Q (-1 : Int32) G4))))))))
set_option maxRecDepth 100000 in
set_option maxHeartbeats 4000000 in
theorem s_X10_fit {E : EV} (hE : EI_ E) {a1 : Int32} {a2 : Int32} {G : GS} {Q : Int32 → GS → Prop} (h : wp_X10_fit a1 a2 G Q) : PMet E mi_X10_fit 4 [.ref (ev_ad E 49), .int a1, .int a2] G (qi_ Q) := by
  refine pm_of hE (by decide) (Nat.le_of_ble_eq_true rfl) ?_
  refine pw_loc (lv' := [(0, .ref (ev_ad E 49)), (1, .int a1), (2, .int a2)]) [0, 1, 2] rfl ?_
  refine pw_aload_n dX10_fit_0 rfl 0 rfl ?_
  refine pw_iconst (v := (0 : Int32)) dX10_fit_1 (by decide) ?_
  refine pw_puti dX10_fit_2 fp_X10_90 ly_49 rfl ?_
  refine pw_aload_n dX10_fit_5 rfl 0 rfl ?_
  refine pw_iload_n dX10_fit_6 rfl 1 rfl ?_
  refine pw_iconst (v := (1 : Int32)) dX10_fit_7 (by decide) ?_
  refine pw_bipush (v := (6 : Int32)) dX10_fit_8 (by decide) ?_
  refine pw_callV (As := [.int a1, .int (1 : Int32), .int (6 : Int32)]) (rest := []) (s_X10_isIn hE h) dX10_fit_10 ly_49 rfl (Or.inl ml_X10_101) cm_X10_isIn rfl (rm_ok (by decide)) rm_0 (Nat.le_of_ble_eq_true rfl) ?_
  rintro _ G2 ⟨r1, rfl, h⟩
  refine pw_if_eq (tgt := 34) dX10_fit_13 (by decide) (fun hc => ?_) (fun hc => ?_)
  · have h := h.1 hc
    refine pw_iconst (v := (-1 : Int32)) dX10_fit_34 (by decide) ?_
    exact pw_ireturn dX10_fit_35 rfl rfl ⟨_, rfl, h⟩
  · have h := h.2 hc
    refine pw_iload_n dX10_fit_16 rfl 2 rfl ?_
    refine pw_if_eq (tgt := 36) dX10_fit_17 (by decide) (fun hc => ?_) (fun hc => ?_)
    · have h := h.1 hc
      refine pw_loc (lv' := [(0, .ref (ev_ad E 49)), (1, .int a1), (2, .int a2)]) [0, 1, 2] rfl ?_
      exact t_X10_fit_36 hE Q h
    · have h := h.2 hc
      refine pw_aload_n dX10_fit_20 rfl 0 rfl ?_
      refine pw_iload_n dX10_fit_21 rfl 2 rfl ?_
      refine pw_bipush (v := (10 : Int32)) dX10_fit_22 (by decide) ?_
      refine pw_bipush (v := (9 : Int32)) dX10_fit_24 (by decide) ?_
      refine pw_iload_n dX10_fit_26 rfl 1 rfl ?_
      refine pw_iadd dX10_fit_27 ?_
      refine pw_callV (As := [.int a2, .int (10 : Int32), .int ((9 : Int32) + a1)]) (rest := []) (s_X10_isIn hE h) dX10_fit_28 ly_49 rfl (Or.inl ml_X10_101) cm_X10_isIn rfl (rm_ok (by decide)) rm_0 (Nat.le_of_ble_eq_true rfl) ?_
      rintro _ G4 ⟨r3, rfl, h⟩
      refine pw_if_ne (tgt := 36) dX10_fit_31 (by decide) (fun hc => ?_) (fun hc => ?_)
      · have h := h.1 hc
        refine pw_loc (lv' := [(0, .ref (ev_ad E 49)), (1, .int a1), (2, .int a2)]) [0, 1, 2] rfl ?_
        exact t_X10_fit_36 hE Q h
      · have h := h.2 hc
        refine pw_iconst (v := (-1 : Int32)) dX10_fit_34 (by decide) ?_
        exact pw_ireturn dX10_fit_35 rfl rfl ⟨_, rfl, h⟩
def lp_X10_haveAllTold_7 (Q : Int32 → GS → Prop)  : Nat → Int32 → GS → Prop
  | 0, _, _ => False
  | n + 1, x2, G => (((G 49 39) ≤ x2 → Q (1 : Int32) G) ∧ (¬ (G 49 39) ≤ x2 → (vp_in x2 15 ∧ (vp_in (G 70 x2.toNatClampNeg) 61 ∧ ((¬ (G 72 ((G 70 x2.toNatClampNeg).toNatClampNeg)) = 0 → lp_X10_haveAllTold_7 Q n (x2 + 1) G) ∧ ((G 72 ((G 70 x2.toNatClampNeg).toNatClampNeg)) = 0 → Q (0 : Int32) G))))))
set_option maxRecDepth 100000 in
set_option maxHeartbeats 4000000 in
theorem t_X10_haveAllTold_7 {E : EV} (hE : EI_ E) (Q : Int32 → GS → Prop)  : ∀ (n : Nat) (x2 : Int32) (G : GS), lp_X10_haveAllTold_7 Q n x2 G → PW_ E mi_X10_haveAllTold (rm_ 2) 0 0 7 [(0, .ref (ev_ad E 49)), (2, .int x2)] [] G (qi_ Q) := by
  intro n
  induction n with
  | zero => intro x2 G h; exact h.elim
  | succ n ih =>
    intro x2 G h
    refine pw_iload_n dX10_haveAllTold_7 rfl 1 rfl ?_
    refine pw_aload_n dX10_haveAllTold_8 rfl 0 rfl ?_
    refine pw_geti (v := G 49 39) dX10_haveAllTold_9 fa_X10_284 ly_49 rfl rfl ?_
    refine pw_icmp_ge (tgt := 37) dX10_haveAllTold_12 (by decide) (fun hc => ?_) (fun hc => ?_)
    · have h := h.1 hc
      refine pw_iconst (v := (1 : Int32)) dX10_haveAllTold_37 (by decide) ?_
      exact pw_ireturn dX10_haveAllTold_38 rfl rfl ⟨_, rfl, h⟩
    · have h := h.2 hc
      refine pw_aload_n dX10_haveAllTold_15 rfl 0 rfl ?_
      refine pw_getr (q := 72) dX10_haveAllTold_16 fa_X10_81 ly_49 rfl ?_
      refine pw_aload_n dX10_haveAllTold_19 rfl 0 rfl ?_
      refine pw_getr (q := 70) dX10_haveAllTold_20 fa_X10_75 ly_49 rfl ?_
      refine pw_iload_n dX10_haveAllTold_23 rfl 1 rfl ?_
      obtain ⟨hv3, h⟩ := h
      refine pw_iald (v := G 70 x2.toNatClampNeg) dX10_haveAllTold_24 ly_70 hv3 rfl ?_
      obtain ⟨hv4, h⟩ := h
      refine pw_iald (v := G 72 ((G 70 x2.toNatClampNeg).toNatClampNeg)) dX10_haveAllTold_25 ly_72 hv4 rfl ?_
      refine pw_if_ne (tgt := 31) dX10_haveAllTold_26 (by decide) (fun hc => ?_) (fun hc => ?_)
      · have h := h.1 hc
        refine pw_iinc (k := 1) (v := x2 + 1) (lv' := [(2, .int (x2 + 1)), (0, .ref (ev_ad E 49))]) dX10_haveAllTold_31 rfl rfl (by decide) rfl ?_
        refine pw_goto (tgt := 7) dX10_haveAllTold_34 (by decide) ?_
        refine pw_loc (lv' := [(0, .ref (ev_ad E 49)), (2, .int (x2 + 1))]) [1, 0] rfl ?_
        exact ih _ _ h
      · have h := h.2 hc
        refine pw_iconst (v := (0 : Int32)) dX10_haveAllTold_29 (by decide) ?_
        exact pw_ireturn dX10_haveAllTold_30 rfl rfl ⟨_, rfl, h⟩
def wp_X10_haveAllTold (a1 : Int32) (G : GS) (Q : Int32 → GS → Prop) : Prop := wp_X10_countsWords a1 G (fun _ G2 => (∃ kf, lp_X10_haveAllTold_7 Q kf (0 : Int32) G2))
set_option maxRecDepth 100000 in
set_option maxHeartbeats 4000000 in
theorem s_X10_haveAllTold {E : EV} (hE : EI_ E) {a1 : Int32} {G : GS} {Q : Int32 → GS → Prop} (h : wp_X10_haveAllTold a1 G Q) : PMet E mi_X10_haveAllTold 2 [.ref (ev_ad E 49), .int a1] G (qi_ Q) := by
  refine pm_of hE (by decide) (Nat.le_of_ble_eq_true rfl) ?_
  refine pw_loc (lv' := [(0, .ref (ev_ad E 49)), (1, .int a1)]) [0, 1] rfl ?_
  refine pw_aload_n dX10_haveAllTold_0 rfl 0 rfl ?_
  refine pw_iload_n dX10_haveAllTold_1 rfl 1 rfl ?_
  refine pw_callV (As := [.int a1]) (rest := []) (s_X10_countsWords hE h) dX10_haveAllTold_2 ly_49 rfl (Or.inl ml_X10_287) cm_X10_countsWords rfl (rm_ok (by decide)) rm_0 (Nat.le_of_ble_eq_true rfl) ?_
  rintro _ G2 ⟨rfl, h⟩
  refine pw_iconst (v := (0 : Int32)) dX10_haveAllTold_5 (by decide) ?_
  refine pw_istore_n (lv' := [(2, .int (0 : Int32)), (0, .ref (ev_ad E 49)), (1, .int a1)]) dX10_haveAllTold_6 rfl (by decide) rfl ?_
  refine pw_loc (lv' := [(0, .ref (ev_ad E 49)), (2, .int (0 : Int32))]) [1, 0] rfl ?_
  obtain ⟨kf, h⟩ := h
  exact t_X10_haveAllTold_7 hE Q kf _ _ h
def lp_X10_fewestTones_14 (Q : Int32 → GS → Prop) (R2 : Int32 → GS → Prop)  : Nat → Int32 → Int32 → GS → Prop
  | 0, _, _, _ => False
  | n + 1, x1, x2, G => ((x2 = 0 → R2 (x1 + 1) G) ∧ (¬ x2 = 0 → wp_X10_haveAllTold x1 G (fun r3 G4 => ((r3 = 0 → wp_X10_nextRow x1 (24 : Int32) G4 (fun r5 G6 => lp_X10_fewestTones_14 Q R2 n x1 r5 G6)) ∧ (¬ r3 = 0 → Q x1 G4)))))
set_option maxRecDepth 100000 in
set_option maxHeartbeats 4000000 in
theorem t_X10_fewestTones_14 {E : EV} (hE : EI_ E) (Q : Int32 → GS → Prop) (R2 : Int32 → GS → Prop) (hR2 : ∀ (x1 : Int32) (G : GS), R2 x1 G → PW_ E mi_X10_fewestTones (rm_ 3) 0 0 2 [(0, .ref (ev_ad E 49)), (1, .int x1)] [] G (qi_ Q))  : ∀ (n : Nat) (x1 : Int32) (x2 : Int32) (G : GS), lp_X10_fewestTones_14 Q R2 n x1 x2 G → PW_ E mi_X10_fewestTones (rm_ 3) 0 0 14 [(0, .ref (ev_ad E 49)), (1, .int x1), (2, .int x2)] [] G (qi_ Q) := by
  intro n
  induction n with
  | zero => intro x1 x2 G h; exact h.elim
  | succ n ih =>
    intro x1 x2 G h
    refine pw_iload_n dX10_fewestTones_14 rfl 2 rfl ?_
    refine pw_if_eq (tgt := 39) dX10_fewestTones_15 (by decide) (fun hc => ?_) (fun hc => ?_)
    · have h := h.1 hc
      refine pw_iinc (k := 1) (v := x1 + 1) (lv' := [(1, .int (x1 + 1)), (0, .ref (ev_ad E 49)), (2, .int x2)]) dX10_fewestTones_39 rfl rfl (by decide) rfl ?_
      refine pw_goto (tgt := 2) dX10_fewestTones_42 (by decide) ?_
      refine pw_loc (lv' := [(0, .ref (ev_ad E 49)), (1, .int (x1 + 1))]) [1, 0] rfl ?_
      exact hR2 _ _ h
    · have h := h.2 hc
      refine pw_aload_n dX10_fewestTones_18 rfl 0 rfl ?_
      refine pw_iload_n dX10_fewestTones_19 rfl 1 rfl ?_
      refine pw_callV (As := [.int x1]) (rest := []) (s_X10_haveAllTold hE h) dX10_fewestTones_20 ly_49 rfl (Or.inl ml_X10_302) cm_X10_haveAllTold rfl (rm_ok (by decide)) rm_0 (Nat.le_of_ble_eq_true rfl) ?_
      rintro _ G4 ⟨r3, rfl, h⟩
      refine pw_if_eq (tgt := 28) dX10_fewestTones_23 (by decide) (fun hc => ?_) (fun hc => ?_)
      · have h := h.1 hc
        refine pw_aload_n dX10_fewestTones_28 rfl 0 rfl ?_
        refine pw_iload_n dX10_fewestTones_29 rfl 1 rfl ?_
        refine pw_bipush (v := (24 : Int32)) dX10_fewestTones_30 (by decide) ?_
        refine pw_callV (As := [.int x1, .int (24 : Int32)]) (rest := []) (s_X10_nextRow hE h) dX10_fewestTones_32 ly_49 rfl (Or.inl ml_X10_296) cm_X10_nextRow rfl (rm_ok (by decide)) rm_0 (Nat.le_of_ble_eq_true rfl) ?_
        rintro _ G6 ⟨r5, rfl, h⟩
        refine pw_istore_n (lv' := [(2, .int r5), (0, .ref (ev_ad E 49)), (1, .int x1)]) dX10_fewestTones_35 rfl (by decide) rfl ?_
        refine pw_goto (tgt := 14) dX10_fewestTones_36 (by decide) ?_
        refine pw_loc (lv' := [(0, .ref (ev_ad E 49)), (1, .int x1), (2, .int r5)]) [1, 2, 0] rfl ?_
        exact ih _ _ _ h
      · have h := h.2 hc
        refine pw_iload_n dX10_fewestTones_26 rfl 1 rfl ?_
        exact pw_ireturn dX10_fewestTones_27 rfl rfl ⟨_, rfl, h⟩
def lp_X10_fewestTones_2 (Q : Int32 → GS → Prop)  : Nat → Int32 → GS → Prop
  | 0, _, _ => False
  | n + 1, x1, G => (((5 : Int32) < x1 → Q (-1 : Int32) G) ∧ (¬ (5 : Int32) < x1 → wp_X10_firstRow x1 G (fun _ G2 => (∃ kf, lp_X10_fewestTones_14 Q (fun y1 G => lp_X10_fewestTones_2 Q n y1 G) kf x1 (1 : Int32) G2))))
set_option maxRecDepth 100000 in
set_option maxHeartbeats 4000000 in
theorem t_X10_fewestTones_2 {E : EV} (hE : EI_ E) (Q : Int32 → GS → Prop)  : ∀ (n : Nat) (x1 : Int32) (G : GS), lp_X10_fewestTones_2 Q n x1 G → PW_ E mi_X10_fewestTones (rm_ 3) 0 0 2 [(0, .ref (ev_ad E 49)), (1, .int x1)] [] G (qi_ Q) := by
  intro n
  induction n with
  | zero => intro x1 G h; exact h.elim
  | succ n ih =>
    intro x1 G h
    refine pw_iload_n dX10_fewestTones_2 rfl 1 rfl ?_
    refine pw_iconst (v := (5 : Int32)) dX10_fewestTones_3 (by decide) ?_
    refine pw_icmp_gt (tgt := 45) dX10_fewestTones_4 (by decide) (fun hc => ?_) (fun hc => ?_)
    · have h := h.1 hc
      refine pw_iconst (v := (-1 : Int32)) dX10_fewestTones_45 (by decide) ?_
      exact pw_ireturn dX10_fewestTones_46 rfl rfl ⟨_, rfl, h⟩
    · have h := h.2 hc
      refine pw_aload_n dX10_fewestTones_7 rfl 0 rfl ?_
      refine pw_iload_n dX10_fewestTones_8 rfl 1 rfl ?_
      refine pw_callV (As := [.int x1]) (rest := []) (s_X10_firstRow hE h) dX10_fewestTones_9 ly_49 rfl (Or.inl ml_X10_290) cm_X10_firstRow rfl (rm_ok (by decide)) rm_0 (Nat.le_of_ble_eq_true rfl) ?_
      rintro _ G2 ⟨rfl, h⟩
      refine pw_iconst (v := (1 : Int32)) dX10_fewestTones_12 (by decide) ?_
      refine pw_istore_n (lv' := [(2, .int (1 : Int32)), (0, .ref (ev_ad E 49)), (1, .int x1)]) dX10_fewestTones_13 rfl (by decide) rfl ?_
      refine pw_loc (lv' := [(0, .ref (ev_ad E 49)), (1, .int x1), (2, .int (1 : Int32))]) [1, 2, 0] rfl ?_
      obtain ⟨kf, h⟩ := h
      exact t_X10_fewestTones_14 hE Q (fun y1 G => lp_X10_fewestTones_2 Q n y1 G) ih kf _ _ _ h
def wp_X10_fewestTones  (G : GS) (Q : Int32 → GS → Prop) : Prop := (∃ kf, lp_X10_fewestTones_2 Q kf (1 : Int32) G)
set_option maxRecDepth 100000 in
set_option maxHeartbeats 4000000 in
theorem s_X10_fewestTones {E : EV} (hE : EI_ E)  {G : GS} {Q : Int32 → GS → Prop} (h : wp_X10_fewestTones  G Q) : PMet E mi_X10_fewestTones 3 [.ref (ev_ad E 49)] G (qi_ Q) := by
  refine pm_of hE (by decide) (Nat.le_of_ble_eq_true rfl) ?_
  refine pw_loc (lv' := [(0, .ref (ev_ad E 49))]) [0] rfl ?_
  refine pw_iconst (v := (1 : Int32)) dX10_fewestTones_0 (by decide) ?_
  refine pw_istore_n (lv' := [(1, .int (1 : Int32)), (0, .ref (ev_ad E 49))]) dX10_fewestTones_1 rfl (by decide) rfl ?_
  refine pw_loc (lv' := [(0, .ref (ev_ad E 49)), (1, .int (1 : Int32))]) [1, 0] rfl ?_
  obtain ⟨kf, h⟩ := h
  exact t_X10_fewestTones_2 hE Q kf _ _ h
def bk_X10_fewest_23 (Q : Int32 → GS → Prop)  (x1 : Int32) (G : GS) : Prop := wp_X10_fewestTones G (fun r3 G4 => ((¬ x1 = 0 → ((r3 ≤ (x1 - (10 : Int32)) → Q (-1 : Int32) G4) ∧ (¬ r3 ≤ (x1 - (10 : Int32)) → (vp_in (x1 - (10 : Int32)) 6 ∧ Q (G4 71 ((x1 - (10 : Int32)).toNatClampNeg)) G4)))) ∧ (x1 = 0 → Q r3 G4)))
set_option maxRecDepth 100000 in
set_option maxHeartbeats 4000000 in
theorem t_X10_fewest_23 {E : EV} (hE : EI_ E) (Q : Int32 → GS → Prop)  {x1 : Int32} {G : GS} (h : bk_X10_fewest_23 Q x1 G) : PW_ E mi_X10_fewest (rm_ 4) 0 0 23 [(0, .ref (ev_ad E 49)), (1, .int x1)] [] G (qi_ Q) := by
  refine pw_aload_n dX10_fewest_23 rfl 0 rfl ?_
  refine pw_callV (As := []) (rest := []) (s_X10_fewestTones hE h) dX10_fewest_24 ly_49 rfl (Or.inl ml_X10_305) cm_X10_fewestTones rfl (rm_ok (by decide)) rm_0 (Nat.le_of_ble_eq_true rfl) ?_
  rintro _ G4 ⟨r3, rfl, h⟩
  refine pw_istore_n (lv' := [(2, .int r3), (0, .ref (ev_ad E 49)), (1, .int x1)]) dX10_fewest_27 rfl (by decide) rfl ?_
  refine pw_iload_n dX10_fewest_28 rfl 2 rfl ?_
  refine pw_if_ne (tgt := 36) dX10_fewest_29 (by decide) (fun hc => ?_) (fun hc => ?_)
  · have h := h.1 hc
    refine pw_iload_n dX10_fewest_36 rfl 2 rfl ?_
    refine pw_bipush (v := (10 : Int32)) dX10_fewest_37 (by decide) ?_
    refine pw_isub dX10_fewest_39 ?_
    refine pw_iload_n dX10_fewest_40 rfl 0 rfl ?_
    refine pw_icmp_ge (tgt := 56) dX10_fewest_41 (by decide) (fun hc => ?_) (fun hc => ?_)
    · have h := h.1 hc
      refine pw_iconst (v := (-1 : Int32)) dX10_fewest_56 (by decide) ?_
      exact pw_ireturn dX10_fewest_57 rfl rfl ⟨_, rfl, h⟩
    · have h := h.2 hc
      refine pw_aload_n dX10_fewest_44 rfl 1 rfl ?_
      refine pw_getr (q := 71) dX10_fewest_45 fa_X10_78 ly_49 rfl ?_
      refine pw_iload_n dX10_fewest_48 rfl 2 rfl ?_
      refine pw_bipush (v := (10 : Int32)) dX10_fewest_49 (by decide) ?_
      refine pw_isub dX10_fewest_51 ?_
      obtain ⟨hv5, h⟩ := h
      refine pw_iald (v := G4 71 ((x1 - (10 : Int32)).toNatClampNeg)) dX10_fewest_52 ly_71 hv5 rfl ?_
      refine pw_goto (tgt := 57) dX10_fewest_53 (by decide) ?_
      exact pw_ireturn dX10_fewest_57 rfl rfl ⟨_, rfl, h⟩
  · have h := h.2 hc
    refine pw_iload_n dX10_fewest_32 rfl 0 rfl ?_
    refine pw_goto (tgt := 57) dX10_fewest_33 (by decide) ?_
    exact pw_ireturn dX10_fewest_57 rfl rfl ⟨_, rfl, h⟩
def wp_X10_fewest (a1 : Int32) (G : GS) (Q : Int32 → GS → Prop) : Prop := ((a1 = 0 → bk_X10_fewest_23 Q a1 (gu_ G 49 0 (0 : Int32))) ∧ (¬ a1 = 0 → wp_X10_isIn a1 (10 : Int32) (14 : Int32) (gu_ G 49 0 (0 : Int32)) (fun r1 G2 => ((¬ r1 = 0 → bk_X10_fewest_23 Q a1 G2) ∧ (r1 = 0 → Q (-1 : Int32) G2)))))
set_option maxRecDepth 100000 in
set_option maxHeartbeats 4000000 in
theorem s_X10_fewest {E : EV} (hE : EI_ E) {a1 : Int32} {G : GS} {Q : Int32 → GS → Prop} (h : wp_X10_fewest a1 G Q) : PMet E mi_X10_fewest 4 [.ref (ev_ad E 49), .int a1] G (qi_ Q) := by
  refine pm_of hE (by decide) (Nat.le_of_ble_eq_true rfl) ?_
  refine pw_loc (lv' := [(0, .ref (ev_ad E 49)), (1, .int a1)]) [0, 1] rfl ?_
  refine pw_aload_n dX10_fewest_0 rfl 0 rfl ?_
  refine pw_iconst (v := (0 : Int32)) dX10_fewest_1 (by decide) ?_
  refine pw_puti dX10_fewest_2 fp_X10_90 ly_49 rfl ?_
  refine pw_iload_n dX10_fewest_5 rfl 1 rfl ?_
  refine pw_if_eq (tgt := 23) dX10_fewest_6 (by decide) (fun hc => ?_) (fun hc => ?_)
  · have h := h.1 hc
    refine pw_loc (lv' := [(0, .ref (ev_ad E 49)), (1, .int a1)]) [0, 1] rfl ?_
    exact t_X10_fewest_23 hE Q h
  · have h := h.2 hc
    refine pw_aload_n dX10_fewest_9 rfl 0 rfl ?_
    refine pw_iload_n dX10_fewest_10 rfl 1 rfl ?_
    refine pw_bipush (v := (10 : Int32)) dX10_fewest_11 (by decide) ?_
    refine pw_bipush (v := (14 : Int32)) dX10_fewest_13 (by decide) ?_
    refine pw_callV (As := [.int a1, .int (10 : Int32), .int (14 : Int32)]) (rest := []) (s_X10_isIn hE h) dX10_fewest_15 ly_49 rfl (Or.inl ml_X10_101) cm_X10_isIn rfl (rm_ok (by decide)) rm_0 (Nat.le_of_ble_eq_true rfl) ?_
    rintro _ G2 ⟨r1, rfl, h⟩
    refine pw_if_ne (tgt := 23) dX10_fewest_18 (by decide) (fun hc => ?_) (fun hc => ?_)
    · have h := h.1 hc
      refine pw_loc (lv' := [(0, .ref (ev_ad E 49)), (1, .int a1)]) [0, 1] rfl ?_
      exact t_X10_fewest_23 hE Q h
    · have h := h.2 hc
      refine pw_iconst (v := (-1 : Int32)) dX10_fewest_21 (by decide) ?_
      exact pw_ireturn dX10_fewest_22 rfl rfl ⟨_, rfl, h⟩
def lp_X10_areUnlike_7 (Q : Int32 → GS → Prop)  : Nat → Int32 → GS → Prop
  | 0, _, _ => False
  | n + 1, x2, G => (((61 : Int32) ≤ x2 → Q (1 : Int32) G) ∧ (¬ (61 : Int32) ≤ x2 → (vp_in x2 61 ∧ (((G 72 x2.toNatClampNeg) ≤ (1 : Int32) → lp_X10_areUnlike_7 Q n (x2 + 1) G) ∧ (¬ (G 72 x2.toNatClampNeg) ≤ (1 : Int32) → Q (0 : Int32) G)))))
set_option maxRecDepth 100000 in
set_option maxHeartbeats 4000000 in
theorem t_X10_areUnlike_7 {E : EV} (hE : EI_ E) (Q : Int32 → GS → Prop)  : ∀ (n : Nat) (x2 : Int32) (G : GS), lp_X10_areUnlike_7 Q n x2 G → PW_ E mi_X10_areUnlike (rm_ 2) 0 0 7 [(0, .ref (ev_ad E 49)), (2, .int x2)] [] G (qi_ Q) := by
  intro n
  induction n with
  | zero => intro x2 G h; exact h.elim
  | succ n ih =>
    intro x2 G h
    refine pw_iload_n dX10_areUnlike_7 rfl 1 rfl ?_
    refine pw_bipush (v := (61 : Int32)) dX10_areUnlike_8 (by decide) ?_
    refine pw_icmp_ge (tgt := 31) dX10_areUnlike_10 (by decide) (fun hc => ?_) (fun hc => ?_)
    · have h := h.1 hc
      refine pw_iconst (v := (1 : Int32)) dX10_areUnlike_31 (by decide) ?_
      exact pw_ireturn dX10_areUnlike_32 rfl rfl ⟨_, rfl, h⟩
    · have h := h.2 hc
      refine pw_aload_n dX10_areUnlike_13 rfl 0 rfl ?_
      refine pw_getr (q := 72) dX10_areUnlike_14 fa_X10_81 ly_49 rfl ?_
      refine pw_iload_n dX10_areUnlike_17 rfl 1 rfl ?_
      obtain ⟨hv3, h⟩ := h
      refine pw_iald (v := G 72 x2.toNatClampNeg) dX10_areUnlike_18 ly_72 hv3 rfl ?_
      refine pw_iconst (v := (1 : Int32)) dX10_areUnlike_19 (by decide) ?_
      refine pw_icmp_le (tgt := 25) dX10_areUnlike_20 (by decide) (fun hc => ?_) (fun hc => ?_)
      · have h := h.1 hc
        refine pw_iinc (k := 1) (v := x2 + 1) (lv' := [(2, .int (x2 + 1)), (0, .ref (ev_ad E 49))]) dX10_areUnlike_25 rfl rfl (by decide) rfl ?_
        refine pw_goto (tgt := 7) dX10_areUnlike_28 (by decide) ?_
        refine pw_loc (lv' := [(0, .ref (ev_ad E 49)), (2, .int (x2 + 1))]) [1, 0] rfl ?_
        exact ih _ _ h
      · have h := h.2 hc
        refine pw_iconst (v := (0 : Int32)) dX10_areUnlike_23 (by decide) ?_
        exact pw_ireturn dX10_areUnlike_24 rfl rfl ⟨_, rfl, h⟩
def wp_X10_areUnlike (a1 : Int32) (G : GS) (Q : Int32 → GS → Prop) : Prop := wp_X10_countsWords a1 G (fun _ G2 => (∃ kf, lp_X10_areUnlike_7 Q kf (0 : Int32) G2))
set_option maxRecDepth 100000 in
set_option maxHeartbeats 4000000 in
theorem s_X10_areUnlike {E : EV} (hE : EI_ E) {a1 : Int32} {G : GS} {Q : Int32 → GS → Prop} (h : wp_X10_areUnlike a1 G Q) : PMet E mi_X10_areUnlike 2 [.ref (ev_ad E 49), .int a1] G (qi_ Q) := by
  refine pm_of hE (by decide) (Nat.le_of_ble_eq_true rfl) ?_
  refine pw_loc (lv' := [(0, .ref (ev_ad E 49)), (1, .int a1)]) [0, 1] rfl ?_
  refine pw_aload_n dX10_areUnlike_0 rfl 0 rfl ?_
  refine pw_iload_n dX10_areUnlike_1 rfl 1 rfl ?_
  refine pw_callV (As := [.int a1]) (rest := []) (s_X10_countsWords hE h) dX10_areUnlike_2 ly_49 rfl (Or.inl ml_X10_287) cm_X10_countsWords rfl (rm_ok (by decide)) rm_0 (Nat.le_of_ble_eq_true rfl) ?_
  rintro _ G2 ⟨rfl, h⟩
  refine pw_iconst (v := (0 : Int32)) dX10_areUnlike_5 (by decide) ?_
  refine pw_istore_n (lv' := [(2, .int (0 : Int32)), (0, .ref (ev_ad E 49)), (1, .int a1)]) dX10_areUnlike_6 rfl (by decide) rfl ?_
  refine pw_loc (lv' := [(0, .ref (ev_ad E 49)), (2, .int (0 : Int32))]) [1, 0] rfl ?_
  obtain ⟨kf, h⟩ := h
  exact t_X10_areUnlike_7 hE Q kf _ _ h
def lp_X10_findsRuler_11 (Q : Int32 → GS → Prop) (R4 : Int32 → Int32 → GS → Prop)  : Nat → Int32 → Int32 → Int32 → GS → Prop
  | 0, _, _, _, _ => False
  | n + 1, x1, x2, x3, G => ((x3 = 0 → R4 x1 (x2 + (1 : Int32)) G) ∧ (¬ x3 = 0 → (vp_in (x1 - (1 : Int32)) 6 ∧ ((¬ (G 71 ((x1 - (1 : Int32)).toNatClampNeg)) = x2 → wp_X10_nextRow x1 x2 G (fun r4 G5 => lp_X10_findsRuler_11 Q R4 n x1 x2 r4 G5)) ∧ ((G 71 ((x1 - (1 : Int32)).toNatClampNeg)) = x2 → wp_X10_areUnlike x1 G (fun r6 G7 => ((r6 = 0 → wp_X10_nextRow x1 x2 G7 (fun r8 G9 => lp_X10_findsRuler_11 Q R4 n x1 x2 r8 G9)) ∧ (¬ r6 = 0 → Q 0 G7))))))))
set_option maxRecDepth 100000 in
set_option maxHeartbeats 4000000 in
theorem t_X10_findsRuler_11 {E : EV} (hE : EI_ E) (Q : Int32 → GS → Prop) (R4 : Int32 → Int32 → GS → Prop) (hR4 : ∀ (x1 : Int32) (x2 : Int32) (G : GS), R4 x1 x2 G → PW_ E mi_X10_findsRuler (rm_ 3) 0 0 4 [(0, .ref (ev_ad E 49)), (1, .int x1), (2, .int x2)] [] G (qv_ Q))  : ∀ (n : Nat) (x1 : Int32) (x2 : Int32) (x3 : Int32) (G : GS), lp_X10_findsRuler_11 Q R4 n x1 x2 x3 G → PW_ E mi_X10_findsRuler (rm_ 3) 0 0 11 [(0, .ref (ev_ad E 49)), (1, .int x1), (2, .int x2), (3, .int x3)] [] G (qv_ Q) := by
  intro n
  induction n with
  | zero => intro x1 x2 x3 G h; exact h.elim
  | succ n ih =>
    intro x1 x2 x3 G h
    refine pw_iload_n dX10_findsRuler_11 rfl 3 rfl ?_
    refine pw_if_eq (tgt := 46) dX10_findsRuler_12 (by decide) (fun hc => ?_) (fun hc => ?_)
    · have h := h.1 hc
      refine pw_iload_n dX10_findsRuler_46 rfl 2 rfl ?_
      refine pw_iconst (v := (1 : Int32)) dX10_findsRuler_47 (by decide) ?_
      refine pw_iadd dX10_findsRuler_48 ?_
      refine pw_istore_n (lv' := [(2, .int (x2 + (1 : Int32))), (0, .ref (ev_ad E 49)), (1, .int x1), (3, .int x3)]) dX10_findsRuler_49 rfl (by decide) rfl ?_
      refine pw_goto (tgt := 4) dX10_findsRuler_50 (by decide) ?_
      refine pw_loc (lv' := [(0, .ref (ev_ad E 49)), (1, .int x1), (2, .int (x2 + (1 : Int32)))]) [1, 2, 0] rfl ?_
      exact hR4 _ _ _ h
    · have h := h.2 hc
      refine pw_aload_n dX10_findsRuler_15 rfl 0 rfl ?_
      refine pw_getr (q := 71) dX10_findsRuler_16 fa_X10_78 ly_49 rfl ?_
      refine pw_iload_n dX10_findsRuler_19 rfl 1 rfl ?_
      refine pw_iconst (v := (1 : Int32)) dX10_findsRuler_20 (by decide) ?_
      refine pw_isub dX10_findsRuler_21 ?_
      obtain ⟨hv3, h⟩ := h
      refine pw_iald (v := G 71 ((x1 - (1 : Int32)).toNatClampNeg)) dX10_findsRuler_22 ly_71 hv3 rfl ?_
      refine pw_iload_n dX10_findsRuler_23 rfl 2 rfl ?_
      refine pw_icmp_ne (tgt := 36) dX10_findsRuler_24 (by decide) (fun hc => ?_) (fun hc => ?_)
      · have h := h.1 hc
        refine pw_aload_n dX10_findsRuler_36 rfl 0 rfl ?_
        refine pw_iload_n dX10_findsRuler_37 rfl 1 rfl ?_
        refine pw_iload_n dX10_findsRuler_38 rfl 2 rfl ?_
        refine pw_callV (As := [.int x1, .int x2]) (rest := []) (s_X10_nextRow hE h) dX10_findsRuler_39 ly_49 rfl (Or.inl ml_X10_296) cm_X10_nextRow rfl (rm_ok (by decide)) rm_0 (Nat.le_of_ble_eq_true rfl) ?_
        rintro _ G5 ⟨r4, rfl, h⟩
        refine pw_istore_n (lv' := [(3, .int r4), (0, .ref (ev_ad E 49)), (1, .int x1), (2, .int x2)]) dX10_findsRuler_42 rfl (by decide) rfl ?_
        refine pw_goto (tgt := 11) dX10_findsRuler_43 (by decide) ?_
        refine pw_loc (lv' := [(0, .ref (ev_ad E 49)), (1, .int x1), (2, .int x2), (3, .int r4)]) [1, 2, 3, 0] rfl ?_
        exact ih _ _ _ _ h
      · have h := h.2 hc
        refine pw_aload_n dX10_findsRuler_27 rfl 0 rfl ?_
        refine pw_iload_n dX10_findsRuler_28 rfl 1 rfl ?_
        refine pw_callV (As := [.int x1]) (rest := []) (s_X10_areUnlike hE h) dX10_findsRuler_29 ly_49 rfl (Or.inl ml_X10_308) cm_X10_areUnlike rfl (rm_ok (by decide)) rm_0 (Nat.le_of_ble_eq_true rfl) ?_
        rintro _ G7 ⟨r6, rfl, h⟩
        refine pw_if_eq (tgt := 36) dX10_findsRuler_32 (by decide) (fun hc => ?_) (fun hc => ?_)
        · have h := h.1 hc
          refine pw_aload_n dX10_findsRuler_36 rfl 0 rfl ?_
          refine pw_iload_n dX10_findsRuler_37 rfl 1 rfl ?_
          refine pw_iload_n dX10_findsRuler_38 rfl 2 rfl ?_
          refine pw_callV (As := [.int x1, .int x2]) (rest := []) (s_X10_nextRow hE h) dX10_findsRuler_39 ly_49 rfl (Or.inl ml_X10_296) cm_X10_nextRow rfl (rm_ok (by decide)) rm_0 (Nat.le_of_ble_eq_true rfl) ?_
          rintro _ G9 ⟨r8, rfl, h⟩
          refine pw_istore_n (lv' := [(3, .int r8), (0, .ref (ev_ad E 49)), (1, .int x1), (2, .int x2)]) dX10_findsRuler_42 rfl (by decide) rfl ?_
          refine pw_goto (tgt := 11) dX10_findsRuler_43 (by decide) ?_
          refine pw_loc (lv' := [(0, .ref (ev_ad E 49)), (1, .int x1), (2, .int x2), (3, .int r8)]) [1, 2, 3, 0] rfl ?_
          exact ih _ _ _ _ h
        · have h := h.2 hc
          exact pw_return dX10_findsRuler_35 rfl ⟨rfl, h⟩
def lp_X10_findsRuler_4 (Q : Int32 → GS → Prop)  : Nat → Int32 → Int32 → GS → Prop
  | 0, _, _, _ => False
  | n + 1, x1, x2, G => wp_X10_firstRow x1 G (fun _ G2 => (∃ kf, lp_X10_findsRuler_11 Q (fun y1 y2 G => lp_X10_findsRuler_4 Q n y1 y2 G) kf x1 x2 (1 : Int32) G2))
set_option maxRecDepth 100000 in
set_option maxHeartbeats 4000000 in
theorem t_X10_findsRuler_4 {E : EV} (hE : EI_ E) (Q : Int32 → GS → Prop)  : ∀ (n : Nat) (x1 : Int32) (x2 : Int32) (G : GS), lp_X10_findsRuler_4 Q n x1 x2 G → PW_ E mi_X10_findsRuler (rm_ 3) 0 0 4 [(0, .ref (ev_ad E 49)), (1, .int x1), (2, .int x2)] [] G (qv_ Q) := by
  intro n
  induction n with
  | zero => intro x1 x2 G h; exact h.elim
  | succ n ih =>
    intro x1 x2 G h
    refine pw_aload_n dX10_findsRuler_4 rfl 0 rfl ?_
    refine pw_iload_n dX10_findsRuler_5 rfl 1 rfl ?_
    refine pw_callV (As := [.int x1]) (rest := []) (s_X10_firstRow hE h) dX10_findsRuler_6 ly_49 rfl (Or.inl ml_X10_290) cm_X10_firstRow rfl (rm_ok (by decide)) rm_0 (Nat.le_of_ble_eq_true rfl) ?_
    rintro _ G2 ⟨rfl, h⟩
    refine pw_iconst (v := (1 : Int32)) dX10_findsRuler_9 (by decide) ?_
    refine pw_istore_n (lv' := [(3, .int (1 : Int32)), (0, .ref (ev_ad E 49)), (1, .int x1), (2, .int x2)]) dX10_findsRuler_10 rfl (by decide) rfl ?_
    refine pw_loc (lv' := [(0, .ref (ev_ad E 49)), (1, .int x1), (2, .int x2), (3, .int (1 : Int32))]) [1, 2, 3, 0] rfl ?_
    obtain ⟨kf, h⟩ := h
    exact t_X10_findsRuler_11 hE Q (fun y1 y2 G => lp_X10_findsRuler_4 Q n y1 y2 G) ih kf _ _ _ _ h
def wp_X10_findsRuler (a1 : Int32) (G : GS) (Q : Int32 → GS → Prop) : Prop := (∃ kf, lp_X10_findsRuler_4 Q kf a1 (a1 - (1 : Int32)) G)
set_option maxRecDepth 100000 in
set_option maxHeartbeats 4000000 in
theorem s_X10_findsRuler {E : EV} (hE : EI_ E) {a1 : Int32} {G : GS} {Q : Int32 → GS → Prop} (h : wp_X10_findsRuler a1 G Q) : PMet E mi_X10_findsRuler 3 [.ref (ev_ad E 49), .int a1] G (qv_ Q) := by
  refine pm_of hE (by decide) (Nat.le_of_ble_eq_true rfl) ?_
  refine pw_loc (lv' := [(0, .ref (ev_ad E 49)), (1, .int a1)]) [0, 1] rfl ?_
  refine pw_iload_n dX10_findsRuler_0 rfl 1 rfl ?_
  refine pw_iconst (v := (1 : Int32)) dX10_findsRuler_1 (by decide) ?_
  refine pw_isub dX10_findsRuler_2 ?_
  refine pw_istore_n (lv' := [(2, .int (a1 - (1 : Int32))), (0, .ref (ev_ad E 49)), (1, .int a1)]) dX10_findsRuler_3 rfl (by decide) rfl ?_
  refine pw_loc (lv' := [(0, .ref (ev_ad E 49)), (1, .int a1), (2, .int (a1 - (1 : Int32)))]) [1, 2, 0] rfl ?_
  obtain ⟨kf, h⟩ := h
  exact t_X10_findsRuler_4 hE Q kf _ _ _ h
def bk_X10_ruler_36 (Q : Int32 → GS → Prop)  (x1 : Int32) (x2 : Int32) (G : GS) : Prop := wp_X10_findsRuler x1 G (fun _ G6 => ((¬ x2 = 0 → (vp_in (x2 - (10 : Int32)) 6 ∧ Q (G6 71 ((x2 - (10 : Int32)).toNatClampNeg)) G6)) ∧ (x2 = 0 → (vp_in (x1 - (1 : Int32)) 6 ∧ Q (G6 71 ((x1 - (1 : Int32)).toNatClampNeg)) G6))))
set_option maxRecDepth 100000 in
set_option maxHeartbeats 4000000 in
theorem t_X10_ruler_36 {E : EV} (hE : EI_ E) (Q : Int32 → GS → Prop)  {x1 : Int32} {x2 : Int32} {G : GS} (h : bk_X10_ruler_36 Q x1 x2 G) : PW_ E mi_X10_ruler (rm_ 4) 0 0 36 [(0, .ref (ev_ad E 49)), (1, .int x1), (2, .int x2)] [] G (qi_ Q) := by
  refine pw_aload_n dX10_ruler_36 rfl 0 rfl ?_
  refine pw_iload_n dX10_ruler_37 rfl 1 rfl ?_
  refine pw_callV (As := [.int x1]) (rest := []) (s_X10_findsRuler hE h) dX10_ruler_38 ly_49 rfl (Or.inl ml_X10_311) cm_X10_findsRuler rfl (rm_ok (by decide)) rm_0 (Nat.le_of_ble_eq_true rfl) ?_
  rintro _ G6 ⟨rfl, h⟩
  refine pw_iload_n dX10_ruler_41 rfl 2 rfl ?_
  refine pw_if_ne (tgt := 56) dX10_ruler_42 (by decide) (fun hc => ?_) (fun hc => ?_)
  · have h := h.1 hc
    refine pw_aload_n dX10_ruler_56 rfl 0 rfl ?_
    refine pw_getr (q := 71) dX10_ruler_57 fa_X10_78 ly_49 rfl ?_
    refine pw_iload_n dX10_ruler_60 rfl 2 rfl ?_
    refine pw_bipush (v := (10 : Int32)) dX10_ruler_61 (by decide) ?_
    refine pw_isub dX10_ruler_63 ?_
    obtain ⟨hv7, h⟩ := h
    refine pw_iald (v := G6 71 ((x2 - (10 : Int32)).toNatClampNeg)) dX10_ruler_64 ly_71 hv7 rfl ?_
    exact pw_ireturn dX10_ruler_65 rfl rfl ⟨_, rfl, h⟩
  · have h := h.2 hc
    refine pw_aload_n dX10_ruler_45 rfl 0 rfl ?_
    refine pw_getr (q := 71) dX10_ruler_46 fa_X10_78 ly_49 rfl ?_
    refine pw_iload_n dX10_ruler_49 rfl 1 rfl ?_
    refine pw_iconst (v := (1 : Int32)) dX10_ruler_50 (by decide) ?_
    refine pw_isub dX10_ruler_51 ?_
    obtain ⟨hv8, h⟩ := h
    refine pw_iald (v := G6 71 ((x1 - (1 : Int32)).toNatClampNeg)) dX10_ruler_52 ly_71 hv8 rfl ?_
    refine pw_goto (tgt := 65) dX10_ruler_53 (by decide) ?_
    exact pw_ireturn dX10_ruler_65 rfl rfl ⟨_, rfl, h⟩
def wp_X10_ruler (a1 : Int32) (a2 : Int32) (G : GS) (Q : Int32 → GS → Prop) : Prop := wp_X10_isIn a1 (1 : Int32) (6 : Int32) (gu_ G 49 0 (0 : Int32)) (fun r1 G2 => ((r1 = 0 → Q (-1 : Int32) G2) ∧ (¬ r1 = 0 → ((a2 = 0 → bk_X10_ruler_36 Q a1 a2 G2) ∧ (¬ a2 = 0 → wp_X10_isIn a2 (10 : Int32) ((9 : Int32) + a1) G2 (fun r3 G4 => ((¬ r3 = 0 → bk_X10_ruler_36 Q a1 a2 G4) ∧ (r3 = 0 → Q (-1 : Int32) G4))))))))
set_option maxRecDepth 100000 in
set_option maxHeartbeats 4000000 in
theorem s_X10_ruler {E : EV} (hE : EI_ E) {a1 : Int32} {a2 : Int32} {G : GS} {Q : Int32 → GS → Prop} (h : wp_X10_ruler a1 a2 G Q) : PMet E mi_X10_ruler 4 [.ref (ev_ad E 49), .int a1, .int a2] G (qi_ Q) := by
  refine pm_of hE (by decide) (Nat.le_of_ble_eq_true rfl) ?_
  refine pw_loc (lv' := [(0, .ref (ev_ad E 49)), (1, .int a1), (2, .int a2)]) [0, 1, 2] rfl ?_
  refine pw_aload_n dX10_ruler_0 rfl 0 rfl ?_
  refine pw_iconst (v := (0 : Int32)) dX10_ruler_1 (by decide) ?_
  refine pw_puti dX10_ruler_2 fp_X10_90 ly_49 rfl ?_
  refine pw_aload_n dX10_ruler_5 rfl 0 rfl ?_
  refine pw_iload_n dX10_ruler_6 rfl 1 rfl ?_
  refine pw_iconst (v := (1 : Int32)) dX10_ruler_7 (by decide) ?_
  refine pw_bipush (v := (6 : Int32)) dX10_ruler_8 (by decide) ?_
  refine pw_callV (As := [.int a1, .int (1 : Int32), .int (6 : Int32)]) (rest := []) (s_X10_isIn hE h) dX10_ruler_10 ly_49 rfl (Or.inl ml_X10_101) cm_X10_isIn rfl (rm_ok (by decide)) rm_0 (Nat.le_of_ble_eq_true rfl) ?_
  rintro _ G2 ⟨r1, rfl, h⟩
  refine pw_if_eq (tgt := 34) dX10_ruler_13 (by decide) (fun hc => ?_) (fun hc => ?_)
  · have h := h.1 hc
    refine pw_iconst (v := (-1 : Int32)) dX10_ruler_34 (by decide) ?_
    exact pw_ireturn dX10_ruler_35 rfl rfl ⟨_, rfl, h⟩
  · have h := h.2 hc
    refine pw_iload_n dX10_ruler_16 rfl 2 rfl ?_
    refine pw_if_eq (tgt := 36) dX10_ruler_17 (by decide) (fun hc => ?_) (fun hc => ?_)
    · have h := h.1 hc
      refine pw_loc (lv' := [(0, .ref (ev_ad E 49)), (1, .int a1), (2, .int a2)]) [0, 1, 2] rfl ?_
      exact t_X10_ruler_36 hE Q h
    · have h := h.2 hc
      refine pw_aload_n dX10_ruler_20 rfl 0 rfl ?_
      refine pw_iload_n dX10_ruler_21 rfl 2 rfl ?_
      refine pw_bipush (v := (10 : Int32)) dX10_ruler_22 (by decide) ?_
      refine pw_bipush (v := (9 : Int32)) dX10_ruler_24 (by decide) ?_
      refine pw_iload_n dX10_ruler_26 rfl 1 rfl ?_
      refine pw_iadd dX10_ruler_27 ?_
      refine pw_callV (As := [.int a2, .int (10 : Int32), .int ((9 : Int32) + a1)]) (rest := []) (s_X10_isIn hE h) dX10_ruler_28 ly_49 rfl (Or.inl ml_X10_101) cm_X10_isIn rfl (rm_ok (by decide)) rm_0 (Nat.le_of_ble_eq_true rfl) ?_
      rintro _ G4 ⟨r3, rfl, h⟩
      refine pw_if_ne (tgt := 36) dX10_ruler_31 (by decide) (fun hc => ?_) (fun hc => ?_)
      · have h := h.1 hc
        refine pw_loc (lv' := [(0, .ref (ev_ad E 49)), (1, .int a1), (2, .int a2)]) [0, 1, 2] rfl ?_
        exact t_X10_ruler_36 hE Q h
      · have h := h.2 hc
        refine pw_iconst (v := (-1 : Int32)) dX10_ruler_34 (by decide) ?_
        exact pw_ireturn dX10_ruler_35 rfl rfl ⟨_, rfl, h⟩
def lp_X10_isAlone_3 (Q : Int32 → GS → Prop)  : Nat → Int32 → Int32 → Int32 → Int32 → Int32 → Int32 → GS → Prop
  | 0, _, _, _, _, _, _, _ => False
  | n + 1, x1, x2, x3, x4, x5, x6, G => (((G 49 4) ≤ x6 → Q (1 : Int32) G) ∧ (¬ (G 49 4) ≤ x6 → ((x6 = x2 → lp_X10_isAlone_3 Q n x1 x2 x3 x4 x5 (x6 + 1) G) ∧ (¬ x6 = x2 → ((x6 = x3 → lp_X10_isAlone_3 Q n x1 x2 x3 x4 x5 (x6 + 1) G) ∧ (¬ x6 = x3 → wp_X10_doesHear x6 x2 x3 x4 x5 (G 49 5) G (fun r1 G2 => ((¬ x6 = x1 → ((r1 = (0 : Int32) → lp_X10_isAlone_3 Q n x1 x2 x3 x4 x5 (x6 + 1) G2) ∧ (¬ r1 = (0 : Int32) → Q (0 : Int32) G2))) ∧ (x6 = x1 → ((r1 = (1 : Int32) → lp_X10_isAlone_3 Q n x1 x2 x3 x4 x5 (x6 + 1) G2) ∧ (¬ r1 = (1 : Int32) → Q (0 : Int32) G2)))))))))))
set_option maxRecDepth 100000 in
set_option maxHeartbeats 4000000 in
theorem t_X10_isAlone_3 {E : EV} (hE : EI_ E) (Q : Int32 → GS → Prop)  : ∀ (n : Nat) (x1 : Int32) (x2 : Int32) (x3 : Int32) (x4 : Int32) (x5 : Int32) (x6 : Int32) (G : GS), lp_X10_isAlone_3 Q n x1 x2 x3 x4 x5 x6 G → PW_ E mi_X10_isAlone (rm_ 4) 0 0 3 [(0, .ref (ev_ad E 49)), (1, .int x1), (2, .int x2), (3, .int x3), (4, .int x4), (5, .int x5), (6, .int x6)] [] G (qi_ Q) := by
  intro n
  induction n with
  | zero => intro x1 x2 x3 x4 x5 x6 G h; exact h.elim
  | succ n ih =>
    intro x1 x2 x3 x4 x5 x6 G h
    refine pw_iload dX10_isAlone_3 6 rfl ?_
    refine pw_aload_n dX10_isAlone_5 rfl 0 rfl ?_
    refine pw_geti (v := G 49 4) dX10_isAlone_6 fa_X10_98 ly_49 rfl rfl ?_
    refine pw_icmp_ge (tgt := 62) dX10_isAlone_9 (by decide) (fun hc => ?_) (fun hc => ?_)
    · have h := h.1 hc
      refine pw_iconst (v := (1 : Int32)) dX10_isAlone_62 (by decide) ?_
      exact pw_ireturn dX10_isAlone_63 rfl rfl ⟨_, rfl, h⟩
    · have h := h.2 hc
      refine pw_iload dX10_isAlone_12 6 rfl ?_
      refine pw_iload_n dX10_isAlone_14 rfl 2 rfl ?_
      refine pw_icmp_eq (tgt := 56) dX10_isAlone_15 (by decide) (fun hc => ?_) (fun hc => ?_)
      · have h := h.1 hc
        refine pw_iinc (k := 6) (v := x6 + 1) (lv' := [(6, .int (x6 + 1)), (0, .ref (ev_ad E 49)), (1, .int x1), (2, .int x2), (3, .int x3), (4, .int x4), (5, .int x5)]) dX10_isAlone_56 rfl rfl (by decide) rfl ?_
        refine pw_goto (tgt := 3) dX10_isAlone_59 (by decide) ?_
        refine pw_loc (lv' := [(0, .ref (ev_ad E 49)), (1, .int x1), (2, .int x2), (3, .int x3), (4, .int x4), (5, .int x5), (6, .int (x6 + 1))]) [1, 2, 3, 4, 5, 6, 0] rfl ?_
        exact ih _ _ _ _ _ _ _ h
      · have h := h.2 hc
        refine pw_iload dX10_isAlone_18 6 rfl ?_
        refine pw_iload_n dX10_isAlone_20 rfl 3 rfl ?_
        refine pw_icmp_eq (tgt := 56) dX10_isAlone_21 (by decide) (fun hc => ?_) (fun hc => ?_)
        · have h := h.1 hc
          refine pw_iinc (k := 6) (v := x6 + 1) (lv' := [(6, .int (x6 + 1)), (0, .ref (ev_ad E 49)), (1, .int x1), (2, .int x2), (3, .int x3), (4, .int x4), (5, .int x5)]) dX10_isAlone_56 rfl rfl (by decide) rfl ?_
          refine pw_goto (tgt := 3) dX10_isAlone_59 (by decide) ?_
          refine pw_loc (lv' := [(0, .ref (ev_ad E 49)), (1, .int x1), (2, .int x2), (3, .int x3), (4, .int x4), (5, .int x5), (6, .int (x6 + 1))]) [1, 2, 3, 4, 5, 6, 0] rfl ?_
          exact ih _ _ _ _ _ _ _ h
        · have h := h.2 hc
          refine pw_aload_n dX10_isAlone_24 rfl 0 rfl ?_
          refine pw_iload dX10_isAlone_25 6 rfl ?_
          refine pw_iload_n dX10_isAlone_27 rfl 2 rfl ?_
          refine pw_iload_n dX10_isAlone_28 rfl 3 rfl ?_
          refine pw_iload dX10_isAlone_29 4 rfl ?_
          refine pw_iload dX10_isAlone_31 5 rfl ?_
          refine pw_aload_n dX10_isAlone_33 rfl 0 rfl ?_
          refine pw_geti (v := G 49 5) dX10_isAlone_34 fa_X10_116 ly_49 rfl rfl ?_
          refine pw_callV (As := [.int x6, .int x2, .int x3, .int x4, .int x5, .int (G 49 5)]) (rest := []) (s_X10_doesHear hE h) dX10_isAlone_37 ly_49 rfl (Or.inl ml_X10_233) cm_X10_doesHear rfl (rm_ok (by decide)) rm_0 (Nat.le_of_ble_eq_true rfl) ?_
          rintro _ G2 ⟨r1, rfl, h⟩
          refine pw_iload dX10_isAlone_40 6 rfl ?_
          refine pw_iload_n dX10_isAlone_42 rfl 1 rfl ?_
          refine pw_icmp_ne (tgt := 50) dX10_isAlone_43 (by decide) (fun hc => ?_) (fun hc => ?_)
          · have h := h.1 hc
            refine pw_iconst (v := (0 : Int32)) dX10_isAlone_50 (by decide) ?_
            refine pw_icmp_eq (tgt := 56) dX10_isAlone_51 (by decide) (fun hc => ?_) (fun hc => ?_)
            · have h := h.1 hc
              refine pw_iinc (k := 6) (v := x6 + 1) (lv' := [(6, .int (x6 + 1)), (0, .ref (ev_ad E 49)), (1, .int x1), (2, .int x2), (3, .int x3), (4, .int x4), (5, .int x5)]) dX10_isAlone_56 rfl rfl (by decide) rfl ?_
              refine pw_goto (tgt := 3) dX10_isAlone_59 (by decide) ?_
              refine pw_loc (lv' := [(0, .ref (ev_ad E 49)), (1, .int x1), (2, .int x2), (3, .int x3), (4, .int x4), (5, .int x5), (6, .int (x6 + 1))]) [1, 2, 3, 4, 5, 6, 0] rfl ?_
              exact ih _ _ _ _ _ _ _ h
            · have h := h.2 hc
              refine pw_iconst (v := (0 : Int32)) dX10_isAlone_54 (by decide) ?_
              exact pw_ireturn dX10_isAlone_55 rfl rfl ⟨_, rfl, h⟩
          · have h := h.2 hc
            refine pw_iconst (v := (1 : Int32)) dX10_isAlone_46 (by decide) ?_
            refine pw_goto (tgt := 51) dX10_isAlone_47 (by decide) ?_
            refine pw_icmp_eq (tgt := 56) dX10_isAlone_51 (by decide) (fun hc => ?_) (fun hc => ?_)
            · have h := h.1 hc
              refine pw_iinc (k := 6) (v := x6 + 1) (lv' := [(6, .int (x6 + 1)), (0, .ref (ev_ad E 49)), (1, .int x1), (2, .int x2), (3, .int x3), (4, .int x4), (5, .int x5)]) dX10_isAlone_56 rfl rfl (by decide) rfl ?_
              refine pw_goto (tgt := 3) dX10_isAlone_59 (by decide) ?_
              refine pw_loc (lv' := [(0, .ref (ev_ad E 49)), (1, .int x1), (2, .int x2), (3, .int x3), (4, .int x4), (5, .int x5), (6, .int (x6 + 1))]) [1, 2, 3, 4, 5, 6, 0] rfl ?_
              exact ih _ _ _ _ _ _ _ h
            · have h := h.2 hc
              refine pw_iconst (v := (0 : Int32)) dX10_isAlone_54 (by decide) ?_
              exact pw_ireturn dX10_isAlone_55 rfl rfl ⟨_, rfl, h⟩
def wp_X10_isAlone (a1 : Int32) (a2 : Int32) (a3 : Int32) (a4 : Int32) (a5 : Int32) (G : GS) (Q : Int32 → GS → Prop) : Prop := (∃ kf, lp_X10_isAlone_3 Q kf a1 a2 a3 a4 a5 (0 : Int32) G)
set_option maxRecDepth 100000 in
set_option maxHeartbeats 4000000 in
theorem s_X10_isAlone {E : EV} (hE : EI_ E) {a1 : Int32} {a2 : Int32} {a3 : Int32} {a4 : Int32} {a5 : Int32} {G : GS} {Q : Int32 → GS → Prop} (h : wp_X10_isAlone a1 a2 a3 a4 a5 G Q) : PMet E mi_X10_isAlone 4 [.ref (ev_ad E 49), .int a1, .int a2, .int a3, .int a4, .int a5] G (qi_ Q) := by
  refine pm_of hE (by decide) (Nat.le_of_ble_eq_true rfl) ?_
  refine pw_loc (lv' := [(0, .ref (ev_ad E 49)), (1, .int a1), (2, .int a2), (3, .int a3), (4, .int a4), (5, .int a5)]) [0, 1, 2, 3, 4, 5] rfl ?_
  refine pw_iconst (v := (0 : Int32)) dX10_isAlone_0 (by decide) ?_
  refine pw_istore (lv' := [(6, .int (0 : Int32)), (0, .ref (ev_ad E 49)), (1, .int a1), (2, .int a2), (3, .int a3), (4, .int a4), (5, .int a5)]) dX10_isAlone_1 (by decide) rfl ?_
  refine pw_loc (lv' := [(0, .ref (ev_ad E 49)), (1, .int a1), (2, .int a2), (3, .int a3), (4, .int a4), (5, .int a5), (6, .int (0 : Int32))]) [1, 2, 3, 4, 5, 6, 0] rfl ?_
  obtain ⟨kf, h⟩ := h
  exact t_X10_isAlone_3 hE Q kf _ _ _ _ _ _ _ h
def lp_X10_alone_58 (Q : Int32 → GS → Prop)  : Nat → Int32 → Int32 → Int32 → Int32 → Int32 → Int32 → Int32 → Int32 → GS → Prop
  | 0, _, _, _, _, _, _, _, _, _ => False
  | n + 1, x1, x2, x3, x4, x5, x6, x7, x8, G => (((60 : Int32) < (x8 + x4) → ((¬ x5 = 0 → Q x7 G) ∧ (x5 = 0 → Q x6 G))) ∧ (¬ (60 : Int32) < (x8 + x4) → wp_X10_isAlone x1 x2 x3 x8 (x8 + x4) G (fun r9 G10 => ((¬ r9 = 0 → ((¬ x6 = 0 → lp_X10_alone_58 Q n x1 x2 x3 x4 x5 (x6 + (1 : Int32)) x7 (x8 + 1) G10) ∧ (x6 = 0 → lp_X10_alone_58 Q n x1 x2 x3 x4 x5 (x6 + (1 : Int32)) x8 (x8 + 1) G10))) ∧ (r9 = 0 → lp_X10_alone_58 Q n x1 x2 x3 x4 x5 x6 x7 (x8 + 1) G10)))))
set_option maxRecDepth 100000 in
set_option maxHeartbeats 4000000 in
theorem t_X10_alone_58 {E : EV} (hE : EI_ E) (Q : Int32 → GS → Prop)  : ∀ (n : Nat) (x1 : Int32) (x2 : Int32) (x3 : Int32) (x4 : Int32) (x5 : Int32) (x6 : Int32) (x7 : Int32) (x8 : Int32) (G : GS), lp_X10_alone_58 Q n x1 x2 x3 x4 x5 x6 x7 x8 G → PW_ E mi_X10_alone (rm_ 5) 0 0 58 [(0, .ref (ev_ad E 49)), (1, .int x1), (2, .int x2), (3, .int x3), (4, .int x4), (5, .int x5), (6, .int x6), (7, .int x7), (8, .int x8)] [] G (qi_ Q) := by
  intro n
  induction n with
  | zero => intro x1 x2 x3 x4 x5 x6 x7 x8 G h; exact h.elim
  | succ n ih =>
    intro x1 x2 x3 x4 x5 x6 x7 x8 G h
    refine pw_iload dX10_alone_58 8 rfl ?_
    refine pw_iload dX10_alone_60 4 rfl ?_
    refine pw_iadd dX10_alone_62 ?_
    refine pw_bipush (v := (60 : Int32)) dX10_alone_63 (by decide) ?_
    refine pw_icmp_gt (tgt := 114) dX10_alone_65 (by decide) (fun hc => ?_) (fun hc => ?_)
    · have h := h.1 hc
      refine pw_iload dX10_alone_114 5 rfl ?_
      refine pw_if_ne (tgt := 124) dX10_alone_116 (by decide) (fun hc => ?_) (fun hc => ?_)
      · have h := h.1 hc
        refine pw_iload dX10_alone_124 7 rfl ?_
        exact pw_ireturn dX10_alone_126 rfl rfl ⟨_, rfl, h⟩
      · have h := h.2 hc
        refine pw_iload dX10_alone_119 6 rfl ?_
        refine pw_goto (tgt := 126) dX10_alone_121 (by decide) ?_
        exact pw_ireturn dX10_alone_126 rfl rfl ⟨_, rfl, h⟩
    · have h := h.2 hc
      refine pw_aload_n dX10_alone_68 rfl 0 rfl ?_
      refine pw_iload_n dX10_alone_69 rfl 1 rfl ?_
      refine pw_iload_n dX10_alone_70 rfl 2 rfl ?_
      refine pw_iload_n dX10_alone_71 rfl 3 rfl ?_
      refine pw_iload dX10_alone_72 8 rfl ?_
      refine pw_iload dX10_alone_74 8 rfl ?_
      refine pw_iload dX10_alone_76 4 rfl ?_
      refine pw_iadd dX10_alone_78 ?_
      refine pw_callV (As := [.int x1, .int x2, .int x3, .int x8, .int (x8 + x4)]) (rest := []) (s_X10_isAlone hE h) dX10_alone_79 ly_49 rfl (Or.inl ml_X10_314) cm_X10_isAlone rfl (rm_ok (by decide)) rm_0 (Nat.le_of_ble_eq_true rfl) ?_
      rintro _ G10 ⟨r9, rfl, h⟩
      refine pw_if_ne (tgt := 88) dX10_alone_82 (by decide) (fun hc => ?_) (fun hc => ?_)
      · have h := h.1 hc
        refine pw_iload dX10_alone_88 6 rfl ?_
        refine pw_if_ne (tgt := 98) dX10_alone_90 (by decide) (fun hc => ?_) (fun hc => ?_)
        · have h := h.1 hc
          refine pw_iload dX10_alone_98 7 rfl ?_
          refine pw_istore (lv' := [(7, .int x7), (0, .ref (ev_ad E 49)), (1, .int x1), (2, .int x2), (3, .int x3), (4, .int x4), (5, .int x5), (6, .int x6), (8, .int x8)]) dX10_alone_100 (by decide) rfl ?_
          refine pw_iload dX10_alone_102 7 rfl ?_
          refine pw_iconst (v := (1 : Int32)) dX10_alone_104 (by decide) ?_
          refine pw_iadd dX10_alone_105 ?_
          refine pw_istore (lv' := [(6, .int (x6 + (1 : Int32))), (7, .int x7), (0, .ref (ev_ad E 49)), (1, .int x1), (2, .int x2), (3, .int x3), (4, .int x4), (5, .int x5), (8, .int x8)]) dX10_alone_106 (by decide) rfl ?_
          refine pw_iinc (k := 8) (v := x8 + 1) (lv' := [(8, .int (x8 + 1)), (6, .int (x6 + (1 : Int32))), (7, .int x7), (0, .ref (ev_ad E 49)), (1, .int x1), (2, .int x2), (3, .int x3), (4, .int x4), (5, .int x5)]) dX10_alone_108 rfl rfl (by decide) rfl ?_
          refine pw_goto (tgt := 58) dX10_alone_111 (by decide) ?_
          refine pw_loc (lv' := [(0, .ref (ev_ad E 49)), (1, .int x1), (2, .int x2), (3, .int x3), (4, .int x4), (5, .int x5), (6, .int (x6 + (1 : Int32))), (7, .int x7), (8, .int (x8 + 1))]) [3, 4, 5, 6, 7, 8, 1, 2, 0] rfl ?_
          exact ih _ _ _ _ _ _ _ _ _ h
        · have h := h.2 hc
          refine pw_iload dX10_alone_93 8 rfl ?_
          refine pw_goto (tgt := 100) dX10_alone_95 (by decide) ?_
          refine pw_istore (lv' := [(7, .int x8), (0, .ref (ev_ad E 49)), (1, .int x1), (2, .int x2), (3, .int x3), (4, .int x4), (5, .int x5), (6, .int x6), (8, .int x8)]) dX10_alone_100 (by decide) rfl ?_
          refine pw_iload dX10_alone_102 7 rfl ?_
          refine pw_iconst (v := (1 : Int32)) dX10_alone_104 (by decide) ?_
          refine pw_iadd dX10_alone_105 ?_
          refine pw_istore (lv' := [(6, .int (x6 + (1 : Int32))), (7, .int x8), (0, .ref (ev_ad E 49)), (1, .int x1), (2, .int x2), (3, .int x3), (4, .int x4), (5, .int x5), (8, .int x8)]) dX10_alone_106 (by decide) rfl ?_
          refine pw_iinc (k := 8) (v := x8 + 1) (lv' := [(8, .int (x8 + 1)), (6, .int (x6 + (1 : Int32))), (7, .int x8), (0, .ref (ev_ad E 49)), (1, .int x1), (2, .int x2), (3, .int x3), (4, .int x4), (5, .int x5)]) dX10_alone_108 rfl rfl (by decide) rfl ?_
          refine pw_goto (tgt := 58) dX10_alone_111 (by decide) ?_
          refine pw_loc (lv' := [(0, .ref (ev_ad E 49)), (1, .int x1), (2, .int x2), (3, .int x3), (4, .int x4), (5, .int x5), (6, .int (x6 + (1 : Int32))), (7, .int x8), (8, .int (x8 + 1))]) [3, 4, 5, 6, 7, 8, 1, 2, 0] rfl ?_
          exact ih _ _ _ _ _ _ _ _ _ h
      · have h := h.2 hc
        refine pw_goto (tgt := 108) dX10_alone_85 (by decide) ?_
        refine pw_iinc (k := 8) (v := x8 + 1) (lv' := [(8, .int (x8 + 1)), (0, .ref (ev_ad E 49)), (1, .int x1), (2, .int x2), (3, .int x3), (4, .int x4), (5, .int x5), (6, .int x6), (7, .int x7)]) dX10_alone_108 rfl rfl (by decide) rfl ?_
        refine pw_goto (tgt := 58) dX10_alone_111 (by decide) ?_
        refine pw_loc (lv' := [(0, .ref (ev_ad E 49)), (1, .int x1), (2, .int x2), (3, .int x3), (4, .int x4), (5, .int x5), (6, .int x6), (7, .int x7), (8, .int (x8 + 1))]) [1, 2, 3, 4, 5, 6, 7, 8, 0] rfl ?_
        exact ih _ _ _ _ _ _ _ _ _ h
def wp_X10_alone (a1 : Int32) (a2 : Int32) (a3 : Int32) (a4 : Int32) (a5 : Int32) (G : GS) (Q : Int32 → GS → Prop) : Prop := wp_X10_areThree a1 a2 a3 (gu_ G 49 0 (0 : Int32)) (fun r1 G2 => ((r1 = 0 → Q (-1 : Int32) G2) ∧ (¬ r1 = 0 → wp_X10_humOf a1 G2 (fun r3 G4 => ((r3 = (-1 : Int32) → Q (-1 : Int32) G4) ∧ (¬ r3 = (-1 : Int32) → wp_X10_isIn a4 (0 : Int32) (60 : Int32) G4 (fun r5 G6 => ((r5 = 0 → Q (-1 : Int32) G6) ∧ (¬ r5 = 0 → wp_X10_isIn a5 (0 : Int32) (1 : Int32) G6 (fun r7 G8 => ((¬ r7 = 0 → (∃ kf, lp_X10_alone_58 Q kf a1 a2 a3 a4 a5 (0 : Int32) (-1 : Int32) (0 : Int32) G8)) ∧ (r7 = 0 → Q (-1 : Int32) G8))))))))))))
set_option maxRecDepth 100000 in
set_option maxHeartbeats 4000000 in
theorem s_X10_alone {E : EV} (hE : EI_ E) {a1 : Int32} {a2 : Int32} {a3 : Int32} {a4 : Int32} {a5 : Int32} {G : GS} {Q : Int32 → GS → Prop} (h : wp_X10_alone a1 a2 a3 a4 a5 G Q) : PMet E mi_X10_alone 5 [.ref (ev_ad E 49), .int a1, .int a2, .int a3, .int a4, .int a5] G (qi_ Q) := by
  refine pm_of hE (by decide) (Nat.le_of_ble_eq_true rfl) ?_
  refine pw_loc (lv' := [(0, .ref (ev_ad E 49)), (1, .int a1), (2, .int a2), (3, .int a3), (4, .int a4), (5, .int a5)]) [0, 1, 2, 3, 4, 5] rfl ?_
  refine pw_aload_n dX10_alone_0 rfl 0 rfl ?_
  refine pw_iconst (v := (0 : Int32)) dX10_alone_1 (by decide) ?_
  refine pw_puti dX10_alone_2 fp_X10_90 ly_49 rfl ?_
  refine pw_aload_n dX10_alone_5 rfl 0 rfl ?_
  refine pw_iload_n dX10_alone_6 rfl 1 rfl ?_
  refine pw_iload_n dX10_alone_7 rfl 2 rfl ?_
  refine pw_iload_n dX10_alone_8 rfl 3 rfl ?_
  refine pw_callV (As := [.int a1, .int a2, .int a3]) (rest := []) (s_X10_areThree hE h) dX10_alone_9 ly_49 rfl (Or.inl ml_X10_237) cm_X10_areThree rfl (rm_ok (by decide)) rm_0 (Nat.le_of_ble_eq_true rfl) ?_
  rintro _ G2 ⟨r1, rfl, h⟩
  refine pw_if_eq (tgt := 47) dX10_alone_12 (by decide) (fun hc => ?_) (fun hc => ?_)
  · have h := h.1 hc
    refine pw_iconst (v := (-1 : Int32)) dX10_alone_47 (by decide) ?_
    exact pw_ireturn dX10_alone_48 rfl rfl ⟨_, rfl, h⟩
  · have h := h.2 hc
    refine pw_aload_n dX10_alone_15 rfl 0 rfl ?_
    refine pw_iload_n dX10_alone_16 rfl 1 rfl ?_
    refine pw_callV (As := [.int a1]) (rest := []) (s_X10_humOf hE h) dX10_alone_17 ly_49 rfl (Or.inl ml_X10_109) cm_X10_humOf rfl (rm_ok (by decide)) rm_0 (Nat.le_of_ble_eq_true rfl) ?_
    rintro _ G4 ⟨r3, rfl, h⟩
    refine pw_iconst (v := (-1 : Int32)) dX10_alone_20 (by decide) ?_
    refine pw_icmp_eq (tgt := 47) dX10_alone_21 (by decide) (fun hc => ?_) (fun hc => ?_)
    · have h := h.1 hc
      refine pw_iconst (v := (-1 : Int32)) dX10_alone_47 (by decide) ?_
      exact pw_ireturn dX10_alone_48 rfl rfl ⟨_, rfl, h⟩
    · have h := h.2 hc
      refine pw_aload_n dX10_alone_24 rfl 0 rfl ?_
      refine pw_iload dX10_alone_25 4 rfl ?_
      refine pw_iconst (v := (0 : Int32)) dX10_alone_27 (by decide) ?_
      refine pw_bipush (v := (60 : Int32)) dX10_alone_28 (by decide) ?_
      refine pw_callV (As := [.int a4, .int (0 : Int32), .int (60 : Int32)]) (rest := []) (s_X10_isIn hE h) dX10_alone_30 ly_49 rfl (Or.inl ml_X10_101) cm_X10_isIn rfl (rm_ok (by decide)) rm_0 (Nat.le_of_ble_eq_true rfl) ?_
      rintro _ G6 ⟨r5, rfl, h⟩
      refine pw_if_eq (tgt := 47) dX10_alone_33 (by decide) (fun hc => ?_) (fun hc => ?_)
      · have h := h.1 hc
        refine pw_iconst (v := (-1 : Int32)) dX10_alone_47 (by decide) ?_
        exact pw_ireturn dX10_alone_48 rfl rfl ⟨_, rfl, h⟩
      · have h := h.2 hc
        refine pw_aload_n dX10_alone_36 rfl 0 rfl ?_
        refine pw_iload dX10_alone_37 5 rfl ?_
        refine pw_iconst (v := (0 : Int32)) dX10_alone_39 (by decide) ?_
        refine pw_iconst (v := (1 : Int32)) dX10_alone_40 (by decide) ?_
        refine pw_callV (As := [.int a5, .int (0 : Int32), .int (1 : Int32)]) (rest := []) (s_X10_isIn hE h) dX10_alone_41 ly_49 rfl (Or.inl ml_X10_101) cm_X10_isIn rfl (rm_ok (by decide)) rm_0 (Nat.le_of_ble_eq_true rfl) ?_
        rintro _ G8 ⟨r7, rfl, h⟩
        refine pw_if_ne (tgt := 49) dX10_alone_44 (by decide) (fun hc => ?_) (fun hc => ?_)
        · have h := h.1 hc
          refine pw_iconst (v := (0 : Int32)) dX10_alone_49 (by decide) ?_
          refine pw_istore (lv' := [(6, .int (0 : Int32)), (0, .ref (ev_ad E 49)), (1, .int a1), (2, .int a2), (3, .int a3), (4, .int a4), (5, .int a5)]) dX10_alone_50 (by decide) rfl ?_
          refine pw_iconst (v := (-1 : Int32)) dX10_alone_52 (by decide) ?_
          refine pw_istore (lv' := [(7, .int (-1 : Int32)), (6, .int (0 : Int32)), (0, .ref (ev_ad E 49)), (1, .int a1), (2, .int a2), (3, .int a3), (4, .int a4), (5, .int a5)]) dX10_alone_53 (by decide) rfl ?_
          refine pw_iconst (v := (0 : Int32)) dX10_alone_55 (by decide) ?_
          refine pw_istore (lv' := [(8, .int (0 : Int32)), (7, .int (-1 : Int32)), (6, .int (0 : Int32)), (0, .ref (ev_ad E 49)), (1, .int a1), (2, .int a2), (3, .int a3), (4, .int a4), (5, .int a5)]) dX10_alone_56 (by decide) rfl ?_
          refine pw_loc (lv' := [(0, .ref (ev_ad E 49)), (1, .int a1), (2, .int a2), (3, .int a3), (4, .int a4), (5, .int a5), (6, .int (0 : Int32)), (7, .int (-1 : Int32)), (8, .int (0 : Int32))]) [3, 4, 5, 6, 7, 8, 2, 1, 0] rfl ?_
          obtain ⟨kf, h⟩ := h
          exact t_X10_alone_58 hE Q kf _ _ _ _ _ _ _ _ _ h
        · have h := h.2 hc
          refine pw_iconst (v := (-1 : Int32)) dX10_alone_47 (by decide) ?_
          exact pw_ireturn dX10_alone_48 rfl rfl ⟨_, rfl, h⟩
def lp_X10_canSay_12 (Q : Int32 → GS → Prop) (R2 : Int32 → Int32 → GS → Prop)  : Nat → Int32 → Int32 → Int32 → GS → Prop
  | 0, _, _, _, _ => False
  | n + 1, x1, x2, x3, G => ((x2 ≤ x3 → R2 x1 (x2 + 1) G) ∧ (¬ x2 ≤ x3 → wp_X10_humOf x2 G (fun r1 G2 => ((r1 = (-1 : Int32) → lp_X10_canSay_12 Q R2 n x1 x2 (x3 + 1) G2) ∧ (¬ r1 = (-1 : Int32) → wp_X10_humOf x3 G2 (fun r3 G4 => ((r3 = (-1 : Int32) → lp_X10_canSay_12 Q R2 n x1 x2 (x3 + 1) G4) ∧ (¬ r3 = (-1 : Int32) → wp_X10_humOf x2 G4 (fun r5 G6 => wp_X10_humOf x3 G6 (fun r7 G8 => wp_X10_without (r5 - r7) G8 (fun r9 G10 => ((¬ r9 = x1 → lp_X10_canSay_12 Q R2 n x1 x2 (x3 + 1) G10) ∧ (r9 = x1 → Q (1 : Int32) G10)))))))))))))
set_option maxRecDepth 100000 in
set_option maxHeartbeats 4000000 in
theorem t_X10_canSay_12 {E : EV} (hE : EI_ E) (Q : Int32 → GS → Prop) (R2 : Int32 → Int32 → GS → Prop) (hR2 : ∀ (x1 : Int32) (x2 : Int32) (G : GS), R2 x1 x2 G → PW_ E mi_X10_canSay (rm_ 2) 0 0 2 [(0, .ref (ev_ad E 49)), (1, .int x1), (2, .int x2)] [] G (qi_ Q))  : ∀ (n : Nat) (x1 : Int32) (x2 : Int32) (x3 : Int32) (G : GS), lp_X10_canSay_12 Q R2 n x1 x2 x3 G → PW_ E mi_X10_canSay (rm_ 2) 0 0 12 [(0, .ref (ev_ad E 49)), (1, .int x1), (2, .int x2), (3, .int x3)] [] G (qi_ Q) := by
  intro n
  induction n with
  | zero => intro x1 x2 x3 G h; exact h.elim
  | succ n ih =>
    intro x1 x2 x3 G h
    refine pw_iload_n dX10_canSay_12 rfl 3 rfl ?_
    refine pw_iload_n dX10_canSay_13 rfl 2 rfl ?_
    refine pw_icmp_ge (tgt := 62) dX10_canSay_14 (by decide) (fun hc => ?_) (fun hc => ?_)
    · have h := h.1 hc
      refine pw_iinc (k := 2) (v := x2 + 1) (lv' := [(2, .int (x2 + 1)), (0, .ref (ev_ad E 49)), (1, .int x1), (3, .int x3)]) dX10_canSay_62 rfl rfl (by decide) rfl ?_
      refine pw_goto (tgt := 2) dX10_canSay_65 (by decide) ?_
      refine pw_loc (lv' := [(0, .ref (ev_ad E 49)), (1, .int x1), (2, .int (x2 + 1))]) [1, 2, 0] rfl ?_
      exact hR2 _ _ _ h
    · have h := h.2 hc
      refine pw_aload_n dX10_canSay_17 rfl 0 rfl ?_
      refine pw_iload_n dX10_canSay_18 rfl 2 rfl ?_
      refine pw_callV (As := [.int x2]) (rest := []) (s_X10_humOf hE h) dX10_canSay_19 ly_49 rfl (Or.inl ml_X10_109) cm_X10_humOf rfl (rm_ok (by decide)) rm_0 (Nat.le_of_ble_eq_true rfl) ?_
      rintro _ G2 ⟨r1, rfl, h⟩
      refine pw_iconst (v := (-1 : Int32)) dX10_canSay_22 (by decide) ?_
      refine pw_icmp_eq (tgt := 56) dX10_canSay_23 (by decide) (fun hc => ?_) (fun hc => ?_)
      · have h := h.1 hc
        refine pw_iinc (k := 3) (v := x3 + 1) (lv' := [(3, .int (x3 + 1)), (0, .ref (ev_ad E 49)), (1, .int x1), (2, .int x2)]) dX10_canSay_56 rfl rfl (by decide) rfl ?_
        refine pw_goto (tgt := 12) dX10_canSay_59 (by decide) ?_
        refine pw_loc (lv' := [(0, .ref (ev_ad E 49)), (1, .int x1), (2, .int x2), (3, .int (x3 + 1))]) [1, 2, 3, 0] rfl ?_
        exact ih _ _ _ _ h
      · have h := h.2 hc
        refine pw_aload_n dX10_canSay_26 rfl 0 rfl ?_
        refine pw_iload_n dX10_canSay_27 rfl 3 rfl ?_
        refine pw_callV (As := [.int x3]) (rest := []) (s_X10_humOf hE h) dX10_canSay_28 ly_49 rfl (Or.inl ml_X10_109) cm_X10_humOf rfl (rm_ok (by decide)) rm_0 (Nat.le_of_ble_eq_true rfl) ?_
        rintro _ G4 ⟨r3, rfl, h⟩
        refine pw_iconst (v := (-1 : Int32)) dX10_canSay_31 (by decide) ?_
        refine pw_icmp_eq (tgt := 56) dX10_canSay_32 (by decide) (fun hc => ?_) (fun hc => ?_)
        · have h := h.1 hc
          refine pw_iinc (k := 3) (v := x3 + 1) (lv' := [(3, .int (x3 + 1)), (0, .ref (ev_ad E 49)), (1, .int x1), (2, .int x2)]) dX10_canSay_56 rfl rfl (by decide) rfl ?_
          refine pw_goto (tgt := 12) dX10_canSay_59 (by decide) ?_
          refine pw_loc (lv' := [(0, .ref (ev_ad E 49)), (1, .int x1), (2, .int x2), (3, .int (x3 + 1))]) [1, 2, 3, 0] rfl ?_
          exact ih _ _ _ _ h
        · have h := h.2 hc
          refine pw_aload_n dX10_canSay_35 rfl 0 rfl ?_
          refine pw_aload_n dX10_canSay_36 rfl 0 rfl ?_
          refine pw_iload_n dX10_canSay_37 rfl 2 rfl ?_
          refine pw_callV (As := [.int x2]) (rest := [.ref (ev_ad E 49)]) (s_X10_humOf hE h) dX10_canSay_38 ly_49 rfl (Or.inl ml_X10_109) cm_X10_humOf rfl (rm_ok (by decide)) rm_0 (Nat.le_of_ble_eq_true rfl) ?_
          rintro _ G6 ⟨r5, rfl, h⟩
          refine pw_aload_n dX10_canSay_41 rfl 0 rfl ?_
          refine pw_iload_n dX10_canSay_42 rfl 3 rfl ?_
          refine pw_callV (As := [.int x3]) (rest := [.int r5, .ref (ev_ad E 49)]) (s_X10_humOf hE h) dX10_canSay_43 ly_49 rfl (Or.inl ml_X10_109) cm_X10_humOf rfl (rm_ok (by decide)) rm_0 (Nat.le_of_ble_eq_true rfl) ?_
          rintro _ G8 ⟨r7, rfl, h⟩
          refine pw_isub dX10_canSay_46 ?_
          refine pw_callV (As := [.int (r5 - r7)]) (rest := []) (s_X10_without hE h) dX10_canSay_47 ly_49 rfl (Or.inl ml_X10_223) cm_X10_without rfl (rm_ok (by decide)) rm_0 (Nat.le_of_ble_eq_true rfl) ?_
          rintro _ G10 ⟨r9, rfl, h⟩
          refine pw_iload_n dX10_canSay_50 rfl 1 rfl ?_
          refine pw_icmp_ne (tgt := 56) dX10_canSay_51 (by decide) (fun hc => ?_) (fun hc => ?_)
          · have h := h.1 hc
            refine pw_iinc (k := 3) (v := x3 + 1) (lv' := [(3, .int (x3 + 1)), (0, .ref (ev_ad E 49)), (1, .int x1), (2, .int x2)]) dX10_canSay_56 rfl rfl (by decide) rfl ?_
            refine pw_goto (tgt := 12) dX10_canSay_59 (by decide) ?_
            refine pw_loc (lv' := [(0, .ref (ev_ad E 49)), (1, .int x1), (2, .int x2), (3, .int (x3 + 1))]) [1, 2, 3, 0] rfl ?_
            exact ih _ _ _ _ h
          · have h := h.2 hc
            refine pw_iconst (v := (1 : Int32)) dX10_canSay_54 (by decide) ?_
            exact pw_ireturn dX10_canSay_55 rfl rfl ⟨_, rfl, h⟩
def lp_X10_canSay_2 (Q : Int32 → GS → Prop)  : Nat → Int32 → Int32 → GS → Prop
  | 0, _, _, _ => False
  | n + 1, x1, x2, G => (((G 49 4) ≤ x2 → Q (0 : Int32) G) ∧ (¬ (G 49 4) ≤ x2 → (∃ kf, lp_X10_canSay_12 Q (fun y1 y2 G => lp_X10_canSay_2 Q n y1 y2 G) kf x1 x2 (0 : Int32) G)))
set_option maxRecDepth 100000 in
set_option maxHeartbeats 4000000 in
theorem t_X10_canSay_2 {E : EV} (hE : EI_ E) (Q : Int32 → GS → Prop)  : ∀ (n : Nat) (x1 : Int32) (x2 : Int32) (G : GS), lp_X10_canSay_2 Q n x1 x2 G → PW_ E mi_X10_canSay (rm_ 2) 0 0 2 [(0, .ref (ev_ad E 49)), (1, .int x1), (2, .int x2)] [] G (qi_ Q) := by
  intro n
  induction n with
  | zero => intro x1 x2 G h; exact h.elim
  | succ n ih =>
    intro x1 x2 G h
    refine pw_iload_n dX10_canSay_2 rfl 2 rfl ?_
    refine pw_aload_n dX10_canSay_3 rfl 0 rfl ?_
    refine pw_geti (v := G 49 4) dX10_canSay_4 fa_X10_98 ly_49 rfl rfl ?_
    refine pw_icmp_ge (tgt := 68) dX10_canSay_7 (by decide) (fun hc => ?_) (fun hc => ?_)
    · have h := h.1 hc
      refine pw_iconst (v := (0 : Int32)) dX10_canSay_68 (by decide) ?_
      exact pw_ireturn dX10_canSay_69 rfl rfl ⟨_, rfl, h⟩
    · have h := h.2 hc
      refine pw_iconst (v := (0 : Int32)) dX10_canSay_10 (by decide) ?_
      refine pw_istore_n (lv' := [(3, .int (0 : Int32)), (0, .ref (ev_ad E 49)), (1, .int x1), (2, .int x2)]) dX10_canSay_11 rfl (by decide) rfl ?_
      refine pw_loc (lv' := [(0, .ref (ev_ad E 49)), (1, .int x1), (2, .int x2), (3, .int (0 : Int32))]) [1, 2, 3, 0] rfl ?_
      obtain ⟨kf, h⟩ := h
      exact t_X10_canSay_12 hE Q (fun y1 y2 G => lp_X10_canSay_2 Q n y1 y2 G) ih kf _ _ _ _ h
def wp_X10_canSay (a1 : Int32) (G : GS) (Q : Int32 → GS → Prop) : Prop := (∃ kf, lp_X10_canSay_2 Q kf a1 (0 : Int32) G)
set_option maxRecDepth 100000 in
set_option maxHeartbeats 4000000 in
theorem s_X10_canSay {E : EV} (hE : EI_ E) {a1 : Int32} {G : GS} {Q : Int32 → GS → Prop} (h : wp_X10_canSay a1 G Q) : PMet E mi_X10_canSay 2 [.ref (ev_ad E 49), .int a1] G (qi_ Q) := by
  refine pm_of hE (by decide) (Nat.le_of_ble_eq_true rfl) ?_
  refine pw_loc (lv' := [(0, .ref (ev_ad E 49)), (1, .int a1)]) [0, 1] rfl ?_
  refine pw_iconst (v := (0 : Int32)) dX10_canSay_0 (by decide) ?_
  refine pw_istore_n (lv' := [(2, .int (0 : Int32)), (0, .ref (ev_ad E 49)), (1, .int a1)]) dX10_canSay_1 rfl (by decide) rfl ?_
  refine pw_loc (lv' := [(0, .ref (ev_ad E 49)), (1, .int a1), (2, .int (0 : Int32))]) [1, 2, 0] rfl ?_
  obtain ⟨kf, h⟩ := h
  exact t_X10_canSay_2 hE Q kf _ _ _ h
def lp_X10_safe_25 (Q : Int32 → GS → Prop)  : Nat → Int32 → Int32 → Int32 → Int32 → GS → Prop
  | 0, _, _, _, _, _ => False
  | n + 1, x1, x2, x3, x4, G => (((24 : Int32) < x4 → ((¬ x1 = 0 → Q x2 G) ∧ (x1 = 0 → wp_X10_ones x2 G (fun r3 G4 => Q r3 G4)))) ∧ (¬ (24 : Int32) < x4 → (((x4 - x3) < (3 : Int32) → lp_X10_safe_25 Q n x1 x2 x3 (x4 + 1) G) ∧ (¬ (x4 - x3) < (3 : Int32) → wp_X10_canSay x4 G (fun r5 G6 => ((¬ r5 = 0 → lp_X10_safe_25 Q n x1 (x2 ||| ((1 : Int32) <<< (x4 &&& 31))) x4 (x4 + 1) G6) ∧ (r5 = 0 → lp_X10_safe_25 Q n x1 x2 x3 (x4 + 1) G6)))))))
set_option maxRecDepth 100000 in
set_option maxHeartbeats 4000000 in
theorem t_X10_safe_25 {E : EV} (hE : EI_ E) (Q : Int32 → GS → Prop)  : ∀ (n : Nat) (x1 : Int32) (x2 : Int32) (x3 : Int32) (x4 : Int32) (G : GS), lp_X10_safe_25 Q n x1 x2 x3 x4 G → PW_ E mi_X10_safe (rm_ 3) 0 0 25 [(0, .ref (ev_ad E 49)), (1, .int x1), (2, .int x2), (3, .int x3), (4, .int x4)] [] G (qi_ Q) := by
  intro n
  induction n with
  | zero => intro x1 x2 x3 x4 G h; exact h.elim
  | succ n ih =>
    intro x1 x2 x3 x4 G h
    refine pw_iload dX10_safe_25 4 rfl ?_
    refine pw_bipush (v := (24 : Int32)) dX10_safe_27 (by decide) ?_
    refine pw_icmp_gt (tgt := 68) dX10_safe_29 (by decide) (fun hc => ?_) (fun hc => ?_)
    · have h := h.1 hc
      refine pw_iload_n dX10_safe_68 rfl 1 rfl ?_
      refine pw_if_ne (tgt := 80) dX10_safe_69 (by decide) (fun hc => ?_) (fun hc => ?_)
      · have h := h.1 hc
        refine pw_iload_n dX10_safe_80 rfl 2 rfl ?_
        exact pw_ireturn dX10_safe_81 rfl rfl ⟨_, rfl, h⟩
      · have h := h.2 hc
        refine pw_aload_n dX10_safe_72 rfl 0 rfl ?_
        refine pw_iload_n dX10_safe_73 rfl 2 rfl ?_
        refine pw_callV (As := [.int x2]) (rest := []) (s_X10_ones hE h) dX10_safe_74 ly_49 rfl (Or.inl ml_X10_226) cm_X10_ones rfl (rm_ok (by decide)) rm_0 (Nat.le_of_ble_eq_true rfl) ?_
        rintro _ G4 ⟨r3, rfl, h⟩
        refine pw_goto (tgt := 81) dX10_safe_77 (by decide) ?_
        exact pw_ireturn dX10_safe_81 rfl rfl ⟨_, rfl, h⟩
    · have h := h.2 hc
      refine pw_iload dX10_safe_32 4 rfl ?_
      refine pw_iload_n dX10_safe_34 rfl 3 rfl ?_
      refine pw_isub dX10_safe_35 ?_
      refine pw_iconst (v := (3 : Int32)) dX10_safe_36 (by decide) ?_
      refine pw_icmp_lt (tgt := 62) dX10_safe_37 (by decide) (fun hc => ?_) (fun hc => ?_)
      · have h := h.1 hc
        refine pw_iinc (k := 4) (v := x4 + 1) (lv' := [(4, .int (x4 + 1)), (0, .ref (ev_ad E 49)), (1, .int x1), (2, .int x2), (3, .int x3)]) dX10_safe_62 rfl rfl (by decide) rfl ?_
        refine pw_goto (tgt := 25) dX10_safe_65 (by decide) ?_
        refine pw_loc (lv' := [(0, .ref (ev_ad E 49)), (1, .int x1), (2, .int x2), (3, .int x3), (4, .int (x4 + 1))]) [1, 2, 3, 4, 0] rfl ?_
        exact ih _ _ _ _ _ h
      · have h := h.2 hc
        refine pw_aload_n dX10_safe_40 rfl 0 rfl ?_
        refine pw_iload dX10_safe_41 4 rfl ?_
        refine pw_callV (As := [.int x4]) (rest := []) (s_X10_canSay hE h) dX10_safe_43 ly_49 rfl (Or.inl ml_X10_318) cm_X10_canSay rfl (rm_ok (by decide)) rm_0 (Nat.le_of_ble_eq_true rfl) ?_
        rintro _ G6 ⟨r5, rfl, h⟩
        refine pw_if_ne (tgt := 52) dX10_safe_46 (by decide) (fun hc => ?_) (fun hc => ?_)
        · have h := h.1 hc
          refine pw_iload_n dX10_safe_52 rfl 2 rfl ?_
          refine pw_iconst (v := (1 : Int32)) dX10_safe_53 (by decide) ?_
          refine pw_iload dX10_safe_54 4 rfl ?_
          refine pw_ishl dX10_safe_56 ?_
          refine pw_ior dX10_safe_57 ?_
          refine pw_istore_n (lv' := [(2, .int (x2 ||| ((1 : Int32) <<< (x4 &&& 31)))), (0, .ref (ev_ad E 49)), (1, .int x1), (3, .int x3), (4, .int x4)]) dX10_safe_58 rfl (by decide) rfl ?_
          refine pw_iload dX10_safe_59 4 rfl ?_
          refine pw_istore_n (lv' := [(3, .int x4), (2, .int (x2 ||| ((1 : Int32) <<< (x4 &&& 31)))), (0, .ref (ev_ad E 49)), (1, .int x1), (4, .int x4)]) dX10_safe_61 rfl (by decide) rfl ?_
          refine pw_iinc (k := 4) (v := x4 + 1) (lv' := [(4, .int (x4 + 1)), (3, .int x4), (2, .int (x2 ||| ((1 : Int32) <<< (x4 &&& 31)))), (0, .ref (ev_ad E 49)), (1, .int x1)]) dX10_safe_62 rfl rfl (by decide) rfl ?_
          refine pw_goto (tgt := 25) dX10_safe_65 (by decide) ?_
          refine pw_loc (lv' := [(0, .ref (ev_ad E 49)), (1, .int x1), (2, .int (x2 ||| ((1 : Int32) <<< (x4 &&& 31)))), (3, .int x4), (4, .int (x4 + 1))]) [3, 4, 2, 1, 0] rfl ?_
          exact ih _ _ _ _ _ h
        · have h := h.2 hc
          refine pw_goto (tgt := 62) dX10_safe_49 (by decide) ?_
          refine pw_iinc (k := 4) (v := x4 + 1) (lv' := [(4, .int (x4 + 1)), (0, .ref (ev_ad E 49)), (1, .int x1), (2, .int x2), (3, .int x3)]) dX10_safe_62 rfl rfl (by decide) rfl ?_
          refine pw_goto (tgt := 25) dX10_safe_65 (by decide) ?_
          refine pw_loc (lv' := [(0, .ref (ev_ad E 49)), (1, .int x1), (2, .int x2), (3, .int x3), (4, .int (x4 + 1))]) [1, 2, 3, 4, 0] rfl ?_
          exact ih _ _ _ _ _ h
def wp_X10_safe (a1 : Int32) (G : GS) (Q : Int32 → GS → Prop) : Prop := wp_X10_isIn a1 (0 : Int32) (1 : Int32) (gu_ G 49 0 (0 : Int32)) (fun r1 G2 => ((¬ r1 = 0 → (∃ kf, lp_X10_safe_25 Q kf a1 (0 : Int32) (-3 : Int32) (1 : Int32) G2)) ∧ (r1 = 0 → Q (-1 : Int32) G2)))
set_option maxRecDepth 100000 in
set_option maxHeartbeats 4000000 in
theorem s_X10_safe {E : EV} (hE : EI_ E) {a1 : Int32} {G : GS} {Q : Int32 → GS → Prop} (h : wp_X10_safe a1 G Q) : PMet E mi_X10_safe 3 [.ref (ev_ad E 49), .int a1] G (qi_ Q) := by
  refine pm_of hE (by decide) (Nat.le_of_ble_eq_true rfl) ?_
  refine pw_loc (lv' := [(0, .ref (ev_ad E 49)), (1, .int a1)]) [0, 1] rfl ?_
  refine pw_aload_n dX10_safe_0 rfl 0 rfl ?_
  refine pw_iconst (v := (0 : Int32)) dX10_safe_1 (by decide) ?_
  refine pw_puti dX10_safe_2 fp_X10_90 ly_49 rfl ?_
  refine pw_aload_n dX10_safe_5 rfl 0 rfl ?_
  refine pw_iload_n dX10_safe_6 rfl 1 rfl ?_
  refine pw_iconst (v := (0 : Int32)) dX10_safe_7 (by decide) ?_
  refine pw_iconst (v := (1 : Int32)) dX10_safe_8 (by decide) ?_
  refine pw_callV (As := [.int a1, .int (0 : Int32), .int (1 : Int32)]) (rest := []) (s_X10_isIn hE h) dX10_safe_9 ly_49 rfl (Or.inl ml_X10_101) cm_X10_isIn rfl (rm_ok (by decide)) rm_0 (Nat.le_of_ble_eq_true rfl) ?_
  rintro _ G2 ⟨r1, rfl, h⟩
  refine pw_if_ne (tgt := 17) dX10_safe_12 (by decide) (fun hc => ?_) (fun hc => ?_)
  · have h := h.1 hc
    refine pw_iconst (v := (0 : Int32)) dX10_safe_17 (by decide) ?_
    refine pw_istore_n (lv' := [(2, .int (0 : Int32)), (0, .ref (ev_ad E 49)), (1, .int a1)]) dX10_safe_18 rfl (by decide) rfl ?_
    refine pw_bipush (v := (-3 : Int32)) dX10_safe_19 (by decide) ?_
    refine pw_istore_n (lv' := [(3, .int (-3 : Int32)), (2, .int (0 : Int32)), (0, .ref (ev_ad E 49)), (1, .int a1)]) dX10_safe_21 rfl (by decide) rfl ?_
    refine pw_iconst (v := (1 : Int32)) dX10_safe_22 (by decide) ?_
    refine pw_istore (lv' := [(4, .int (1 : Int32)), (3, .int (-3 : Int32)), (2, .int (0 : Int32)), (0, .ref (ev_ad E 49)), (1, .int a1)]) dX10_safe_23 (by decide) rfl ?_
    refine pw_loc (lv' := [(0, .ref (ev_ad E 49)), (1, .int a1), (2, .int (0 : Int32)), (3, .int (-3 : Int32)), (4, .int (1 : Int32))]) [3, 4, 2, 1, 0] rfl ?_
    obtain ⟨kf, h⟩ := h
    exact t_X10_safe_25 hE Q kf _ _ _ _ _ h
  · have h := h.2 hc
    refine pw_iconst (v := (-1 : Int32)) dX10_safe_15 (by decide) ?_
    exact pw_ireturn dX10_safe_16 rfl rfl ⟨_, rfl, h⟩
def lp_X10_undo_26 (Q : Int32 → GS → Prop)  : Nat → Int32 → GS → Prop
  | 0, _, _ => False
  | n + 1, x1, G => (((13 : Int32) ≤ x1 → Q (1 : Int32) G) ∧ (¬ (13 : Int32) ≤ x1 → (vp_in (((13 : Int32) * (G 49 3)) + x1) 104 ∧ (vp_in x1 13 ∧ lp_X10_undo_26 Q n (x1 + 1) (gu_ G 50 x1.toNatClampNeg (G 51 ((((13 : Int32) * (G 49 3)) + x1).toNatClampNeg)))))))
set_option maxRecDepth 100000 in
set_option maxHeartbeats 4000000 in
theorem t_X10_undo_26 {E : EV} (hE : EI_ E) (Q : Int32 → GS → Prop)  : ∀ (n : Nat) (x1 : Int32) (G : GS), lp_X10_undo_26 Q n x1 G → PW_ E mi_X10_undo (rm_ 1) 0 0 26 [(0, .ref (ev_ad E 49)), (1, .int x1)] [] G (qi_ Q) := by
  intro n
  induction n with
  | zero => intro x1 G h; exact h.elim
  | succ n ih =>
    intro x1 G h
    refine pw_iload_n dX10_undo_26 rfl 1 rfl ?_
    refine pw_bipush (v := (13 : Int32)) dX10_undo_27 (by decide) ?_
    refine pw_icmp_ge (tgt := 58) dX10_undo_29 (by decide) (fun hc => ?_) (fun hc => ?_)
    · have h := h.1 hc
      refine pw_iconst (v := (1 : Int32)) dX10_undo_58 (by decide) ?_
      exact pw_ireturn dX10_undo_59 rfl rfl ⟨_, rfl, h⟩
    · have h := h.2 hc
      refine pw_aload_n dX10_undo_32 rfl 0 rfl ?_
      refine pw_getr (q := 50) dX10_undo_33 fa_X10_7 ly_49 rfl ?_
      refine pw_iload_n dX10_undo_36 rfl 1 rfl ?_
      refine pw_aload_n dX10_undo_37 rfl 0 rfl ?_
      refine pw_getr (q := 51) dX10_undo_38 fa_X10_13 ly_49 rfl ?_
      refine pw_bipush (v := (13 : Int32)) dX10_undo_41 (by decide) ?_
      refine pw_aload_n dX10_undo_43 rfl 0 rfl ?_
      refine pw_geti (v := G 49 3) dX10_undo_44 fa_X10_93 ly_49 rfl rfl ?_
      refine pw_imul dX10_undo_47 ?_
      refine pw_iload_n dX10_undo_48 rfl 1 rfl ?_
      refine pw_iadd dX10_undo_49 ?_
      obtain ⟨hv1, h⟩ := h
      refine pw_iald (v := G 51 ((((13 : Int32) * (G 49 3)) + x1).toNatClampNeg)) dX10_undo_50 ly_51 hv1 rfl ?_
      obtain ⟨hv2, h⟩ := h
      refine pw_iast (z := x1.toNatClampNeg) dX10_undo_51 ly_50 hv2 rfl ?_
      refine pw_iinc (k := 1) (v := x1 + 1) (lv' := [(1, .int (x1 + 1)), (0, .ref (ev_ad E 49))]) dX10_undo_52 rfl rfl (by decide) rfl ?_
      refine pw_goto (tgt := 26) dX10_undo_55 (by decide) ?_
      refine pw_loc (lv' := [(0, .ref (ev_ad E 49)), (1, .int (x1 + 1))]) [1, 0] rfl ?_
      exact ih _ _ h
def wp_X10_undo  (G : GS) (Q : Int32 → GS → Prop) : Prop := ((¬ (G 49 3) = 0 → (∃ kf, lp_X10_undo_26 Q kf (0 : Int32) (gu_ (gu_ G 49 0 (0 : Int32)) 49 3 ((G 49 3) - (1 : Int32))))) ∧ ((G 49 3) = 0 → Q (0 : Int32) (gu_ G 49 0 (0 : Int32))))
set_option maxRecDepth 100000 in
set_option maxHeartbeats 4000000 in
theorem s_X10_undo {E : EV} (hE : EI_ E)  {G : GS} {Q : Int32 → GS → Prop} (h : wp_X10_undo  G Q) : PMet E mi_X10_undo 1 [.ref (ev_ad E 49)] G (qi_ Q) := by
  refine pm_of hE (by decide) (Nat.le_of_ble_eq_true rfl) ?_
  refine pw_loc (lv' := [(0, .ref (ev_ad E 49))]) [0] rfl ?_
  refine pw_aload_n dX10_undo_0 rfl 0 rfl ?_
  refine pw_iconst (v := (0 : Int32)) dX10_undo_1 (by decide) ?_
  refine pw_puti dX10_undo_2 fp_X10_90 ly_49 rfl ?_
  refine pw_aload_n dX10_undo_5 rfl 0 rfl ?_
  refine pw_geti (v := G 49 3) dX10_undo_6 fa_X10_93 ly_49 rfl rfl ?_
  refine pw_if_ne (tgt := 14) dX10_undo_9 (by decide) (fun hc => ?_) (fun hc => ?_)
  · have h := h.1 hc
    refine pw_aload_n dX10_undo_14 rfl 0 rfl ?_
    refine pw_aload_n dX10_undo_15 rfl 0 rfl ?_
    refine pw_geti (v := G 49 3) dX10_undo_16 fa_X10_93 ly_49 rfl rfl ?_
    refine pw_iconst (v := (1 : Int32)) dX10_undo_19 (by decide) ?_
    refine pw_isub dX10_undo_20 ?_
    refine pw_puti dX10_undo_21 fp_X10_93 ly_49 rfl ?_
    refine pw_iconst (v := (0 : Int32)) dX10_undo_24 (by decide) ?_
    refine pw_istore_n (lv' := [(1, .int (0 : Int32)), (0, .ref (ev_ad E 49))]) dX10_undo_25 rfl (by decide) rfl ?_
    refine pw_loc (lv' := [(0, .ref (ev_ad E 49)), (1, .int (0 : Int32))]) [1, 0] rfl ?_
    obtain ⟨kf, h⟩ := h
    exact t_X10_undo_26 hE Q kf _ _ h
  · have h := h.2 hc
    refine pw_iconst (v := (0 : Int32)) dX10_undo_12 (by decide) ?_
    exact pw_ireturn dX10_undo_13 rfl rfl ⟨_, rfl, h⟩
def wp_X10_kept (a1 : Int32) (G : GS) (Q : Int32 → GS → Prop) : Prop := ((¬ (G 49 44) = 0 → (vp_in (((G 49 46) + (1 : Int32)) - (1 : Int32)) 1600 ∧ Q a1 (gu_ (gu_ G 49 46 ((G 49 46) + (1 : Int32))) 74 ((((G 49 46) + (1 : Int32)) - (1 : Int32)).toNatClampNeg) a1))) ∧ ((G 49 44) = 0 → (vp_in (((G 49 46) + (1 : Int32)) - (1 : Int32)) 1600 ∧ Q (G 74 ((((G 49 46) + (1 : Int32)) - (1 : Int32)).toNatClampNeg)) (gu_ G 49 46 ((G 49 46) + (1 : Int32))))))
set_option maxRecDepth 100000 in
set_option maxHeartbeats 4000000 in
theorem s_X10_kept {E : EV} (hE : EI_ E) {a1 : Int32} {G : GS} {Q : Int32 → GS → Prop} (h : wp_X10_kept a1 G Q) : PMet E mi_X10_kept 1 [.ref (ev_ad E 49), .int a1] G (qi_ Q) := by
  refine pm_of hE (by decide) (Nat.le_of_ble_eq_true rfl) ?_
  refine pw_loc (lv' := [(0, .ref (ev_ad E 49)), (1, .int a1)]) [0, 1] rfl ?_
  refine pw_aload_n dX10_kept_0 rfl 0 rfl ?_
  refine pw_aload_n dX10_kept_1 rfl 0 rfl ?_
  refine pw_geti (v := G 49 46) dX10_kept_2 fa_X10_321 ly_49 rfl rfl ?_
  refine pw_iconst (v := (1 : Int32)) dX10_kept_5 (by decide) ?_
  refine pw_iadd dX10_kept_6 ?_
  refine pw_puti dX10_kept_7 fp_X10_321 ly_49 rfl ?_
  refine pw_aload_n dX10_kept_10 rfl 0 rfl ?_
  refine pw_geti (v := G 49 44) dX10_kept_11 fa_X10_324 ly_49 rfl rfl ?_
  refine pw_if_ne (tgt := 29) dX10_kept_14 (by decide) (fun hc => ?_) (fun hc => ?_)
  · have h := h.1 hc
    refine pw_aload_n dX10_kept_29 rfl 0 rfl ?_
    refine pw_getr (q := 74) dX10_kept_30 fa_X10_87 ly_49 rfl ?_
    refine pw_aload_n dX10_kept_33 rfl 0 rfl ?_
    refine pw_geti (v := (G 49 46) + (1 : Int32)) dX10_kept_34 fa_X10_321 ly_49 rfl rfl ?_
    refine pw_iconst (v := (1 : Int32)) dX10_kept_37 (by decide) ?_
    refine pw_isub dX10_kept_38 ?_
    refine pw_iload_n dX10_kept_39 rfl 1 rfl ?_
    obtain ⟨hv1, h⟩ := h
    refine pw_iast (z := ((((G 49 46) + (1 : Int32)) - (1 : Int32)).toNatClampNeg)) dX10_kept_40 ly_74 hv1 rfl ?_
    refine pw_iload_n dX10_kept_41 rfl 1 rfl ?_
    exact pw_ireturn dX10_kept_42 rfl rfl ⟨_, rfl, h⟩
  · have h := h.2 hc
    refine pw_aload_n dX10_kept_17 rfl 0 rfl ?_
    refine pw_getr (q := 74) dX10_kept_18 fa_X10_87 ly_49 rfl ?_
    refine pw_aload_n dX10_kept_21 rfl 0 rfl ?_
    refine pw_geti (v := (G 49 46) + (1 : Int32)) dX10_kept_22 fa_X10_321 ly_49 rfl rfl ?_
    refine pw_iconst (v := (1 : Int32)) dX10_kept_25 (by decide) ?_
    refine pw_isub dX10_kept_26 ?_
    obtain ⟨hv2, h⟩ := h
    refine pw_iald (v := G 74 ((((G 49 46) + (1 : Int32)) - (1 : Int32)).toNatClampNeg)) dX10_kept_27 ly_74 hv2 rfl ?_
    exact pw_ireturn dX10_kept_28 rfl rfl ⟨_, rfl, h⟩
