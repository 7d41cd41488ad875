def wp_X10_state (a1 : Int32) (G : GS) (Q : Int32 → GS → Prop) : Prop := Q (G 50 12) (gu_ (gu_ (gu_ G 49 0 (0 : Int32)) 50 12 a1) 49 3 (0 : Int32))
set_option maxRecDepth 100000 in
set_option maxHeartbeats 4000000 in
theorem s_X10_state {E : EV} (hE : EI_ E) {a1 : Int32} {G : GS} {Q : Int32 → GS → Prop} (h : wp_X10_state a1 G Q) : PMet E mi_X10_state 1 [.ref (ev_ad E 49), .int a1] G (qi_ Q) := by
  refine pm_of hE (by decide) (Nat.le_of_ble_eq_true rfl) ?_
  refine pw_loc (lv' := [(0, .ref (ev_ad E 49)), (1, .int a1)]) [0, 1] rfl ?_
  refine pw_aload_n dX10_state_0 rfl 0 rfl ?_
  refine pw_iconst (v := (0 : Int32)) dX10_state_1 (by decide) ?_
  refine pw_puti dX10_state_2 fp_X10_90 ly_49 rfl ?_
  refine pw_aload_n dX10_state_5 rfl 0 rfl ?_
  refine pw_getr (q := 50) dX10_state_6 fa_X10_7 ly_49 rfl ?_
  refine pw_bipush (v := (12 : Int32)) dX10_state_9 (by decide) ?_
  refine pw_iald (v := G 50 12) dX10_state_11 ly_50 (by unfold vp_in; decide) rfl ?_
  refine pw_istore_n (lv' := [(2, .int (G 50 12)), (0, .ref (ev_ad E 49)), (1, .int a1)]) dX10_state_12 rfl (by decide) rfl ?_
  refine pw_aload_n dX10_state_13 rfl 1 rfl ?_
  refine pw_getr (q := 50) dX10_state_14 fa_X10_7 ly_49 rfl ?_
  refine pw_bipush (v := (12 : Int32)) dX10_state_17 (by decide) ?_
  refine pw_iload_n dX10_state_19 rfl 2 rfl ?_
  refine pw_iast (z := 12) dX10_state_20 ly_50 (by unfold vp_in; decide) rfl ?_
  refine pw_aload_n dX10_state_21 rfl 1 rfl ?_
  refine pw_iconst (v := (0 : Int32)) dX10_state_22 (by decide) ?_
  refine pw_puti dX10_state_23 fp_X10_93 ly_49 rfl ?_
  refine pw_iload_n dX10_state_26 rfl 0 rfl ?_
  exact pw_ireturn dX10_state_27 rfl rfl ⟨_, rfl, h⟩
def wp_X10_isIn (a1 : Int32) (a2 : Int32) (a3 : Int32) (G : GS) (Q : Int32 → GS → Prop) : Prop := ((a1 < a2 → Q (0 : Int32) G) ∧ (¬ a1 < a2 → ((a3 < a1 → Q (0 : Int32) G) ∧ (¬ a3 < a1 → Q (1 : Int32) G))))
set_option maxRecDepth 100000 in
set_option maxHeartbeats 4000000 in
theorem s_X10_isIn {E : EV} (hE : EI_ E) {a1 : Int32} {a2 : Int32} {a3 : Int32} {G : GS} {Q : Int32 → GS → Prop} (h : wp_X10_isIn a1 a2 a3 G Q) : PMet E mi_X10_isIn 1 [.ref (ev_ad E 49), .int a1, .int a2, .int a3] G (qi_ Q) := by
  refine pm_of hE (by decide) (Nat.le_of_ble_eq_true rfl) ?_
  refine pw_loc (lv' := [(0, .ref (ev_ad E 49)), (1, .int a1), (2, .int a2), (3, .int a3)]) [0, 1, 2, 3] rfl ?_
  refine pw_iload_n dX10_isIn_0 rfl 1 rfl ?_
  refine pw_iload_n dX10_isIn_1 rfl 2 rfl ?_
  refine pw_icmp_lt (tgt := 14) dX10_isIn_2 (by decide) (fun hc => ?_) (fun hc => ?_)
  · have h := h.1 hc
    refine pw_iconst (v := (0 : Int32)) dX10_isIn_14 (by decide) ?_
    exact pw_ireturn dX10_isIn_15 rfl rfl ⟨_, rfl, h⟩
  · have h := h.2 hc
    refine pw_iload_n dX10_isIn_5 rfl 1 rfl ?_
    refine pw_iload_n dX10_isIn_6 rfl 3 rfl ?_
    refine pw_icmp_gt (tgt := 14) dX10_isIn_7 (by decide) (fun hc => ?_) (fun hc => ?_)
    · have h := h.1 hc
      refine pw_iconst (v := (0 : Int32)) dX10_isIn_14 (by decide) ?_
      exact pw_ireturn dX10_isIn_15 rfl rfl ⟨_, rfl, h⟩
    · have h := h.2 hc
      refine pw_iconst (v := (1 : Int32)) dX10_isIn_10 (by decide) ?_
      refine pw_goto (tgt := 15) dX10_isIn_11 (by decide) ?_
      exact pw_ireturn dX10_isIn_15 rfl rfl ⟨_, rfl, h⟩
def wp_X10_person (a1 : Int32) (G : GS) (Q : Int32 → GS → Prop) : Prop := wp_X10_isIn a1 (-1 : Int32) (60 : Int32) (gu_ G 49 0 (0 : Int32)) (fun r1 G2 => ((r1 = 0 → Q (-1 : Int32) G2) ∧ (¬ r1 = 0 → ((¬ (G2 49 4) = (10 : Int32) → (vp_in ((0 : Int32) + (G2 49 4)) 13 ∧ (vp_in (G2 49 4) 10 ∧ Q (((G2 49 4) + (1 : Int32)) - (1 : Int32)) (gu_ (gu_ (gu_ (gu_ G2 50 (((0 : Int32) + (G2 49 4)).toNatClampNeg) (a1 + (1 : Int32))) 52 ((G2 49 4).toNatClampNeg) (0 : Int32)) 49 4 ((G2 49 4) + (1 : Int32))) 49 3 (0 : Int32))))) ∧ ((G2 49 4) = (10 : Int32) → Q (-1 : Int32) G2)))))
set_option maxRecDepth 100000 in
set_option maxHeartbeats 4000000 in
theorem s_X10_person {E : EV} (hE : EI_ E) {a1 : Int32} {G : GS} {Q : Int32 → GS → Prop} (h : wp_X10_person a1 G Q) : PMet E mi_X10_person 2 [.ref (ev_ad E 49), .int a1] G (qi_ Q) := by
  refine pm_of hE (by decide) (Nat.le_of_ble_eq_true rfl) ?_
  refine pw_loc (lv' := [(0, .ref (ev_ad E 49)), (1, .int a1)]) [0, 1] rfl ?_
  refine pw_aload_n dX10_person_0 rfl 0 rfl ?_
  refine pw_iconst (v := (0 : Int32)) dX10_person_1 (by decide) ?_
  refine pw_puti dX10_person_2 fp_X10_90 ly_49 rfl ?_
  refine pw_aload_n dX10_person_5 rfl 0 rfl ?_
  refine pw_iload_n dX10_person_6 rfl 1 rfl ?_
  refine pw_iconst (v := (-1 : Int32)) dX10_person_7 (by decide) ?_
  refine pw_bipush (v := (60 : Int32)) dX10_person_8 (by decide) ?_
  refine pw_callV (As := [.int a1, .int (-1 : Int32), .int (60 : Int32)]) (rest := []) (s_X10_isIn hE h) dX10_person_10 ly_49 rfl (Or.inl ml_X10_101) cm_X10_isIn rfl (rm_ok (by decide)) rm_0 (Nat.le_of_ble_eq_true rfl) ?_
  rintro _ G2 ⟨r1, rfl, h⟩
  refine pw_if_eq (tgt := 25) dX10_person_13 (by decide) (fun hc => ?_) (fun hc => ?_)
  · have h := h.1 hc
    refine pw_iconst (v := (-1 : Int32)) dX10_person_25 (by decide) ?_
    exact pw_ireturn dX10_person_26 rfl rfl ⟨_, rfl, h⟩
  · have h := h.2 hc
    refine pw_aload_n dX10_person_16 rfl 0 rfl ?_
    refine pw_geti (v := G2 49 4) dX10_person_17 fa_X10_98 ly_49 rfl rfl ?_
    refine pw_bipush (v := (10 : Int32)) dX10_person_20 (by decide) ?_
    refine pw_icmp_ne (tgt := 27) dX10_person_22 (by decide) (fun hc => ?_) (fun hc => ?_)
    · have h := h.1 hc
      refine pw_aload_n dX10_person_27 rfl 0 rfl ?_
      refine pw_getr (q := 50) dX10_person_28 fa_X10_7 ly_49 rfl ?_
      refine pw_iconst (v := (0 : Int32)) dX10_person_31 (by decide) ?_
      refine pw_aload_n dX10_person_32 rfl 0 rfl ?_
      refine pw_geti (v := G2 49 4) dX10_person_33 fa_X10_98 ly_49 rfl rfl ?_
      refine pw_iadd dX10_person_36 ?_
      refine pw_iload_n dX10_person_37 rfl 1 rfl ?_
      refine pw_iconst (v := (1 : Int32)) dX10_person_38 (by decide) ?_
      refine pw_iadd dX10_person_39 ?_
      obtain ⟨hv3, h⟩ := h
      refine pw_iast (z := (((0 : Int32) + (G2 49 4)).toNatClampNeg)) dX10_person_40 ly_50 hv3 rfl ?_
      refine pw_aload_n dX10_person_41 rfl 0 rfl ?_
      refine pw_getr (q := 52) dX10_person_42 fa_X10_16 ly_49 rfl ?_
      refine pw_aload_n dX10_person_45 rfl 0 rfl ?_
      refine pw_geti (v := G2 49 4) dX10_person_46 fa_X10_98 ly_49 rfl rfl ?_
      refine pw_iconst (v := (0 : Int32)) dX10_person_49 (by decide) ?_
      obtain ⟨hv4, h⟩ := h
      refine pw_iast (z := ((G2 49 4).toNatClampNeg)) dX10_person_50 ly_52 hv4 rfl ?_
      refine pw_aload_n dX10_person_51 rfl 0 rfl ?_
      refine pw_aload_n dX10_person_52 rfl 0 rfl ?_
      refine pw_geti (v := G2 49 4) dX10_person_53 fa_X10_98 ly_49 rfl rfl ?_
      refine pw_iconst (v := (1 : Int32)) dX10_person_56 (by decide) ?_
      refine pw_iadd dX10_person_57 ?_
      refine pw_puti dX10_person_58 fp_X10_98 ly_49 rfl ?_
      refine pw_aload_n dX10_person_61 rfl 0 rfl ?_
      refine pw_iconst (v := (0 : Int32)) dX10_person_62 (by decide) ?_
      refine pw_puti dX10_person_63 fp_X10_93 ly_49 rfl ?_
      refine pw_aload_n dX10_person_66 rfl 0 rfl ?_
      refine pw_geti (v := (G2 49 4) + (1 : Int32)) dX10_person_67 fa_X10_98 ly_49 rfl rfl ?_
      refine pw_iconst (v := (1 : Int32)) dX10_person_70 (by decide) ?_
      refine pw_isub dX10_person_71 ?_
      exact pw_ireturn dX10_person_72 rfl rfl ⟨_, rfl, h⟩
    · have h := h.2 hc
      refine pw_iconst (v := (-1 : Int32)) dX10_person_25 (by decide) ?_
      exact pw_ireturn dX10_person_26 rfl rfl ⟨_, rfl, h⟩
def wp_X10_isPerson (a1 : Int32) (G : GS) (Q : Int32 → GS → Prop) : Prop := ((a1 < 0 → Q (0 : Int32) G) ∧ (¬ a1 < 0 → (((G 49 4) ≤ a1 → Q (0 : Int32) G) ∧ (¬ (G 49 4) ≤ a1 → Q (1 : Int32) G))))
set_option maxRecDepth 100000 in
set_option maxHeartbeats 4000000 in
theorem s_X10_isPerson {E : EV} (hE : EI_ E) {a1 : Int32} {G : GS} {Q : Int32 → GS → Prop} (h : wp_X10_isPerson a1 G Q) : PMet E mi_X10_isPerson 1 [.ref (ev_ad E 49), .int a1] G (qi_ Q) := by
  refine pm_of hE (by decide) (Nat.le_of_ble_eq_true rfl) ?_
  refine pw_loc (lv' := [(0, .ref (ev_ad E 49)), (1, .int a1)]) [0, 1] rfl ?_
  refine pw_iload_n dX10_isPerson_0 rfl 1 rfl ?_
  refine pw_if_lt (tgt := 16) dX10_isPerson_1 (by decide) (fun hc => ?_) (fun hc => ?_)
  · have h := h.1 hc
    refine pw_iconst (v := (0 : Int32)) dX10_isPerson_16 (by decide) ?_
    exact pw_ireturn dX10_isPerson_17 rfl rfl ⟨_, rfl, h⟩
  · have h := h.2 hc
    refine pw_iload_n dX10_isPerson_4 rfl 1 rfl ?_
    refine pw_aload_n dX10_isPerson_5 rfl 0 rfl ?_
    refine pw_geti (v := G 49 4) dX10_isPerson_6 fa_X10_98 ly_49 rfl rfl ?_
    refine pw_icmp_ge (tgt := 16) dX10_isPerson_9 (by decide) (fun hc => ?_) (fun hc => ?_)
    · have h := h.1 hc
      refine pw_iconst (v := (0 : Int32)) dX10_isPerson_16 (by decide) ?_
      exact pw_ireturn dX10_isPerson_17 rfl rfl ⟨_, rfl, h⟩
    · have h := h.2 hc
      refine pw_iconst (v := (1 : Int32)) dX10_isPerson_12 (by decide) ?_
      refine pw_goto (tgt := 17) dX10_isPerson_13 (by decide) ?_
      exact pw_ireturn dX10_isPerson_17 rfl rfl ⟨_, rfl, h⟩
def wp_X10_humOf (a1 : Int32) (G : GS) (Q : Int32 → GS → Prop) : Prop := (vp_in ((0 : Int32) + a1) 13 ∧ Q ((G 50 (((0 : Int32) + a1).toNatClampNeg)) - (1 : Int32)) G)
set_option maxRecDepth 100000 in
set_option maxHeartbeats 4000000 in
theorem s_X10_humOf {E : EV} (hE : EI_ E) {a1 : Int32} {G : GS} {Q : Int32 → GS → Prop} (h : wp_X10_humOf a1 G Q) : PMet E mi_X10_humOf 1 [.ref (ev_ad E 49), .int a1] G (qi_ Q) := by
  refine pm_of hE (by decide) (Nat.le_of_ble_eq_true rfl) ?_
  refine pw_loc (lv' := [(0, .ref (ev_ad E 49)), (1, .int a1)]) [0, 1] rfl ?_
  refine pw_aload_n dX10_humOf_0 rfl 0 rfl ?_
  refine pw_getr (q := 50) dX10_humOf_1 fa_X10_7 ly_49 rfl ?_
  refine pw_iconst (v := (0 : Int32)) dX10_humOf_4 (by decide) ?_
  refine pw_iload_n dX10_humOf_5 rfl 1 rfl ?_
  refine pw_iadd dX10_humOf_6 ?_
  obtain ⟨hv1, h⟩ := h
  refine pw_iald (v := G 50 (((0 : Int32) + a1).toNatClampNeg)) dX10_humOf_7 ly_50 hv1 rfl ?_
  refine pw_iconst (v := (1 : Int32)) dX10_humOf_8 (by decide) ?_
  refine pw_isub dX10_humOf_9 ?_
  exact pw_ireturn dX10_humOf_10 rfl rfl ⟨_, rfl, h⟩
def wp_X10_canSet (a1 : Int32) (a2 : Int32) (a3 : Int32) (G : GS) (Q : Int32 → GS → Prop) : Prop := ((¬ a1 = (3 : Int32) → wp_X10_isPerson a2 G (fun r1 G2 => ((¬ r1 = 0 → ((¬ a1 = 0 → ((¬ a1 = (1 : Int32) → ((¬ a1 = (2 : Int32) → Q (0 : Int32) G2) ∧ (a1 = (2 : Int32) → wp_X10_isIn a3 (0 : Int32) (9 : Int32) G2 (fun r3 G4 => ((r3 = 0 → Q (0 : Int32) G4) ∧ (¬ r3 = 0 → Q (1 : Int32) G4)))))) ∧ (a1 = (1 : Int32) → wp_X10_isIn a3 (0 : Int32) (1 : Int32) G2 (fun r5 G6 => ((r5 = 0 → Q (0 : Int32) G6) ∧ (¬ r5 = 0 → ((a3 = 0 → Q (1 : Int32) G6) ∧ (¬ a3 = 0 → wp_X10_humOf a2 G6 (fun r7 G8 => ((r7 = (-1 : Int32) → Q (0 : Int32) G8) ∧ (¬ r7 = (-1 : Int32) → Q (1 : Int32) G8))))))))))) ∧ (a1 = 0 → wp_X10_isIn a3 (-1 : Int32) (60 : Int32) G2 (fun r9 G10 => (bz_ r9 ∧ Q r9 G10))))) ∧ (r1 = 0 → Q (0 : Int32) G2)))) ∧ (a1 = (3 : Int32) → wp_X10_isIn a3 (0 : Int32) (1000 : Int32) G (fun r11 G12 => (bz_ r11 ∧ Q r11 G12))))
set_option maxRecDepth 100000 in
set_option maxHeartbeats 4000000 in
theorem s_X10_canSet {E : EV} (hE : EI_ E) {a1 : Int32} {a2 : Int32} {a3 : Int32} {G : GS} {Q : Int32 → GS → Prop} (h : wp_X10_canSet a1 a2 a3 G Q) : PMet E mi_X10_canSet 2 [.ref (ev_ad E 49), .int a1, .int a2, .int a3] G (qi_ Q) := by
  refine pm_of hE (by decide) (Nat.le_of_ble_eq_true rfl) ?_
  refine pw_loc (lv' := [(0, .ref (ev_ad E 49)), (1, .int a1), (2, .int a2), (3, .int a3)]) [0, 1, 2, 3] rfl ?_
  refine pw_iload_n dX10_canSet_0 rfl 1 rfl ?_
  refine pw_iconst (v := (3 : Int32)) dX10_canSet_1 (by decide) ?_
  refine pw_icmp_ne (tgt := 15) dX10_canSet_2 (by decide) (fun hc => ?_) (fun hc => ?_)
  · have h := h.1 hc
    refine pw_aload_n dX10_canSet_15 rfl 0 rfl ?_
    refine pw_iload_n dX10_canSet_16 rfl 2 rfl ?_
    refine pw_callV (As := [.int a2]) (rest := []) (s_X10_isPerson hE h) dX10_canSet_17 ly_49 rfl (Or.inl ml_X10_105) cm_X10_isPerson rfl (rm_ok (by decide)) rm_0 (Nat.le_of_ble_eq_true rfl) ?_
    rintro _ G2 ⟨r1, rfl, h⟩
    refine pw_if_ne (tgt := 25) dX10_canSet_20 (by decide) (fun hc => ?_) (fun hc => ?_)
    · have h := h.1 hc
      refine pw_iload_n dX10_canSet_25 rfl 1 rfl ?_
      refine pw_if_ne (tgt := 38) dX10_canSet_26 (by decide) (fun hc => ?_) (fun hc => ?_)
      · have h := h.1 hc
        refine pw_iload_n dX10_canSet_38 rfl 1 rfl ?_
        refine pw_iconst (v := (1 : Int32)) dX10_canSet_39 (by decide) ?_
        refine pw_icmp_ne (tgt := 74) dX10_canSet_40 (by decide) (fun hc => ?_) (fun hc => ?_)
        · have h := h.1 hc
          refine pw_iload_n dX10_canSet_74 rfl 1 rfl ?_
          refine pw_iconst (v := (2 : Int32)) dX10_canSet_75 (by decide) ?_
          refine pw_icmp_ne (tgt := 94) dX10_canSet_76 (by decide) (fun hc => ?_) (fun hc => ?_)
          · have h := h.1 hc
            refine pw_iconst (v := (0 : Int32)) dX10_canSet_94 (by decide) ?_
            exact pw_ireturn dX10_canSet_95 rfl rfl ⟨_, rfl, h⟩
          · have h := h.2 hc
            refine pw_aload_n dX10_canSet_79 rfl 0 rfl ?_
            refine pw_iload_n dX10_canSet_80 rfl 3 rfl ?_
            refine pw_iconst (v := (0 : Int32)) dX10_canSet_81 (by decide) ?_
            refine pw_bipush (v := (9 : Int32)) dX10_canSet_82 (by decide) ?_
            refine pw_callV (As := [.int a3, .int (0 : Int32), .int (9 : Int32)]) (rest := []) (s_X10_isIn hE h) dX10_canSet_84 ly_49 rfl (Or.inl ml_X10_101) cm_X10_isIn rfl (rm_ok (by decide)) rm_0 (Nat.le_of_ble_eq_true rfl) ?_
            rintro _ G4 ⟨r3, rfl, h⟩
            refine pw_if_eq (tgt := 94) dX10_canSet_87 (by decide) (fun hc => ?_) (fun hc => ?_)
            · have h := h.1 hc
              refine pw_iconst (v := (0 : Int32)) dX10_canSet_94 (by decide) ?_
              exact pw_ireturn dX10_canSet_95 rfl rfl ⟨_, rfl, h⟩
            · have h := h.2 hc
              refine pw_iconst (v := (1 : Int32)) dX10_canSet_90 (by decide) ?_
              refine pw_goto (tgt := 95) dX10_canSet_91 (by decide) ?_
              exact pw_ireturn dX10_canSet_95 rfl rfl ⟨_, rfl, h⟩
        · have h := h.2 hc
          refine pw_aload_n dX10_canSet_43 rfl 0 rfl ?_
          refine pw_iload_n dX10_canSet_44 rfl 3 rfl ?_
          refine pw_iconst (v := (0 : Int32)) dX10_canSet_45 (by decide) ?_
          refine pw_iconst (v := (1 : Int32)) dX10_canSet_46 (by decide) ?_
          refine pw_callV (As := [.int a3, .int (0 : Int32), .int (1 : Int32)]) (rest := []) (s_X10_isIn hE h) dX10_canSet_47 ly_49 rfl (Or.inl ml_X10_101) cm_X10_isIn rfl (rm_ok (by decide)) rm_0 (Nat.le_of_ble_eq_true rfl) ?_
          rintro _ G6 ⟨r5, rfl, h⟩
          refine pw_if_eq (tgt := 70) dX10_canSet_50 (by decide) (fun hc => ?_) (fun hc => ?_)
          · have h := h.1 hc
            refine pw_iconst (v := (0 : Int32)) dX10_canSet_70 (by decide) ?_
            refine pw_goto (tgt := 95) dX10_canSet_71 (by decide) ?_
            exact pw_ireturn dX10_canSet_95 rfl rfl ⟨_, rfl, h⟩
          · have h := h.2 hc
            refine pw_iload_n dX10_canSet_53 rfl 3 rfl ?_
            refine pw_if_eq (tgt := 66) dX10_canSet_54 (by decide) (fun hc => ?_) (fun hc => ?_)
            · have h := h.1 hc
              refine pw_iconst (v := (1 : Int32)) dX10_canSet_66 (by decide) ?_
              refine pw_goto (tgt := 95) dX10_canSet_67 (by decide) ?_
              exact pw_ireturn dX10_canSet_95 rfl rfl ⟨_, rfl, h⟩
            · have h := h.2 hc
              refine pw_aload_n dX10_canSet_57 rfl 0 rfl ?_
              refine pw_iload_n dX10_canSet_58 rfl 2 rfl ?_
              refine pw_callV (As := [.int a2]) (rest := []) (s_X10_humOf hE h) dX10_canSet_59 ly_49 rfl (Or.inl ml_X10_109) cm_X10_humOf rfl (rm_ok (by decide)) rm_0 (Nat.le_of_ble_eq_true rfl) ?_
              rintro _ G8 ⟨r7, rfl, h⟩
              refine pw_iconst (v := (-1 : Int32)) dX10_canSet_62 (by decide) ?_
              refine pw_icmp_eq (tgt := 70) dX10_canSet_63 (by decide) (fun hc => ?_) (fun hc => ?_)
              · have h := h.1 hc
                refine pw_iconst (v := (0 : Int32)) dX10_canSet_70 (by decide) ?_
                refine pw_goto (tgt := 95) dX10_canSet_71 (by decide) ?_
                exact pw_ireturn dX10_canSet_95 rfl rfl ⟨_, rfl, h⟩
              · have h := h.2 hc
                refine pw_iconst (v := (1 : Int32)) dX10_canSet_66 (by decide) ?_
                refine pw_goto (tgt := 95) dX10_canSet_67 (by decide) ?_
                exact pw_ireturn dX10_canSet_95 rfl rfl ⟨_, rfl, h⟩
      · have h := h.2 hc
        refine pw_aload_n dX10_canSet_29 rfl 0 rfl ?_
        refine pw_iload_n dX10_canSet_30 rfl 3 rfl ?_
        refine pw_iconst (v := (-1 : Int32)) dX10_canSet_31 (by decide) ?_
        refine pw_bipush (v := (60 : Int32)) dX10_canSet_32 (by decide) ?_
        refine pw_callV (As := [.int a3, .int (-1 : Int32), .int (60 : Int32)]) (rest := []) (s_X10_isIn hE h) dX10_canSet_34 ly_49 rfl (Or.inl ml_X10_101) cm_X10_isIn rfl (rm_ok (by decide)) rm_0 (Nat.le_of_ble_eq_true rfl) ?_
        rintro _ G10 ⟨r9, rfl, h⟩
        exact pw_ireturn dX10_canSet_37 rfl (bz_n h.1) ⟨_, rfl, h.2⟩
    · have h := h.2 hc
      refine pw_iconst (v := (0 : Int32)) dX10_canSet_23 (by decide) ?_
      exact pw_ireturn dX10_canSet_24 rfl rfl ⟨_, rfl, h⟩
  · have h := h.2 hc
    refine pw_aload_n dX10_canSet_5 rfl 0 rfl ?_
    refine pw_iload_n dX10_canSet_6 rfl 3 rfl ?_
    refine pw_iconst (v := (0 : Int32)) dX10_canSet_7 (by decide) ?_
    refine pw_sipush (v := (1000 : Int32)) dX10_canSet_8 (by decide) ?_
    refine pw_callV (As := [.int a3, .int (0 : Int32), .int (1000 : Int32)]) (rest := []) (s_X10_isIn hE h) dX10_canSet_11 ly_49 rfl (Or.inl ml_X10_101) cm_X10_isIn rfl (rm_ok (by decide)) rm_0 (Nat.le_of_ble_eq_true rfl) ?_
    rintro _ G12 ⟨r11, rfl, h⟩
    exact pw_ireturn dX10_canSet_14 rfl (bz_n h.1) ⟨_, rfl, h.2⟩
def bk_X10_set_92 (Q : Int32 → GS → Prop)  (x1 : Int32) (x3 : Int32) (G : GS) : Prop := ((¬ x1 = (3 : Int32) → Q (1 : Int32) (gu_ G 49 3 (0 : Int32))) ∧ (x1 = (3 : Int32) → Q (1 : Int32) (gu_ (gu_ G 49 7 x3) 49 3 (0 : Int32))))
set_option maxRecDepth 100000 in
set_option maxHeartbeats 4000000 in
theorem t_X10_set_92 {E : EV} (hE : EI_ E) (Q : Int32 → GS → Prop)  {x1 : Int32} {x3 : Int32} {G : GS} (h : bk_X10_set_92 Q x1 x3 G) : PW_ E mi_X10_set (rm_ 3) 0 0 92 [(0, .ref (ev_ad E 49)), (1, .int x1), (3, .int x3)] [] G (qi_ Q) := by
  refine pw_iload_n dX10_set_92 rfl 1 rfl ?_
  refine pw_iconst (v := (3 : Int32)) dX10_set_93 (by decide) ?_
  refine pw_icmp_ne (tgt := 102) dX10_set_94 (by decide) (fun hc => ?_) (fun hc => ?_)
  · have h := h.1 hc
    refine pw_aload_n dX10_set_102 rfl 0 rfl ?_
    refine pw_iconst (v := (0 : Int32)) dX10_set_103 (by decide) ?_
    refine pw_puti dX10_set_104 fp_X10_93 ly_49 rfl ?_
    refine pw_iconst (v := (1 : Int32)) dX10_set_107 (by decide) ?_
    exact pw_ireturn dX10_set_108 rfl rfl ⟨_, rfl, h⟩
  · have h := h.2 hc
    refine pw_aload_n dX10_set_97 rfl 0 rfl ?_
    refine pw_iload_n dX10_set_98 rfl 2 rfl ?_
    refine pw_puti dX10_set_99 fp_X10_119 ly_49 rfl ?_
    refine pw_aload_n dX10_set_102 rfl 0 rfl ?_
    refine pw_iconst (v := (0 : Int32)) dX10_set_103 (by decide) ?_
    refine pw_puti dX10_set_104 fp_X10_93 ly_49 rfl ?_
    refine pw_iconst (v := (1 : Int32)) dX10_set_107 (by decide) ?_
    exact pw_ireturn dX10_set_108 rfl rfl ⟨_, rfl, h⟩
def bk_X10_set_55 (Q : Int32 → GS → Prop)  (x1 : Int32) (x2 : Int32) (x3 : Int32) (G : GS) : Prop := ((¬ x1 = 0 → ((¬ x1 = (2 : Int32) → bk_X10_set_92 Q x1 x3 G) ∧ (x1 = (2 : Int32) → (vp_in x2 10 ∧ bk_X10_set_92 Q x1 x3 (gu_ G 52 x2.toNatClampNeg (x3 - (5 : Int32))))))) ∧ (x1 = 0 → ((¬ x3 = (-1 : Int32) → ((¬ x1 = (2 : Int32) → bk_X10_set_92 Q x1 x3 G) ∧ (x1 = (2 : Int32) → (vp_in x2 10 ∧ bk_X10_set_92 Q x1 x3 (gu_ G 52 x2.toNatClampNeg (x3 - (5 : Int32))))))) ∧ (x3 = (-1 : Int32) → ((¬ x1 = (2 : Int32) → bk_X10_set_92 Q x1 x3 (gu_ G 49 5 ((G 49 5) &&& (((1 : Int32) <<< (x2 &&& 31)) ^^^ (-1 : Int32))))) ∧ (x1 = (2 : Int32) → (vp_in x2 10 ∧ bk_X10_set_92 Q x1 x3 (gu_ (gu_ G 49 5 ((G 49 5) &&& (((1 : Int32) <<< (x2 &&& 31)) ^^^ (-1 : Int32)))) 52 x2.toNatClampNeg (x3 - (5 : Int32))))))))))
set_option maxRecDepth 100000 in
set_option maxHeartbeats 4000000 in
theorem t_X10_set_55 {E : EV} (hE : EI_ E) (Q : Int32 → GS → Prop)  {x1 : Int32} {x2 : Int32} {x3 : Int32} {G : GS} (h : bk_X10_set_55 Q x1 x2 x3 G) : PW_ E mi_X10_set (rm_ 3) 0 0 55 [(0, .ref (ev_ad E 49)), (1, .int x1), (2, .int x2), (3, .int x3)] [] G (qi_ Q) := by
  refine pw_iload_n dX10_set_55 rfl 1 rfl ?_
  refine pw_if_ne (tgt := 78) dX10_set_56 (by decide) (fun hc => ?_) (fun hc => ?_)
  · have h := h.1 hc
    refine pw_iload_n dX10_set_78 rfl 1 rfl ?_
    refine pw_iconst (v := (2 : Int32)) dX10_set_79 (by decide) ?_
    refine pw_icmp_ne (tgt := 92) dX10_set_80 (by decide) (fun hc => ?_) (fun hc => ?_)
    · have h := h.1 hc
      refine pw_loc (lv' := [(0, .ref (ev_ad E 49)), (1, .int x1), (3, .int x3)]) [0, 1, 3] rfl ?_
      exact t_X10_set_92 hE Q h
    · have h := h.2 hc
      refine pw_aload_n dX10_set_83 rfl 0 rfl ?_
      refine pw_getr (q := 52) dX10_set_84 fa_X10_16 ly_49 rfl ?_
      refine pw_iload_n dX10_set_87 rfl 2 rfl ?_
      refine pw_iload_n dX10_set_88 rfl 3 rfl ?_
      refine pw_iconst (v := (5 : Int32)) dX10_set_89 (by decide) ?_
      refine pw_isub dX10_set_90 ?_
      obtain ⟨hv4, h⟩ := h
      refine pw_iast (z := x2.toNatClampNeg) dX10_set_91 ly_52 hv4 rfl ?_
      refine pw_loc (lv' := [(0, .ref (ev_ad E 49)), (1, .int x1), (3, .int x3)]) [0, 1, 3] rfl ?_
      exact t_X10_set_92 hE Q h
  · have h := h.2 hc
    refine pw_iload_n dX10_set_59 rfl 3 rfl ?_
    refine pw_iconst (v := (-1 : Int32)) dX10_set_60 (by decide) ?_
    refine pw_icmp_ne (tgt := 78) dX10_set_61 (by decide) (fun hc => ?_) (fun hc => ?_)
    · have h := h.1 hc
      refine pw_iload_n dX10_set_78 rfl 1 rfl ?_
      refine pw_iconst (v := (2 : Int32)) dX10_set_79 (by decide) ?_
      refine pw_icmp_ne (tgt := 92) dX10_set_80 (by decide) (fun hc => ?_) (fun hc => ?_)
      · have h := h.1 hc
        refine pw_loc (lv' := [(0, .ref (ev_ad E 49)), (1, .int x1), (3, .int x3)]) [0, 1, 3] rfl ?_
        exact t_X10_set_92 hE Q h
      · have h := h.2 hc
        refine pw_aload_n dX10_set_83 rfl 0 rfl ?_
        refine pw_getr (q := 52) dX10_set_84 fa_X10_16 ly_49 rfl ?_
        refine pw_iload_n dX10_set_87 rfl 2 rfl ?_
        refine pw_iload_n dX10_set_88 rfl 3 rfl ?_
        refine pw_iconst (v := (5 : Int32)) dX10_set_89 (by decide) ?_
        refine pw_isub dX10_set_90 ?_
        obtain ⟨hv5, h⟩ := h
        refine pw_iast (z := x2.toNatClampNeg) dX10_set_91 ly_52 hv5 rfl ?_
        refine pw_loc (lv' := [(0, .ref (ev_ad E 49)), (1, .int x1), (3, .int x3)]) [0, 1, 3] rfl ?_
        exact t_X10_set_92 hE Q h
    · have h := h.2 hc
      refine pw_aload_n dX10_set_64 rfl 0 rfl ?_
      refine pw_aload_n dX10_set_65 rfl 0 rfl ?_
      refine pw_geti (v := G 49 5) dX10_set_66 fa_X10_116 ly_49 rfl rfl ?_
      refine pw_iconst (v := (1 : Int32)) dX10_set_69 (by decide) ?_
      refine pw_iload_n dX10_set_70 rfl 2 rfl ?_
      refine pw_ishl dX10_set_71 ?_
      refine pw_iconst (v := (-1 : Int32)) dX10_set_72 (by decide) ?_
      refine pw_ixor dX10_set_73 ?_
      refine pw_iand dX10_set_74 ?_
      refine pw_puti dX10_set_75 fp_X10_116 ly_49 rfl ?_
      refine pw_iload_n dX10_set_78 rfl 1 rfl ?_
      refine pw_iconst (v := (2 : Int32)) dX10_set_79 (by decide) ?_
      refine pw_icmp_ne (tgt := 92) dX10_set_80 (by decide) (fun hc => ?_) (fun hc => ?_)
      · have h := h.1 hc
        refine pw_loc (lv' := [(0, .ref (ev_ad E 49)), (1, .int x1), (3, .int x3)]) [0, 1, 3] rfl ?_
        exact t_X10_set_92 hE Q h
      · have h := h.2 hc
        refine pw_aload_n dX10_set_83 rfl 0 rfl ?_
        refine pw_getr (q := 52) dX10_set_84 fa_X10_16 ly_49 rfl ?_
        refine pw_iload_n dX10_set_87 rfl 2 rfl ?_
        refine pw_iload_n dX10_set_88 rfl 3 rfl ?_
        refine pw_iconst (v := (5 : Int32)) dX10_set_89 (by decide) ?_
        refine pw_isub dX10_set_90 ?_
        obtain ⟨hv6, h⟩ := h
        refine pw_iast (z := x2.toNatClampNeg) dX10_set_91 ly_52 hv6 rfl ?_
        refine pw_loc (lv' := [(0, .ref (ev_ad E 49)), (1, .int x1), (3, .int x3)]) [0, 1, 3] rfl ?_
        exact t_X10_set_92 hE Q h
def bk_X10_set_32 (Q : Int32 → GS → Prop)  (x1 : Int32) (x2 : Int32) (x3 : Int32) (G : GS) : Prop := ((¬ x1 = (1 : Int32) → bk_X10_set_55 Q x1 x2 x3 G) ∧ (x1 = (1 : Int32) → bk_X10_set_55 Q x1 x2 x3 (gu_ G 49 5 (((G 49 5) &&& (((1 : Int32) <<< (x2 &&& 31)) ^^^ (-1 : Int32))) ||| (x3 <<< (x2 &&& 31))))))
set_option maxRecDepth 100000 in
set_option maxHeartbeats 4000000 in
theorem t_X10_set_32 {E : EV} (hE : EI_ E) (Q : Int32 → GS → Prop)  {x1 : Int32} {x2 : Int32} {x3 : Int32} {G : GS} (h : bk_X10_set_32 Q x1 x2 x3 G) : PW_ E mi_X10_set (rm_ 3) 0 0 32 [(0, .ref (ev_ad E 49)), (1, .int x1), (2, .int x2), (3, .int x3)] [] G (qi_ Q) := by
  refine pw_iload_n dX10_set_32 rfl 1 rfl ?_
  refine pw_iconst (v := (1 : Int32)) dX10_set_33 (by decide) ?_
  refine pw_icmp_ne (tgt := 55) dX10_set_34 (by decide) (fun hc => ?_) (fun hc => ?_)
  · have h := h.1 hc
    refine pw_loc (lv' := [(0, .ref (ev_ad E 49)), (1, .int x1), (2, .int x2), (3, .int x3)]) [0, 1, 2, 3] rfl ?_
    exact t_X10_set_55 hE Q h
  · have h := h.2 hc
    refine pw_aload_n dX10_set_37 rfl 0 rfl ?_
    refine pw_aload_n dX10_set_38 rfl 0 rfl ?_
    refine pw_geti (v := G 49 5) dX10_set_39 fa_X10_116 ly_49 rfl rfl ?_
    refine pw_iconst (v := (1 : Int32)) dX10_set_42 (by decide) ?_
    refine pw_iload_n dX10_set_43 rfl 2 rfl ?_
    refine pw_ishl dX10_set_44 ?_
    refine pw_iconst (v := (-1 : Int32)) dX10_set_45 (by decide) ?_
    refine pw_ixor dX10_set_46 ?_
    refine pw_iand dX10_set_47 ?_
    refine pw_iload_n dX10_set_48 rfl 3 rfl ?_
    refine pw_iload_n dX10_set_49 rfl 2 rfl ?_
    refine pw_ishl dX10_set_50 ?_
    refine pw_ior dX10_set_51 ?_
    refine pw_puti dX10_set_52 fp_X10_116 ly_49 rfl ?_
    refine pw_loc (lv' := [(0, .ref (ev_ad E 49)), (1, .int x1), (2, .int x2), (3, .int x3)]) [0, 1, 2, 3] rfl ?_
    exact t_X10_set_55 hE Q h
def wp_X10_set (a1 : Int32) (a2 : Int32) (a3 : Int32) (G : GS) (Q : Int32 → GS → Prop) : Prop := wp_X10_canSet a1 a2 a3 (gu_ G 49 0 (0 : Int32)) (fun r1 G2 => ((¬ r1 = 0 → ((¬ a1 = 0 → bk_X10_set_32 Q a1 a2 a3 G2) ∧ (a1 = 0 → (vp_in ((0 : Int32) + a2) 13 ∧ bk_X10_set_32 Q a1 a2 a3 (gu_ G2 50 (((0 : Int32) + a2).toNatClampNeg) (a3 + (1 : Int32))))))) ∧ (r1 = 0 → Q (0 : Int32) G2)))
set_option maxRecDepth 100000 in
set_option maxHeartbeats 4000000 in
theorem s_X10_set {E : EV} (hE : EI_ E) {a1 : Int32} {a2 : Int32} {a3 : Int32} {G : GS} {Q : Int32 → GS → Prop} (h : wp_X10_set a1 a2 a3 G Q) : PMet E mi_X10_set 3 [.ref (ev_ad E 49), .int a1, .int a2, .int a3] G (qi_ Q) := by
  refine pm_of hE (by decide) (Nat.le_of_ble_eq_true rfl) ?_
  refine pw_loc (lv' := [(0, .ref (ev_ad E 49)), (1, .int a1), (2, .int a2), (3, .int a3)]) [0, 1, 2, 3] rfl ?_
  refine pw_aload_n dX10_set_0 rfl 0 rfl ?_
  refine pw_iconst (v := (0 : Int32)) dX10_set_1 (by decide) ?_
  refine pw_puti dX10_set_2 fp_X10_90 ly_49 rfl ?_
  refine pw_aload_n dX10_set_5 rfl 0 rfl ?_
  refine pw_iload_n dX10_set_6 rfl 1 rfl ?_
  refine pw_iload_n dX10_set_7 rfl 2 rfl ?_
  refine pw_iload_n dX10_set_8 rfl 3 rfl ?_
  refine pw_callV (As := [.int a1, .int a2, .int a3]) (rest := []) (s_X10_canSet hE h) dX10_set_9 ly_49 rfl (Or.inl ml_X10_113) cm_X10_canSet rfl (rm_ok (by decide)) rm_0 (Nat.le_of_ble_eq_true rfl) ?_
  rintro _ G2 ⟨r1, rfl, h⟩
  refine pw_if_ne (tgt := 17) dX10_set_12 (by decide) (fun hc => ?_) (fun hc => ?_)
  · have h := h.1 hc
    refine pw_iload_n dX10_set_17 rfl 1 rfl ?_
    refine pw_if_ne (tgt := 32) dX10_set_18 (by decide) (fun hc => ?_) (fun hc => ?_)
    · have h := h.1 hc
      refine pw_loc (lv' := [(0, .ref (ev_ad E 49)), (1, .int a1), (2, .int a2), (3, .int a3)]) [0, 1, 2, 3] rfl ?_
      exact t_X10_set_32 hE Q h
    · have h := h.2 hc
      refine pw_aload_n dX10_set_21 rfl 0 rfl ?_
      refine pw_getr (q := 50) dX10_set_22 fa_X10_7 ly_49 rfl ?_
      refine pw_iconst (v := (0 : Int32)) dX10_set_25 (by decide) ?_
      refine pw_iload_n dX10_set_26 rfl 2 rfl ?_
      refine pw_iadd dX10_set_27 ?_
      refine pw_iload_n dX10_set_28 rfl 3 rfl ?_
      refine pw_iconst (v := (1 : Int32)) dX10_set_29 (by decide) ?_
      refine pw_iadd dX10_set_30 ?_
      obtain ⟨hv3, h⟩ := h
      refine pw_iast (z := (((0 : Int32) + a2).toNatClampNeg)) dX10_set_31 ly_50 hv3 rfl ?_
      refine pw_loc (lv' := [(0, .ref (ev_ad E 49)), (1, .int a1), (2, .int a2), (3, .int a3)]) [0, 1, 2, 3] rfl ?_
      exact t_X10_set_32 hE Q h
  · have h := h.2 hc
    refine pw_iconst (v := (0 : Int32)) dX10_set_15 (by decide) ?_
    exact pw_ireturn dX10_set_16 rfl rfl ⟨_, rfl, h⟩
def lp_X10_types_3 (Q : Int32 → GS → Prop)  : Nat → Int32 → Int32 → GS → Prop
  | 0, _, _, _ => False
  | n + 1, x1, x2, G => ((x2 < 0 → Q 0 G) ∧ (¬ x2 < 0 → (vp_in (G 49 10) 400 ∧ lp_X10_types_3 Q n x1 (x2 + (-8)) (gu_ (gu_ G 54 ((G 49 10).toNatClampNeg) ((x1 >>> (x2 &&& 31)) &&& (255 : Int32))) 49 10 ((G 49 10) + (1 : Int32))))))
set_option maxRecDepth 100000 in
set_option maxHeartbeats 4000000 in
theorem t_X10_types_3 {E : EV} (hE : EI_ E) (Q : Int32 → GS → Prop)  : ∀ (n : Nat) (x1 : Int32) (x2 : Int32) (G : GS), lp_X10_types_3 Q n x1 x2 G → PW_ E mi_X10_types (rm_ 1) 0 0 3 [(0, .ref (ev_ad E 49)), (1, .int x1), (2, .int x2)] [] G (qv_ Q) := by
  intro n
  induction n with
  | zero => intro x1 x2 G h; exact h.elim
  | succ n ih =>
    intro x1 x2 G h
    refine pw_iload_n dX10_types_3 rfl 2 rfl ?_
    refine pw_if_lt (tgt := 39) dX10_types_4 (by decide) (fun hc => ?_) (fun hc => ?_)
    · have h := h.1 hc
      exact pw_return dX10_types_39 rfl ⟨rfl, h⟩
    · have h := h.2 hc
      refine pw_aload_n dX10_types_7 rfl 0 rfl ?_
      refine pw_getr (q := 54) dX10_types_8 fa_X10_22 ly_49 rfl ?_
      refine pw_aload_n dX10_types_11 rfl 0 rfl ?_
      refine pw_geti (v := G 49 10) dX10_types_12 fa_X10_122 ly_49 rfl rfl ?_
      refine pw_iload_n dX10_types_15 rfl 1 rfl ?_
      refine pw_iload_n dX10_types_16 rfl 2 rfl ?_
      refine pw_ishr dX10_types_17 ?_
      refine pw_sipush (v := (255 : Int32)) dX10_types_18 (by decide) ?_
      refine pw_iand dX10_types_21 ?_
      obtain ⟨hv1, h⟩ := h
      refine pw_iast (z := ((G 49 10).toNatClampNeg)) dX10_types_22 ly_54 hv1 rfl ?_
      refine pw_aload_n dX10_types_23 rfl 0 rfl ?_
      refine pw_aload_n dX10_types_24 rfl 0 rfl ?_
      refine pw_geti (v := G 49 10) dX10_types_25 fa_X10_122 ly_49 rfl rfl ?_
      refine pw_iconst (v := (1 : Int32)) dX10_types_28 (by decide) ?_
      refine pw_iadd dX10_types_29 ?_
      refine pw_puti dX10_types_30 fp_X10_122 ly_49 rfl ?_
      refine pw_iinc (k := 2) (v := x2 + (-8)) (lv' := [(2, .int (x2 + (-8))), (0, .ref (ev_ad E 49)), (1, .int x1)]) dX10_types_33 rfl rfl (by decide) rfl ?_
      refine pw_goto (tgt := 3) dX10_types_36 (by decide) ?_
      refine pw_loc (lv' := [(0, .ref (ev_ad E 49)), (1, .int x1), (2, .int (x2 + (-8)))]) [1, 2, 0] rfl ?_
      exact ih _ _ _ h
def wp_X10_types (a1 : Int32) (G : GS) (Q : Int32 → GS → Prop) : Prop := (∃ kf, lp_X10_types_3 Q kf a1 (24 : Int32) G)
set_option maxRecDepth 100000 in
set_option maxHeartbeats 4000000 in
theorem s_X10_types {E : EV} (hE : EI_ E) {a1 : Int32} {G : GS} {Q : Int32 → GS → Prop} (h : wp_X10_types a1 G Q) : PMet E mi_X10_types 1 [.ref (ev_ad E 49), .int a1] G (qv_ Q) := by
  refine pm_of hE (by decide) (Nat.le_of_ble_eq_true rfl) ?_
  refine pw_loc (lv' := [(0, .ref (ev_ad E 49)), (1, .int a1)]) [0, 1] rfl ?_
  refine pw_bipush (v := (24 : Int32)) dX10_types_0 (by decide) ?_
  refine pw_istore_n (lv' := [(2, .int (24 : Int32)), (0, .ref (ev_ad E 49)), (1, .int a1)]) dX10_types_2 rfl (by decide) rfl ?_
  refine pw_loc (lv' := [(0, .ref (ev_ad E 49)), (1, .int a1), (2, .int (24 : Int32))]) [1, 2, 0] rfl ?_
  obtain ⟨kf, h⟩ := h
  exact t_X10_types_3 hE Q kf _ _ _ h
def wp_X10_feed (a1 : Int32) (a2 : Int32) (a3 : Int32) (a4 : Int32) (a5 : Int32) (G : GS) (Q : Int32 → GS → Prop) : Prop := (((G 49 10) ≤ (380 : Int32) → wp_X10_types a1 (gu_ G 49 0 (0 : Int32)) (fun _ G2 => wp_X10_types a2 G2 (fun _ G4 => wp_X10_types a3 G4 (fun _ G6 => wp_X10_types a4 G6 (fun _ G8 => wp_X10_types a5 G8 (fun _ G10 => Q (G10 49 10) G10)))))) ∧ (¬ (G 49 10) ≤ (380 : Int32) → Q (-1 : Int32) (gu_ G 49 0 (0 : Int32))))
set_option maxRecDepth 100000 in
set_option maxHeartbeats 4000000 in
theorem s_X10_feed {E : EV} (hE : EI_ E) {a1 : Int32} {a2 : Int32} {a3 : Int32} {a4 : Int32} {a5 : Int32} {G : GS} {Q : Int32 → GS → Prop} (h : wp_X10_feed a1 a2 a3 a4 a5 G Q) : PMet E mi_X10_feed 2 [.ref (ev_ad E 49), .int a1, .int a2, .int a3, .int a4, .int a5] G (qi_ Q) := by
  refine pm_of hE (by decide) (Nat.le_of_ble_eq_true rfl) ?_
  refine pw_loc (lv' := [(0, .ref (ev_ad E 49)), (1, .int a1), (2, .int a2), (3, .int a3), (4, .int a4), (5, .int a5)]) [0, 1, 2, 3, 4, 5] rfl ?_
  refine pw_aload_n dX10_feed_0 rfl 0 rfl ?_
  refine pw_iconst (v := (0 : Int32)) dX10_feed_1 (by decide) ?_
  refine pw_puti dX10_feed_2 fp_X10_90 ly_49 rfl ?_
  refine pw_aload_n dX10_feed_5 rfl 0 rfl ?_
  refine pw_geti (v := G 49 10) dX10_feed_6 fa_X10_122 ly_49 rfl rfl ?_
  refine pw_sipush (v := (380 : Int32)) dX10_feed_9 (by decide) ?_
  refine pw_icmp_le (tgt := 17) dX10_feed_12 (by decide) (fun hc => ?_) (fun hc => ?_)
  · have h := h.1 hc
    refine pw_aload_n dX10_feed_17 rfl 0 rfl ?_
    refine pw_iload_n dX10_feed_18 rfl 1 rfl ?_
    refine pw_callV (As := [.int a1]) (rest := []) (s_X10_types hE h) dX10_feed_19 ly_49 rfl (Or.inl ml_X10_125) cm_X10_types rfl (rm_ok (by decide)) rm_0 (Nat.le_of_ble_eq_true rfl) ?_
    rintro _ G2 ⟨rfl, h⟩
    refine pw_aload_n dX10_feed_22 rfl 0 rfl ?_
    refine pw_iload_n dX10_feed_23 rfl 2 rfl ?_
    refine pw_callV (As := [.int a2]) (rest := []) (s_X10_types hE h) dX10_feed_24 ly_49 rfl (Or.inl ml_X10_125) cm_X10_types rfl (rm_ok (by decide)) rm_0 (Nat.le_of_ble_eq_true rfl) ?_
    rintro _ G4 ⟨rfl, h⟩
    refine pw_aload_n dX10_feed_27 rfl 0 rfl ?_
    refine pw_iload_n dX10_feed_28 rfl 3 rfl ?_
    refine pw_callV (As := [.int a3]) (rest := []) (s_X10_types hE h) dX10_feed_29 ly_49 rfl (Or.inl ml_X10_125) cm_X10_types rfl (rm_ok (by decide)) rm_0 (Nat.le_of_ble_eq_true rfl) ?_
    rintro _ G6 ⟨rfl, h⟩
    refine pw_aload_n dX10_feed_32 rfl 0 rfl ?_
    refine pw_iload dX10_feed_33 4 rfl ?_
    refine pw_callV (As := [.int a4]) (rest := []) (s_X10_types hE h) dX10_feed_35 ly_49 rfl (Or.inl ml_X10_125) cm_X10_types rfl (rm_ok (by decide)) rm_0 (Nat.le_of_ble_eq_true rfl) ?_
    rintro _ G8 ⟨rfl, h⟩
    refine pw_aload_n dX10_feed_38 rfl 0 rfl ?_
    refine pw_iload dX10_feed_39 5 rfl ?_
    refine pw_callV (As := [.int a5]) (rest := []) (s_X10_types hE h) dX10_feed_41 ly_49 rfl (Or.inl ml_X10_125) cm_X10_types rfl (rm_ok (by decide)) rm_0 (Nat.le_of_ble_eq_true rfl) ?_
    rintro _ G10 ⟨rfl, h⟩
    refine pw_aload_n dX10_feed_44 rfl 0 rfl ?_
    refine pw_geti (v := G10 49 10) dX10_feed_45 fa_X10_122 ly_49 rfl rfl ?_
    exact pw_ireturn dX10_feed_48 rfl rfl ⟨_, rfl, h⟩
  · have h := h.2 hc
    refine pw_iconst (v := (-1 : Int32)) dX10_feed_15 (by decide) ?_
    exact pw_ireturn dX10_feed_16 rfl rfl ⟨_, rfl, h⟩
def wp_X10_end (a1 : Int32) (G : GS) (Q : Int32 → GS → Prop) : Prop := wp_X10_isIn a1 (0 : Int32) (G 49 10) (gu_ G 49 0 (0 : Int32)) (fun r1 G2 => ((¬ r1 = 0 → Q (1 : Int32) (gu_ G2 49 10 a1)) ∧ (r1 = 0 → Q (0 : Int32) G2)))
set_option maxRecDepth 100000 in
set_option maxHeartbeats 4000000 in
theorem s_X10_end {E : EV} (hE : EI_ E) {a1 : Int32} {G : GS} {Q : Int32 → GS → Prop} (h : wp_X10_end a1 G Q) : PMet E mi_X10_end 2 [.ref (ev_ad E 49), .int a1] G (qi_ Q) := by
  refine pm_of hE (by decide) (Nat.le_of_ble_eq_true rfl) ?_
  refine pw_loc (lv' := [(0, .ref (ev_ad E 49)), (1, .int a1)]) [0, 1] rfl ?_
  refine pw_aload_n dX10_end_0 rfl 0 rfl ?_
  refine pw_iconst (v := (0 : Int32)) dX10_end_1 (by decide) ?_
  refine pw_puti dX10_end_2 fp_X10_90 ly_49 rfl ?_
  refine pw_aload_n dX10_end_5 rfl 0 rfl ?_
  refine pw_iload_n dX10_end_6 rfl 1 rfl ?_
  refine pw_iconst (v := (0 : Int32)) dX10_end_7 (by decide) ?_
  refine pw_aload_n dX10_end_8 rfl 0 rfl ?_
  refine pw_geti (v := G 49 10) dX10_end_9 fa_X10_122 ly_49 rfl rfl ?_
  refine pw_callV (As := [.int a1, .int (0 : Int32), .int (G 49 10)]) (rest := []) (s_X10_isIn hE h) dX10_end_12 ly_49 rfl (Or.inl ml_X10_101) cm_X10_isIn rfl (rm_ok (by decide)) rm_0 (Nat.le_of_ble_eq_true rfl) ?_
  rintro _ G2 ⟨r1, rfl, h⟩
  refine pw_if_ne (tgt := 20) dX10_end_15 (by decide) (fun hc => ?_) (fun hc => ?_)
  · have h := h.1 hc
    refine pw_aload_n dX10_end_20 rfl 0 rfl ?_
    refine pw_iload_n dX10_end_21 rfl 1 rfl ?_
    refine pw_puti dX10_end_22 fp_X10_122 ly_49 rfl ?_
    refine pw_iconst (v := (1 : Int32)) dX10_end_25 (by decide) ?_
    exact pw_ireturn dX10_end_26 rfl rfl ⟨_, rfl, h⟩
  · have h := h.2 hc
    refine pw_iconst (v := (0 : Int32)) dX10_end_18 (by decide) ?_
    exact pw_ireturn dX10_end_19 rfl rfl ⟨_, rfl, h⟩
def wp_X10_raw (a1 : Int32) (G : GS) (Q : Int32 → GS → Prop) : Prop := (((G 49 10) ≤ a1 → Q (-1 : Int32) G) ∧ (¬ (G 49 10) ≤ a1 → (vp_in a1 400 ∧ Q (G 54 a1.toNatClampNeg) G)))
set_option maxRecDepth 100000 in
set_option maxHeartbeats 4000000 in
theorem s_X10_raw {E : EV} (hE : EI_ E) {a1 : Int32} {G : GS} {Q : Int32 → GS → Prop} (h : wp_X10_raw a1 G Q) : PMet E mi_X10_raw 1 [.ref (ev_ad E 49), .int a1] G (qi_ Q) := by
  refine pm_of hE (by decide) (Nat.le_of_ble_eq_true rfl) ?_
  refine pw_loc (lv' := [(0, .ref (ev_ad E 49)), (1, .int a1)]) [0, 1] rfl ?_
  refine pw_iload_n dX10_raw_0 rfl 1 rfl ?_
  refine pw_aload_n dX10_raw_1 rfl 0 rfl ?_
  refine pw_geti (v := G 49 10) dX10_raw_2 fa_X10_122 ly_49 rfl rfl ?_
  refine pw_icmp_ge (tgt := 17) dX10_raw_5 (by decide) (fun hc => ?_) (fun hc => ?_)
  · have h := h.1 hc
    refine pw_iconst (v := (-1 : Int32)) dX10_raw_17 (by decide) ?_
    exact pw_ireturn dX10_raw_18 rfl rfl ⟨_, rfl, h⟩
  · have h := h.2 hc
    refine pw_aload_n dX10_raw_8 rfl 0 rfl ?_
    refine pw_getr (q := 54) dX10_raw_9 fa_X10_22 ly_49 rfl ?_
    refine pw_iload_n dX10_raw_12 rfl 1 rfl ?_
    obtain ⟨hv1, h⟩ := h
    refine pw_iald (v := G 54 a1.toNatClampNeg) dX10_raw_13 ly_54 hv1 rfl ?_
    refine pw_goto (tgt := 18) dX10_raw_14 (by decide) ?_
    exact pw_ireturn dX10_raw_18 rfl rfl ⟨_, rfl, h⟩
def wp_X10_isLetter (a1 : Int32) (G : GS) (Q : Int32 → GS → Prop) : Prop := wp_X10_isIn a1 (97 : Int32) (122 : Int32) G (fun r1 G2 => ((¬ r1 = 0 → Q (1 : Int32) G2) ∧ (r1 = 0 → wp_X10_isIn a1 (65 : Int32) (90 : Int32) G2 (fun r3 G4 => ((r3 = 0 → Q (0 : Int32) G4) ∧ (¬ r3 = 0 → Q (1 : Int32) G4))))))
set_option maxRecDepth 100000 in
set_option maxHeartbeats 4000000 in
theorem s_X10_isLetter {E : EV} (hE : EI_ E) {a1 : Int32} {G : GS} {Q : Int32 → GS → Prop} (h : wp_X10_isLetter a1 G Q) : PMet E mi_X10_isLetter 2 [.ref (ev_ad E 49), .int a1] G (qi_ Q) := by
  refine pm_of hE (by decide) (Nat.le_of_ble_eq_true rfl) ?_
  refine pw_loc (lv' := [(0, .ref (ev_ad E 49)), (1, .int a1)]) [0, 1] rfl ?_
  refine pw_aload_n dX10_isLetter_0 rfl 0 rfl ?_
  refine pw_iload_n dX10_isLetter_1 rfl 1 rfl ?_
  refine pw_bipush (v := (97 : Int32)) dX10_isLetter_2 (by decide) ?_
  refine pw_bipush (v := (122 : Int32)) dX10_isLetter_4 (by decide) ?_
  refine pw_callV (As := [.int a1, .int (97 : Int32), .int (122 : Int32)]) (rest := []) (s_X10_isIn hE h) dX10_isLetter_6 ly_49 rfl (Or.inl ml_X10_101) cm_X10_isIn rfl (rm_ok (by decide)) rm_0 (Nat.le_of_ble_eq_true rfl) ?_
  rintro _ G2 ⟨r1, rfl, h⟩
  refine pw_if_ne (tgt := 24) dX10_isLetter_9 (by decide) (fun hc => ?_) (fun hc => ?_)
  · have h := h.1 hc
    refine pw_iconst (v := (1 : Int32)) dX10_isLetter_24 (by decide) ?_
    refine pw_goto (tgt := 29) dX10_isLetter_25 (by decide) ?_
    exact pw_ireturn dX10_isLetter_29 rfl rfl ⟨_, rfl, h⟩
  · have h := h.2 hc
    refine pw_aload_n dX10_isLetter_12 rfl 0 rfl ?_
    refine pw_iload_n dX10_isLetter_13 rfl 1 rfl ?_
    refine pw_bipush (v := (65 : Int32)) dX10_isLetter_14 (by decide) ?_
    refine pw_bipush (v := (90 : Int32)) dX10_isLetter_16 (by decide) ?_
    refine pw_callV (As := [.int a1, .int (65 : Int32), .int (90 : Int32)]) (rest := []) (s_X10_isIn hE h) dX10_isLetter_18 ly_49 rfl (Or.inl ml_X10_101) cm_X10_isIn rfl (rm_ok (by decide)) rm_0 (Nat.le_of_ble_eq_true rfl) ?_
    rintro _ G4 ⟨r3, rfl, h⟩
    refine pw_if_eq (tgt := 28) dX10_isLetter_21 (by decide) (fun hc => ?_) (fun hc => ?_)
    · have h := h.1 hc
      refine pw_iconst (v := (0 : Int32)) dX10_isLetter_28 (by decide) ?_
      exact pw_ireturn dX10_isLetter_29 rfl rfl ⟨_, rfl, h⟩
    · have h := h.2 hc
      refine pw_iconst (v := (1 : Int32)) dX10_isLetter_24 (by decide) ?_
      refine pw_goto (tgt := 29) dX10_isLetter_25 (by decide) ?_
      exact pw_ireturn dX10_isLetter_29 rfl rfl ⟨_, rfl, h⟩
def wp_X10_isDigit (a1 : Int32) (G : GS) (Q : Int32 → GS → Prop) : Prop := wp_X10_isIn a1 (48 : Int32) (57 : Int32) G (fun r1 G2 => (bz_ r1 ∧ Q r1 G2))
set_option maxRecDepth 100000 in
set_option maxHeartbeats 4000000 in
theorem s_X10_isDigit {E : EV} (hE : EI_ E) {a1 : Int32} {G : GS} {Q : Int32 → GS → Prop} (h : wp_X10_isDigit a1 G Q) : PMet E mi_X10_isDigit 2 [.ref (ev_ad E 49), .int a1] G (qi_ Q) := by
  refine pm_of hE (by decide) (Nat.le_of_ble_eq_true rfl) ?_
  refine pw_loc (lv' := [(0, .ref (ev_ad E 49)), (1, .int a1)]) [0, 1] rfl ?_
  refine pw_aload_n dX10_isDigit_0 rfl 0 rfl ?_
  refine pw_iload_n dX10_isDigit_1 rfl 1 rfl ?_
  refine pw_bipush (v := (48 : Int32)) dX10_isDigit_2 (by decide) ?_
  refine pw_bipush (v := (57 : Int32)) dX10_isDigit_4 (by decide) ?_
  refine pw_callV (As := [.int a1, .int (48 : Int32), .int (57 : Int32)]) (rest := []) (s_X10_isIn hE h) dX10_isDigit_6 ly_49 rfl (Or.inl ml_X10_101) cm_X10_isIn rfl (rm_ok (by decide)) rm_0 (Nat.le_of_ble_eq_true rfl) ?_
  rintro _ G2 ⟨r1, rfl, h⟩
  exact pw_ireturn dX10_isDigit_9 rfl (bz_n h.1) ⟨_, rfl, h.2⟩
def wp_X10_isMarkSign (a1 : Int32) (G : GS) (Q : Int32 → GS → Prop) : Prop := ((a1 = (59 : Int32) → Q (1 : Int32) G) ∧ (¬ a1 = (59 : Int32) → ((a1 = (43 : Int32) → Q (1 : Int32) G) ∧ (¬ a1 = (43 : Int32) → ((a1 = (45 : Int32) → Q (1 : Int32) G) ∧ (¬ a1 = (45 : Int32) → ((a1 = (42 : Int32) → Q (1 : Int32) G) ∧ (¬ a1 = (42 : Int32) → ((a1 = (47 : Int32) → Q (1 : Int32) G) ∧ (¬ a1 = (47 : Int32) → ((a1 = (40 : Int32) → Q (1 : Int32) G) ∧ (¬ a1 = (40 : Int32) → ((a1 = (41 : Int32) → Q (1 : Int32) G) ∧ (¬ a1 = (41 : Int32) → ((a1 = (60 : Int32) → Q (1 : Int32) G) ∧ (¬ a1 = (60 : Int32) → ((a1 = (61 : Int32) → Q (1 : Int32) G) ∧ (¬ a1 = (61 : Int32) → ((¬ a1 = (62 : Int32) → Q (0 : Int32) G) ∧ (a1 = (62 : Int32) → Q (1 : Int32) G))))))))))))))))))))
set_option maxRecDepth 100000 in
set_option maxHeartbeats 4000000 in
theorem s_X10_isMarkSign {E : EV} (hE : EI_ E) {a1 : Int32} {G : GS} {Q : Int32 → GS → Prop} (h : wp_X10_isMarkSign a1 G Q) : PMet E mi_X10_isMarkSign 1 [.ref (ev_ad E 49), .int a1] G (qi_ Q) := by
  refine pm_of hE (by decide) (Nat.le_of_ble_eq_true rfl) ?_
  refine pw_loc (lv' := [(0, .ref (ev_ad E 49)), (1, .int a1)]) [0, 1] rfl ?_
  refine pw_iload_n dX10_isMarkSign_0 rfl 1 rfl ?_
  refine pw_bipush (v := (59 : Int32)) dX10_isMarkSign_1 (by decide) ?_
  refine pw_icmp_eq (tgt := 60) dX10_isMarkSign_3 (by decide) (fun hc => ?_) (fun hc => ?_)
  · have h := h.1 hc
    refine pw_iconst (v := (1 : Int32)) dX10_isMarkSign_60 (by decide) ?_
    refine pw_goto (tgt := 65) dX10_isMarkSign_61 (by decide) ?_
    exact pw_ireturn dX10_isMarkSign_65 rfl rfl ⟨_, rfl, h⟩
  · have h := h.2 hc
    refine pw_iload_n dX10_isMarkSign_6 rfl 1 rfl ?_
    refine pw_bipush (v := (43 : Int32)) dX10_isMarkSign_7 (by decide) ?_
    refine pw_icmp_eq (tgt := 60) dX10_isMarkSign_9 (by decide) (fun hc => ?_) (fun hc => ?_)
    · have h := h.1 hc
      refine pw_iconst (v := (1 : Int32)) dX10_isMarkSign_60 (by decide) ?_
      refine pw_goto (tgt := 65) dX10_isMarkSign_61 (by decide) ?_
      exact pw_ireturn dX10_isMarkSign_65 rfl rfl ⟨_, rfl, h⟩
    · have h := h.2 hc
      refine pw_iload_n dX10_isMarkSign_12 rfl 1 rfl ?_
      refine pw_bipush (v := (45 : Int32)) dX10_isMarkSign_13 (by decide) ?_
      refine pw_icmp_eq (tgt := 60) dX10_isMarkSign_15 (by decide) (fun hc => ?_) (fun hc => ?_)
      · have h := h.1 hc
        refine pw_iconst (v := (1 : Int32)) dX10_isMarkSign_60 (by decide) ?_
        refine pw_goto (tgt := 65) dX10_isMarkSign_61 (by decide) ?_
        exact pw_ireturn dX10_isMarkSign_65 rfl rfl ⟨_, rfl, h⟩
      · have h := h.2 hc
        refine pw_iload_n dX10_isMarkSign_18 rfl 1 rfl ?_
        refine pw_bipush (v := (42 : Int32)) dX10_isMarkSign_19 (by decide) ?_
        refine pw_icmp_eq (tgt := 60) dX10_isMarkSign_21 (by decide) (fun hc => ?_) (fun hc => ?_)
        · have h := h.1 hc
          refine pw_iconst (v := (1 : Int32)) dX10_isMarkSign_60 (by decide) ?_
          refine pw_goto (tgt := 65) dX10_isMarkSign_61 (by decide) ?_
          exact pw_ireturn dX10_isMarkSign_65 rfl rfl ⟨_, rfl, h⟩
        · have h := h.2 hc
          refine pw_iload_n dX10_isMarkSign_24 rfl 1 rfl ?_
          refine pw_bipush (v := (47 : Int32)) dX10_isMarkSign_25 (by decide) ?_
          refine pw_icmp_eq (tgt := 60) dX10_isMarkSign_27 (by decide) (fun hc => ?_) (fun hc => ?_)
          · have h := h.1 hc
            refine pw_iconst (v := (1 : Int32)) dX10_isMarkSign_60 (by decide) ?_
            refine pw_goto (tgt := 65) dX10_isMarkSign_61 (by decide) ?_
            exact pw_ireturn dX10_isMarkSign_65 rfl rfl ⟨_, rfl, h⟩
          · have h := h.2 hc
            refine pw_iload_n dX10_isMarkSign_30 rfl 1 rfl ?_
            refine pw_bipush (v := (40 : Int32)) dX10_isMarkSign_31 (by decide) ?_
            refine pw_icmp_eq (tgt := 60) dX10_isMarkSign_33 (by decide) (fun hc => ?_) (fun hc => ?_)
            · have h := h.1 hc
              refine pw_iconst (v := (1 : Int32)) dX10_isMarkSign_60 (by decide) ?_
              refine pw_goto (tgt := 65) dX10_isMarkSign_61 (by decide) ?_
              exact pw_ireturn dX10_isMarkSign_65 rfl rfl ⟨_, rfl, h⟩
            · have h := h.2 hc
              refine pw_iload_n dX10_isMarkSign_36 rfl 1 rfl ?_
              refine pw_bipush (v := (41 : Int32)) dX10_isMarkSign_37 (by decide) ?_
              refine pw_icmp_eq (tgt := 60) dX10_isMarkSign_39 (by decide) (fun hc => ?_) (fun hc => ?_)
              · have h := h.1 hc
                refine pw_iconst (v := (1 : Int32)) dX10_isMarkSign_60 (by decide) ?_
                refine pw_goto (tgt := 65) dX10_isMarkSign_61 (by decide) ?_
                exact pw_ireturn dX10_isMarkSign_65 rfl rfl ⟨_, rfl, h⟩
              · have h := h.2 hc
                refine pw_iload_n dX10_isMarkSign_42 rfl 1 rfl ?_
                refine pw_bipush (v := (60 : Int32)) dX10_isMarkSign_43 (by decide) ?_
                refine pw_icmp_eq (tgt := 60) dX10_isMarkSign_45 (by decide) (fun hc => ?_) (fun hc => ?_)
                · have h := h.1 hc
                  refine pw_iconst (v := (1 : Int32)) dX10_isMarkSign_60 (by decide) ?_
                  refine pw_goto (tgt := 65) dX10_isMarkSign_61 (by decide) ?_
                  exact pw_ireturn dX10_isMarkSign_65 rfl rfl ⟨_, rfl, h⟩
                · have h := h.2 hc
                  refine pw_iload_n dX10_isMarkSign_48 rfl 1 rfl ?_
                  refine pw_bipush (v := (61 : Int32)) dX10_isMarkSign_49 (by decide) ?_
                  refine pw_icmp_eq (tgt := 60) dX10_isMarkSign_51 (by decide) (fun hc => ?_) (fun hc => ?_)
                  · have h := h.1 hc
                    refine pw_iconst (v := (1 : Int32)) dX10_isMarkSign_60 (by decide) ?_
                    refine pw_goto (tgt := 65) dX10_isMarkSign_61 (by decide) ?_
                    exact pw_ireturn dX10_isMarkSign_65 rfl rfl ⟨_, rfl, h⟩
                  · have h := h.2 hc
                    refine pw_iload_n dX10_isMarkSign_54 rfl 1 rfl ?_
                    refine pw_bipush (v := (62 : Int32)) dX10_isMarkSign_55 (by decide) ?_
                    refine pw_icmp_ne (tgt := 64) dX10_isMarkSign_57 (by decide) (fun hc => ?_) (fun hc => ?_)
                    · have h := h.1 hc
                      refine pw_iconst (v := (0 : Int32)) dX10_isMarkSign_64 (by decide) ?_
                      exact pw_ireturn dX10_isMarkSign_65 rfl rfl ⟨_, rfl, h⟩
                    · have h := h.2 hc
                      refine pw_iconst (v := (1 : Int32)) dX10_isMarkSign_60 (by decide) ?_
                      refine pw_goto (tgt := 65) dX10_isMarkSign_61 (by decide) ?_
                      exact pw_ireturn dX10_isMarkSign_65 rfl rfl ⟨_, rfl, h⟩
def lp_X10_wordAt_93 (Q : Int32 → GS → Prop) (R5 : Int32 → Int32 → Int32 → Int32 → GS → Prop)  : Nat → Int32 → Int32 → Int32 → Int32 → GS → Prop
  | 0, _, _, _, _, _ => False
  | n + 1, x1, x2, x3, x4, G => (vp_in x4 71 ∧ (((G 55 x4.toNatClampNeg) = (32 : Int32) → R5 x1 x2 x3 x4 G) ∧ (¬ (G 55 x4.toNatClampNeg) = (32 : Int32) → lp_X10_wordAt_93 Q R5 n x1 x2 x3 (x4 + (1 : Int32)) G)))
set_option maxRecDepth 100000 in
set_option maxHeartbeats 4000000 in
theorem t_X10_wordAt_93 {E : EV} (hE : EI_ E) (Q : Int32 → GS → Prop) (R5 : Int32 → Int32 → Int32 → Int32 → GS → Prop) (hR5 : ∀ (x1 : Int32) (x2 : Int32) (x3 : Int32) (x4 : Int32) (G : GS), R5 x1 x2 x3 x4 G → PW_ E mi_X10_wordAt (rm_ 1) 0 0 5 [(0, .ref (ev_ad E 49)), (1, .int x1), (2, .int x2), (3, .int x3), (4, .int x4)] [] G (qi_ Q))  : ∀ (n : Nat) (x1 : Int32) (x2 : Int32) (x3 : Int32) (x4 : Int32) (G : GS), lp_X10_wordAt_93 Q R5 n x1 x2 x3 x4 G → PW_ E mi_X10_wordAt (rm_ 1) 0 0 93 [(0, .ref (ev_ad E 49)), (1, .int x1), (2, .int x2), (3, .int x3), (4, .int x4)] [] G (qi_ Q) := by
  intro n
  induction n with
  | zero => intro x1 x2 x3 x4 G h; exact h.elim
  | succ n ih =>
    intro x1 x2 x3 x4 G h
    refine pw_aload_n dX10_wordAt_93 rfl 0 rfl ?_
    refine pw_getr (q := 55) dX10_wordAt_94 fa_X10_25 ly_49 rfl ?_
    refine pw_iload dX10_wordAt_97 4 rfl ?_
    obtain ⟨hv4, h⟩ := h
    refine pw_iald (v := G 55 x4.toNatClampNeg) dX10_wordAt_99 ly_55 hv4 rfl ?_
    refine pw_bipush (v := (32 : Int32)) dX10_wordAt_100 (by decide) ?_
    refine pw_icmp_eq (tgt := 114) dX10_wordAt_102 (by decide) (fun hc => ?_) (fun hc => ?_)
    · have h := h.1 hc
      refine pw_goto (tgt := 5) dX10_wordAt_114 (by decide) ?_
      refine pw_loc (lv' := [(0, .ref (ev_ad E 49)), (1, .int x1), (2, .int x2), (3, .int x3), (4, .int x4)]) [0, 1, 2, 3, 4] rfl ?_
      exact hR5 _ _ _ _ _ h
    · have h := h.2 hc
      refine pw_iload dX10_wordAt_105 4 rfl ?_
      refine pw_iconst (v := (1 : Int32)) dX10_wordAt_107 (by decide) ?_
      refine pw_iadd dX10_wordAt_108 ?_
      refine pw_istore (lv' := [(4, .int (x4 + (1 : Int32))), (0, .ref (ev_ad E 49)), (1, .int x1), (2, .int x2), (3, .int x3)]) dX10_wordAt_109 (by decide) rfl ?_
      refine pw_goto (tgt := 93) dX10_wordAt_111 (by decide) ?_
      refine pw_loc (lv' := [(0, .ref (ev_ad E 49)), (1, .int x1), (2, .int x2), (3, .int x3), (4, .int (x4 + (1 : Int32)))]) [1, 2, 3, 4, 0] rfl ?_
      exact ih _ _ _ _ _ h
def bk_X10_wordAt_60 (Q : Int32 → GS → Prop) (R5 : Int32 → Int32 → Int32 → Int32 → GS → Prop)  (x1 : Int32) (x2 : Int32) (x3 : Int32) (x4 : Int32) (x5 : Int32) (G : GS) : Prop := ((¬ (x1 + x5) = x2 → (∃ kf, lp_X10_wordAt_93 Q R5 kf x1 x2 x3 (x4 + (1 : Int32)) G)) ∧ ((x1 + x5) = x2 → (vp_in ((x4 + (1 : Int32)) + x5) 71 ∧ ((¬ (G 55 (((x4 + (1 : Int32)) + x5).toNatClampNeg)) = (32 : Int32) → (∃ kf, lp_X10_wordAt_93 Q R5 kf x1 x2 x3 (x4 + (1 : Int32)) G)) ∧ ((G 55 (((x4 + (1 : Int32)) + x5).toNatClampNeg)) = (32 : Int32) → Q x3 G)))))
set_option maxRecDepth 100000 in
set_option maxHeartbeats 4000000 in
theorem t_X10_wordAt_60 {E : EV} (hE : EI_ E) (Q : Int32 → GS → Prop) (R5 : Int32 → Int32 → Int32 → Int32 → GS → Prop) (hR5 : ∀ (x1 : Int32) (x2 : Int32) (x3 : Int32) (x4 : Int32) (G : GS), R5 x1 x2 x3 x4 G → PW_ E mi_X10_wordAt (rm_ 1) 0 0 5 [(0, .ref (ev_ad E 49)), (1, .int x1), (2, .int x2), (3, .int x3), (4, .int x4)] [] G (qi_ Q))  {x1 : Int32} {x2 : Int32} {x3 : Int32} {x4 : Int32} {x5 : Int32} {G : GS} (h : bk_X10_wordAt_60 Q R5 x1 x2 x3 x4 x5 G) : PW_ E mi_X10_wordAt (rm_ 1) 0 0 60 [(0, .ref (ev_ad E 49)), (1, .int x1), (2, .int x2), (3, .int x3), (4, .int x4), (5, .int x5)] [] G (qi_ Q) := by
  refine pw_iload_n dX10_wordAt_60 rfl 1 rfl ?_
  refine pw_iload dX10_wordAt_61 5 rfl ?_
  refine pw_iadd dX10_wordAt_63 ?_
  refine pw_iload_n dX10_wordAt_64 rfl 2 rfl ?_
  refine pw_icmp_ne (tgt := 87) dX10_wordAt_65 (by decide) (fun hc => ?_) (fun hc => ?_)
  · have h := h.1 hc
    refine pw_iload dX10_wordAt_87 4 rfl ?_
    refine pw_iconst (v := (1 : Int32)) dX10_wordAt_89 (by decide) ?_
    refine pw_iadd dX10_wordAt_90 ?_
    refine pw_istore (lv' := [(4, .int (x4 + (1 : Int32))), (0, .ref (ev_ad E 49)), (1, .int x1), (2, .int x2), (3, .int x3), (5, .int x5)]) dX10_wordAt_91 (by decide) rfl ?_
    refine pw_loc (lv' := [(0, .ref (ev_ad E 49)), (1, .int x1), (2, .int x2), (3, .int x3), (4, .int (x4 + (1 : Int32)))]) [1, 2, 3, 4, 0] rfl ?_
    obtain ⟨kf, h⟩ := h
    exact t_X10_wordAt_93 hE Q R5 hR5 kf _ _ _ _ _ h
  · have h := h.2 hc
    refine pw_aload_n dX10_wordAt_68 rfl 0 rfl ?_
    refine pw_getr (q := 55) dX10_wordAt_69 fa_X10_25 ly_49 rfl ?_
    refine pw_iload dX10_wordAt_72 4 rfl ?_
    refine pw_iconst (v := (1 : Int32)) dX10_wordAt_74 (by decide) ?_
    refine pw_iadd dX10_wordAt_75 ?_
    refine pw_iload dX10_wordAt_76 5 rfl ?_
    refine pw_iadd dX10_wordAt_78 ?_
    obtain ⟨hv3, h⟩ := h
    refine pw_iald (v := G 55 (((x4 + (1 : Int32)) + x5).toNatClampNeg)) dX10_wordAt_79 ly_55 hv3 rfl ?_
    refine pw_bipush (v := (32 : Int32)) dX10_wordAt_80 (by decide) ?_
    refine pw_icmp_ne (tgt := 87) dX10_wordAt_82 (by decide) (fun hc => ?_) (fun hc => ?_)
    · have h := h.1 hc
      refine pw_iload dX10_wordAt_87 4 rfl ?_
      refine pw_iconst (v := (1 : Int32)) dX10_wordAt_89 (by decide) ?_
      refine pw_iadd dX10_wordAt_90 ?_
      refine pw_istore (lv' := [(4, .int (x4 + (1 : Int32))), (0, .ref (ev_ad E 49)), (1, .int x1), (2, .int x2), (3, .int x3), (5, .int x5)]) dX10_wordAt_91 (by decide) rfl ?_
      refine pw_loc (lv' := [(0, .ref (ev_ad E 49)), (1, .int x1), (2, .int x2), (3, .int x3), (4, .int (x4 + (1 : Int32)))]) [1, 2, 3, 4, 0] rfl ?_
      obtain ⟨kf, h⟩ := h
      exact t_X10_wordAt_93 hE Q R5 hR5 kf _ _ _ _ _ h
    · have h := h.2 hc
      refine pw_iload_n dX10_wordAt_85 rfl 3 rfl ?_
      exact pw_ireturn dX10_wordAt_86 rfl rfl ⟨_, rfl, h⟩
def lp_X10_wordAt_19 (Q : Int32 → GS → Prop) (R5 : Int32 → Int32 → Int32 → Int32 → GS → Prop)  : Nat → Int32 → Int32 → Int32 → Int32 → Int32 → GS → Prop
  | 0, _, _, _, _, _, _ => False
  | n + 1, x1, x2, x3, x4, x5, G => ((x2 ≤ (x1 + x5) → bk_X10_wordAt_60 Q R5 x1 x2 x3 x4 x5 G) ∧ (¬ x2 ≤ (x1 + x5) → (vp_in ((x4 + (1 : Int32)) + x5) 71 ∧ (vp_in (x1 + x5) 400 ∧ ((¬ (G 55 (((x4 + (1 : Int32)) + x5).toNatClampNeg)) = (G 54 ((x1 + x5).toNatClampNeg)) → bk_X10_wordAt_60 Q R5 x1 x2 x3 x4 x5 G) ∧ ((G 55 (((x4 + (1 : Int32)) + x5).toNatClampNeg)) = (G 54 ((x1 + x5).toNatClampNeg)) → lp_X10_wordAt_19 Q R5 n x1 x2 x3 x4 (x5 + (1 : Int32)) G))))))
set_option maxRecDepth 100000 in
set_option maxHeartbeats 4000000 in
theorem t_X10_wordAt_19 {E : EV} (hE : EI_ E) (Q : Int32 → GS → Prop) (R5 : Int32 → Int32 → Int32 → Int32 → GS → Prop) (hR5 : ∀ (x1 : Int32) (x2 : Int32) (x3 : Int32) (x4 : Int32) (G : GS), R5 x1 x2 x3 x4 G → PW_ E mi_X10_wordAt (rm_ 1) 0 0 5 [(0, .ref (ev_ad E 49)), (1, .int x1), (2, .int x2), (3, .int x3), (4, .int x4)] [] G (qi_ Q))  : ∀ (n : Nat) (x1 : Int32) (x2 : Int32) (x3 : Int32) (x4 : Int32) (x5 : Int32) (G : GS), lp_X10_wordAt_19 Q R5 n x1 x2 x3 x4 x5 G → PW_ E mi_X10_wordAt (rm_ 1) 0 0 19 [(0, .ref (ev_ad E 49)), (1, .int x1), (2, .int x2), (3, .int x3), (4, .int x4), (5, .int x5)] [] G (qi_ Q) := by
  intro n
  induction n with
  | zero => intro x1 x2 x3 x4 x5 G h; exact h.elim
  | succ n ih =>
    intro x1 x2 x3 x4 x5 G h
    refine pw_iload_n dX10_wordAt_19 rfl 1 rfl ?_
    refine pw_iload dX10_wordAt_20 5 rfl ?_
    refine pw_iadd dX10_wordAt_22 ?_
    refine pw_iload_n dX10_wordAt_23 rfl 2 rfl ?_
    refine pw_icmp_ge (tgt := 60) dX10_wordAt_24 (by decide) (fun hc => ?_) (fun hc => ?_)
    · have h := h.1 hc
      refine pw_loc (lv' := [(0, .ref (ev_ad E 49)), (1, .int x1), (2, .int x2), (3, .int x3), (4, .int x4), (5, .int x5)]) [0, 1, 2, 3, 4, 5] rfl ?_
      exact t_X10_wordAt_60 hE Q R5 hR5 h
    · have h := h.2 hc
      refine pw_aload_n dX10_wordAt_27 rfl 0 rfl ?_
      refine pw_getr (q := 55) dX10_wordAt_28 fa_X10_25 ly_49 rfl ?_
      refine pw_iload dX10_wordAt_31 4 rfl ?_
      refine pw_iconst (v := (1 : Int32)) dX10_wordAt_33 (by decide) ?_
      refine pw_iadd dX10_wordAt_34 ?_
      refine pw_iload dX10_wordAt_35 5 rfl ?_
      refine pw_iadd dX10_wordAt_37 ?_
      obtain ⟨hv1, h⟩ := h
      refine pw_iald (v := G 55 (((x4 + (1 : Int32)) + x5).toNatClampNeg)) dX10_wordAt_38 ly_55 hv1 rfl ?_
      refine pw_aload_n dX10_wordAt_39 rfl 0 rfl ?_
      refine pw_getr (q := 54) dX10_wordAt_40 fa_X10_22 ly_49 rfl ?_
      refine pw_iload_n dX10_wordAt_43 rfl 1 rfl ?_
      refine pw_iload dX10_wordAt_44 5 rfl ?_
      refine pw_iadd dX10_wordAt_46 ?_
      obtain ⟨hv2, h⟩ := h
      refine pw_iald (v := G 54 ((x1 + x5).toNatClampNeg)) dX10_wordAt_47 ly_54 hv2 rfl ?_
      refine pw_icmp_ne (tgt := 60) dX10_wordAt_48 (by decide) (fun hc => ?_) (fun hc => ?_)
      · have h := h.1 hc
        refine pw_loc (lv' := [(0, .ref (ev_ad E 49)), (1, .int x1), (2, .int x2), (3, .int x3), (4, .int x4), (5, .int x5)]) [0, 1, 2, 3, 4, 5] rfl ?_
        exact t_X10_wordAt_60 hE Q R5 hR5 h
      · have h := h.2 hc
        refine pw_iload dX10_wordAt_51 5 rfl ?_
        refine pw_iconst (v := (1 : Int32)) dX10_wordAt_53 (by decide) ?_
        refine pw_iadd dX10_wordAt_54 ?_
        refine pw_istore (lv' := [(5, .int (x5 + (1 : Int32))), (0, .ref (ev_ad E 49)), (1, .int x1), (2, .int x2), (3, .int x3), (4, .int x4)]) dX10_wordAt_55 (by decide) rfl ?_
        refine pw_goto (tgt := 19) dX10_wordAt_57 (by decide) ?_
        refine pw_loc (lv' := [(0, .ref (ev_ad E 49)), (1, .int x1), (2, .int x2), (3, .int x3), (4, .int x4), (5, .int (x5 + (1 : Int32)))]) [1, 2, 3, 4, 5, 0] rfl ?_
        exact ih _ _ _ _ _ _ h
def lp_X10_wordAt_5 (Q : Int32 → GS → Prop)  : Nat → Int32 → Int32 → Int32 → Int32 → GS → Prop
  | 0, _, _, _, _, _ => False
  | n + 1, x1, x2, x3, x4, G => (((70 : Int32) ≤ x4 → Q (-1 : Int32) G) ∧ (¬ (70 : Int32) ≤ x4 → (∃ kf, lp_X10_wordAt_19 Q (fun y1 y2 y3 y4 G => lp_X10_wordAt_5 Q n y1 y2 y3 y4 G) kf x1 x2 (x3 + (1 : Int32)) x4 (0 : Int32) G)))
set_option maxRecDepth 100000 in
set_option maxHeartbeats 4000000 in
theorem t_X10_wordAt_5 {E : EV} (hE : EI_ E) (Q : Int32 → GS → Prop)  : ∀ (n : Nat) (x1 : Int32) (x2 : Int32) (x3 : Int32) (x4 : Int32) (G : GS), lp_X10_wordAt_5 Q n x1 x2 x3 x4 G → PW_ E mi_X10_wordAt (rm_ 1) 0 0 5 [(0, .ref (ev_ad E 49)), (1, .int x1), (2, .int x2), (3, .int x3), (4, .int x4)] [] G (qi_ Q) := by
  intro n
  induction n with
  | zero => intro x1 x2 x3 x4 G h; exact h.elim
  | succ n ih =>
    intro x1 x2 x3 x4 G h
    refine pw_iload dX10_wordAt_5 4 rfl ?_
    refine pw_bipush (v := (70 : Int32)) dX10_wordAt_7 (by decide) ?_
    refine pw_icmp_ge (tgt := 117) dX10_wordAt_9 (by decide) (fun hc => ?_) (fun hc => ?_)
    · have h := h.1 hc
      refine pw_iconst (v := (-1 : Int32)) dX10_wordAt_117 (by decide) ?_
      exact pw_ireturn dX10_wordAt_118 rfl rfl ⟨_, rfl, h⟩
    · have h := h.2 hc
      refine pw_iconst (v := (0 : Int32)) dX10_wordAt_12 (by decide) ?_
      refine pw_istore (lv' := [(5, .int (0 : Int32)), (0, .ref (ev_ad E 49)), (1, .int x1), (2, .int x2), (3, .int x3), (4, .int x4)]) dX10_wordAt_13 (by decide) rfl ?_
      refine pw_iload_n dX10_wordAt_15 rfl 4 rfl ?_
      refine pw_iconst (v := (1 : Int32)) dX10_wordAt_16 (by decide) ?_
      refine pw_iadd dX10_wordAt_17 ?_
      refine pw_istore_n (lv' := [(3, .int (x3 + (1 : Int32))), (5, .int (0 : Int32)), (0, .ref (ev_ad E 49)), (1, .int x1), (2, .int x2), (4, .int x4)]) dX10_wordAt_18 rfl (by decide) rfl ?_
      refine pw_loc (lv' := [(0, .ref (ev_ad E 49)), (1, .int x1), (2, .int x2), (3, .int (x3 + (1 : Int32))), (4, .int x4), (5, .int (0 : Int32))]) [2, 3, 4, 0, 5, 1] rfl ?_
      obtain ⟨kf, h⟩ := h
      exact t_X10_wordAt_19 hE Q (fun y1 y2 y3 y4 G => lp_X10_wordAt_5 Q n y1 y2 y3 y4 G) ih kf _ _ _ _ _ _ h
def wp_X10_wordAt (a1 : Int32) (a2 : Int32) (G : GS) (Q : Int32 → GS → Prop) : Prop := (∃ kf, lp_X10_wordAt_5 Q kf a1 a2 (-1 : Int32) (0 : Int32) G)
set_option maxRecDepth 100000 in
set_option maxHeartbeats 4000000 in
theorem s_X10_wordAt {E : EV} (hE : EI_ E) {a1 : Int32} {a2 : Int32} {G : GS} {Q : Int32 → GS → Prop} (h : wp_X10_wordAt a1 a2 G Q) : PMet E mi_X10_wordAt 1 [.ref (ev_ad E 49), .int a1, .int a2] G (qi_ Q) := by
  refine pm_of hE (by decide) (Nat.le_of_ble_eq_true rfl) ?_
  refine pw_loc (lv' := [(0, .ref (ev_ad E 49)), (1, .int a1), (2, .int a2)]) [0, 1, 2] rfl ?_
  refine pw_iconst (v := (-1 : Int32)) dX10_wordAt_0 (by decide) ?_
  refine pw_istore_n (lv' := [(3, .int (-1 : Int32)), (0, .ref (ev_ad E 49)), (1, .int a1), (2, .int a2)]) dX10_wordAt_1 rfl (by decide) rfl ?_
  refine pw_iconst (v := (0 : Int32)) dX10_wordAt_2 (by decide) ?_
  refine pw_istore (lv' := [(4, .int (0 : Int32)), (3, .int (-1 : Int32)), (0, .ref (ev_ad E 49)), (1, .int a1), (2, .int a2)]) dX10_wordAt_3 (by decide) rfl ?_
  refine pw_loc (lv' := [(0, .ref (ev_ad E 49)), (1, .int a1), (2, .int a2), (3, .int (-1 : Int32)), (4, .int (0 : Int32))]) [2, 3, 4, 1, 0] rfl ?_
  obtain ⟨kf, h⟩ := h
  exact t_X10_wordAt_5 hE Q kf _ _ _ _ _ h
