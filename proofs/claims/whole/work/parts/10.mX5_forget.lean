def wp_X5_forget  (G : GS) (Q : Int32 → GS → Prop) : Prop := Q 0 (gu_ G 27 1 (0 : Int32))
set_option maxRecDepth 100000 in
set_option maxHeartbeats 4000000 in
theorem s_X5_forget {E : EV} (hE : EI_ E)  {G : GS} {Q : Int32 → GS → Prop} (h : wp_X5_forget  G Q) : PMet E mi_X5_forget 1 [.ref (ev_ad E 27)] G (qv_ Q) := by
  refine pm_of hE (by decide) (Nat.le_of_ble_eq_true rfl) ?_
  refine pw_loc (lv' := [(0, .ref (ev_ad E 27))]) [0] rfl ?_
  refine pw_aload_n dX5_forget_0 rfl 0 rfl ?_
  refine pw_iconst (v := (0 : Int32)) dX5_forget_1 (by decide) ?_
  refine pw_puti dX5_forget_2 fp_X5_24 ly_27 rfl ?_
  exact pw_return dX5_forget_5 rfl ⟨rfl, h⟩
def wp_X9_state (a1 : Int32) (G : GS) (Q : Int32 → GS → Prop) : Prop := wp_X5_forget (gu_ G 1 0 a1) (fun _ G2 => Q (G 1 0) G2)
set_option maxRecDepth 100000 in
set_option maxHeartbeats 4000000 in
theorem s_X9_state {E : EV} (hE : EI_ E) {a1 : Int32} {G : GS} {Q : Int32 → GS → Prop} (h : wp_X9_state a1 G Q) : PMet E mi_X9_state 2 [.ref (ev_ad E 0), .int a1] G (qi_ Q) := by
  refine pm_of hE (by decide) (Nat.le_of_ble_eq_true rfl) ?_
  refine pw_loc (lv' := [(0, .ref (ev_ad E 0)), (1, .int a1)]) [0, 1] rfl ?_
  refine pw_aload_n dX9_state_0 rfl 0 rfl ?_
  refine pw_getr (q := 1) dX9_state_1 fa_X9_10 ly_0 rfl ?_
  refine pw_geti (v := G 1 0) dX9_state_4 fa_X9_75 ly_1 rfl rfl ?_
  refine pw_istore_n (lv' := [(2, .int (G 1 0)), (0, .ref (ev_ad E 0)), (1, .int a1)]) dX9_state_7 rfl (by decide) rfl ?_
  refine pw_aload_n dX9_state_8 rfl 1 rfl ?_
  refine pw_getr (q := 1) dX9_state_9 fa_X9_10 ly_0 rfl ?_
  refine pw_iload_n dX9_state_12 rfl 2 rfl ?_
  refine pw_puti dX9_state_13 fp_X9_75 ly_1 rfl ?_
  refine pw_aload_n dX9_state_16 rfl 1 rfl ?_
  refine pw_getr (q := 27) dX9_state_17 fa_X9_26 ly_0 rfl ?_
  refine pw_callV (As := []) (rest := []) (s_X5_forget hE h) dX9_state_20 ly_27 rfl (Or.inr mn_X9_78) cm_X5_forget rfl (rm_ok (by decide)) rm_0 (Nat.le_of_ble_eq_true rfl) ?_
  rintro _ G2 ⟨rfl, h⟩
  refine pw_iload_n dX9_state_23 rfl 0 rfl ?_
  exact pw_ireturn dX9_state_24 rfl rfl ⟨_, rfl, h⟩
def wp_X9_isToneOrNone (a0 : Int32) (G : GS) (Q : Int32 → GS → Prop) : Prop := ((a0 < (-1 : Int32) → Q (0 : Int32) G) ∧ (¬ a0 < (-1 : Int32) → (((60 : Int32) < a0 → Q (0 : Int32) G) ∧ (¬ (60 : Int32) < a0 → Q (1 : Int32) G))))
set_option maxRecDepth 100000 in
set_option maxHeartbeats 4000000 in
theorem s_X9_isToneOrNone {E : EV} (hE : EI_ E) {a0 : Int32} {G : GS} {Q : Int32 → GS → Prop} (h : wp_X9_isToneOrNone a0 G Q) : PMet E mi_X9_isToneOrNone 1 [.int a0] G (qi_ Q) := by
  refine pm_of hE (by decide) (Nat.le_of_ble_eq_true rfl) ?_
  refine pw_loc (lv' := [(0, .int a0)]) [0] rfl ?_
  refine pw_iload_n dX9_isToneOrNone_0 rfl 0 rfl ?_
  refine pw_iconst (v := (-1 : Int32)) dX9_isToneOrNone_1 (by decide) ?_
  refine pw_icmp_lt (tgt := 15) dX9_isToneOrNone_2 (by decide) (fun hc => ?_) (fun hc => ?_)
  · have h := h.1 hc
    refine pw_iconst (v := (0 : Int32)) dX9_isToneOrNone_15 (by decide) ?_
    exact pw_ireturn dX9_isToneOrNone_16 rfl rfl ⟨_, rfl, h⟩
  · have h := h.2 hc
    refine pw_iload_n dX9_isToneOrNone_5 rfl 0 rfl ?_
    refine pw_bipush (v := (60 : Int32)) dX9_isToneOrNone_6 (by decide) ?_
    refine pw_icmp_gt (tgt := 15) dX9_isToneOrNone_8 (by decide) (fun hc => ?_) (fun hc => ?_)
    · have h := h.1 hc
      refine pw_iconst (v := (0 : Int32)) dX9_isToneOrNone_15 (by decide) ?_
      exact pw_ireturn dX9_isToneOrNone_16 rfl rfl ⟨_, rfl, h⟩
    · have h := h.2 hc
      refine pw_iconst (v := (1 : Int32)) dX9_isToneOrNone_11 (by decide) ?_
      refine pw_goto (tgt := 16) dX9_isToneOrNone_12 (by decide) ?_
      exact pw_ireturn dX9_isToneOrNone_16 rfl rfl ⟨_, rfl, h⟩
def wp_X9_person (a1 : Int32) (G : GS) (Q : Int32 → GS → Prop) : Prop := wp_X9_isToneOrNone a1 G (fun r1 G2 => ((r1 = 0 → Q (-1 : Int32) G2) ∧ (¬ r1 = 0 → (((G2 1 1) < (10 : Int32) → (vp_in (G2 1 1) 10 ∧ wp_X5_forget (gu_ (gu_ G2 2 ((G2 1 1).toNatClampNeg) a1) 1 1 ((G2 1 1) + (1 : Int32))) (fun _ G5 => Q (G2 1 1) G5))) ∧ (¬ (G2 1 1) < (10 : Int32) → Q (-1 : Int32) G2)))))
set_option maxRecDepth 100000 in
set_option maxHeartbeats 4000000 in
theorem s_X9_person {E : EV} (hE : EI_ E) {a1 : Int32} {G : GS} {Q : Int32 → GS → Prop} (h : wp_X9_person a1 G Q) : PMet E mi_X9_person 2 [.ref (ev_ad E 0), .int a1] G (qi_ Q) := by
  refine pm_of hE (by decide) (Nat.le_of_ble_eq_true rfl) ?_
  refine pw_loc (lv' := [(0, .ref (ev_ad E 0)), (1, .int a1)]) [0, 1] rfl ?_
  refine pw_iload_n dX9_person_0 rfl 1 rfl ?_
  refine pw_callS (As := [.int a1]) (rest := []) (s_X9_isToneOrNone hE h) dX9_person_1 ml_X9_81 cs_X9_isToneOrNone rfl (rm_ok (by decide)) rm_0 (Nat.le_of_ble_eq_true rfl) ?_
  rintro _ G2 ⟨r1, rfl, h⟩
  refine pw_if_eq (tgt := 19) dX9_person_4 (by decide) (fun hc => ?_) (fun hc => ?_)
  · have h := h.1 hc
    refine pw_iconst (v := (-1 : Int32)) dX9_person_19 (by decide) ?_
    exact pw_ireturn dX9_person_20 rfl rfl ⟨_, rfl, h⟩
  · have h := h.2 hc
    refine pw_aload_n dX9_person_7 rfl 0 rfl ?_
    refine pw_getr (q := 1) dX9_person_8 fa_X9_10 ly_0 rfl ?_
    refine pw_geti (v := G2 1 1) dX9_person_11 fa_X9_85 ly_1 rfl rfl ?_
    refine pw_bipush (v := (10 : Int32)) dX9_person_14 (by decide) ?_
    refine pw_icmp_lt (tgt := 21) dX9_person_16 (by decide) (fun hc => ?_) (fun hc => ?_)
    · have h := h.1 hc
      refine pw_aload_n dX9_person_21 rfl 0 rfl ?_
      refine pw_getr (q := 1) dX9_person_22 fa_X9_10 ly_0 rfl ?_
      refine pw_geti (v := G2 1 1) dX9_person_25 fa_X9_85 ly_1 rfl rfl ?_
      refine pw_istore_n (lv' := [(2, .int (G2 1 1)), (0, .ref (ev_ad E 0)), (1, .int a1)]) dX9_person_28 rfl (by decide) rfl ?_
      refine pw_aload_n dX9_person_29 rfl 1 rfl ?_
      refine pw_getr (q := 1) dX9_person_30 fa_X9_10 ly_0 rfl ?_
      refine pw_getr (q := 2) dX9_person_33 fa_X9_88 ly_1 rfl ?_
      refine pw_iload_n dX9_person_36 rfl 0 rfl ?_
      refine pw_iload_n dX9_person_37 rfl 2 rfl ?_
      obtain ⟨hv3, h⟩ := h
      refine pw_iast (z := ((G2 1 1).toNatClampNeg)) dX9_person_38 ly_2 hv3 rfl ?_
      refine pw_aload_n dX9_person_39 rfl 1 rfl ?_
      refine pw_getr (q := 1) dX9_person_40 fa_X9_10 ly_0 rfl ?_
      refine pw_iload_n dX9_person_43 rfl 0 rfl ?_
      refine pw_iconst (v := (1 : Int32)) dX9_person_44 (by decide) ?_
      refine pw_iadd dX9_person_45 ?_
      refine pw_puti dX9_person_46 fp_X9_85 ly_1 rfl ?_
      refine pw_aload_n dX9_person_49 rfl 1 rfl ?_
      refine pw_getr (q := 27) dX9_person_50 fa_X9_26 ly_0 rfl ?_
      refine pw_callV (As := []) (rest := []) (s_X5_forget hE h) dX9_person_53 ly_27 rfl (Or.inr mn_X9_78) cm_X5_forget rfl (rm_ok (by decide)) rm_0 (Nat.le_of_ble_eq_true rfl) ?_
      rintro _ G5 ⟨rfl, h⟩
      refine pw_iload_n dX9_person_56 rfl 0 rfl ?_
      exact pw_ireturn dX9_person_57 rfl rfl ⟨_, rfl, h⟩
    · have h := h.2 hc
      refine pw_iconst (v := (-1 : Int32)) dX9_person_19 (by decide) ?_
      exact pw_ireturn dX9_person_20 rfl rfl ⟨_, rfl, h⟩
def wp_X8_isPerson (a1 : Int32) (G : GS) (Q : Int32 → GS → Prop) : Prop := ((a1 < 0 → Q (0 : Int32) G) ∧ (¬ a1 < 0 → (((G 1 1) ≤ a1 → Q (0 : Int32) G) ∧ (¬ (G 1 1) ≤ a1 → (((10 : Int32) ≤ a1 → Q (0 : Int32) G) ∧ (¬ (10 : Int32) ≤ a1 → Q (1 : Int32) G))))))
set_option maxRecDepth 100000 in
set_option maxHeartbeats 4000000 in
theorem s_X8_isPerson {E : EV} (hE : EI_ E) {a1 : Int32} {G : GS} {Q : Int32 → GS → Prop} (h : wp_X8_isPerson a1 G Q) : PMet E mi_X8_isPerson 1 [.ref (ev_ad E 1), .int a1] G (qi_ Q) := by
  refine pm_of hE (by decide) (Nat.le_of_ble_eq_true rfl) ?_
  refine pw_loc (lv' := [(0, .ref (ev_ad E 1)), (1, .int a1)]) [0, 1] rfl ?_
  refine pw_iload_n dX8_isPerson_0 rfl 1 rfl ?_
  refine pw_if_lt (tgt := 22) dX8_isPerson_1 (by decide) (fun hc => ?_) (fun hc => ?_)
  · have h := h.1 hc
    refine pw_iconst (v := (0 : Int32)) dX8_isPerson_22 (by decide) ?_
    exact pw_ireturn dX8_isPerson_23 rfl rfl ⟨_, rfl, h⟩
  · have h := h.2 hc
    refine pw_iload_n dX8_isPerson_4 rfl 1 rfl ?_
    refine pw_aload_n dX8_isPerson_5 rfl 0 rfl ?_
    refine pw_geti (v := G 1 1) dX8_isPerson_6 fa_X8_57 ly_1 rfl rfl ?_
    refine pw_icmp_ge (tgt := 22) dX8_isPerson_9 (by decide) (fun hc => ?_) (fun hc => ?_)
    · have h := h.1 hc
      refine pw_iconst (v := (0 : Int32)) dX8_isPerson_22 (by decide) ?_
      exact pw_ireturn dX8_isPerson_23 rfl rfl ⟨_, rfl, h⟩
    · have h := h.2 hc
      refine pw_iload_n dX8_isPerson_12 rfl 1 rfl ?_
      refine pw_bipush (v := (10 : Int32)) dX8_isPerson_13 (by decide) ?_
      refine pw_icmp_ge (tgt := 22) dX8_isPerson_15 (by decide) (fun hc => ?_) (fun hc => ?_)
      · have h := h.1 hc
        refine pw_iconst (v := (0 : Int32)) dX8_isPerson_22 (by decide) ?_
        exact pw_ireturn dX8_isPerson_23 rfl rfl ⟨_, rfl, h⟩
      · have h := h.2 hc
        refine pw_iconst (v := (1 : Int32)) dX8_isPerson_18 (by decide) ?_
        refine pw_goto (tgt := 23) dX8_isPerson_19 (by decide) ?_
        exact pw_ireturn dX8_isPerson_23 rfl rfl ⟨_, rfl, h⟩
def wp_X9_tellHum (a1 : Int32) (a2 : Int32) (G : GS) (Q : Int32 → GS → Prop) : Prop := wp_X9_isToneOrNone a2 G (fun r1 G2 => ((¬ r1 = 0 → (vp_in a1 10 ∧ ((¬ a2 = (-1 : Int32) → Q (1 : Int32) (gu_ G2 2 a1.toNatClampNeg a2)) ∧ (a2 = (-1 : Int32) → Q (1 : Int32) (gu_ (gu_ G2 2 a1.toNatClampNeg a2) 1 4 ((G2 1 4) &&& (((1 : Int32) <<< (a1 &&& 31)) ^^^ (-1 : Int32)))))))) ∧ (r1 = 0 → Q (0 : Int32) G2)))
set_option maxRecDepth 100000 in
set_option maxHeartbeats 4000000 in
theorem s_X9_tellHum {E : EV} (hE : EI_ E) {a1 : Int32} {a2 : Int32} {G : GS} {Q : Int32 → GS → Prop} (h : wp_X9_tellHum a1 a2 G Q) : PMet E mi_X9_tellHum 2 [.ref (ev_ad E 0), .int a1, .int a2] G (qi_ Q) := by
  refine pm_of hE (by decide) (Nat.le_of_ble_eq_true rfl) ?_
  refine pw_loc (lv' := [(0, .ref (ev_ad E 0)), (1, .int a1), (2, .int a2)]) [0, 1, 2] rfl ?_
  refine pw_iload_n dX9_tellHum_0 rfl 2 rfl ?_
  refine pw_callS (As := [.int a2]) (rest := []) (s_X9_isToneOrNone hE h) dX9_tellHum_1 ml_X9_81 cs_X9_isToneOrNone rfl (rm_ok (by decide)) rm_0 (Nat.le_of_ble_eq_true rfl) ?_
  rintro _ G2 ⟨r1, rfl, h⟩
  refine pw_if_ne (tgt := 9) dX9_tellHum_4 (by decide) (fun hc => ?_) (fun hc => ?_)
  · have h := h.1 hc
    refine pw_aload_n dX9_tellHum_9 rfl 0 rfl ?_
    refine pw_getr (q := 1) dX9_tellHum_10 fa_X9_10 ly_0 rfl ?_
    refine pw_getr (q := 2) dX9_tellHum_13 fa_X9_88 ly_1 rfl ?_
    refine pw_iload_n dX9_tellHum_16 rfl 1 rfl ?_
    refine pw_iload_n dX9_tellHum_17 rfl 2 rfl ?_
    obtain ⟨hv3, h⟩ := h
    refine pw_iast (z := a1.toNatClampNeg) dX9_tellHum_18 ly_2 hv3 rfl ?_
    refine pw_iload_n dX9_tellHum_19 rfl 2 rfl ?_
    refine pw_iconst (v := (-1 : Int32)) dX9_tellHum_20 (by decide) ?_
    refine pw_icmp_ne (tgt := 41) dX9_tellHum_21 (by decide) (fun hc => ?_) (fun hc => ?_)
    · have h := h.1 hc
      refine pw_iconst (v := (1 : Int32)) dX9_tellHum_41 (by decide) ?_
      exact pw_ireturn dX9_tellHum_42 rfl rfl ⟨_, rfl, h⟩
    · have h := h.2 hc
      refine pw_aload_n dX9_tellHum_24 rfl 0 rfl ?_
      refine pw_getr (q := 1) dX9_tellHum_25 fa_X9_10 ly_0 rfl ?_
      refine pw_dup dX9_tellHum_28 rfl ?_
      refine pw_geti (v := G2 1 4) dX9_tellHum_29 fa_X9_171 ly_1 rfl rfl ?_
      refine pw_iconst (v := (1 : Int32)) dX9_tellHum_32 (by decide) ?_
      refine pw_iload_n dX9_tellHum_33 rfl 1 rfl ?_
      refine pw_ishl dX9_tellHum_34 ?_
      refine pw_iconst (v := (-1 : Int32)) dX9_tellHum_35 (by decide) ?_
      refine pw_ixor dX9_tellHum_36 ?_
      refine pw_iand dX9_tellHum_37 ?_
      refine pw_puti dX9_tellHum_38 fp_X9_171 ly_1 rfl ?_
      refine pw_iconst (v := (1 : Int32)) dX9_tellHum_41 (by decide) ?_
      exact pw_ireturn dX9_tellHum_42 rfl rfl ⟨_, rfl, h⟩
  · have h := h.2 hc
    refine pw_iconst (v := (0 : Int32)) dX9_tellHum_7 (by decide) ?_
    exact pw_ireturn dX9_tellHum_8 rfl rfl ⟨_, rfl, h⟩
def wp_X8_hasHum (a1 : Int32) (G : GS) (Q : Int32 → GS → Prop) : Prop := wp_X8_isPerson a1 G (fun r1 G2 => ((r1 = 0 → Q (0 : Int32) G2) ∧ (¬ r1 = 0 → (vp_in a1 10 ∧ (((G2 2 a1.toNatClampNeg) = (-1 : Int32) → Q (0 : Int32) G2) ∧ (¬ (G2 2 a1.toNatClampNeg) = (-1 : Int32) → Q (1 : Int32) G2))))))
set_option maxRecDepth 100000 in
set_option maxHeartbeats 4000000 in
theorem s_X8_hasHum {E : EV} (hE : EI_ E) {a1 : Int32} {G : GS} {Q : Int32 → GS → Prop} (h : wp_X8_hasHum a1 G Q) : PMet E mi_X8_hasHum 2 [.ref (ev_ad E 1), .int a1] G (qi_ Q) := by
  refine pm_of hE (by decide) (Nat.le_of_ble_eq_true rfl) ?_
  refine pw_loc (lv' := [(0, .ref (ev_ad E 1)), (1, .int a1)]) [0, 1] rfl ?_
  refine pw_aload_n dX8_hasHum_0 rfl 0 rfl ?_
  refine pw_iload_n dX8_hasHum_1 rfl 1 rfl ?_
  refine pw_callV (As := [.int a1]) (rest := []) (s_X8_isPerson hE h) dX8_hasHum_2 ly_1 rfl (Or.inl ml_X8_88) cm_X8_isPerson rfl (rm_ok (by decide)) rm_0 (Nat.le_of_ble_eq_true rfl) ?_
  rintro _ G2 ⟨r1, rfl, h⟩
  refine pw_if_eq (tgt := 22) dX8_hasHum_5 (by decide) (fun hc => ?_) (fun hc => ?_)
  · have h := h.1 hc
    refine pw_iconst (v := (0 : Int32)) dX8_hasHum_22 (by decide) ?_
    exact pw_ireturn dX8_hasHum_23 rfl rfl ⟨_, rfl, h⟩
  · have h := h.2 hc
    refine pw_aload_n dX8_hasHum_8 rfl 0 rfl ?_
    refine pw_getr (q := 2) dX8_hasHum_9 fa_X8_9 ly_1 rfl ?_
    refine pw_iload_n dX8_hasHum_12 rfl 1 rfl ?_
    obtain ⟨hv3, h⟩ := h
    refine pw_iald (v := G2 2 a1.toNatClampNeg) dX8_hasHum_13 ly_2 hv3 rfl ?_
    refine pw_iconst (v := (-1 : Int32)) dX8_hasHum_14 (by decide) ?_
    refine pw_icmp_eq (tgt := 22) dX8_hasHum_15 (by decide) (fun hc => ?_) (fun hc => ?_)
    · have h := h.1 hc
      refine pw_iconst (v := (0 : Int32)) dX8_hasHum_22 (by decide) ?_
      exact pw_ireturn dX8_hasHum_23 rfl rfl ⟨_, rfl, h⟩
    · have h := h.2 hc
      refine pw_iconst (v := (1 : Int32)) dX8_hasHum_18 (by decide) ?_
      refine pw_goto (tgt := 23) dX8_hasHum_19 (by decide) ?_
      exact pw_ireturn dX8_hasHum_23 rfl rfl ⟨_, rfl, h⟩
def wp_X9_tellSounding (a1 : Int32) (a2 : Int32) (G : GS) (Q : Int32 → GS → Prop) : Prop := ((¬ a2 = 0 → ((¬ a2 = (1 : Int32) → Q (0 : Int32) G) ∧ (a2 = (1 : Int32) → wp_X8_hasHum a1 G (fun r1 G2 => ((¬ r1 = 0 → Q (1 : Int32) (gu_ G2 1 4 ((G2 1 4) ||| ((1 : Int32) <<< (a1 &&& 31))))) ∧ (r1 = 0 → Q (0 : Int32) G2)))))) ∧ (a2 = 0 → Q (1 : Int32) (gu_ G 1 4 ((G 1 4) &&& (((1 : Int32) <<< (a1 &&& 31)) ^^^ (-1 : Int32))))))
set_option maxRecDepth 100000 in
set_option maxHeartbeats 4000000 in
theorem s_X9_tellSounding {E : EV} (hE : EI_ E) {a1 : Int32} {a2 : Int32} {G : GS} {Q : Int32 → GS → Prop} (h : wp_X9_tellSounding a1 a2 G Q) : PMet E mi_X9_tellSounding 3 [.ref (ev_ad E 0), .int a1, .int a2] G (qi_ Q) := by
  refine pm_of hE (by decide) (Nat.le_of_ble_eq_true rfl) ?_
  refine pw_loc (lv' := [(0, .ref (ev_ad E 0)), (1, .int a1), (2, .int a2)]) [0, 1, 2] rfl ?_
  refine pw_iload_n dX9_tellSounding_0 rfl 2 rfl ?_
  refine pw_if_ne (tgt := 23) dX9_tellSounding_1 (by decide) (fun hc => ?_) (fun hc => ?_)
  · have h := h.1 hc
    refine pw_iload_n dX9_tellSounding_23 rfl 2 rfl ?_
    refine pw_iconst (v := (1 : Int32)) dX9_tellSounding_24 (by decide) ?_
    refine pw_icmp_ne (tgt := 39) dX9_tellSounding_25 (by decide) (fun hc => ?_) (fun hc => ?_)
    · have h := h.1 hc
      refine pw_iconst (v := (0 : Int32)) dX9_tellSounding_39 (by decide) ?_
      exact pw_ireturn dX9_tellSounding_40 rfl rfl ⟨_, rfl, h⟩
    · have h := h.2 hc
      refine pw_aload_n dX9_tellSounding_28 rfl 0 rfl ?_
      refine pw_getr (q := 1) dX9_tellSounding_29 fa_X9_10 ly_0 rfl ?_
      refine pw_iload_n dX9_tellSounding_32 rfl 1 rfl ?_
      refine pw_callV (As := [.int a1]) (rest := []) (s_X8_hasHum hE h) dX9_tellSounding_33 ly_1 rfl (Or.inr mn_X9_131) cm_X8_hasHum rfl (rm_ok (by decide)) rm_0 (Nat.le_of_ble_eq_true rfl) ?_
      rintro _ G2 ⟨r1, rfl, h⟩
      refine pw_if_ne (tgt := 41) dX9_tellSounding_36 (by decide) (fun hc => ?_) (fun hc => ?_)
      · have h := h.1 hc
        refine pw_aload_n dX9_tellSounding_41 rfl 0 rfl ?_
        refine pw_getr (q := 1) dX9_tellSounding_42 fa_X9_10 ly_0 rfl ?_
        refine pw_dup dX9_tellSounding_45 rfl ?_
        refine pw_geti (v := G2 1 4) dX9_tellSounding_46 fa_X9_171 ly_1 rfl rfl ?_
        refine pw_iconst (v := (1 : Int32)) dX9_tellSounding_49 (by decide) ?_
        refine pw_iload_n dX9_tellSounding_50 rfl 1 rfl ?_
        refine pw_ishl dX9_tellSounding_51 ?_
        refine pw_ior dX9_tellSounding_52 ?_
        refine pw_puti dX9_tellSounding_53 fp_X9_171 ly_1 rfl ?_
        refine pw_iconst (v := (1 : Int32)) dX9_tellSounding_56 (by decide) ?_
        exact pw_ireturn dX9_tellSounding_57 rfl rfl ⟨_, rfl, h⟩
      · have h := h.2 hc
        refine pw_iconst (v := (0 : Int32)) dX9_tellSounding_39 (by decide) ?_
        exact pw_ireturn dX9_tellSounding_40 rfl rfl ⟨_, rfl, h⟩
  · have h := h.2 hc
    refine pw_aload_n dX9_tellSounding_4 rfl 0 rfl ?_
    refine pw_getr (q := 1) dX9_tellSounding_5 fa_X9_10 ly_0 rfl ?_
    refine pw_dup dX9_tellSounding_8 rfl ?_
    refine pw_geti (v := G 1 4) dX9_tellSounding_9 fa_X9_171 ly_1 rfl rfl ?_
    refine pw_iconst (v := (1 : Int32)) dX9_tellSounding_12 (by decide) ?_
    refine pw_iload_n dX9_tellSounding_13 rfl 1 rfl ?_
    refine pw_ishl dX9_tellSounding_14 ?_
    refine pw_iconst (v := (-1 : Int32)) dX9_tellSounding_15 (by decide) ?_
    refine pw_ixor dX9_tellSounding_16 ?_
    refine pw_iand dX9_tellSounding_17 ?_
    refine pw_puti dX9_tellSounding_18 fp_X9_171 ly_1 rfl ?_
    refine pw_iconst (v := (1 : Int32)) dX9_tellSounding_21 (by decide) ?_
    exact pw_ireturn dX9_tellSounding_22 rfl rfl ⟨_, rfl, h⟩
def wp_X9_tellLoud (a1 : Int32) (a2 : Int32) (G : GS) (Q : Int32 → GS → Prop) : Prop := ((a2 < 0 → Q (0 : Int32) G) ∧ (¬ a2 < 0 → ((a2 ≤ (9 : Int32) → (vp_in a1 10 ∧ Q (1 : Int32) (gu_ G 3 a1.toNatClampNeg a2))) ∧ (¬ a2 ≤ (9 : Int32) → Q (0 : Int32) G))))
set_option maxRecDepth 100000 in
set_option maxHeartbeats 4000000 in
theorem s_X9_tellLoud {E : EV} (hE : EI_ E) {a1 : Int32} {a2 : Int32} {G : GS} {Q : Int32 → GS → Prop} (h : wp_X9_tellLoud a1 a2 G Q) : PMet E mi_X9_tellLoud 1 [.ref (ev_ad E 0), .int a1, .int a2] G (qi_ Q) := by
  refine pm_of hE (by decide) (Nat.le_of_ble_eq_true rfl) ?_
  refine pw_loc (lv' := [(0, .ref (ev_ad E 0)), (1, .int a1), (2, .int a2)]) [0, 1, 2] rfl ?_
  refine pw_iload_n dX9_tellLoud_0 rfl 2 rfl ?_
  refine pw_if_lt (tgt := 10) dX9_tellLoud_1 (by decide) (fun hc => ?_) (fun hc => ?_)
  · have h := h.1 hc
    refine pw_iconst (v := (0 : Int32)) dX9_tellLoud_10 (by decide) ?_
    exact pw_ireturn dX9_tellLoud_11 rfl rfl ⟨_, rfl, h⟩
  · have h := h.2 hc
    refine pw_iload_n dX9_tellLoud_4 rfl 2 rfl ?_
    refine pw_bipush (v := (9 : Int32)) dX9_tellLoud_5 (by decide) ?_
    refine pw_icmp_le (tgt := 12) dX9_tellLoud_7 (by decide) (fun hc => ?_) (fun hc => ?_)
    · have h := h.1 hc
      refine pw_aload_n dX9_tellLoud_12 rfl 0 rfl ?_
      refine pw_getr (q := 1) dX9_tellLoud_13 fa_X9_10 ly_0 rfl ?_
      refine pw_getr (q := 3) dX9_tellLoud_16 fa_X9_174 ly_1 rfl ?_
      refine pw_iload_n dX9_tellLoud_19 rfl 1 rfl ?_
      refine pw_iload_n dX9_tellLoud_20 rfl 2 rfl ?_
      obtain ⟨hv1, h⟩ := h
      refine pw_iast (z := a1.toNatClampNeg) dX9_tellLoud_21 ly_3 hv1 rfl ?_
      refine pw_iconst (v := (1 : Int32)) dX9_tellLoud_22 (by decide) ?_
      exact pw_ireturn dX9_tellLoud_23 rfl rfl ⟨_, rfl, h⟩
    · have h := h.2 hc
      refine pw_iconst (v := (0 : Int32)) dX9_tellLoud_10 (by decide) ?_
      exact pw_ireturn dX9_tellLoud_11 rfl rfl ⟨_, rfl, h⟩
def wp_X9_tellOfPerson (a1 : Int32) (a2 : Int32) (a3 : Int32) (G : GS) (Q : Int32 → GS → Prop) : Prop := ((a1 = 0 → wp_X9_tellHum a2 a3 G (fun r1 G2 => (bz_ r1 ∧ Q r1 G2))) ∧ (a1 = 1 → wp_X9_tellSounding a2 a3 G (fun r3 G4 => (bz_ r3 ∧ Q r3 G4))) ∧ (a1 = 2 → wp_X9_tellLoud a2 a3 G (fun r5 G6 => (bz_ r5 ∧ Q r5 G6))) ∧ (¬ a1 = 0 → ¬ a1 = 1 → ¬ a1 = 2 → Q (0 : Int32) G))
set_option maxRecDepth 100000 in
set_option maxHeartbeats 4000000 in
theorem s_X9_tellOfPerson {E : EV} (hE : EI_ E) {a1 : Int32} {a2 : Int32} {a3 : Int32} {G : GS} {Q : Int32 → GS → Prop} (h : wp_X9_tellOfPerson a1 a2 a3 G Q) : PMet E mi_X9_tellOfPerson 4 [.ref (ev_ad E 0), .int a1, .int a2, .int a3] G (qi_ Q) := by
  refine pm_of hE (by decide) (Nat.le_of_ble_eq_true rfl) ?_
  refine pw_loc (lv' := [(0, .ref (ev_ad E 0)), (1, .int a1), (2, .int a2), (3, .int a3)]) [0, 1, 2, 3] rfl ?_
  refine pw_iload_n dX9_tellOfPerson_0 rfl 1 rfl ?_
  by_cases hs0 : a1 = (0 : Int32)
  · have h := h.1 hs0
    refine pw_tswIn (tgt := 28) (off := 27) (0 : Int32) dX9_tellOfPerson_1 hs0 (by decide) (by decide) (by decide +kernel) (by decide) ?_
    refine pw_aload_n dX9_tellOfPerson_28 rfl 0 rfl ?_
    refine pw_iload_n dX9_tellOfPerson_29 rfl 2 rfl ?_
    refine pw_iload_n dX9_tellOfPerson_30 rfl 3 rfl ?_
    refine pw_callV (As := [.int a2, .int a3]) (rest := []) (s_X9_tellHum hE h) dX9_tellOfPerson_31 ly_0 rfl (Or.inl ml_X9_288) cm_X9_tellHum rfl (rm_ok (by decide)) rm_0 (Nat.le_of_ble_eq_true rfl) ?_
    rintro _ G2 ⟨r1, rfl, h⟩
    exact pw_ireturn dX9_tellOfPerson_34 rfl (bz_n h.1) ⟨_, rfl, h.2⟩
  by_cases hs1 : a1 = (1 : Int32)
  · have h := h.2.1 hs1
    refine pw_tswIn (tgt := 35) (off := 34) (1 : Int32) dX9_tellOfPerson_1 hs1 (by decide) (by decide) (by decide +kernel) (by decide) ?_
    refine pw_aload_n dX9_tellOfPerson_35 rfl 0 rfl ?_
    refine pw_iload_n dX9_tellOfPerson_36 rfl 2 rfl ?_
    refine pw_iload_n dX9_tellOfPerson_37 rfl 3 rfl ?_
    refine pw_callV (As := [.int a2, .int a3]) (rest := []) (s_X9_tellSounding hE h) dX9_tellOfPerson_38 ly_0 rfl (Or.inl ml_X9_291) cm_X9_tellSounding rfl (rm_ok (by decide)) rm_0 (Nat.le_of_ble_eq_true rfl) ?_
    rintro _ G4 ⟨r3, rfl, h⟩
    exact pw_ireturn dX9_tellOfPerson_41 rfl (bz_n h.1) ⟨_, rfl, h.2⟩
  by_cases hs2 : a1 = (2 : Int32)
  · have h := h.2.2.1 hs2
    refine pw_tswIn (tgt := 42) (off := 41) (2 : Int32) dX9_tellOfPerson_1 hs2 (by decide) (by decide) (by decide +kernel) (by decide) ?_
    refine pw_aload_n dX9_tellOfPerson_42 rfl 0 rfl ?_
    refine pw_iload_n dX9_tellOfPerson_43 rfl 2 rfl ?_
    refine pw_iload_n dX9_tellOfPerson_44 rfl 3 rfl ?_
    refine pw_callV (As := [.int a2, .int a3]) (rest := []) (s_X9_tellLoud hE h) dX9_tellOfPerson_45 ly_0 rfl (Or.inl ml_X9_294) cm_X9_tellLoud rfl (rm_ok (by decide)) rm_0 (Nat.le_of_ble_eq_true rfl) ?_
    rintro _ G6 ⟨r5, rfl, h⟩
    exact pw_ireturn dX9_tellOfPerson_48 rfl (bz_n h.1) ⟨_, rfl, h.2⟩
  have h := h.2.2.2 hs0 hs1 hs2
  refine pw_tswOut (tgt := 49) dX9_tellOfPerson_1 (by have := lv_neT hs0 (show (0 : Int32).toInt = 0 from by decide); have := lv_neT hs1 (show (1 : Int32).toInt = 1 from by decide); have := lv_neT hs2 (show (2 : Int32).toInt = 2 from by decide);  omega) (by decide) ?_
  refine pw_iconst (v := (0 : Int32)) dX9_tellOfPerson_49 (by decide) ?_
  exact pw_ireturn dX9_tellOfPerson_50 rfl rfl ⟨_, rfl, h⟩
def wp_X9_tellSlip (a1 : Int32) (G : GS) (Q : Int32 → GS → Prop) : Prop := ((a1 < 0 → Q (0 : Int32) G) ∧ (¬ a1 < 0 → ((a1 ≤ (1000 : Int32) → Q (1 : Int32) (gu_ G 1 5 a1)) ∧ (¬ a1 ≤ (1000 : Int32) → Q (0 : Int32) G))))
set_option maxRecDepth 100000 in
set_option maxHeartbeats 4000000 in
theorem s_X9_tellSlip {E : EV} (hE : EI_ E) {a1 : Int32} {G : GS} {Q : Int32 → GS → Prop} (h : wp_X9_tellSlip a1 G Q) : PMet E mi_X9_tellSlip 1 [.ref (ev_ad E 0), .int a1] G (qi_ Q) := by
  refine pm_of hE (by decide) (Nat.le_of_ble_eq_true rfl) ?_
  refine pw_loc (lv' := [(0, .ref (ev_ad E 0)), (1, .int a1)]) [0, 1] rfl ?_
  refine pw_iload_n dX9_tellSlip_0 rfl 1 rfl ?_
  refine pw_if_lt (tgt := 11) dX9_tellSlip_1 (by decide) (fun hc => ?_) (fun hc => ?_)
  · have h := h.1 hc
    refine pw_iconst (v := (0 : Int32)) dX9_tellSlip_11 (by decide) ?_
    exact pw_ireturn dX9_tellSlip_12 rfl rfl ⟨_, rfl, h⟩
  · have h := h.2 hc
    refine pw_iload_n dX9_tellSlip_4 rfl 1 rfl ?_
    refine pw_sipush (v := (1000 : Int32)) dX9_tellSlip_5 (by decide) ?_
    refine pw_icmp_le (tgt := 13) dX9_tellSlip_8 (by decide) (fun hc => ?_) (fun hc => ?_)
    · have h := h.1 hc
      refine pw_aload_n dX9_tellSlip_13 rfl 0 rfl ?_
      refine pw_getr (q := 1) dX9_tellSlip_14 fa_X9_10 ly_0 rfl ?_
      refine pw_iload_n dX9_tellSlip_17 rfl 1 rfl ?_
      refine pw_puti dX9_tellSlip_18 fp_X9_282 ly_1 rfl ?_
      refine pw_iconst (v := (1 : Int32)) dX9_tellSlip_21 (by decide) ?_
      exact pw_ireturn dX9_tellSlip_22 rfl rfl ⟨_, rfl, h⟩
    · have h := h.2 hc
      refine pw_iconst (v := (0 : Int32)) dX9_tellSlip_11 (by decide) ?_
      exact pw_ireturn dX9_tellSlip_12 rfl rfl ⟨_, rfl, h⟩
def wp_X9_set (a1 : Int32) (a2 : Int32) (a3 : Int32) (G : GS) (Q : Int32 → GS → Prop) : Prop := ((¬ a1 = (3 : Int32) → wp_X8_isPerson a2 G (fun r1 G2 => ((r1 = 0 → Q (0 : Int32) G2) ∧ (¬ r1 = 0 → wp_X9_tellOfPerson a1 a2 a3 G2 (fun r3 G4 => ((r3 = 0 → Q (0 : Int32) G4) ∧ (¬ r3 = 0 → wp_X5_forget G4 (fun _ G6 => Q (1 : Int32) G6)))))))) ∧ (a1 = (3 : Int32) → wp_X9_tellSlip a3 G (fun r7 G8 => ((r7 = 0 → (bz_ r7 ∧ Q r7 G8)) ∧ (¬ r7 = 0 → wp_X5_forget G8 (fun _ G10 => (bz_ r7 ∧ Q r7 G10)))))))
set_option maxRecDepth 100000 in
set_option maxHeartbeats 4000000 in
theorem s_X9_set {E : EV} (hE : EI_ E) {a1 : Int32} {a2 : Int32} {a3 : Int32} {G : GS} {Q : Int32 → GS → Prop} (h : wp_X9_set a1 a2 a3 G Q) : PMet E mi_X9_set 5 [.ref (ev_ad E 0), .int a1, .int a2, .int a3] G (qi_ Q) := by
  refine pm_of hE (by decide) (Nat.le_of_ble_eq_true rfl) ?_
  refine pw_loc (lv' := [(0, .ref (ev_ad E 0)), (1, .int a1), (2, .int a2), (3, .int a3)]) [0, 1, 2, 3] rfl ?_
  refine pw_iload_n dX9_set_0 rfl 1 rfl ?_
  refine pw_iconst (v := (3 : Int32)) dX9_set_1 (by decide) ?_
  refine pw_icmp_ne (tgt := 13) dX9_set_2 (by decide) (fun hc => ?_) (fun hc => ?_)
  · have h := h.1 hc
    refine pw_aload_n dX9_set_13 rfl 0 rfl ?_
    refine pw_getr (q := 1) dX9_set_14 fa_X9_10 ly_0 rfl ?_
    refine pw_iload_n dX9_set_17 rfl 2 rfl ?_
    refine pw_callV (As := [.int a2]) (rest := []) (s_X8_isPerson hE h) dX9_set_18 ly_1 rfl (Or.inr mn_X9_95) cm_X8_isPerson rfl (rm_ok (by decide)) rm_0 (Nat.le_of_ble_eq_true rfl) ?_
    rintro _ G2 ⟨r1, rfl, h⟩
    refine pw_if_eq (tgt := 38) dX9_set_21 (by decide) (fun hc => ?_) (fun hc => ?_)
    · have h := h.1 hc
      refine pw_iconst (v := (0 : Int32)) dX9_set_38 (by decide) ?_
      refine pw_istore (lv' := [(4, .int (0 : Int32)), (0, .ref (ev_ad E 0)), (1, .int a1), (2, .int a2), (3, .int a3)]) dX9_set_39 (by decide) rfl ?_
      refine pw_iload dX9_set_41 0 rfl ?_
      refine pw_if_eq (tgt := 53) dX9_set_43 (by decide) (fun hc => ?_) (fun hc => ?_)
      · refine pw_iload dX9_set_53 0 rfl ?_
        exact pw_ireturn dX9_set_55 rfl rfl ⟨_, rfl, h⟩
      · exact absurd hc (by decide)
    · have h := h.2 hc
      refine pw_aload_n dX9_set_24 rfl 0 rfl ?_
      refine pw_iload_n dX9_set_25 rfl 1 rfl ?_
      refine pw_iload_n dX9_set_26 rfl 2 rfl ?_
      refine pw_iload_n dX9_set_27 rfl 3 rfl ?_
      refine pw_callV (As := [.int a1, .int a2, .int a3]) (rest := []) (s_X9_tellOfPerson hE h) dX9_set_28 ly_0 rfl (Or.inl ml_X9_98) cm_X9_tellOfPerson rfl (rm_ok (by decide)) rm_0 (Nat.le_of_ble_eq_true rfl) ?_
      rintro _ G4 ⟨r3, rfl, h⟩
      refine pw_if_eq (tgt := 38) dX9_set_31 (by decide) (fun hc => ?_) (fun hc => ?_)
      · have h := h.1 hc
        refine pw_iconst (v := (0 : Int32)) dX9_set_38 (by decide) ?_
        refine pw_istore (lv' := [(4, .int (0 : Int32)), (0, .ref (ev_ad E 0)), (1, .int a1), (2, .int a2), (3, .int a3)]) dX9_set_39 (by decide) rfl ?_
        refine pw_iload dX9_set_41 0 rfl ?_
        refine pw_if_eq (tgt := 53) dX9_set_43 (by decide) (fun hc => ?_) (fun hc => ?_)
        · refine pw_iload dX9_set_53 0 rfl ?_
          exact pw_ireturn dX9_set_55 rfl rfl ⟨_, rfl, h⟩
        · exact absurd hc (by decide)
      · have h := h.2 hc
        refine pw_iconst (v := (1 : Int32)) dX9_set_34 (by decide) ?_
        refine pw_goto (tgt := 39) dX9_set_35 (by decide) ?_
        refine pw_istore (lv' := [(4, .int (1 : Int32)), (0, .ref (ev_ad E 0)), (1, .int a1), (2, .int a2), (3, .int a3)]) dX9_set_39 (by decide) rfl ?_
        refine pw_iload dX9_set_41 0 rfl ?_
        refine pw_if_eq (tgt := 53) dX9_set_43 (by decide) (fun hc => ?_) (fun hc => ?_)
        · exact absurd hc (by decide)
        · refine pw_aload_n dX9_set_46 rfl 1 rfl ?_
          refine pw_getr (q := 27) dX9_set_47 fa_X9_26 ly_0 rfl ?_
          refine pw_callV (As := []) (rest := []) (s_X5_forget hE h) dX9_set_50 ly_27 rfl (Or.inr mn_X9_78) cm_X5_forget rfl (rm_ok (by decide)) rm_0 (Nat.le_of_ble_eq_true rfl) ?_
          rintro _ G6 ⟨rfl, h⟩
          refine pw_iload dX9_set_53 0 rfl ?_
          exact pw_ireturn dX9_set_55 rfl rfl ⟨_, rfl, h⟩
  · have h := h.2 hc
    refine pw_aload_n dX9_set_5 rfl 0 rfl ?_
    refine pw_iload_n dX9_set_6 rfl 3 rfl ?_
    refine pw_callV (As := [.int a3]) (rest := []) (s_X9_tellSlip hE h) dX9_set_7 ly_0 rfl (Or.inl ml_X9_92) cm_X9_tellSlip rfl (rm_ok (by decide)) rm_0 (Nat.le_of_ble_eq_true rfl) ?_
    rintro _ G8 ⟨r7, rfl, h⟩
    refine pw_goto (tgt := 39) dX9_set_10 (by decide) ?_
    refine pw_istore (lv' := [(4, .int r7), (0, .ref (ev_ad E 0)), (1, .int a1), (2, .int a2), (3, .int a3)]) dX9_set_39 (by decide) rfl ?_
    refine pw_iload dX9_set_41 0 rfl ?_
    refine pw_if_eq (tgt := 53) dX9_set_43 (by decide) (fun hc => ?_) (fun hc => ?_)
    · have h := h.1 hc
      refine pw_iload dX9_set_53 0 rfl ?_
      exact pw_ireturn dX9_set_55 rfl (bz_n h.1) ⟨_, rfl, h.2⟩
    · have h := h.2 hc
      refine pw_aload_n dX9_set_46 rfl 1 rfl ?_
      refine pw_getr (q := 27) dX9_set_47 fa_X9_26 ly_0 rfl ?_
      refine pw_callV (As := []) (rest := []) (s_X5_forget hE h) dX9_set_50 ly_27 rfl (Or.inr mn_X9_78) cm_X5_forget rfl (rm_ok (by decide)) rm_0 (Nat.le_of_ble_eq_true rfl) ?_
      rintro _ G10 ⟨rfl, h⟩
      refine pw_iload dX9_set_53 0 rfl ?_
      exact pw_ireturn dX9_set_55 rfl (bz_n h.1) ⟨_, rfl, h.2⟩
def lp_X9_putBytes_3 (Q : Int32 → GS → Prop)  : Nat → Int32 → Int32 → GS → Prop
  | 0, _, _, _ => False
  | n + 1, x1, x2, G => ((x2 < 0 → Q 0 G) ∧ (¬ x2 < 0 → (((400 : Int32) ≤ (G 0 5) → Q 0 G) ∧ (¬ (400 : Int32) ≤ (G 0 5) → (vp_in (G 0 5) 400 ∧ lp_X9_putBytes_3 Q n x1 (x2 + (-8)) (gu_ (gu_ G 32 ((G 0 5).toNatClampNeg) (vp_nar .byte ((x1 >>> (x2 &&& 31)).toInt8.toInt32))) 0 5 ((G 0 5) + (1 : Int32))))))))
set_option maxRecDepth 100000 in
set_option maxHeartbeats 4000000 in
theorem t_X9_putBytes_3 {E : EV} (hE : EI_ E) (Q : Int32 → GS → Prop)  : ∀ (n : Nat) (x1 : Int32) (x2 : Int32) (G : GS), lp_X9_putBytes_3 Q n x1 x2 G → PW_ E mi_X9_putBytes (rm_ 1) 0 0 3 [(0, .ref (ev_ad E 0)), (1, .int x1), (2, .int x2)] [] G (qv_ Q) := by
  intro n
  induction n with
  | zero => intro x1 x2 G h; exact h.elim
  | succ n ih =>
    intro x1 x2 G h
    refine pw_iload_n dX9_putBytes_3 rfl 2 rfl ?_
    refine pw_if_lt (tgt := 49) dX9_putBytes_4 (by decide) (fun hc => ?_) (fun hc => ?_)
    · have h := h.1 hc
      exact pw_return dX9_putBytes_49 rfl ⟨rfl, h⟩
    · have h := h.2 hc
      refine pw_aload_n dX9_putBytes_7 rfl 0 rfl ?_
      refine pw_geti (v := G 0 5) dX9_putBytes_8 fa_X9_37 ly_0 rfl rfl ?_
      refine pw_sipush (v := (400 : Int32)) dX9_putBytes_11 (by decide) ?_
      refine pw_icmp_ge (tgt := 49) dX9_putBytes_14 (by decide) (fun hc => ?_) (fun hc => ?_)
      · have h := h.1 hc
        exact pw_return dX9_putBytes_49 rfl ⟨rfl, h⟩
      · have h := h.2 hc
        refine pw_aload_n dX9_putBytes_17 rfl 0 rfl ?_
        refine pw_getr (q := 33) dX9_putBytes_18 fa_X9_33 ly_0 rfl ?_
        refine pw_getr (q := 32) dX9_putBytes_21 fa_X9_297 ly_33 rfl ?_
        refine pw_aload_n dX9_putBytes_24 rfl 0 rfl ?_
        refine pw_geti (v := G 0 5) dX9_putBytes_25 fa_X9_37 ly_0 rfl rfl ?_
        refine pw_iload_n dX9_putBytes_28 rfl 1 rfl ?_
        refine pw_iload_n dX9_putBytes_29 rfl 2 rfl ?_
        refine pw_ishr dX9_putBytes_30 ?_
        refine pw_i2b dX9_putBytes_31 ?_
        obtain ⟨hv1, h⟩ := h
        refine pw_bast (z := ((G 0 5).toNatClampNeg)) dX9_putBytes_32 ly_32 hv1 rfl ?_
        refine pw_aload_n dX9_putBytes_33 rfl 0 rfl ?_
        refine pw_dup dX9_putBytes_34 rfl ?_
        refine pw_geti (v := G 0 5) dX9_putBytes_35 fa_X9_37 ly_0 rfl rfl ?_
        refine pw_iconst (v := (1 : Int32)) dX9_putBytes_38 (by decide) ?_
        refine pw_iadd dX9_putBytes_39 ?_
        refine pw_puti dX9_putBytes_40 fp_X9_37 ly_0 rfl ?_
        refine pw_iinc (k := 2) (v := x2 + (-8)) (lv' := [(2, .int (x2 + (-8))), (0, .ref (ev_ad E 0)), (1, .int x1)]) dX9_putBytes_43 rfl rfl (by decide) rfl ?_
        refine pw_goto (tgt := 3) dX9_putBytes_46 (by decide) ?_
        refine pw_loc (lv' := [(0, .ref (ev_ad E 0)), (1, .int x1), (2, .int (x2 + (-8)))]) [1, 2, 0] rfl ?_
        exact ih _ _ _ h
def wp_X9_putBytes (a1 : Int32) (G : GS) (Q : Int32 → GS → Prop) : Prop := (∃ kf, lp_X9_putBytes_3 Q kf a1 (24 : Int32) G)
set_option maxRecDepth 100000 in
set_option maxHeartbeats 4000000 in
theorem s_X9_putBytes {E : EV} (hE : EI_ E) {a1 : Int32} {G : GS} {Q : Int32 → GS → Prop} (h : wp_X9_putBytes a1 G Q) : PMet E mi_X9_putBytes 1 [.ref (ev_ad E 0), .int a1] G (qv_ Q) := by
  refine pm_of hE (by decide) (Nat.le_of_ble_eq_true rfl) ?_
  refine pw_loc (lv' := [(0, .ref (ev_ad E 0)), (1, .int a1)]) [0, 1] rfl ?_
  refine pw_bipush (v := (24 : Int32)) dX9_putBytes_0 (by decide) ?_
  refine pw_istore_n (lv' := [(2, .int (24 : Int32)), (0, .ref (ev_ad E 0)), (1, .int a1)]) dX9_putBytes_2 rfl (by decide) rfl ?_
  refine pw_loc (lv' := [(0, .ref (ev_ad E 0)), (1, .int a1), (2, .int (24 : Int32))]) [1, 2, 0] rfl ?_
  obtain ⟨kf, h⟩ := h
  exact t_X9_putBytes_3 hE Q kf _ _ _ h
def wp_X9_feed (a1 : Int32) (a2 : Int32) (a3 : Int32) (a4 : Int32) (a5 : Int32) (G : GS) (Q : Int32 → GS → Prop) : Prop := (((G 0 5) ≤ (380 : Int32) → wp_X9_putBytes a1 G (fun _ G2 => wp_X9_putBytes a2 G2 (fun _ G4 => wp_X9_putBytes a3 G4 (fun _ G6 => wp_X9_putBytes a4 G6 (fun _ G8 => wp_X9_putBytes a5 G8 (fun _ G10 => Q (G10 0 5) G10)))))) ∧ (¬ (G 0 5) ≤ (380 : Int32) → Q (-1 : Int32) G))
set_option maxRecDepth 100000 in
set_option maxHeartbeats 4000000 in
theorem s_X9_feed {E : EV} (hE : EI_ E) {a1 : Int32} {a2 : Int32} {a3 : Int32} {a4 : Int32} {a5 : Int32} {G : GS} {Q : Int32 → GS → Prop} (h : wp_X9_feed a1 a2 a3 a4 a5 G Q) : PMet E mi_X9_feed 2 [.ref (ev_ad E 0), .int a1, .int a2, .int a3, .int a4, .int a5] G (qi_ Q) := by
  refine pm_of hE (by decide) (Nat.le_of_ble_eq_true rfl) ?_
  refine pw_loc (lv' := [(0, .ref (ev_ad E 0)), (1, .int a1), (2, .int a2), (3, .int a3), (4, .int a4), (5, .int a5)]) [0, 1, 2, 3, 4, 5] rfl ?_
  refine pw_aload_n dX9_feed_0 rfl 0 rfl ?_
  refine pw_geti (v := G 0 5) dX9_feed_1 fa_X9_37 ly_0 rfl rfl ?_
  refine pw_sipush (v := (380 : Int32)) dX9_feed_4 (by decide) ?_
  refine pw_icmp_le (tgt := 12) dX9_feed_7 (by decide) (fun hc => ?_) (fun hc => ?_)
  · have h := h.1 hc
    refine pw_aload_n dX9_feed_12 rfl 0 rfl ?_
    refine pw_iload_n dX9_feed_13 rfl 1 rfl ?_
    refine pw_callV (As := [.int a1]) (rest := []) (s_X9_putBytes hE h) dX9_feed_14 ly_0 rfl (Or.inl ml_X9_102) cm_X9_putBytes rfl (rm_ok (by decide)) rm_0 (Nat.le_of_ble_eq_true rfl) ?_
    rintro _ G2 ⟨rfl, h⟩
    refine pw_aload_n dX9_feed_17 rfl 0 rfl ?_
    refine pw_iload_n dX9_feed_18 rfl 2 rfl ?_
    refine pw_callV (As := [.int a2]) (rest := []) (s_X9_putBytes hE h) dX9_feed_19 ly_0 rfl (Or.inl ml_X9_102) cm_X9_putBytes rfl (rm_ok (by decide)) rm_0 (Nat.le_of_ble_eq_true rfl) ?_
    rintro _ G4 ⟨rfl, h⟩
    refine pw_aload_n dX9_feed_22 rfl 0 rfl ?_
    refine pw_iload_n dX9_feed_23 rfl 3 rfl ?_
    refine pw_callV (As := [.int a3]) (rest := []) (s_X9_putBytes hE h) dX9_feed_24 ly_0 rfl (Or.inl ml_X9_102) cm_X9_putBytes rfl (rm_ok (by decide)) rm_0 (Nat.le_of_ble_eq_true rfl) ?_
    rintro _ G6 ⟨rfl, h⟩
    refine pw_aload_n dX9_feed_27 rfl 0 rfl ?_
    refine pw_iload dX9_feed_28 4 rfl ?_
    refine pw_callV (As := [.int a4]) (rest := []) (s_X9_putBytes hE h) dX9_feed_30 ly_0 rfl (Or.inl ml_X9_102) cm_X9_putBytes rfl (rm_ok (by decide)) rm_0 (Nat.le_of_ble_eq_true rfl) ?_
    rintro _ G8 ⟨rfl, h⟩
    refine pw_aload_n dX9_feed_33 rfl 0 rfl ?_
    refine pw_iload dX9_feed_34 5 rfl ?_
    refine pw_callV (As := [.int a5]) (rest := []) (s_X9_putBytes hE h) dX9_feed_36 ly_0 rfl (Or.inl ml_X9_102) cm_X9_putBytes rfl (rm_ok (by decide)) rm_0 (Nat.le_of_ble_eq_true rfl) ?_
    rintro _ G10 ⟨rfl, h⟩
    refine pw_aload_n dX9_feed_39 rfl 0 rfl ?_
    refine pw_geti (v := G10 0 5) dX9_feed_40 fa_X9_37 ly_0 rfl rfl ?_
    exact pw_ireturn dX9_feed_43 rfl rfl ⟨_, rfl, h⟩
  · have h := h.2 hc
    refine pw_iconst (v := (-1 : Int32)) dX9_feed_10 (by decide) ?_
    exact pw_ireturn dX9_feed_11 rfl rfl ⟨_, rfl, h⟩
def wp_X9_end (a1 : Int32) (G : GS) (Q : Int32 → GS → Prop) : Prop := ((a1 < 0 → Q (0 : Int32) G) ∧ (¬ a1 < 0 → ((a1 ≤ (G 0 5) → Q (1 : Int32) (gu_ G 0 5 a1)) ∧ (¬ a1 ≤ (G 0 5) → Q (0 : Int32) G))))
set_option maxRecDepth 100000 in
set_option maxHeartbeats 4000000 in
theorem s_X9_end {E : EV} (hE : EI_ E) {a1 : Int32} {G : GS} {Q : Int32 → GS → Prop} (h : wp_X9_end a1 G Q) : PMet E mi_X9_end 1 [.ref (ev_ad E 0), .int a1] G (qi_ Q) := by
  refine pm_of hE (by decide) (Nat.le_of_ble_eq_true rfl) ?_
  refine pw_loc (lv' := [(0, .ref (ev_ad E 0)), (1, .int a1)]) [0, 1] rfl ?_
  refine pw_iload_n dX9_end_0 rfl 1 rfl ?_
  refine pw_if_lt (tgt := 12) dX9_end_1 (by decide) (fun hc => ?_) (fun hc => ?_)
  · have h := h.1 hc
    refine pw_iconst (v := (0 : Int32)) dX9_end_12 (by decide) ?_
    exact pw_ireturn dX9_end_13 rfl rfl ⟨_, rfl, h⟩
  · have h := h.2 hc
    refine pw_iload_n dX9_end_4 rfl 1 rfl ?_
    refine pw_aload_n dX9_end_5 rfl 0 rfl ?_
    refine pw_geti (v := G 0 5) dX9_end_6 fa_X9_37 ly_0 rfl rfl ?_
    refine pw_icmp_le (tgt := 14) dX9_end_9 (by decide) (fun hc => ?_) (fun hc => ?_)
    · have h := h.1 hc
      refine pw_aload_n dX9_end_14 rfl 0 rfl ?_
      refine pw_iload_n dX9_end_15 rfl 1 rfl ?_
      refine pw_puti dX9_end_16 fp_X9_37 ly_0 rfl ?_
      refine pw_iconst (v := (1 : Int32)) dX9_end_19 (by decide) ?_
      exact pw_ireturn dX9_end_20 rfl rfl ⟨_, rfl, h⟩
    · have h := h.2 hc
      refine pw_iconst (v := (0 : Int32)) dX9_end_12 (by decide) ?_
      exact pw_ireturn dX9_end_13 rfl rfl ⟨_, rfl, h⟩
def wp_X4_empty  (G : GS) (Q : Int32 → GS → Prop) : Prop := Q 0 (gu_ (gu_ (gu_ G 34 0 (0 : Int32)) 34 1 (0 : Int32)) 34 3 (0 : Int32))
set_option maxRecDepth 100000 in
set_option maxHeartbeats 4000000 in
theorem s_X4_empty {E : EV} (hE : EI_ E)  {G : GS} {Q : Int32 → GS → Prop} (h : wp_X4_empty  G Q) : PMet E mi_X4_empty 1 [.ref (ev_ad E 34)] G (qv_ Q) := by
  refine pm_of hE (by decide) (Nat.le_of_ble_eq_true rfl) ?_
  refine pw_loc (lv' := [(0, .ref (ev_ad E 34))]) [0] rfl ?_
  refine pw_aload_n dX4_empty_0 rfl 0 rfl ?_
  refine pw_iconst (v := (0 : Int32)) dX4_empty_1 (by decide) ?_
  refine pw_puti dX4_empty_2 fp_X4_18 ly_34 rfl ?_
  refine pw_aload_n dX4_empty_5 rfl 0 rfl ?_
  refine pw_iconst (v := (0 : Int32)) dX4_empty_6 (by decide) ?_
  refine pw_puti dX4_empty_7 fp_X4_22 ly_34 rfl ?_
  refine pw_aload_n dX4_empty_10 rfl 0 rfl ?_
  refine pw_iconst (v := (0 : Int32)) dX4_empty_11 (by decide) ?_
  refine pw_puti dX4_empty_12 fp_X4_31 ly_34 rfl ?_
  exact pw_return dX4_empty_15 rfl ⟨rfl, h⟩
def wp_X6_signAt (a1 : Int32) (G : GS) (Q : Int32 → GS → Prop) : Prop := ((a1 < 0 → Q (0 : Int32) G) ∧ (¬ a1 < 0 → (((G 33 4) ≤ a1 → Q (0 : Int32) G) ∧ (¬ (G 33 4) ≤ a1 → (((400 : Int32) ≤ a1 → Q (0 : Int32) G) ∧ (¬ (400 : Int32) ≤ a1 → (vp_in a1 400 ∧ Q ((G 32 a1.toNatClampNeg) &&& (255 : Int32)) G)))))))
set_option maxRecDepth 100000 in
set_option maxHeartbeats 4000000 in
theorem s_X6_signAt {E : EV} (hE : EI_ E) {a1 : Int32} {G : GS} {Q : Int32 → GS → Prop} (h : wp_X6_signAt a1 G Q) : PMet E mi_X6_signAt 1 [.ref (ev_ad E 33), .int a1] G (qi_ Q) := by
  refine pm_of hE (by decide) (Nat.le_of_ble_eq_true rfl) ?_
  refine pw_loc (lv' := [(0, .ref (ev_ad E 33)), (1, .int a1)]) [0, 1] rfl ?_
  refine pw_iload_n dX6_signAt_0 rfl 1 rfl ?_
  refine pw_if_lt (tgt := 34) dX6_signAt_1 (by decide) (fun hc => ?_) (fun hc => ?_)
  · have h := h.1 hc
    refine pw_iconst (v := (0 : Int32)) dX6_signAt_34 (by decide) ?_
    exact pw_ireturn dX6_signAt_35 rfl rfl ⟨_, rfl, h⟩
  · have h := h.2 hc
    refine pw_iload_n dX6_signAt_4 rfl 1 rfl ?_
    refine pw_aload_n dX6_signAt_5 rfl 0 rfl ?_
    refine pw_geti (v := G 33 4) dX6_signAt_6 fa_X6_30 ly_33 rfl rfl ?_
    refine pw_icmp_ge (tgt := 34) dX6_signAt_9 (by decide) (fun hc => ?_) (fun hc => ?_)
    · have h := h.1 hc
      refine pw_iconst (v := (0 : Int32)) dX6_signAt_34 (by decide) ?_
      exact pw_ireturn dX6_signAt_35 rfl rfl ⟨_, rfl, h⟩
    · have h := h.2 hc
      refine pw_iload_n dX6_signAt_12 rfl 1 rfl ?_
      refine pw_aload_n dX6_signAt_13 rfl 0 rfl ?_
      refine pw_getr (q := 32) dX6_signAt_14 fa_X6_9 ly_33 rfl ?_
      refine pw_alen (v := (400 : Int32)) dX6_signAt_17 ly_32 (by decide) rfl ?_
      refine pw_icmp_ge (tgt := 34) dX6_signAt_18 (by decide) (fun hc => ?_) (fun hc => ?_)
      · have h := h.1 hc
        refine pw_iconst (v := (0 : Int32)) dX6_signAt_34 (by decide) ?_
        exact pw_ireturn dX6_signAt_35 rfl rfl ⟨_, rfl, h⟩
      · have h := h.2 hc
        refine pw_aload_n dX6_signAt_21 rfl 0 rfl ?_
        refine pw_getr (q := 32) dX6_signAt_22 fa_X6_9 ly_33 rfl ?_
        refine pw_iload_n dX6_signAt_25 rfl 1 rfl ?_
        obtain ⟨hv1, h⟩ := h
        refine pw_bald (v := G 32 a1.toNatClampNeg) dX6_signAt_26 ly_32 hv1 rfl ?_
        refine pw_sipush (v := (255 : Int32)) dX6_signAt_27 (by decide) ?_
        refine pw_iand dX6_signAt_30 ?_
        refine pw_goto (tgt := 35) dX6_signAt_31 (by decide) ?_
        exact pw_ireturn dX6_signAt_35 rfl rfl ⟨_, rfl, h⟩
def wp_X6_isBlank (a0 : Int32) (G : GS) (Q : Int32 → GS → Prop) : Prop := ((a0 = (32 : Int32) → Q (1 : Int32) G) ∧ (¬ a0 = (32 : Int32) → ((¬ a0 = (10 : Int32) → Q (0 : Int32) G) ∧ (a0 = (10 : Int32) → Q (1 : Int32) G))))
set_option maxRecDepth 100000 in
set_option maxHeartbeats 4000000 in
theorem s_X6_isBlank {E : EV} (hE : EI_ E) {a0 : Int32} {G : GS} {Q : Int32 → GS → Prop} (h : wp_X6_isBlank a0 G Q) : PMet E mi_X6_isBlank 1 [.int a0] G (qi_ Q) := by
  refine pm_of hE (by decide) (Nat.le_of_ble_eq_true rfl) ?_
  refine pw_loc (lv' := [(0, .int a0)]) [0] rfl ?_
  refine pw_iload_n dX6_isBlank_0 rfl 0 rfl ?_
  refine pw_bipush (v := (32 : Int32)) dX6_isBlank_1 (by decide) ?_
  refine pw_icmp_eq (tgt := 12) dX6_isBlank_3 (by decide) (fun hc => ?_) (fun hc => ?_)
  · have h := h.1 hc
    refine pw_iconst (v := (1 : Int32)) dX6_isBlank_12 (by decide) ?_
    refine pw_goto (tgt := 17) dX6_isBlank_13 (by decide) ?_
    exact pw_ireturn dX6_isBlank_17 rfl rfl ⟨_, rfl, h⟩
  · have h := h.2 hc
    refine pw_iload_n dX6_isBlank_6 rfl 0 rfl ?_
    refine pw_bipush (v := (10 : Int32)) dX6_isBlank_7 (by decide) ?_
    refine pw_icmp_ne (tgt := 16) dX6_isBlank_9 (by decide) (fun hc => ?_) (fun hc => ?_)
    · have h := h.1 hc
      refine pw_iconst (v := (0 : Int32)) dX6_isBlank_16 (by decide) ?_
      exact pw_ireturn dX6_isBlank_17 rfl rfl ⟨_, rfl, h⟩
    · have h := h.2 hc
      refine pw_iconst (v := (1 : Int32)) dX6_isBlank_12 (by decide) ?_
      refine pw_goto (tgt := 17) dX6_isBlank_13 (by decide) ?_
      exact pw_ireturn dX6_isBlank_17 rfl rfl ⟨_, rfl, h⟩
def bk_X6_isLetter_12 (Q : Int32 → GS → Prop)  (x0 : Int32) (G : GS) : Prop := ((x0 < (65 : Int32) → Q (0 : Int32) G) ∧ (¬ x0 < (65 : Int32) → (((90 : Int32) < x0 → Q (0 : Int32) G) ∧ (¬ (90 : Int32) < x0 → Q (1 : Int32) G))))
set_option maxRecDepth 100000 in
set_option maxHeartbeats 4000000 in
theorem t_X6_isLetter_12 {E : EV} (hE : EI_ E) (Q : Int32 → GS → Prop)  {x0 : Int32} {G : GS} (h : bk_X6_isLetter_12 Q x0 G) : PW_ E mi_X6_isLetter (rm_ 1) 0 0 12 [(0, .int x0)] [] G (qi_ Q) := by
  refine pw_iload_n dX6_isLetter_12 rfl 0 rfl ?_
  refine pw_bipush (v := (65 : Int32)) dX6_isLetter_13 (by decide) ?_
  refine pw_icmp_lt (tgt := 28) dX6_isLetter_15 (by decide) (fun hc => ?_) (fun hc => ?_)
  · have h := h.1 hc
    refine pw_iconst (v := (0 : Int32)) dX6_isLetter_28 (by decide) ?_
    exact pw_ireturn dX6_isLetter_29 rfl rfl ⟨_, rfl, h⟩
  · have h := h.2 hc
    refine pw_iload_n dX6_isLetter_18 rfl 0 rfl ?_
    refine pw_bipush (v := (90 : Int32)) dX6_isLetter_19 (by decide) ?_
    refine pw_icmp_gt (tgt := 28) dX6_isLetter_21 (by decide) (fun hc => ?_) (fun hc => ?_)
    · have h := h.1 hc
      refine pw_iconst (v := (0 : Int32)) dX6_isLetter_28 (by decide) ?_
      exact pw_ireturn dX6_isLetter_29 rfl rfl ⟨_, rfl, h⟩
    · have h := h.2 hc
      refine pw_iconst (v := (1 : Int32)) dX6_isLetter_24 (by decide) ?_
      refine pw_goto (tgt := 29) dX6_isLetter_25 (by decide) ?_
      exact pw_ireturn dX6_isLetter_29 rfl rfl ⟨_, rfl, h⟩
def wp_X6_isLetter (a0 : Int32) (G : GS) (Q : Int32 → GS → Prop) : Prop := ((a0 < (97 : Int32) → bk_X6_isLetter_12 Q a0 G) ∧ (¬ a0 < (97 : Int32) → ((a0 ≤ (122 : Int32) → Q (1 : Int32) G) ∧ (¬ a0 ≤ (122 : Int32) → bk_X6_isLetter_12 Q a0 G))))
set_option maxRecDepth 100000 in
set_option maxHeartbeats 4000000 in
theorem s_X6_isLetter {E : EV} (hE : EI_ E) {a0 : Int32} {G : GS} {Q : Int32 → GS → Prop} (h : wp_X6_isLetter a0 G Q) : PMet E mi_X6_isLetter 1 [.int a0] G (qi_ Q) := by
  refine pm_of hE (by decide) (Nat.le_of_ble_eq_true rfl) ?_
  refine pw_loc (lv' := [(0, .int a0)]) [0] rfl ?_
  refine pw_iload_n dX6_isLetter_0 rfl 0 rfl ?_
  refine pw_bipush (v := (97 : Int32)) dX6_isLetter_1 (by decide) ?_
  refine pw_icmp_lt (tgt := 12) dX6_isLetter_3 (by decide) (fun hc => ?_) (fun hc => ?_)
  · have h := h.1 hc
    refine pw_loc (lv' := [(0, .int a0)]) [0] rfl ?_
    exact t_X6_isLetter_12 hE Q h
  · have h := h.2 hc
    refine pw_iload_n dX6_isLetter_6 rfl 0 rfl ?_
    refine pw_bipush (v := (122 : Int32)) dX6_isLetter_7 (by decide) ?_
    refine pw_icmp_le (tgt := 24) dX6_isLetter_9 (by decide) (fun hc => ?_) (fun hc => ?_)
    · have h := h.1 hc
      refine pw_iconst (v := (1 : Int32)) dX6_isLetter_24 (by decide) ?_
      refine pw_goto (tgt := 29) dX6_isLetter_25 (by decide) ?_
      exact pw_ireturn dX6_isLetter_29 rfl rfl ⟨_, rfl, h⟩
    · have h := h.2 hc
      refine pw_loc (lv' := [(0, .int a0)]) [0] rfl ?_
      exact t_X6_isLetter_12 hE Q h
def wp_X6_isDigit (a0 : Int32) (G : GS) (Q : Int32 → GS → Prop) : Prop := ((a0 < (48 : Int32) → Q (0 : Int32) G) ∧ (¬ a0 < (48 : Int32) → (((57 : Int32) < a0 → Q (0 : Int32) G) ∧ (¬ (57 : Int32) < a0 → Q (1 : Int32) G))))
set_option maxRecDepth 100000 in
set_option maxHeartbeats 4000000 in
theorem s_X6_isDigit {E : EV} (hE : EI_ E) {a0 : Int32} {G : GS} {Q : Int32 → GS → Prop} (h : wp_X6_isDigit a0 G Q) : PMet E mi_X6_isDigit 1 [.int a0] G (qi_ Q) := by
  refine pm_of hE (by decide) (Nat.le_of_ble_eq_true rfl) ?_
  refine pw_loc (lv' := [(0, .int a0)]) [0] rfl ?_
  refine pw_iload_n dX6_isDigit_0 rfl 0 rfl ?_
  refine pw_bipush (v := (48 : Int32)) dX6_isDigit_1 (by decide) ?_
  refine pw_icmp_lt (tgt := 16) dX6_isDigit_3 (by decide) (fun hc => ?_) (fun hc => ?_)
  · have h := h.1 hc
    refine pw_iconst (v := (0 : Int32)) dX6_isDigit_16 (by decide) ?_
    exact pw_ireturn dX6_isDigit_17 rfl rfl ⟨_, rfl, h⟩
  · have h := h.2 hc
    refine pw_iload_n dX6_isDigit_6 rfl 0 rfl ?_
    refine pw_bipush (v := (57 : Int32)) dX6_isDigit_7 (by decide) ?_
    refine pw_icmp_gt (tgt := 16) dX6_isDigit_9 (by decide) (fun hc => ?_) (fun hc => ?_)
    · have h := h.1 hc
      refine pw_iconst (v := (0 : Int32)) dX6_isDigit_16 (by decide) ?_
      exact pw_ireturn dX6_isDigit_17 rfl rfl ⟨_, rfl, h⟩
    · have h := h.2 hc
      refine pw_iconst (v := (1 : Int32)) dX6_isDigit_12 (by decide) ?_
      refine pw_goto (tgt := 17) dX6_isDigit_13 (by decide) ?_
      exact pw_ireturn dX6_isDigit_17 rfl rfl ⟨_, rfl, h⟩
def wp_X6_isSign (a0 : Int32) (G : GS) (Q : Int32 → GS → Prop) : Prop := wp_sidx 16 ((a0.toUInt32 % 65536).toInt32) G (fun r1 G2 => ((r1 < 0 → Q (0 : Int32) G2) ∧ (¬ r1 < 0 → Q (1 : Int32) G2)))
set_option maxRecDepth 100000 in
set_option maxHeartbeats 4000000 in
theorem s_X6_isSign {E : EV} (hE : EI_ E) {a0 : Int32} {G : GS} {Q : Int32 → GS → Prop} (h : wp_X6_isSign a0 G Q) : PMet E mi_X6_isSign 5 [.int a0] G (qi_ Q) := by
  refine pm_of hE (by decide) (Nat.le_of_ble_eq_true rfl) ?_
  refine pw_loc (lv' := [(0, .int a0)]) [0] rfl ?_
  refine pw_ldcS 16 (by decide) dX6_isSign_0 rfl rfl ?_
  refine pw_iload_n dX6_isSign_2 rfl 0 rfl ?_
  refine pw_i2c dX6_isSign_3 ?_
  refine pw_callT (As := [.int ((a0.toUInt32 % 65536).toInt32)]) (rest := []) h.1 (s_sidx hE h) dX6_isSign_4 rfl ml_X6_166 cm_J0_indexOf_0f7a4 rfl (rm_ok (by decide)) rm_0 (Nat.le_of_ble_eq_true rfl) ?_
  rintro _ G2 ⟨r1, rfl, h⟩
  refine pw_if_lt (tgt := 14) dX6_isSign_7 (by decide) (fun hc => ?_) (fun hc => ?_)
  · have h := h.1 hc
    refine pw_iconst (v := (0 : Int32)) dX6_isSign_14 (by decide) ?_
    exact pw_ireturn dX6_isSign_15 rfl rfl ⟨_, rfl, h⟩
  · have h := h.2 hc
    refine pw_iconst (v := (1 : Int32)) dX6_isSign_10 (by decide) ?_
    refine pw_goto (tgt := 15) dX6_isSign_11 (by decide) ?_
    exact pw_ireturn dX6_isSign_15 rfl rfl ⟨_, rfl, h⟩
def bk_X6_takeDigits_72 (Q : Int32 → GS → Prop)   (G : GS) : Prop := (((4 : Int32) < ((G 33 8) - (G 33 7)) → Q 0 (gu_ G 33 5 (1 : Int32))) ∧ (¬ (4 : Int32) < ((G 33 8) - (G 33 7)) → Q 0 (gu_ G 33 5 (2 : Int32))))
set_option maxRecDepth 100000 in
set_option maxHeartbeats 4000000 in
theorem t_X6_takeDigits_72 {E : EV} (hE : EI_ E) (Q : Int32 → GS → Prop)   {G : GS} (h : bk_X6_takeDigits_72 Q G) : PW_ E mi_X6_takeDigits (rm_ 2) 0 0 72 [(0, .ref (ev_ad E 33))] [] G (qv_ Q) := by
  refine pw_aload_n dX6_takeDigits_72 rfl 0 rfl ?_
  refine pw_aload_n dX6_takeDigits_73 rfl 0 rfl ?_
  refine pw_geti (v := G 33 8) dX6_takeDigits_74 fa_X6_33 ly_33 rfl rfl ?_
  refine pw_aload_n dX6_takeDigits_77 rfl 0 rfl ?_
  refine pw_geti (v := G 33 7) dX6_takeDigits_78 fa_X6_61 ly_33 rfl rfl ?_
  refine pw_isub dX6_takeDigits_81 ?_
  refine pw_iconst (v := (4 : Int32)) dX6_takeDigits_82 (by decide) ?_
  refine pw_icmp_gt (tgt := 90) dX6_takeDigits_83 (by decide) (fun hc => ?_) (fun hc => ?_)
  · have h := h.1 hc
    refine pw_iconst (v := (1 : Int32)) dX6_takeDigits_90 (by decide) ?_
    refine pw_puti dX6_takeDigits_91 fp_X6_54 ly_33 rfl ?_
    exact pw_return dX6_takeDigits_94 rfl ⟨rfl, h⟩
  · have h := h.2 hc
    refine pw_iconst (v := (2 : Int32)) dX6_takeDigits_86 (by decide) ?_
    refine pw_goto (tgt := 91) dX6_takeDigits_87 (by decide) ?_
    refine pw_puti dX6_takeDigits_91 fp_X6_54 ly_33 rfl ?_
    exact pw_return dX6_takeDigits_94 rfl ⟨rfl, h⟩
def lp_X6_takeDigits_20 (Q : Int32 → GS → Prop)  : Nat → Int32 → GS → Prop
  | 0, _, _ => False
  | n + 1, x1, G => (((G 33 4) ≤ x1 → bk_X6_takeDigits_72 Q G) ∧ (¬ (G 33 4) ≤ x1 → wp_X6_signAt x1 G (fun r3 G4 => wp_X6_isDigit r3 G4 (fun r5 G6 => ((r5 = 0 → bk_X6_takeDigits_72 Q G6) ∧ (¬ r5 = 0 → wp_X6_signAt x1 G6 (fun r7 G8 => lp_X6_takeDigits_20 Q n (x1 + 1) (gu_ (gu_ G8 33 6 ((((G6 33 6) * (10 : Int32)) + r7) - (48 : Int32))) 33 8 (x1 + (1 : Int32))))))))))
set_option maxRecDepth 100000 in
set_option maxHeartbeats 4000000 in
theorem t_X6_takeDigits_20 {E : EV} (hE : EI_ E) (Q : Int32 → GS → Prop)  : ∀ (n : Nat) (x1 : Int32) (G : GS), lp_X6_takeDigits_20 Q n x1 G → PW_ E mi_X6_takeDigits (rm_ 2) 0 0 20 [(0, .ref (ev_ad E 33)), (1, .int x1)] [] G (qv_ Q) := by
  intro n
  induction n with
  | zero => intro x1 G h; exact h.elim
  | succ n ih =>
    intro x1 G h
    refine pw_iload_n dX6_takeDigits_20 rfl 1 rfl ?_
    refine pw_aload_n dX6_takeDigits_21 rfl 0 rfl ?_
    refine pw_geti (v := G 33 4) dX6_takeDigits_22 fa_X6_30 ly_33 rfl rfl ?_
    refine pw_icmp_ge (tgt := 72) dX6_takeDigits_25 (by decide) (fun hc => ?_) (fun hc => ?_)
    · have h := h.1 hc
      refine pw_loc (lv' := [(0, .ref (ev_ad E 33))]) [0] rfl ?_
      exact t_X6_takeDigits_72 hE Q h
    · have h := h.2 hc
      refine pw_aload_n dX6_takeDigits_28 rfl 0 rfl ?_
      refine pw_iload_n dX6_takeDigits_29 rfl 1 rfl ?_
      refine pw_callV (As := [.int x1]) (rest := []) (s_X6_signAt hE h) dX6_takeDigits_30 ly_33 rfl (Or.inl ml_X6_126) cm_X6_signAt rfl (rm_ok (by decide)) rm_0 (Nat.le_of_ble_eq_true rfl) ?_
      rintro _ G4 ⟨r3, rfl, h⟩
      refine pw_callS (As := [.int r3]) (rest := []) (s_X6_isDigit hE h) dX6_takeDigits_33 ml_X6_138 cs_X6_isDigit rfl (rm_ok (by decide)) rm_0 (Nat.le_of_ble_eq_true rfl) ?_
      rintro _ G6 ⟨r5, rfl, h⟩
      refine pw_if_eq (tgt := 72) dX6_takeDigits_36 (by decide) (fun hc => ?_) (fun hc => ?_)
      · have h := h.1 hc
        refine pw_loc (lv' := [(0, .ref (ev_ad E 33))]) [0] rfl ?_
        exact t_X6_takeDigits_72 hE Q h
      · have h := h.2 hc
        refine pw_aload_n dX6_takeDigits_39 rfl 0 rfl ?_
        refine pw_aload_n dX6_takeDigits_40 rfl 0 rfl ?_
        refine pw_geti (v := G6 33 6) dX6_takeDigits_41 fa_X6_106 ly_33 rfl rfl ?_
        refine pw_bipush (v := (10 : Int32)) dX6_takeDigits_44 (by decide) ?_
        refine pw_imul dX6_takeDigits_46 ?_
        refine pw_aload_n dX6_takeDigits_47 rfl 0 rfl ?_
        refine pw_iload_n dX6_takeDigits_48 rfl 1 rfl ?_
        refine pw_callV (As := [.int x1]) (rest := [.int ((G6 33 6) * (10 : Int32)), .ref (ev_ad E 33)]) (s_X6_signAt hE h) dX6_takeDigits_49 ly_33 rfl (Or.inl ml_X6_126) cm_X6_signAt rfl (rm_ok (by decide)) rm_0 (Nat.le_of_ble_eq_true rfl) ?_
        rintro _ G8 ⟨r7, rfl, h⟩
        refine pw_iadd dX6_takeDigits_52 ?_
        refine pw_bipush (v := (48 : Int32)) dX6_takeDigits_53 (by decide) ?_
        refine pw_isub dX6_takeDigits_55 ?_
        refine pw_puti dX6_takeDigits_56 fp_X6_106 ly_33 rfl ?_
        refine pw_aload_n dX6_takeDigits_59 rfl 0 rfl ?_
        refine pw_iload_n dX6_takeDigits_60 rfl 1 rfl ?_
        refine pw_iconst (v := (1 : Int32)) dX6_takeDigits_61 (by decide) ?_
        refine pw_iadd dX6_takeDigits_62 ?_
        refine pw_puti dX6_takeDigits_63 fp_X6_33 ly_33 rfl ?_
        refine pw_iinc (k := 1) (v := x1 + 1) (lv' := [(1, .int (x1 + 1)), (0, .ref (ev_ad E 33))]) dX6_takeDigits_66 rfl rfl (by decide) rfl ?_
        refine pw_goto (tgt := 20) dX6_takeDigits_69 (by decide) ?_
        refine pw_loc (lv' := [(0, .ref (ev_ad E 33)), (1, .int (x1 + 1))]) [1, 0] rfl ?_
        exact ih _ _ h
def wp_X6_takeDigits  (G : GS) (Q : Int32 → GS → Prop) : Prop := wp_X6_signAt (G 33 7) G (fun r1 G2 => (∃ kf, lp_X6_takeDigits_20 Q kf (G2 33 8) (gu_ G2 33 6 (r1 - (48 : Int32)))))
set_option maxRecDepth 100000 in
set_option maxHeartbeats 4000000 in
theorem s_X6_takeDigits {E : EV} (hE : EI_ E)  {G : GS} {Q : Int32 → GS → Prop} (h : wp_X6_takeDigits  G Q) : PMet E mi_X6_takeDigits 2 [.ref (ev_ad E 33)] G (qv_ Q) := by
  refine pm_of hE (by decide) (Nat.le_of_ble_eq_true rfl) ?_
  refine pw_loc (lv' := [(0, .ref (ev_ad E 33))]) [0] rfl ?_
  refine pw_aload_n dX6_takeDigits_0 rfl 0 rfl ?_
  refine pw_aload_n dX6_takeDigits_1 rfl 0 rfl ?_
  refine pw_aload_n dX6_takeDigits_2 rfl 0 rfl ?_
  refine pw_geti (v := G 33 7) dX6_takeDigits_3 fa_X6_61 ly_33 rfl rfl ?_
  refine pw_callV (As := [.int (G 33 7)]) (rest := [.ref (ev_ad E 33)]) (s_X6_signAt hE h) dX6_takeDigits_6 ly_33 rfl (Or.inl ml_X6_126) cm_X6_signAt rfl (rm_ok (by decide)) rm_0 (Nat.le_of_ble_eq_true rfl) ?_
  rintro _ G2 ⟨r1, rfl, h⟩
  refine pw_bipush (v := (48 : Int32)) dX6_takeDigits_9 (by decide) ?_
  refine pw_isub dX6_takeDigits_11 ?_
  refine pw_puti dX6_takeDigits_12 fp_X6_106 ly_33 rfl ?_
  refine pw_aload_n dX6_takeDigits_15 rfl 0 rfl ?_
  refine pw_geti (v := G2 33 8) dX6_takeDigits_16 fa_X6_33 ly_33 rfl rfl ?_
  refine pw_istore_n (lv' := [(1, .int (G2 33 8)), (0, .ref (ev_ad E 33))]) dX6_takeDigits_19 rfl (by decide) rfl ?_
  refine pw_loc (lv' := [(0, .ref (ev_ad E 33)), (1, .int (G2 33 8))]) [1, 0] rfl ?_
  obtain ⟨kf, h⟩ := h
  exact t_X6_takeDigits_20 hE Q kf _ _ h
def wp_X6_nameOf (a0 : Int32) (G : GS) (Q : Nat → GS → Prop) : Prop := ((a0 = 200 → Q 0 G) ∧ (a0 = 201 → Q 1 G) ∧ (a0 = 202 → Q 2 G) ∧ (a0 = 203 → Q 3 G) ∧ (a0 = 204 → Q 4 G) ∧ (a0 = 205 → Q 5 G) ∧ (a0 = 206 → Q 6 G) ∧ (a0 = 207 → Q 7 G) ∧ (a0 = 208 → Q 8 G) ∧ (a0 = 209 → Q 9 G) ∧ (a0 = 210 → Q 10 G) ∧ (a0 = 211 → Q 11 G) ∧ (a0 = 212 → Q 12 G) ∧ (a0 = 213 → Q 13 G) ∧ (a0 = 214 → Q 14 G) ∧ (¬ a0 = 200 → ¬ a0 = 201 → ¬ a0 = 202 → ¬ a0 = 203 → ¬ a0 = 204 → ¬ a0 = 205 → ¬ a0 = 206 → ¬ a0 = 207 → ¬ a0 = 208 → ¬ a0 = 209 → ¬ a0 = 210 → ¬ a0 = 211 → ¬ a0 = 212 → ¬ a0 = 213 → ¬ a0 = 214 → Q 15 G))
set_option maxRecDepth 100000 in
set_option maxHeartbeats 4000000 in
theorem s_X6_nameOf {E : EV} (hE : EI_ E) {a0 : Int32} {G : GS} {Q : Nat → GS → Prop} (h : wp_X6_nameOf a0 G Q) : PMet E mi_X6_nameOf 1 [.int a0] G (qs_ E Q) := by
  refine pm_of hE (by decide) (Nat.le_of_ble_eq_true rfl) ?_
  refine pw_loc (lv' := [(0, .int a0)]) [0] rfl ?_
  refine pw_iload_n dX6_nameOf_0 rfl 0 rfl ?_
  by_cases hs0 : a0 = (200 : Int32)
  · have h := h.1 hs0
    refine pw_tswIn (tgt := 76) (off := 75) (200 : Int32) dX6_nameOf_1 hs0 (by decide) (by decide) (by decide +kernel) (by decide) ?_
    refine pw_ldcS 0 (by decide) dX6_nameOf_76 rfl rfl ?_
    exact pw_areturn dX6_nameOf_78 rfl ⟨_, rfl, h⟩
  by_cases hs1 : a0 = (201 : Int32)
  · have h := h.2.1 hs1
    refine pw_tswIn (tgt := 79) (off := 78) (201 : Int32) dX6_nameOf_1 hs1 (by decide) (by decide) (by decide +kernel) (by decide) ?_
    refine pw_ldcS 1 (by decide) dX6_nameOf_79 rfl rfl ?_
    exact pw_areturn dX6_nameOf_81 rfl ⟨_, rfl, h⟩
  by_cases hs2 : a0 = (202 : Int32)
  · have h := h.2.2.1 hs2
    refine pw_tswIn (tgt := 82) (off := 81) (202 : Int32) dX6_nameOf_1 hs2 (by decide) (by decide) (by decide +kernel) (by decide) ?_
    refine pw_ldcS 2 (by decide) dX6_nameOf_82 rfl rfl ?_
    exact pw_areturn dX6_nameOf_84 rfl ⟨_, rfl, h⟩
  by_cases hs3 : a0 = (203 : Int32)
  · have h := h.2.2.2.1 hs3
    refine pw_tswIn (tgt := 85) (off := 84) (203 : Int32) dX6_nameOf_1 hs3 (by decide) (by decide) (by decide +kernel) (by decide) ?_
    refine pw_ldcS 3 (by decide) dX6_nameOf_85 rfl rfl ?_
    exact pw_areturn dX6_nameOf_87 rfl ⟨_, rfl, h⟩
  by_cases hs4 : a0 = (204 : Int32)
  · have h := h.2.2.2.2.1 hs4
    refine pw_tswIn (tgt := 88) (off := 87) (204 : Int32) dX6_nameOf_1 hs4 (by decide) (by decide) (by decide +kernel) (by decide) ?_
    refine pw_ldcS 4 (by decide) dX6_nameOf_88 rfl rfl ?_
    exact pw_areturn dX6_nameOf_90 rfl ⟨_, rfl, h⟩
  by_cases hs5 : a0 = (205 : Int32)
  · have h := h.2.2.2.2.2.1 hs5
    refine pw_tswIn (tgt := 91) (off := 90) (205 : Int32) dX6_nameOf_1 hs5 (by decide) (by decide) (by decide +kernel) (by decide) ?_
    refine pw_ldcS 5 (by decide) dX6_nameOf_91 rfl rfl ?_
    exact pw_areturn dX6_nameOf_93 rfl ⟨_, rfl, h⟩
  by_cases hs6 : a0 = (206 : Int32)
  · have h := h.2.2.2.2.2.2.1 hs6
    refine pw_tswIn (tgt := 94) (off := 93) (206 : Int32) dX6_nameOf_1 hs6 (by decide) (by decide) (by decide +kernel) (by decide) ?_
    refine pw_ldcS 6 (by decide) dX6_nameOf_94 rfl rfl ?_
    exact pw_areturn dX6_nameOf_96 rfl ⟨_, rfl, h⟩
  by_cases hs7 : a0 = (207 : Int32)
  · have h := h.2.2.2.2.2.2.2.1 hs7
    refine pw_tswIn (tgt := 97) (off := 96) (207 : Int32) dX6_nameOf_1 hs7 (by decide) (by decide) (by decide +kernel) (by decide) ?_
    refine pw_ldcS 7 (by decide) dX6_nameOf_97 rfl rfl ?_
    exact pw_areturn dX6_nameOf_99 rfl ⟨_, rfl, h⟩
  by_cases hs8 : a0 = (208 : Int32)
  · have h := h.2.2.2.2.2.2.2.2.1 hs8
    refine pw_tswIn (tgt := 100) (off := 99) (208 : Int32) dX6_nameOf_1 hs8 (by decide) (by decide) (by decide +kernel) (by decide) ?_
    refine pw_ldcS 8 (by decide) dX6_nameOf_100 rfl rfl ?_
    exact pw_areturn dX6_nameOf_102 rfl ⟨_, rfl, h⟩
  by_cases hs9 : a0 = (209 : Int32)
  · have h := h.2.2.2.2.2.2.2.2.2.1 hs9
    refine pw_tswIn (tgt := 103) (off := 102) (209 : Int32) dX6_nameOf_1 hs9 (by decide) (by decide) (by decide +kernel) (by decide) ?_
    refine pw_ldcS 9 (by decide) dX6_nameOf_103 rfl rfl ?_
    exact pw_areturn dX6_nameOf_105 rfl ⟨_, rfl, h⟩
  by_cases hs10 : a0 = (210 : Int32)
  · have h := h.2.2.2.2.2.2.2.2.2.2.1 hs10
    refine pw_tswIn (tgt := 106) (off := 105) (210 : Int32) dX6_nameOf_1 hs10 (by decide) (by decide) (by decide +kernel) (by decide) ?_
    refine pw_ldcS 10 (by decide) dX6_nameOf_106 rfl rfl ?_
    exact pw_areturn dX6_nameOf_108 rfl ⟨_, rfl, h⟩
  by_cases hs11 : a0 = (211 : Int32)
  · have h := h.2.2.2.2.2.2.2.2.2.2.2.1 hs11
    refine pw_tswIn (tgt := 109) (off := 108) (211 : Int32) dX6_nameOf_1 hs11 (by decide) (by decide) (by decide +kernel) (by decide) ?_
    refine pw_ldcS 11 (by decide) dX6_nameOf_109 rfl rfl ?_
    exact pw_areturn dX6_nameOf_111 rfl ⟨_, rfl, h⟩
  by_cases hs12 : a0 = (212 : Int32)
  · have h := h.2.2.2.2.2.2.2.2.2.2.2.2.1 hs12
    refine pw_tswIn (tgt := 112) (off := 111) (212 : Int32) dX6_nameOf_1 hs12 (by decide) (by decide) (by decide +kernel) (by decide) ?_
    refine pw_ldcS 12 (by decide) dX6_nameOf_112 rfl rfl ?_
    exact pw_areturn dX6_nameOf_114 rfl ⟨_, rfl, h⟩
  by_cases hs13 : a0 = (213 : Int32)
  · have h := h.2.2.2.2.2.2.2.2.2.2.2.2.2.1 hs13
    refine pw_tswIn (tgt := 115) (off := 114) (213 : Int32) dX6_nameOf_1 hs13 (by decide) (by decide) (by decide +kernel) (by decide) ?_
    refine pw_ldcS 13 (by decide) dX6_nameOf_115 rfl rfl ?_
    exact pw_areturn dX6_nameOf_117 rfl ⟨_, rfl, h⟩
  by_cases hs14 : a0 = (214 : Int32)
  · have h := h.2.2.2.2.2.2.2.2.2.2.2.2.2.2.1 hs14
    refine pw_tswIn (tgt := 118) (off := 117) (214 : Int32) dX6_nameOf_1 hs14 (by decide) (by decide) (by decide +kernel) (by decide) ?_
    refine pw_ldcS 14 (by decide) dX6_nameOf_118 rfl rfl ?_
    exact pw_areturn dX6_nameOf_120 rfl ⟨_, rfl, h⟩
  have h := h.2.2.2.2.2.2.2.2.2.2.2.2.2.2.2 hs0 hs1 hs2 hs3 hs4 hs5 hs6 hs7 hs8 hs9 hs10 hs11 hs12 hs13 hs14
  refine pw_tswOut (tgt := 121) dX6_nameOf_1 (by have := lv_neT hs0 (show (200 : Int32).toInt = 200 from by decide); have := lv_neT hs1 (show (201 : Int32).toInt = 201 from by decide); have := lv_neT hs2 (show (202 : Int32).toInt = 202 from by decide); have := lv_neT hs3 (show (203 : Int32).toInt = 203 from by decide); have := lv_neT hs4 (show (204 : Int32).toInt = 204 from by decide); have := lv_neT hs5 (show (205 : Int32).toInt = 205 from by decide); have := lv_neT hs6 (show (206 : Int32).toInt = 206 from by decide); have := lv_neT hs7 (show (207 : Int32).toInt = 207 from by decide); have := lv_neT hs8 (show (208 : Int32).toInt = 208 from by decide); have := lv_neT hs9 (show (209 : Int32).toInt = 209 from by decide); have := lv_neT hs10 (show (210 : Int32).toInt = 210 from by decide); have := lv_neT hs11 (show (211 : Int32).toInt = 211 from by decide); have := lv_neT hs12 (show (212 : Int32).toInt = 212 from by decide); have := lv_neT hs13 (show (213 : Int32).toInt = 213 from by decide); have := lv_neT hs14 (show (214 : Int32).toInt = 214 from by decide);  omega) (by decide) ?_
  refine pw_ldcS 15 (by decide) dX6_nameOf_121 rfl rfl ?_
  exact pw_areturn dX6_nameOf_123 rfl ⟨_, rfl, h⟩
def lp_X6_isSpelt_20 (Q : Int32 → GS → Prop)  : Nat → Nat → Int32 → GS → Prop
  | 0, _, _, _ => False
  | n + 1, x1, x2, G => wp_slen x1 G (fun r3 G4 => ((r3 ≤ x2 → Q (1 : Int32) G4) ∧ (¬ r3 ≤ x2 → wp_schar x1 x2 G4 (fun r5 G6 => wp_X6_signAt ((G6 33 7) + x2) G6 (fun r7 G8 => ((r5 = r7 → lp_X6_isSpelt_20 Q n x1 (x2 + 1) G8) ∧ (¬ r5 = r7 → Q (0 : Int32) G8)))))))
set_option maxRecDepth 100000 in
set_option maxHeartbeats 4000000 in
theorem t_X6_isSpelt_20 {E : EV} (hE : EI_ E) (Q : Int32 → GS → Prop)  : ∀ (n : Nat) (x1 : Nat) (x2 : Int32) (G : GS), lp_X6_isSpelt_20 Q n x1 x2 G → PW_ E mi_X6_isSpelt (rm_ 6) 0 0 20 [(0, .ref (ev_ad E 33)), (1, .ref (ev_aK E x1)), (2, .int x2)] [] G (qi_ Q) := by
  intro n
  induction n with
  | zero => intro x1 x2 G h; exact h.elim
  | succ n ih =>
    intro x1 x2 G h
    refine pw_iload_n dX6_isSpelt_20 rfl 2 rfl ?_
    refine pw_aload_n dX6_isSpelt_21 rfl 1 rfl ?_
    refine pw_callT (As := []) (rest := [.int x2]) h.1 (s_slen hE h) dX6_isSpelt_22 rfl ml_X6_155 cm_J0_length_8abf5 rfl (rm_ok (by decide)) rm_0 (Nat.le_of_ble_eq_true rfl) ?_
    rintro _ G4 ⟨r3, rfl, h⟩
    refine pw_icmp_ge (tgt := 54) dX6_isSpelt_25 (by decide) (fun hc => ?_) (fun hc => ?_)
    · have h := h.1 hc
      refine pw_iconst (v := (1 : Int32)) dX6_isSpelt_54 (by decide) ?_
      exact pw_ireturn dX6_isSpelt_55 rfl rfl ⟨_, rfl, h⟩
    · have h := h.2 hc
      refine pw_aload_n dX6_isSpelt_28 rfl 1 rfl ?_
      refine pw_iload_n dX6_isSpelt_29 rfl 2 rfl ?_
      refine pw_callT (As := [.int x2]) (rest := []) h.1 (s_schar hE h) dX6_isSpelt_30 rfl ml_X6_160 cm_J0_charAt_5068e rfl (rm_ok (by decide)) rm_0 (Nat.le_of_ble_eq_true rfl) ?_
      rintro _ G6 ⟨r5, rfl, h⟩
      refine pw_aload_n dX6_isSpelt_33 rfl 0 rfl ?_
      refine pw_aload_n dX6_isSpelt_34 rfl 0 rfl ?_
      refine pw_geti (v := G6 33 7) dX6_isSpelt_35 fa_X6_61 ly_33 rfl rfl ?_
      refine pw_iload_n dX6_isSpelt_38 rfl 2 rfl ?_
      refine pw_iadd dX6_isSpelt_39 ?_
      refine pw_callV (As := [.int ((G6 33 7) + x2)]) (rest := [.int r5]) (s_X6_signAt hE h) dX6_isSpelt_40 ly_33 rfl (Or.inl ml_X6_126) cm_X6_signAt rfl (rm_ok (by decide)) rm_0 (Nat.le_of_ble_eq_true rfl) ?_
      rintro _ G8 ⟨r7, rfl, h⟩
      refine pw_icmp_eq (tgt := 48) dX6_isSpelt_43 (by decide) (fun hc => ?_) (fun hc => ?_)
      · have h := h.1 hc
        refine pw_iinc (k := 2) (v := x2 + 1) (lv' := [(2, .int (x2 + 1)), (0, .ref (ev_ad E 33)), (1, .ref (ev_aK E x1))]) dX6_isSpelt_48 rfl rfl (by decide) rfl ?_
        refine pw_goto (tgt := 20) dX6_isSpelt_51 (by decide) ?_
        refine pw_loc (lv' := [(0, .ref (ev_ad E 33)), (1, .ref (ev_aK E x1)), (2, .int (x2 + 1))]) [1, 2, 0] rfl ?_
        exact ih _ _ _ h
      · have h := h.2 hc
        refine pw_iconst (v := (0 : Int32)) dX6_isSpelt_46 (by decide) ?_
        exact pw_ireturn dX6_isSpelt_47 rfl rfl ⟨_, rfl, h⟩
def wp_X6_isSpelt (a1 : Nat) (G : GS) (Q : Int32 → GS → Prop) : Prop := wp_slen a1 G (fun r1 G2 => ((r1 = ((G2 33 8) - (G2 33 7)) → (∃ kf, lp_X6_isSpelt_20 Q kf a1 (0 : Int32) G2)) ∧ (¬ r1 = ((G2 33 8) - (G2 33 7)) → Q (0 : Int32) G2)))
set_option maxRecDepth 100000 in
set_option maxHeartbeats 4000000 in
theorem s_X6_isSpelt {E : EV} (hE : EI_ E) {a1 : Nat} {G : GS} {Q : Int32 → GS → Prop} (h : wp_X6_isSpelt a1 G Q) : PMet E mi_X6_isSpelt 6 [.ref (ev_ad E 33), .ref (ev_aK E a1)] G (qi_ Q) := by
  refine pm_of hE (by decide) (Nat.le_of_ble_eq_true rfl) ?_
  refine pw_loc (lv' := [(0, .ref (ev_ad E 33)), (1, .ref (ev_aK E a1))]) [0, 1] rfl ?_
  refine pw_aload_n dX6_isSpelt_0 rfl 1 rfl ?_
  refine pw_callT (As := []) (rest := []) h.1 (s_slen hE h) dX6_isSpelt_1 rfl ml_X6_155 cm_J0_length_8abf5 rfl (rm_ok (by decide)) rm_0 (Nat.le_of_ble_eq_true rfl) ?_
  rintro _ G2 ⟨r1, rfl, h⟩
  refine pw_aload_n dX6_isSpelt_4 rfl 0 rfl ?_
  refine pw_geti (v := G2 33 8) dX6_isSpelt_5 fa_X6_33 ly_33 rfl rfl ?_
  refine pw_aload_n dX6_isSpelt_8 rfl 0 rfl ?_
  refine pw_geti (v := G2 33 7) dX6_isSpelt_9 fa_X6_61 ly_33 rfl rfl ?_
  refine pw_isub dX6_isSpelt_12 ?_
  refine pw_icmp_eq (tgt := 18) dX6_isSpelt_13 (by decide) (fun hc => ?_) (fun hc => ?_)
  · have h := h.1 hc
    refine pw_iconst (v := (0 : Int32)) dX6_isSpelt_18 (by decide) ?_
    refine pw_istore_n (lv' := [(2, .int (0 : Int32)), (0, .ref (ev_ad E 33)), (1, .ref (ev_aK E a1))]) dX6_isSpelt_19 rfl (by decide) rfl ?_
    refine pw_loc (lv' := [(0, .ref (ev_ad E 33)), (1, .ref (ev_aK E a1)), (2, .int (0 : Int32))]) [1, 2, 0] rfl ?_
    obtain ⟨kf, h⟩ := h
    exact t_X6_isSpelt_20 hE Q kf _ _ _ h
  · have h := h.2 hc
    refine pw_iconst (v := (0 : Int32)) dX6_isSpelt_16 (by decide) ?_
    exact pw_ireturn dX6_isSpelt_17 rfl rfl ⟨_, rfl, h⟩
def lp_X6_takeLetters_46 (Q : Int32 → GS → Prop)  : Nat → Int32 → GS → Prop
  | 0, _, _ => False
  | n + 1, x1, G => (((214 : Int32) < x1 → Q 0 G) ∧ (¬ (214 : Int32) < x1 → wp_X6_nameOf x1 G (fun r5 G6 => wp_X6_isSpelt r5 G6 (fun r7 G8 => ((r7 = 0 → lp_X6_takeLetters_46 Q n (x1 + 1) G8) ∧ (¬ r7 = 0 → lp_X6_takeLetters_46 Q n (x1 + 1) (gu_ G8 33 5 x1)))))))
set_option maxRecDepth 100000 in
set_option maxHeartbeats 4000000 in
theorem t_X6_takeLetters_46 {E : EV} (hE : EI_ E) (Q : Int32 → GS → Prop)  : ∀ (n : Nat) (x1 : Int32) (G : GS), lp_X6_takeLetters_46 Q n x1 G → PW_ E mi_X6_takeLetters (rm_ 7) 0 0 46 [(0, .ref (ev_ad E 33)), (1, .int x1)] [] G (qv_ Q) := by
  intro n
  induction n with
  | zero => intro x1 G h; exact h.elim
  | succ n ih =>
    intro x1 G h
    refine pw_iload_n dX6_takeLetters_46 rfl 1 rfl ?_
    refine pw_sipush (v := (214 : Int32)) dX6_takeLetters_47 (by decide) ?_
    refine pw_icmp_gt (tgt := 75) dX6_takeLetters_50 (by decide) (fun hc => ?_) (fun hc => ?_)
    · have h := h.1 hc
      exact pw_return dX6_takeLetters_75 rfl ⟨rfl, h⟩
    · have h := h.2 hc
      refine pw_aload_n dX6_takeLetters_53 rfl 0 rfl ?_
      refine pw_iload_n dX6_takeLetters_54 rfl 1 rfl ?_
      refine pw_callS (As := [.int x1]) (rest := [.ref (ev_ad E 33)]) (s_X6_nameOf hE h) dX6_takeLetters_55 ml_X6_147 cs_X6_nameOf rfl (rm_ok (by decide)) rm_0 (Nat.le_of_ble_eq_true rfl) ?_
      rintro _ G6 ⟨r5, rfl, h⟩
      refine pw_callV (As := [.ref (ev_aK E r5)]) (rest := []) (s_X6_isSpelt hE h) dX6_takeLetters_58 ly_33 rfl (Or.inl ml_X6_151) cm_X6_isSpelt rfl (rm_ok (by decide)) rm_0 (Nat.le_of_ble_eq_true rfl) ?_
      rintro _ G8 ⟨r7, rfl, h⟩
      refine pw_if_eq (tgt := 69) dX6_takeLetters_61 (by decide) (fun hc => ?_) (fun hc => ?_)
      · have h := h.1 hc
        refine pw_iinc (k := 1) (v := x1 + 1) (lv' := [(1, .int (x1 + 1)), (0, .ref (ev_ad E 33))]) dX6_takeLetters_69 rfl rfl (by decide) rfl ?_
        refine pw_goto (tgt := 46) dX6_takeLetters_72 (by decide) ?_
        refine pw_loc (lv' := [(0, .ref (ev_ad E 33)), (1, .int (x1 + 1))]) [1, 0] rfl ?_
        exact ih _ _ h
      · have h := h.2 hc
        refine pw_aload_n dX6_takeLetters_64 rfl 0 rfl ?_
        refine pw_iload_n dX6_takeLetters_65 rfl 1 rfl ?_
        refine pw_puti dX6_takeLetters_66 fp_X6_54 ly_33 rfl ?_
        refine pw_iinc (k := 1) (v := x1 + 1) (lv' := [(1, .int (x1 + 1)), (0, .ref (ev_ad E 33))]) dX6_takeLetters_69 rfl rfl (by decide) rfl ?_
        refine pw_goto (tgt := 46) dX6_takeLetters_72 (by decide) ?_
        refine pw_loc (lv' := [(0, .ref (ev_ad E 33)), (1, .int (x1 + 1))]) [1, 0] rfl ?_
        exact ih _ _ h
def lp_X6_takeLetters_5 (Q : Int32 → GS → Prop)  : Nat → Int32 → GS → Prop
  | 0, _, _ => False
  | n + 1, x1, G => (((G 33 4) ≤ x1 → (∃ kf, lp_X6_takeLetters_46 Q kf (200 : Int32) (gu_ G 33 5 (1 : Int32)))) ∧ (¬ (G 33 4) ≤ x1 → wp_X6_signAt x1 G (fun r1 G2 => wp_X6_isLetter r1 G2 (fun r3 G4 => ((r3 = 0 → (∃ kf, lp_X6_takeLetters_46 Q kf (200 : Int32) (gu_ G4 33 5 (1 : Int32)))) ∧ (¬ r3 = 0 → lp_X6_takeLetters_5 Q n (x1 + 1) (gu_ G4 33 8 (x1 + (1 : Int32)))))))))
set_option maxRecDepth 100000 in
set_option maxHeartbeats 4000000 in
theorem t_X6_takeLetters_5 {E : EV} (hE : EI_ E) (Q : Int32 → GS → Prop)  : ∀ (n : Nat) (x1 : Int32) (G : GS), lp_X6_takeLetters_5 Q n x1 G → PW_ E mi_X6_takeLetters (rm_ 7) 0 0 5 [(0, .ref (ev_ad E 33)), (1, .int x1)] [] G (qv_ Q) := by
  intro n
  induction n with
  | zero => intro x1 G h; exact h.elim
  | succ n ih =>
    intro x1 G h
    refine pw_iload_n dX6_takeLetters_5 rfl 1 rfl ?_
    refine pw_aload_n dX6_takeLetters_6 rfl 0 rfl ?_
    refine pw_geti (v := G 33 4) dX6_takeLetters_7 fa_X6_30 ly_33 rfl rfl ?_
    refine pw_icmp_ge (tgt := 37) dX6_takeLetters_10 (by decide) (fun hc => ?_) (fun hc => ?_)
    · have h := h.1 hc
      refine pw_aload_n dX6_takeLetters_37 rfl 0 rfl ?_
      refine pw_iconst (v := (1 : Int32)) dX6_takeLetters_38 (by decide) ?_
      refine pw_puti dX6_takeLetters_39 fp_X6_54 ly_33 rfl ?_
      refine pw_sipush (v := (200 : Int32)) dX6_takeLetters_42 (by decide) ?_
      refine pw_istore_n (lv' := [(1, .int (200 : Int32)), (0, .ref (ev_ad E 33))]) dX6_takeLetters_45 rfl (by decide) rfl ?_
      refine pw_loc (lv' := [(0, .ref (ev_ad E 33)), (1, .int (200 : Int32))]) [1, 0] rfl ?_
      obtain ⟨kf, h⟩ := h
      exact t_X6_takeLetters_46 hE Q kf _ _ h
    · have h := h.2 hc
      refine pw_aload_n dX6_takeLetters_13 rfl 0 rfl ?_
      refine pw_iload_n dX6_takeLetters_14 rfl 1 rfl ?_
      refine pw_callV (As := [.int x1]) (rest := []) (s_X6_signAt hE h) dX6_takeLetters_15 ly_33 rfl (Or.inl ml_X6_126) cm_X6_signAt rfl (rm_ok (by decide)) rm_0 (Nat.le_of_ble_eq_true rfl) ?_
      rintro _ G2 ⟨r1, rfl, h⟩
      refine pw_callS (As := [.int r1]) (rest := []) (s_X6_isLetter hE h) dX6_takeLetters_18 ml_X6_132 cs_X6_isLetter rfl (rm_ok (by decide)) rm_0 (Nat.le_of_ble_eq_true rfl) ?_
      rintro _ G4 ⟨r3, rfl, h⟩
      refine pw_if_eq (tgt := 37) dX6_takeLetters_21 (by decide) (fun hc => ?_) (fun hc => ?_)
      · have h := h.1 hc
        refine pw_aload_n dX6_takeLetters_37 rfl 0 rfl ?_
        refine pw_iconst (v := (1 : Int32)) dX6_takeLetters_38 (by decide) ?_
        refine pw_puti dX6_takeLetters_39 fp_X6_54 ly_33 rfl ?_
        refine pw_sipush (v := (200 : Int32)) dX6_takeLetters_42 (by decide) ?_
        refine pw_istore_n (lv' := [(1, .int (200 : Int32)), (0, .ref (ev_ad E 33))]) dX6_takeLetters_45 rfl (by decide) rfl ?_
        refine pw_loc (lv' := [(0, .ref (ev_ad E 33)), (1, .int (200 : Int32))]) [1, 0] rfl ?_
        obtain ⟨kf, h⟩ := h
        exact t_X6_takeLetters_46 hE Q kf _ _ h
      · have h := h.2 hc
        refine pw_aload_n dX6_takeLetters_24 rfl 0 rfl ?_
        refine pw_iload_n dX6_takeLetters_25 rfl 1 rfl ?_
        refine pw_iconst (v := (1 : Int32)) dX6_takeLetters_26 (by decide) ?_
        refine pw_iadd dX6_takeLetters_27 ?_
        refine pw_puti dX6_takeLetters_28 fp_X6_33 ly_33 rfl ?_
        refine pw_iinc (k := 1) (v := x1 + 1) (lv' := [(1, .int (x1 + 1)), (0, .ref (ev_ad E 33))]) dX6_takeLetters_31 rfl rfl (by decide) rfl ?_
        refine pw_goto (tgt := 5) dX6_takeLetters_34 (by decide) ?_
        refine pw_loc (lv' := [(0, .ref (ev_ad E 33)), (1, .int (x1 + 1))]) [1, 0] rfl ?_
        exact ih _ _ h
def wp_X6_takeLetters  (G : GS) (Q : Int32 → GS → Prop) : Prop := (∃ kf, lp_X6_takeLetters_5 Q kf (G 33 8) G)
set_option maxRecDepth 100000 in
set_option maxHeartbeats 4000000 in
theorem s_X6_takeLetters {E : EV} (hE : EI_ E)  {G : GS} {Q : Int32 → GS → Prop} (h : wp_X6_takeLetters  G Q) : PMet E mi_X6_takeLetters 7 [.ref (ev_ad E 33)] G (qv_ Q) := by
  refine pm_of hE (by decide) (Nat.le_of_ble_eq_true rfl) ?_
  refine pw_loc (lv' := [(0, .ref (ev_ad E 33))]) [0] rfl ?_
  refine pw_aload_n dX6_takeLetters_0 rfl 0 rfl ?_
  refine pw_geti (v := G 33 8) dX6_takeLetters_1 fa_X6_33 ly_33 rfl rfl ?_
  refine pw_istore_n (lv' := [(1, .int (G 33 8)), (0, .ref (ev_ad E 33))]) dX6_takeLetters_4 rfl (by decide) rfl ?_
  refine pw_loc (lv' := [(0, .ref (ev_ad E 33)), (1, .int (G 33 8))]) [1, 0] rfl ?_
  obtain ⟨kf, h⟩ := h
  exact t_X6_takeLetters_5 hE Q kf _ _ h
