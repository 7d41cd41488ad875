def wp_X9_deaf (a1 : Int32) (a2 : Int32) (G : GS) (Q : Int32 → GS → Prop) : Prop := ((a1 = a2 → Q (-1000 : Int32) G) ∧ (¬ a1 = a2 → wp_X8_isPerson a1 G (fun r1 G2 => ((r1 = 0 → Q (-1000 : Int32) G2) ∧ (¬ r1 = 0 → wp_X8_isPerson a2 G2 (fun r3 G4 => ((¬ r3 = 0 → wp_X2_couplesHeard a1 (G4 1 4) G4 (fun r5 G6 => wp_X2_couplesHeard a1 ((G4 1 4) &&& (((1 : Int32) <<< (a2 &&& 31)) ^^^ (-1 : Int32))) G6 (fun r7 G8 => Q (r5 - r7) G8))) ∧ (r3 = 0 → Q (-1000 : Int32) G4))))))))
set_option maxRecDepth 100000 in
set_option maxHeartbeats 4000000 in
theorem s_X9_deaf {E : EV} (hE : EI_ E) {a1 : Int32} {a2 : Int32} {G : GS} {Q : Int32 → GS → Prop} (h : wp_X9_deaf a1 a2 G Q) : PMet E mi_X9_deaf 6 [.ref (ev_ad E 0), .int a1, .int a2] G (qi_ Q) := by
  refine pm_of hE (by decide) (Nat.le_of_ble_eq_true rfl) ?_
  refine pw_loc (lv' := [(0, .ref (ev_ad E 0)), (1, .int a1), (2, .int a2)]) [0, 1, 2] rfl ?_
  refine pw_iload_n dX9_deaf_0 rfl 1 rfl ?_
  refine pw_iload_n dX9_deaf_1 rfl 2 rfl ?_
  refine pw_icmp_eq (tgt := 27) dX9_deaf_2 (by decide) (fun hc => ?_) (fun hc => ?_)
  · have h := h.1 hc
    refine pw_sipush (v := (-1000 : Int32)) dX9_deaf_27 (by decide) ?_
    exact pw_ireturn dX9_deaf_30 rfl rfl ⟨_, rfl, h⟩
  · have h := h.2 hc
    refine pw_aload_n dX9_deaf_5 rfl 0 rfl ?_
    refine pw_getr (q := 1) dX9_deaf_6 fa_X9_10 ly_0 rfl ?_
    refine pw_iload_n dX9_deaf_9 rfl 1 rfl ?_
    refine pw_callV (As := [.int a1]) (rest := []) (s_X8_isPerson hE h) dX9_deaf_10 ly_1 rfl (Or.inr mn_X9_95) cm_X8_isPerson rfl (rm_ok (by decide)) rm_0 (Nat.le_of_ble_eq_true rfl) ?_
    rintro _ G2 ⟨r1, rfl, h⟩
    refine pw_if_eq (tgt := 27) dX9_deaf_13 (by decide) (fun hc => ?_) (fun hc => ?_)
    · have h := h.1 hc
      refine pw_sipush (v := (-1000 : Int32)) dX9_deaf_27 (by decide) ?_
      exact pw_ireturn dX9_deaf_30 rfl rfl ⟨_, rfl, h⟩
    · have h := h.2 hc
      refine pw_aload_n dX9_deaf_16 rfl 0 rfl ?_
      refine pw_getr (q := 1) dX9_deaf_17 fa_X9_10 ly_0 rfl ?_
      refine pw_iload_n dX9_deaf_20 rfl 2 rfl ?_
      refine pw_callV (As := [.int a2]) (rest := []) (s_X8_isPerson hE h) dX9_deaf_21 ly_1 rfl (Or.inr mn_X9_95) cm_X8_isPerson rfl (rm_ok (by decide)) rm_0 (Nat.le_of_ble_eq_true rfl) ?_
      rintro _ G4 ⟨r3, rfl, h⟩
      refine pw_if_ne (tgt := 31) dX9_deaf_24 (by decide) (fun hc => ?_) (fun hc => ?_)
      · have h := h.1 hc
        refine pw_aload_n dX9_deaf_31 rfl 0 rfl ?_
        refine pw_getr (q := 1) dX9_deaf_32 fa_X9_10 ly_0 rfl ?_
        refine pw_geti (v := G4 1 4) dX9_deaf_35 fa_X9_171 ly_1 rfl rfl ?_
        refine pw_iconst (v := (1 : Int32)) dX9_deaf_38 (by decide) ?_
        refine pw_iload_n dX9_deaf_39 rfl 2 rfl ?_
        refine pw_ishl dX9_deaf_40 ?_
        refine pw_iconst (v := (-1 : Int32)) dX9_deaf_41 (by decide) ?_
        refine pw_ixor dX9_deaf_42 ?_
        refine pw_iand dX9_deaf_43 ?_
        refine pw_istore_n (lv' := [(3, .int ((G4 1 4) &&& (((1 : Int32) <<< (a2 &&& 31)) ^^^ (-1 : Int32)))), (0, .ref (ev_ad E 0)), (1, .int a1), (2, .int a2)]) dX9_deaf_44 rfl (by decide) rfl ?_
        refine pw_aload_n dX9_deaf_45 rfl 1 rfl ?_
        refine pw_getr (q := 38) dX9_deaf_46 fa_X9_50 ly_0 rfl ?_
        refine pw_aload_n dX9_deaf_49 rfl 1 rfl ?_
        refine pw_getr (q := 1) dX9_deaf_50 fa_X9_10 ly_0 rfl ?_
        refine pw_iload_n dX9_deaf_53 rfl 2 rfl ?_
        refine pw_aload_n dX9_deaf_54 rfl 1 rfl ?_
        refine pw_getr (q := 1) dX9_deaf_55 fa_X9_10 ly_0 rfl ?_
        refine pw_geti (v := G4 1 4) dX9_deaf_58 fa_X9_171 ly_1 rfl rfl ?_
        refine pw_callV (As := [.ref (ev_ad E 1), .int a1, .int (G4 1 4)]) (rest := []) (s_X2_couplesHeard hE h) dX9_deaf_61 ly_38 rfl (Or.inr mn_X9_177) cm_X2_couplesHeard rfl (rm_ok (by decide)) rm_0 (Nat.le_of_ble_eq_true rfl) ?_
        rintro _ G6 ⟨r5, rfl, h⟩
        refine pw_aload_n dX9_deaf_64 rfl 1 rfl ?_
        refine pw_getr (q := 38) dX9_deaf_65 fa_X9_50 ly_0 rfl ?_
        refine pw_aload_n dX9_deaf_68 rfl 1 rfl ?_
        refine pw_getr (q := 1) dX9_deaf_69 fa_X9_10 ly_0 rfl ?_
        refine pw_iload_n dX9_deaf_72 rfl 2 rfl ?_
        refine pw_iload_n dX9_deaf_73 rfl 0 rfl ?_
        refine pw_callV (As := [.ref (ev_ad E 1), .int a1, .int ((G4 1 4) &&& (((1 : Int32) <<< (a2 &&& 31)) ^^^ (-1 : Int32)))]) (rest := [.int r5]) (s_X2_couplesHeard hE h) dX9_deaf_74 ly_38 rfl (Or.inr mn_X9_177) cm_X2_couplesHeard rfl (rm_ok (by decide)) rm_0 (Nat.le_of_ble_eq_true rfl) ?_
        rintro _ G8 ⟨r7, rfl, h⟩
        refine pw_isub dX9_deaf_77 ?_
        exact pw_ireturn dX9_deaf_78 rfl rfl ⟨_, rfl, h⟩
      · have h := h.2 hc
        refine pw_sipush (v := (-1000 : Int32)) dX9_deaf_27 (by decide) ?_
        exact pw_ireturn dX9_deaf_30 rfl rfl ⟨_, rfl, h⟩
def wp_X0_read (a1 : Int32) (a2 : Int32) (G : GS) (Q : Int32 → GS → Prop) : Prop := ((a1 < 0 → Q (-1 : Int32) G) ∧ (¬ a1 < 0 → (((G 12 0) ≤ a1 → Q (-1 : Int32) G) ∧ (¬ (G 12 0) ≤ a1 → ((a2 < 0 → Q (-1 : Int32) G) ∧ (¬ a2 < 0 → ((a2 < (5 : Int32) → (vp_in ((a1 * (5 : Int32)) + a2) 500 ∧ Q (G 13 (((a1 * (5 : Int32)) + a2).toNatClampNeg)) G)) ∧ (¬ a2 < (5 : Int32) → Q (-1 : Int32) G))))))))
set_option maxRecDepth 100000 in
set_option maxHeartbeats 4000000 in
theorem s_X0_read {E : EV} (hE : EI_ E) {a1 : Int32} {a2 : Int32} {G : GS} {Q : Int32 → GS → Prop} (h : wp_X0_read a1 a2 G Q) : PMet E mi_X0_read 1 [.ref (ev_ad E 12), .int a1, .int a2] G (qi_ Q) := by
  refine pm_of hE (by decide) (Nat.le_of_ble_eq_true rfl) ?_
  refine pw_loc (lv' := [(0, .ref (ev_ad E 12)), (1, .int a1), (2, .int a2)]) [0, 1, 2] rfl ?_
  refine pw_iload_n dX0_read_0 rfl 1 rfl ?_
  refine pw_if_lt (tgt := 21) dX0_read_1 (by decide) (fun hc => ?_) (fun hc => ?_)
  · have h := h.1 hc
    refine pw_iconst (v := (-1 : Int32)) dX0_read_21 (by decide) ?_
    exact pw_ireturn dX0_read_22 rfl rfl ⟨_, rfl, h⟩
  · have h := h.2 hc
    refine pw_iload_n dX0_read_4 rfl 1 rfl ?_
    refine pw_aload_n dX0_read_5 rfl 0 rfl ?_
    refine pw_geti (v := G 12 0) dX0_read_6 fa_X0_15 ly_12 rfl rfl ?_
    refine pw_icmp_ge (tgt := 21) dX0_read_9 (by decide) (fun hc => ?_) (fun hc => ?_)
    · have h := h.1 hc
      refine pw_iconst (v := (-1 : Int32)) dX0_read_21 (by decide) ?_
      exact pw_ireturn dX0_read_22 rfl rfl ⟨_, rfl, h⟩
    · have h := h.2 hc
      refine pw_iload_n dX0_read_12 rfl 2 rfl ?_
      refine pw_if_lt (tgt := 21) dX0_read_13 (by decide) (fun hc => ?_) (fun hc => ?_)
      · have h := h.1 hc
        refine pw_iconst (v := (-1 : Int32)) dX0_read_21 (by decide) ?_
        exact pw_ireturn dX0_read_22 rfl rfl ⟨_, rfl, h⟩
      · have h := h.2 hc
        refine pw_iload_n dX0_read_16 rfl 2 rfl ?_
        refine pw_iconst (v := (5 : Int32)) dX0_read_17 (by decide) ?_
        refine pw_icmp_lt (tgt := 23) dX0_read_18 (by decide) (fun hc => ?_) (fun hc => ?_)
        · have h := h.1 hc
          refine pw_aload_n dX0_read_23 rfl 0 rfl ?_
          refine pw_getr (q := 13) dX0_read_24 fa_X0_9 ly_12 rfl ?_
          refine pw_iload_n dX0_read_27 rfl 1 rfl ?_
          refine pw_iconst (v := (5 : Int32)) dX0_read_28 (by decide) ?_
          refine pw_imul dX0_read_29 ?_
          refine pw_iload_n dX0_read_30 rfl 2 rfl ?_
          refine pw_iadd dX0_read_31 ?_
          obtain ⟨hv1, h⟩ := h
          refine pw_iald (v := G 13 (((a1 * (5 : Int32)) + a2).toNatClampNeg)) dX0_read_32 ly_13 hv1 rfl ?_
          exact pw_ireturn dX0_read_33 rfl rfl ⟨_, rfl, h⟩
        · have h := h.2 hc
          refine pw_iconst (v := (-1 : Int32)) dX0_read_21 (by decide) ?_
          exact pw_ireturn dX0_read_22 rfl rfl ⟨_, rfl, h⟩
def wp_X9_book (a1 : Int32) (a2 : Int32) (G : GS) (Q : Int32 → GS → Prop) : Prop := wp_X0_read a1 a2 G (fun r1 G2 => Q r1 G2)
set_option maxRecDepth 100000 in
set_option maxHeartbeats 4000000 in
theorem s_X9_book {E : EV} (hE : EI_ E) {a1 : Int32} {a2 : Int32} {G : GS} {Q : Int32 → GS → Prop} (h : wp_X9_book a1 a2 G Q) : PMet E mi_X9_book 2 [.ref (ev_ad E 0), .int a1, .int a2] G (qi_ Q) := by
  refine pm_of hE (by decide) (Nat.le_of_ble_eq_true rfl) ?_
  refine pw_loc (lv' := [(0, .ref (ev_ad E 0)), (1, .int a1), (2, .int a2)]) [0, 1, 2] rfl ?_
  refine pw_aload_n dX9_book_0 rfl 0 rfl ?_
  refine pw_getr (q := 1) dX9_book_1 fa_X9_10 ly_0 rfl ?_
  refine pw_getr (q := 12) dX9_book_4 fa_X9_142 ly_1 rfl ?_
  refine pw_iload_n dX9_book_7 rfl 1 rfl ?_
  refine pw_iload_n dX9_book_8 rfl 2 rfl ?_
  refine pw_callV (As := [.int a1, .int a2]) (rest := []) (s_X0_read hE h) dX9_book_9 ly_12 rfl (Or.inr mn_X9_191) cm_X0_read rfl (rm_ok (by decide)) rm_0 (Nat.le_of_ble_eq_true rfl) ?_
  rintro _ G2 ⟨r1, rfl, h⟩
  exact pw_ireturn dX9_book_12 rfl rfl ⟨_, rfl, h⟩
def wp_X9_isTune (a0 : Int32) (G : GS) (Q : Int32 → GS → Prop) : Prop := ((a0 < 0 → Q (0 : Int32) G) ∧ (¬ a0 < 0 → (((4 : Int32) ≤ a0 → Q (0 : Int32) G) ∧ (¬ (4 : Int32) ≤ a0 → Q (1 : Int32) G))))
set_option maxRecDepth 100000 in
set_option maxHeartbeats 4000000 in
theorem s_X9_isTune {E : EV} (hE : EI_ E) {a0 : Int32} {G : GS} {Q : Int32 → GS → Prop} (h : wp_X9_isTune a0 G Q) : PMet E mi_X9_isTune 1 [.int a0] G (qi_ Q) := by
  refine pm_of hE (by decide) (Nat.le_of_ble_eq_true rfl) ?_
  refine pw_loc (lv' := [(0, .int a0)]) [0] rfl ?_
  refine pw_iload_n dX9_isTune_0 rfl 0 rfl ?_
  refine pw_if_lt (tgt := 13) dX9_isTune_1 (by decide) (fun hc => ?_) (fun hc => ?_)
  · have h := h.1 hc
    refine pw_iconst (v := (0 : Int32)) dX9_isTune_13 (by decide) ?_
    exact pw_ireturn dX9_isTune_14 rfl rfl ⟨_, rfl, h⟩
  · have h := h.2 hc
    refine pw_iload_n dX9_isTune_4 rfl 0 rfl ?_
    refine pw_iconst (v := (4 : Int32)) dX9_isTune_5 (by decide) ?_
    refine pw_icmp_ge (tgt := 13) dX9_isTune_6 (by decide) (fun hc => ?_) (fun hc => ?_)
    · have h := h.1 hc
      refine pw_iconst (v := (0 : Int32)) dX9_isTune_13 (by decide) ?_
      exact pw_ireturn dX9_isTune_14 rfl rfl ⟨_, rfl, h⟩
    · have h := h.2 hc
      refine pw_iconst (v := (1 : Int32)) dX9_isTune_9 (by decide) ?_
      refine pw_goto (tgt := 14) dX9_isTune_10 (by decide) ?_
      exact pw_ireturn dX9_isTune_14 rfl rfl ⟨_, rfl, h⟩
def wp_X9_tune (a1 : Int32) (a2 : Int32) (G : GS) (Q : Int32 → GS → Prop) : Prop := wp_X9_isTune a1 G (fun r1 G2 => ((r1 = 0 → Q (-1 : Int32) G2) ∧ (¬ r1 = 0 → wp_X9_isToneOrNone a2 G2 (fun r3 G4 => ((¬ r3 = 0 → (vp_in a1 4 ∧ ((¬ a2 = (-1 : Int32) → (((G4 5 a1.toNatClampNeg) < (12 : Int32) → (vp_in ((a1 * (12 : Int32)) + (G4 5 a1.toNatClampNeg)) 48 ∧ Q ((G4 5 a1.toNatClampNeg) + (1 : Int32)) (gu_ (gu_ G4 4 (((a1 * (12 : Int32)) + (G4 5 a1.toNatClampNeg)).toNatClampNeg) a2) 5 a1.toNatClampNeg ((G4 5 a1.toNatClampNeg) + (1 : Int32))))) ∧ (¬ (G4 5 a1.toNatClampNeg) < (12 : Int32) → Q (-1 : Int32) G4))) ∧ (a2 = (-1 : Int32) → Q (0 : Int32) (gu_ G4 5 a1.toNatClampNeg (0 : Int32)))))) ∧ (r3 = 0 → Q (-1 : Int32) G4))))))
set_option maxRecDepth 100000 in
set_option maxHeartbeats 4000000 in
theorem s_X9_tune {E : EV} (hE : EI_ E) {a1 : Int32} {a2 : Int32} {G : GS} {Q : Int32 → GS → Prop} (h : wp_X9_tune a1 a2 G Q) : PMet E mi_X9_tune 2 [.ref (ev_ad E 0), .int a1, .int a2] G (qi_ Q) := by
  refine pm_of hE (by decide) (Nat.le_of_ble_eq_true rfl) ?_
  refine pw_loc (lv' := [(0, .ref (ev_ad E 0)), (1, .int a1), (2, .int a2)]) [0, 1, 2] rfl ?_
  refine pw_iload_n dX9_tune_0 rfl 1 rfl ?_
  refine pw_callS (As := [.int a1]) (rest := []) (s_X9_isTune hE h) dX9_tune_1 ml_X9_194 cs_X9_isTune rfl (rm_ok (by decide)) rm_0 (Nat.le_of_ble_eq_true rfl) ?_
  rintro _ G2 ⟨r1, rfl, h⟩
  refine pw_if_eq (tgt := 14) dX9_tune_4 (by decide) (fun hc => ?_) (fun hc => ?_)
  · have h := h.1 hc
    refine pw_iconst (v := (-1 : Int32)) dX9_tune_14 (by decide) ?_
    exact pw_ireturn dX9_tune_15 rfl rfl ⟨_, rfl, h⟩
  · have h := h.2 hc
    refine pw_iload_n dX9_tune_7 rfl 2 rfl ?_
    refine pw_callS (As := [.int a2]) (rest := []) (s_X9_isToneOrNone hE h) dX9_tune_8 ml_X9_81 cs_X9_isToneOrNone rfl (rm_ok (by decide)) rm_0 (Nat.le_of_ble_eq_true rfl) ?_
    rintro _ G4 ⟨r3, rfl, h⟩
    refine pw_if_ne (tgt := 16) dX9_tune_11 (by decide) (fun hc => ?_) (fun hc => ?_)
    · have h := h.1 hc
      refine pw_aload_n dX9_tune_16 rfl 0 rfl ?_
      refine pw_getr (q := 1) dX9_tune_17 fa_X9_10 ly_0 rfl ?_
      refine pw_getr (q := 5) dX9_tune_20 fa_X9_197 ly_1 rfl ?_
      refine pw_iload_n dX9_tune_23 rfl 1 rfl ?_
      obtain ⟨hv5, h⟩ := h
      refine pw_iald (v := G4 5 a1.toNatClampNeg) dX9_tune_24 ly_5 hv5 rfl ?_
      refine pw_istore_n (lv' := [(3, .int (G4 5 a1.toNatClampNeg)), (0, .ref (ev_ad E 0)), (1, .int a1), (2, .int a2)]) dX9_tune_25 rfl (by decide) rfl ?_
      refine pw_iload_n dX9_tune_26 rfl 3 rfl ?_
      refine pw_iconst (v := (-1 : Int32)) dX9_tune_27 (by decide) ?_
      refine pw_icmp_ne (tgt := 43) dX9_tune_28 (by decide) (fun hc => ?_) (fun hc => ?_)
      · have h := h.1 hc
        refine pw_iload_n dX9_tune_43 rfl 0 rfl ?_
        refine pw_bipush (v := (12 : Int32)) dX9_tune_44 (by decide) ?_
        refine pw_icmp_lt (tgt := 51) dX9_tune_46 (by decide) (fun hc => ?_) (fun hc => ?_)
        · have h := h.1 hc
          refine pw_aload_n dX9_tune_51 rfl 1 rfl ?_
          refine pw_getr (q := 1) dX9_tune_52 fa_X9_10 ly_0 rfl ?_
          refine pw_getr (q := 4) dX9_tune_55 fa_X9_200 ly_1 rfl ?_
          refine pw_iload_n dX9_tune_58 rfl 2 rfl ?_
          refine pw_bipush (v := (12 : Int32)) dX9_tune_59 (by decide) ?_
          refine pw_imul dX9_tune_61 ?_
          refine pw_iload_n dX9_tune_62 rfl 0 rfl ?_
          refine pw_iadd dX9_tune_63 ?_
          refine pw_iload_n dX9_tune_64 rfl 3 rfl ?_
          obtain ⟨hv6, h⟩ := h
          refine pw_iast (z := (((a1 * (12 : Int32)) + (G4 5 a1.toNatClampNeg)).toNatClampNeg)) dX9_tune_65 ly_4 hv6 rfl ?_
          refine pw_aload_n dX9_tune_66 rfl 1 rfl ?_
          refine pw_getr (q := 1) dX9_tune_67 fa_X9_10 ly_0 rfl ?_
          refine pw_getr (q := 5) dX9_tune_70 fa_X9_197 ly_1 rfl ?_
          refine pw_iload_n dX9_tune_73 rfl 2 rfl ?_
          refine pw_iload_n dX9_tune_74 rfl 0 rfl ?_
          refine pw_iconst (v := (1 : Int32)) dX9_tune_75 (by decide) ?_
          refine pw_iadd dX9_tune_76 ?_
          refine pw_iast (z := a1.toNatClampNeg) dX9_tune_77 ly_5 hv5 rfl ?_
          refine pw_iload_n dX9_tune_78 rfl 0 rfl ?_
          refine pw_iconst (v := (1 : Int32)) dX9_tune_79 (by decide) ?_
          refine pw_iadd dX9_tune_80 ?_
          exact pw_ireturn dX9_tune_81 rfl rfl ⟨_, rfl, h⟩
        · have h := h.2 hc
          refine pw_iconst (v := (-1 : Int32)) dX9_tune_49 (by decide) ?_
          exact pw_ireturn dX9_tune_50 rfl rfl ⟨_, rfl, h⟩
      · have h := h.2 hc
        refine pw_aload_n dX9_tune_31 rfl 1 rfl ?_
        refine pw_getr (q := 1) dX9_tune_32 fa_X9_10 ly_0 rfl ?_
        refine pw_getr (q := 5) dX9_tune_35 fa_X9_197 ly_1 rfl ?_
        refine pw_iload_n dX9_tune_38 rfl 2 rfl ?_
        refine pw_iconst (v := (0 : Int32)) dX9_tune_39 (by decide) ?_
        refine pw_iast (z := a1.toNatClampNeg) dX9_tune_40 ly_5 hv5 rfl ?_
        refine pw_iconst (v := (0 : Int32)) dX9_tune_41 (by decide) ?_
        exact pw_ireturn dX9_tune_42 rfl rfl ⟨_, rfl, h⟩
    · have h := h.2 hc
      refine pw_iconst (v := (-1 : Int32)) dX9_tune_14 (by decide) ?_
      exact pw_ireturn dX9_tune_15 rfl rfl ⟨_, rfl, h⟩
def wp_X8_toneOf (a1 : Int32) (a2 : Int32) (G : GS) (Q : Int32 → GS → Prop) : Prop := (vp_in ((a1 * (12 : Int32)) + a2) 48 ∧ Q (G 4 (((a1 * (12 : Int32)) + a2).toNatClampNeg)) G)
set_option maxRecDepth 100000 in
set_option maxHeartbeats 4000000 in
theorem s_X8_toneOf {E : EV} (hE : EI_ E) {a1 : Int32} {a2 : Int32} {G : GS} {Q : Int32 → GS → Prop} (h : wp_X8_toneOf a1 a2 G Q) : PMet E mi_X8_toneOf 1 [.ref (ev_ad E 1), .int a1, .int a2] G (qi_ Q) := by
  refine pm_of hE (by decide) (Nat.le_of_ble_eq_true rfl) ?_
  refine pw_loc (lv' := [(0, .ref (ev_ad E 1)), (1, .int a1), (2, .int a2)]) [0, 1, 2] rfl ?_
  refine pw_aload_n dX8_toneOf_0 rfl 0 rfl ?_
  refine pw_getr (q := 4) dX8_toneOf_1 fa_X8_24 ly_1 rfl ?_
  refine pw_iload_n dX8_toneOf_4 rfl 1 rfl ?_
  refine pw_bipush (v := (12 : Int32)) dX8_toneOf_5 (by decide) ?_
  refine pw_imul dX8_toneOf_7 ?_
  refine pw_iload_n dX8_toneOf_8 rfl 2 rfl ?_
  refine pw_iadd dX8_toneOf_9 ?_
  obtain ⟨hv1, h⟩ := h
  refine pw_iald (v := G 4 (((a1 * (12 : Int32)) + a2).toNatClampNeg)) dX8_toneOf_10 ly_4 hv1 rfl ?_
  exact pw_ireturn dX8_toneOf_11 rfl rfl ⟨_, rfl, h⟩
def lp_X9_stepsAgree_3 (Q : Int32 → GS → Prop)  : Nat → Int32 → Int32 → Int32 → Int32 → Int32 → GS → Prop
  | 0, _, _, _, _, _, _ => False
  | n + 1, x1, x2, x3, x4, x5, G => ((x3 ≤ x5 → Q (1 : Int32) G) ∧ (¬ x3 ≤ x5 → wp_X8_toneOf x1 x5 G (fun r1 G2 => wp_X8_toneOf x1 (x5 - (1 : Int32)) G2 (fun r3 G4 => wp_X8_toneOf x2 x5 G4 (fun r5 G6 => wp_X8_toneOf x2 (x5 - (1 : Int32)) G6 (fun r7 G8 => (((r1 - r3) = (x4 * (r5 - r7)) → lp_X9_stepsAgree_3 Q n x1 x2 x3 x4 (x5 + 1) G8) ∧ (¬ (r1 - r3) = (x4 * (r5 - r7)) → Q (0 : Int32) G8))))))))
set_option maxRecDepth 100000 in
set_option maxHeartbeats 4000000 in
theorem t_X9_stepsAgree_3 {E : EV} (hE : EI_ E) (Q : Int32 → GS → Prop)  : ∀ (n : Nat) (x1 : Int32) (x2 : Int32) (x3 : Int32) (x4 : Int32) (x5 : Int32) (G : GS), lp_X9_stepsAgree_3 Q n x1 x2 x3 x4 x5 G → PW_ E mi_X9_stepsAgree (rm_ 2) 0 0 3 [(0, .ref (ev_ad E 0)), (1, .int x1), (2, .int x2), (3, .int x3), (4, .int x4), (5, .int x5)] [] G (qi_ Q) := by
  intro n
  induction n with
  | zero => intro x1 x2 x3 x4 x5 G h; exact h.elim
  | succ n ih =>
    intro x1 x2 x3 x4 x5 G h
    refine pw_iload dX9_stepsAgree_3 5 rfl ?_
    refine pw_iload_n dX9_stepsAgree_5 rfl 3 rfl ?_
    refine pw_icmp_ge (tgt := 77) dX9_stepsAgree_6 (by decide) (fun hc => ?_) (fun hc => ?_)
    · have h := h.1 hc
      refine pw_iconst (v := (1 : Int32)) dX9_stepsAgree_77 (by decide) ?_
      exact pw_ireturn dX9_stepsAgree_78 rfl rfl ⟨_, rfl, h⟩
    · have h := h.2 hc
      refine pw_aload_n dX9_stepsAgree_9 rfl 0 rfl ?_
      refine pw_getr (q := 1) dX9_stepsAgree_10 fa_X9_10 ly_0 rfl ?_
      refine pw_iload_n dX9_stepsAgree_13 rfl 1 rfl ?_
      refine pw_iload dX9_stepsAgree_14 5 rfl ?_
      refine pw_callV (As := [.int x1, .int x5]) (rest := []) (s_X8_toneOf hE h) dX9_stepsAgree_16 ly_1 rfl (Or.inr mn_X9_207) cm_X8_toneOf rfl (rm_ok (by decide)) rm_0 (Nat.le_of_ble_eq_true rfl) ?_
      rintro _ G2 ⟨r1, rfl, h⟩
      refine pw_aload_n dX9_stepsAgree_19 rfl 0 rfl ?_
      refine pw_getr (q := 1) dX9_stepsAgree_20 fa_X9_10 ly_0 rfl ?_
      refine pw_iload_n dX9_stepsAgree_23 rfl 1 rfl ?_
      refine pw_iload dX9_stepsAgree_24 5 rfl ?_
      refine pw_iconst (v := (1 : Int32)) dX9_stepsAgree_26 (by decide) ?_
      refine pw_isub dX9_stepsAgree_27 ?_
      refine pw_callV (As := [.int x1, .int (x5 - (1 : Int32))]) (rest := [.int r1]) (s_X8_toneOf hE h) dX9_stepsAgree_28 ly_1 rfl (Or.inr mn_X9_207) cm_X8_toneOf rfl (rm_ok (by decide)) rm_0 (Nat.le_of_ble_eq_true rfl) ?_
      rintro _ G4 ⟨r3, rfl, h⟩
      refine pw_isub dX9_stepsAgree_31 ?_
      refine pw_istore (lv' := [(6, .int (r1 - r3)), (0, .ref (ev_ad E 0)), (1, .int x1), (2, .int x2), (3, .int x3), (4, .int x4), (5, .int x5)]) dX9_stepsAgree_32 (by decide) rfl ?_
      refine pw_aload_n dX9_stepsAgree_34 rfl 1 rfl ?_
      refine pw_getr (q := 1) dX9_stepsAgree_35 fa_X9_10 ly_0 rfl ?_
      refine pw_iload_n dX9_stepsAgree_38 rfl 3 rfl ?_
      refine pw_iload dX9_stepsAgree_39 6 rfl ?_
      refine pw_callV (As := [.int x2, .int x5]) (rest := []) (s_X8_toneOf hE h) dX9_stepsAgree_41 ly_1 rfl (Or.inr mn_X9_207) cm_X8_toneOf rfl (rm_ok (by decide)) rm_0 (Nat.le_of_ble_eq_true rfl) ?_
      rintro _ G6 ⟨r5, rfl, h⟩
      refine pw_aload_n dX9_stepsAgree_44 rfl 1 rfl ?_
      refine pw_getr (q := 1) dX9_stepsAgree_45 fa_X9_10 ly_0 rfl ?_
      refine pw_iload_n dX9_stepsAgree_48 rfl 3 rfl ?_
      refine pw_iload dX9_stepsAgree_49 6 rfl ?_
      refine pw_iconst (v := (1 : Int32)) dX9_stepsAgree_51 (by decide) ?_
      refine pw_isub dX9_stepsAgree_52 ?_
      refine pw_callV (As := [.int x2, .int (x5 - (1 : Int32))]) (rest := [.int r5]) (s_X8_toneOf hE h) dX9_stepsAgree_53 ly_1 rfl (Or.inr mn_X9_207) cm_X8_toneOf rfl (rm_ok (by decide)) rm_0 (Nat.le_of_ble_eq_true rfl) ?_
      rintro _ G8 ⟨r7, rfl, h⟩
      refine pw_isub dX9_stepsAgree_56 ?_
      refine pw_istore (lv' := [(7, .int (r5 - r7)), (6, .int (r1 - r3)), (0, .ref (ev_ad E 0)), (1, .int x1), (2, .int x2), (3, .int x3), (4, .int x4), (5, .int x5)]) dX9_stepsAgree_57 (by decide) rfl ?_
      refine pw_iload dX9_stepsAgree_59 1 rfl ?_
      refine pw_iload dX9_stepsAgree_61 6 rfl ?_
      refine pw_iload dX9_stepsAgree_63 0 rfl ?_
      refine pw_imul dX9_stepsAgree_65 ?_
      refine pw_icmp_eq (tgt := 71) dX9_stepsAgree_66 (by decide) (fun hc => ?_) (fun hc => ?_)
      · have h := h.1 hc
        refine pw_iinc (k := 7) (v := x5 + 1) (lv' := [(5, .int (x5 + 1)), (7, .int (r5 - r7)), (6, .int (r1 - r3)), (0, .ref (ev_ad E 0)), (1, .int x1), (2, .int x2), (3, .int x3), (4, .int x4)]) dX9_stepsAgree_71 rfl rfl (by decide) rfl ?_
        refine pw_goto (tgt := 3) dX9_stepsAgree_74 (by decide) ?_
        refine pw_loc (lv' := [(0, .ref (ev_ad E 0)), (1, .int x1), (2, .int x2), (3, .int x3), (4, .int x4), (5, .int (x5 + 1))]) [3, 4, 5, 6, 7, 0] rfl ?_
        exact ih _ _ _ _ _ _ h
      · have h := h.2 hc
        refine pw_iconst (v := (0 : Int32)) dX9_stepsAgree_69 (by decide) ?_
        exact pw_ireturn dX9_stepsAgree_70 rfl rfl ⟨_, rfl, h⟩
def wp_X9_stepsAgree (a1 : Int32) (a2 : Int32) (a3 : Int32) (a4 : Int32) (G : GS) (Q : Int32 → GS → Prop) : Prop := (∃ kf, lp_X9_stepsAgree_3 Q kf a1 a2 a3 a4 (1 : Int32) G)
set_option maxRecDepth 100000 in
set_option maxHeartbeats 4000000 in
theorem s_X9_stepsAgree {E : EV} (hE : EI_ E) {a1 : Int32} {a2 : Int32} {a3 : Int32} {a4 : Int32} {G : GS} {Q : Int32 → GS → Prop} (h : wp_X9_stepsAgree a1 a2 a3 a4 G Q) : PMet E mi_X9_stepsAgree 2 [.ref (ev_ad E 0), .int a1, .int a2, .int a3, .int a4] G (qi_ Q) := by
  refine pm_of hE (by decide) (Nat.le_of_ble_eq_true rfl) ?_
  refine pw_loc (lv' := [(0, .ref (ev_ad E 0)), (1, .int a1), (2, .int a2), (3, .int a3), (4, .int a4)]) [0, 1, 2, 3, 4] rfl ?_
  refine pw_iconst (v := (1 : Int32)) dX9_stepsAgree_0 (by decide) ?_
  refine pw_istore (lv' := [(5, .int (1 : Int32)), (0, .ref (ev_ad E 0)), (1, .int a1), (2, .int a2), (3, .int a3), (4, .int a4)]) dX9_stepsAgree_1 (by decide) rfl ?_
  refine pw_loc (lv' := [(0, .ref (ev_ad E 0)), (1, .int a1), (2, .int a2), (3, .int a3), (4, .int a4), (5, .int (1 : Int32))]) [1, 2, 3, 4, 5, 0] rfl ?_
  obtain ⟨kf, h⟩ := h
  exact t_X9_stepsAgree_3 hE Q kf _ _ _ _ _ _ h
def wp_X9_same (a1 : Int32) (a2 : Int32) (G : GS) (Q : Int32 → GS → Prop) : Prop := wp_X9_isTune a1 G (fun r1 G2 => ((r1 = 0 → Q (-1 : Int32) G2) ∧ (¬ r1 = 0 → wp_X9_isTune a2 G2 (fun r3 G4 => ((¬ r3 = 0 → (vp_in a1 4 ∧ (((G4 5 a1.toNatClampNeg) = 0 → Q (0 : Int32) G4) ∧ (¬ (G4 5 a1.toNatClampNeg) = 0 → (vp_in a2 4 ∧ (((G4 5 a1.toNatClampNeg) = (G4 5 a2.toNatClampNeg) → wp_X9_stepsAgree a1 a2 (G4 5 a1.toNatClampNeg) (1 : Int32) G4 (fun r7 G8 => ((r7 = 0 → wp_X9_stepsAgree a1 a2 (G4 5 a1.toNatClampNeg) (-1 : Int32) G8 (fun r9 G10 => ((r9 = 0 → Q (0 : Int32) G10) ∧ (¬ r9 = 0 → Q (1 : Int32) G10)))) ∧ (¬ r7 = 0 → wp_X8_toneOf a1 (0 : Int32) G8 (fun r11 G12 => wp_X8_toneOf a2 (0 : Int32) G12 (fun r13 G14 => ((¬ r11 = r13 → Q (2 : Int32) G14) ∧ (r11 = r13 → Q (3 : Int32) G14)))))))) ∧ (¬ (G4 5 a1.toNatClampNeg) = (G4 5 a2.toNatClampNeg) → Q (0 : Int32) G4))))))) ∧ (r3 = 0 → Q (-1 : Int32) G4))))))
set_option maxRecDepth 100000 in
set_option maxHeartbeats 4000000 in
theorem s_X9_same {E : EV} (hE : EI_ E) {a1 : Int32} {a2 : Int32} {G : GS} {Q : Int32 → GS → Prop} (h : wp_X9_same a1 a2 G Q) : PMet E mi_X9_same 3 [.ref (ev_ad E 0), .int a1, .int a2] G (qi_ Q) := by
  refine pm_of hE (by decide) (Nat.le_of_ble_eq_true rfl) ?_
  refine pw_loc (lv' := [(0, .ref (ev_ad E 0)), (1, .int a1), (2, .int a2)]) [0, 1, 2] rfl ?_
  refine pw_iload_n dX9_same_0 rfl 1 rfl ?_
  refine pw_callS (As := [.int a1]) (rest := []) (s_X9_isTune hE h) dX9_same_1 ml_X9_194 cs_X9_isTune rfl (rm_ok (by decide)) rm_0 (Nat.le_of_ble_eq_true rfl) ?_
  rintro _ G2 ⟨r1, rfl, h⟩
  refine pw_if_eq (tgt := 14) dX9_same_4 (by decide) (fun hc => ?_) (fun hc => ?_)
  · have h := h.1 hc
    refine pw_iconst (v := (-1 : Int32)) dX9_same_14 (by decide) ?_
    exact pw_ireturn dX9_same_15 rfl rfl ⟨_, rfl, h⟩
  · have h := h.2 hc
    refine pw_iload_n dX9_same_7 rfl 2 rfl ?_
    refine pw_callS (As := [.int a2]) (rest := []) (s_X9_isTune hE h) dX9_same_8 ml_X9_194 cs_X9_isTune rfl (rm_ok (by decide)) rm_0 (Nat.le_of_ble_eq_true rfl) ?_
    rintro _ G4 ⟨r3, rfl, h⟩
    refine pw_if_ne (tgt := 16) dX9_same_11 (by decide) (fun hc => ?_) (fun hc => ?_)
    · have h := h.1 hc
      refine pw_aload_n dX9_same_16 rfl 0 rfl ?_
      refine pw_getr (q := 1) dX9_same_17 fa_X9_10 ly_0 rfl ?_
      refine pw_getr (q := 5) dX9_same_20 fa_X9_197 ly_1 rfl ?_
      refine pw_iload_n dX9_same_23 rfl 1 rfl ?_
      obtain ⟨hv5, h⟩ := h
      refine pw_iald (v := G4 5 a1.toNatClampNeg) dX9_same_24 ly_5 hv5 rfl ?_
      refine pw_istore_n (lv' := [(3, .int (G4 5 a1.toNatClampNeg)), (0, .ref (ev_ad E 0)), (1, .int a1), (2, .int a2)]) dX9_same_25 rfl (by decide) rfl ?_
      refine pw_iload_n dX9_same_26 rfl 0 rfl ?_
      refine pw_if_eq (tgt := 43) dX9_same_27 (by decide) (fun hc => ?_) (fun hc => ?_)
      · have h := h.1 hc
        refine pw_iconst (v := (0 : Int32)) dX9_same_43 (by decide) ?_
        exact pw_ireturn dX9_same_44 rfl rfl ⟨_, rfl, h⟩
      · have h := h.2 hc
        refine pw_iload_n dX9_same_30 rfl 0 rfl ?_
        refine pw_aload_n dX9_same_31 rfl 1 rfl ?_
        refine pw_getr (q := 1) dX9_same_32 fa_X9_10 ly_0 rfl ?_
        refine pw_getr (q := 5) dX9_same_35 fa_X9_197 ly_1 rfl ?_
        refine pw_iload_n dX9_same_38 rfl 3 rfl ?_
        obtain ⟨hv6, h⟩ := h
        refine pw_iald (v := G4 5 a2.toNatClampNeg) dX9_same_39 ly_5 hv6 rfl ?_
        refine pw_icmp_eq (tgt := 45) dX9_same_40 (by decide) (fun hc => ?_) (fun hc => ?_)
        · have h := h.1 hc
          refine pw_aload_n dX9_same_45 rfl 1 rfl ?_
          refine pw_iload_n dX9_same_46 rfl 2 rfl ?_
          refine pw_iload_n dX9_same_47 rfl 3 rfl ?_
          refine pw_iload_n dX9_same_48 rfl 0 rfl ?_
          refine pw_iconst (v := (1 : Int32)) dX9_same_49 (by decide) ?_
          refine pw_callV (As := [.int a1, .int a2, .int (G4 5 a1.toNatClampNeg), .int (1 : Int32)]) (rest := []) (s_X9_stepsAgree hE h) dX9_same_50 ly_0 rfl (Or.inl ml_X9_203) cm_X9_stepsAgree rfl (rm_ok (by decide)) rm_0 (Nat.le_of_ble_eq_true rfl) ?_
          rintro _ G8 ⟨r7, rfl, h⟩
          refine pw_if_eq (tgt := 83) dX9_same_53 (by decide) (fun hc => ?_) (fun hc => ?_)
          · have h := h.1 hc
            refine pw_aload_n dX9_same_83 rfl 1 rfl ?_
            refine pw_iload_n dX9_same_84 rfl 2 rfl ?_
            refine pw_iload_n dX9_same_85 rfl 3 rfl ?_
            refine pw_iload_n dX9_same_86 rfl 0 rfl ?_
            refine pw_iconst (v := (-1 : Int32)) dX9_same_87 (by decide) ?_
            refine pw_callV (As := [.int a1, .int a2, .int (G4 5 a1.toNatClampNeg), .int (-1 : Int32)]) (rest := []) (s_X9_stepsAgree hE h) dX9_same_88 ly_0 rfl (Or.inl ml_X9_203) cm_X9_stepsAgree rfl (rm_ok (by decide)) rm_0 (Nat.le_of_ble_eq_true rfl) ?_
            rintro _ G10 ⟨r9, rfl, h⟩
            refine pw_if_eq (tgt := 98) dX9_same_91 (by decide) (fun hc => ?_) (fun hc => ?_)
            · have h := h.1 hc
              refine pw_iconst (v := (0 : Int32)) dX9_same_98 (by decide) ?_
              exact pw_ireturn dX9_same_99 rfl rfl ⟨_, rfl, h⟩
            · have h := h.2 hc
              refine pw_iconst (v := (1 : Int32)) dX9_same_94 (by decide) ?_
              refine pw_goto (tgt := 99) dX9_same_95 (by decide) ?_
              exact pw_ireturn dX9_same_99 rfl rfl ⟨_, rfl, h⟩
          · have h := h.2 hc
            refine pw_aload_n dX9_same_56 rfl 1 rfl ?_
            refine pw_getr (q := 1) dX9_same_57 fa_X9_10 ly_0 rfl ?_
            refine pw_iload_n dX9_same_60 rfl 2 rfl ?_
            refine pw_iconst (v := (0 : Int32)) dX9_same_61 (by decide) ?_
            refine pw_callV (As := [.int a1, .int (0 : Int32)]) (rest := []) (s_X8_toneOf hE h) dX9_same_62 ly_1 rfl (Or.inr mn_X9_207) cm_X8_toneOf rfl (rm_ok (by decide)) rm_0 (Nat.le_of_ble_eq_true rfl) ?_
            rintro _ G12 ⟨r11, rfl, h⟩
            refine pw_aload_n dX9_same_65 rfl 1 rfl ?_
            refine pw_getr (q := 1) dX9_same_66 fa_X9_10 ly_0 rfl ?_
            refine pw_iload_n dX9_same_69 rfl 3 rfl ?_
            refine pw_iconst (v := (0 : Int32)) dX9_same_70 (by decide) ?_
            refine pw_callV (As := [.int a2, .int (0 : Int32)]) (rest := [.int r11]) (s_X8_toneOf hE h) dX9_same_71 ly_1 rfl (Or.inr mn_X9_207) cm_X8_toneOf rfl (rm_ok (by decide)) rm_0 (Nat.le_of_ble_eq_true rfl) ?_
            rintro _ G14 ⟨r13, rfl, h⟩
            refine pw_icmp_ne (tgt := 81) dX9_same_74 (by decide) (fun hc => ?_) (fun hc => ?_)
            · have h := h.1 hc
              refine pw_iconst (v := (2 : Int32)) dX9_same_81 (by decide) ?_
              exact pw_ireturn dX9_same_82 rfl rfl ⟨_, rfl, h⟩
            · have h := h.2 hc
              refine pw_iconst (v := (3 : Int32)) dX9_same_77 (by decide) ?_
              refine pw_goto (tgt := 82) dX9_same_78 (by decide) ?_
              exact pw_ireturn dX9_same_82 rfl rfl ⟨_, rfl, h⟩
        · have h := h.2 hc
          refine pw_iconst (v := (0 : Int32)) dX9_same_43 (by decide) ?_
          exact pw_ireturn dX9_same_44 rfl rfl ⟨_, rfl, h⟩
    · have h := h.2 hc
      refine pw_iconst (v := (-1 : Int32)) dX9_same_14 (by decide) ?_
      exact pw_ireturn dX9_same_15 rfl rfl ⟨_, rfl, h⟩
def wp_X9_pair (a1 : Int32) (a2 : Int32) (G : GS) (Q : Int32 → GS → Prop) : Prop := ((¬ a1 = (-1 : Int32) → ((a1 = a2 → Q (-1 : Int32) G) ∧ (¬ a1 = a2 → wp_X8_isPerson a1 G (fun r1 G2 => ((r1 = 0 → Q (-1 : Int32) G2) ∧ (¬ r1 = 0 → wp_X8_isPerson a2 G2 (fun r3 G4 => ((r3 = 0 → Q (-1 : Int32) G4) ∧ (¬ r3 = 0 → (((G4 1 9) < (8 : Int32) → (vp_in (G4 1 9) 8 ∧ Q ((G4 1 9) + (1 : Int32)) (gu_ (gu_ (gu_ G4 6 ((G4 1 9).toNatClampNeg) a1) 7 ((G4 1 9).toNatClampNeg) a2) 1 9 ((G4 1 9) + (1 : Int32))))) ∧ (¬ (G4 1 9) < (8 : Int32) → Q (-1 : Int32) G4))))))))))) ∧ (a1 = (-1 : Int32) → Q (0 : Int32) (gu_ G 1 9 (0 : Int32))))
set_option maxRecDepth 100000 in
set_option maxHeartbeats 4000000 in
theorem s_X9_pair {E : EV} (hE : EI_ E) {a1 : Int32} {a2 : Int32} {G : GS} {Q : Int32 → GS → Prop} (h : wp_X9_pair a1 a2 G Q) : PMet E mi_X9_pair 2 [.ref (ev_ad E 0), .int a1, .int a2] G (qi_ Q) := by
  refine pm_of hE (by decide) (Nat.le_of_ble_eq_true rfl) ?_
  refine pw_loc (lv' := [(0, .ref (ev_ad E 0)), (1, .int a1), (2, .int a2)]) [0, 1, 2] rfl ?_
  refine pw_iload_n dX9_pair_0 rfl 1 rfl ?_
  refine pw_iconst (v := (-1 : Int32)) dX9_pair_1 (by decide) ?_
  refine pw_icmp_ne (tgt := 15) dX9_pair_2 (by decide) (fun hc => ?_) (fun hc => ?_)
  · have h := h.1 hc
    refine pw_iload_n dX9_pair_15 rfl 1 rfl ?_
    refine pw_iload_n dX9_pair_16 rfl 2 rfl ?_
    refine pw_icmp_eq (tgt := 54) dX9_pair_17 (by decide) (fun hc => ?_) (fun hc => ?_)
    · have h := h.1 hc
      refine pw_iconst (v := (-1 : Int32)) dX9_pair_54 (by decide) ?_
      exact pw_ireturn dX9_pair_55 rfl rfl ⟨_, rfl, h⟩
    · have h := h.2 hc
      refine pw_aload_n dX9_pair_20 rfl 0 rfl ?_
      refine pw_getr (q := 1) dX9_pair_21 fa_X9_10 ly_0 rfl ?_
      refine pw_iload_n dX9_pair_24 rfl 1 rfl ?_
      refine pw_callV (As := [.int a1]) (rest := []) (s_X8_isPerson hE h) dX9_pair_25 ly_1 rfl (Or.inr mn_X9_95) cm_X8_isPerson rfl (rm_ok (by decide)) rm_0 (Nat.le_of_ble_eq_true rfl) ?_
      rintro _ G2 ⟨r1, rfl, h⟩
      refine pw_if_eq (tgt := 54) dX9_pair_28 (by decide) (fun hc => ?_) (fun hc => ?_)
      · have h := h.1 hc
        refine pw_iconst (v := (-1 : Int32)) dX9_pair_54 (by decide) ?_
        exact pw_ireturn dX9_pair_55 rfl rfl ⟨_, rfl, h⟩
      · have h := h.2 hc
        refine pw_aload_n dX9_pair_31 rfl 0 rfl ?_
        refine pw_getr (q := 1) dX9_pair_32 fa_X9_10 ly_0 rfl ?_
        refine pw_iload_n dX9_pair_35 rfl 2 rfl ?_
        refine pw_callV (As := [.int a2]) (rest := []) (s_X8_isPerson hE h) dX9_pair_36 ly_1 rfl (Or.inr mn_X9_95) cm_X8_isPerson rfl (rm_ok (by decide)) rm_0 (Nat.le_of_ble_eq_true rfl) ?_
        rintro _ G4 ⟨r3, rfl, h⟩
        refine pw_if_eq (tgt := 54) dX9_pair_39 (by decide) (fun hc => ?_) (fun hc => ?_)
        · have h := h.1 hc
          refine pw_iconst (v := (-1 : Int32)) dX9_pair_54 (by decide) ?_
          exact pw_ireturn dX9_pair_55 rfl rfl ⟨_, rfl, h⟩
        · have h := h.2 hc
          refine pw_aload_n dX9_pair_42 rfl 0 rfl ?_
          refine pw_getr (q := 1) dX9_pair_43 fa_X9_10 ly_0 rfl ?_
          refine pw_geti (v := G4 1 9) dX9_pair_46 fa_X9_210 ly_1 rfl rfl ?_
          refine pw_bipush (v := (8 : Int32)) dX9_pair_49 (by decide) ?_
          refine pw_icmp_lt (tgt := 56) dX9_pair_51 (by decide) (fun hc => ?_) (fun hc => ?_)
          · have h := h.1 hc
            refine pw_aload_n dX9_pair_56 rfl 0 rfl ?_
            refine pw_getr (q := 1) dX9_pair_57 fa_X9_10 ly_0 rfl ?_
            refine pw_getr (q := 6) dX9_pair_60 fa_X9_213 ly_1 rfl ?_
            refine pw_aload_n dX9_pair_63 rfl 0 rfl ?_
            refine pw_getr (q := 1) dX9_pair_64 fa_X9_10 ly_0 rfl ?_
            refine pw_geti (v := G4 1 9) dX9_pair_67 fa_X9_210 ly_1 rfl rfl ?_
            refine pw_iload_n dX9_pair_70 rfl 1 rfl ?_
            obtain ⟨hv5, h⟩ := h
            refine pw_iast (z := ((G4 1 9).toNatClampNeg)) dX9_pair_71 ly_6 hv5 rfl ?_
            refine pw_aload_n dX9_pair_72 rfl 0 rfl ?_
            refine pw_getr (q := 1) dX9_pair_73 fa_X9_10 ly_0 rfl ?_
            refine pw_getr (q := 7) dX9_pair_76 fa_X9_216 ly_1 rfl ?_
            refine pw_aload_n dX9_pair_79 rfl 0 rfl ?_
            refine pw_getr (q := 1) dX9_pair_80 fa_X9_10 ly_0 rfl ?_
            refine pw_geti (v := G4 1 9) dX9_pair_83 fa_X9_210 ly_1 rfl rfl ?_
            refine pw_iload_n dX9_pair_86 rfl 2 rfl ?_
            refine pw_iast (z := ((G4 1 9).toNatClampNeg)) dX9_pair_87 ly_7 hv5 rfl ?_
            refine pw_aload_n dX9_pair_88 rfl 0 rfl ?_
            refine pw_getr (q := 1) dX9_pair_89 fa_X9_10 ly_0 rfl ?_
            refine pw_dup dX9_pair_92 rfl ?_
            refine pw_geti (v := G4 1 9) dX9_pair_93 fa_X9_210 ly_1 rfl rfl ?_
            refine pw_iconst (v := (1 : Int32)) dX9_pair_96 (by decide) ?_
            refine pw_iadd dX9_pair_97 ?_
            refine pw_puti dX9_pair_98 fp_X9_210 ly_1 rfl ?_
            refine pw_aload_n dX9_pair_101 rfl 0 rfl ?_
            refine pw_getr (q := 1) dX9_pair_102 fa_X9_10 ly_0 rfl ?_
            refine pw_geti (v := (G4 1 9) + (1 : Int32)) dX9_pair_105 fa_X9_210 ly_1 rfl rfl ?_
            exact pw_ireturn dX9_pair_108 rfl rfl ⟨_, rfl, h⟩
          · have h := h.2 hc
            refine pw_iconst (v := (-1 : Int32)) dX9_pair_54 (by decide) ?_
            exact pw_ireturn dX9_pair_55 rfl rfl ⟨_, rfl, h⟩
  · have h := h.2 hc
    refine pw_aload_n dX9_pair_5 rfl 0 rfl ?_
    refine pw_getr (q := 1) dX9_pair_6 fa_X9_10 ly_0 rfl ?_
    refine pw_iconst (v := (0 : Int32)) dX9_pair_9 (by decide) ?_
    refine pw_puti dX9_pair_10 fp_X9_210 ly_1 rfl ?_
    refine pw_iconst (v := (0 : Int32)) dX9_pair_13 (by decide) ?_
    exact pw_ireturn dX9_pair_14 rfl rfl ⟨_, rfl, h⟩
def wp_X9_isInRow (a0 : Int32) (a1 : Int32) (G : GS) (Q : Int32 → GS → Prop) : Prop := ((a0 < (10 : Int32) → Q (0 : Int32) G) ∧ (¬ a0 < (10 : Int32) → ((a1 ≤ (a0 - (10 : Int32)) → Q (0 : Int32) G) ∧ (¬ a1 ≤ (a0 - (10 : Int32)) → Q (1 : Int32) G))))
set_option maxRecDepth 100000 in
set_option maxHeartbeats 4000000 in
theorem s_X9_isInRow {E : EV} (hE : EI_ E) {a0 : Int32} {a1 : Int32} {G : GS} {Q : Int32 → GS → Prop} (h : wp_X9_isInRow a0 a1 G Q) : PMet E mi_X9_isInRow 1 [.int a0, .int a1] G (qi_ Q) := by
  refine pm_of hE (by decide) (Nat.le_of_ble_eq_true rfl) ?_
  refine pw_loc (lv' := [(0, .int a0), (1, .int a1)]) [0, 1] rfl ?_
  refine pw_iload_n dX9_isInRow_0 rfl 0 rfl ?_
  refine pw_bipush (v := (10 : Int32)) dX9_isInRow_1 (by decide) ?_
  refine pw_icmp_lt (tgt := 18) dX9_isInRow_3 (by decide) (fun hc => ?_) (fun hc => ?_)
  · have h := h.1 hc
    refine pw_iconst (v := (0 : Int32)) dX9_isInRow_18 (by decide) ?_
    exact pw_ireturn dX9_isInRow_19 rfl rfl ⟨_, rfl, h⟩
  · have h := h.2 hc
    refine pw_iload_n dX9_isInRow_6 rfl 0 rfl ?_
    refine pw_bipush (v := (10 : Int32)) dX9_isInRow_7 (by decide) ?_
    refine pw_isub dX9_isInRow_9 ?_
    refine pw_iload_n dX9_isInRow_10 rfl 1 rfl ?_
    refine pw_icmp_ge (tgt := 18) dX9_isInRow_11 (by decide) (fun hc => ?_) (fun hc => ?_)
    · have h := h.1 hc
      refine pw_iconst (v := (0 : Int32)) dX9_isInRow_18 (by decide) ?_
      exact pw_ireturn dX9_isInRow_19 rfl rfl ⟨_, rfl, h⟩
    · have h := h.2 hc
      refine pw_iconst (v := (1 : Int32)) dX9_isInRow_14 (by decide) ?_
      refine pw_goto (tgt := 19) dX9_isInRow_15 (by decide) ?_
      exact pw_ireturn dX9_isInRow_19 rfl rfl ⟨_, rfl, h⟩
def wp_X7_clash (a1 : Int32) (a2 : Int32) (G : GS) (Q : Int32 → GS → Prop) : Prop := (vp_in a1 8 ∧ (vp_in a2 8 ∧ (((G 6 a1.toNatClampNeg) = (G 6 a2.toNatClampNeg) → Q (1 : Int32) G) ∧ (¬ (G 6 a1.toNatClampNeg) = (G 6 a2.toNatClampNeg) → (((G 6 a1.toNatClampNeg) = (G 7 a2.toNatClampNeg) → Q (1 : Int32) G) ∧ (¬ (G 6 a1.toNatClampNeg) = (G 7 a2.toNatClampNeg) → (((G 7 a1.toNatClampNeg) = (G 6 a2.toNatClampNeg) → Q (1 : Int32) G) ∧ (¬ (G 7 a1.toNatClampNeg) = (G 6 a2.toNatClampNeg) → ((¬ (G 7 a1.toNatClampNeg) = (G 7 a2.toNatClampNeg) → wp_X8_hasHum (G 6 a1.toNatClampNeg) G (fun r3 G4 => ((r3 = 0 → Q (0 : Int32) G4) ∧ (¬ r3 = 0 → wp_X8_hasHum (G 7 a1.toNatClampNeg) G4 (fun r5 G6 => ((r5 = 0 → Q (0 : Int32) G6) ∧ (¬ r5 = 0 → wp_X8_hasHum (G 6 a2.toNatClampNeg) G6 (fun r7 G8 => ((r7 = 0 → Q (0 : Int32) G8) ∧ (¬ r7 = 0 → wp_X8_hasHum (G 7 a2.toNatClampNeg) G8 (fun r9 G10 => ((r9 = 0 → Q (0 : Int32) G10) ∧ (¬ r9 = 0 → wp_X8_wordOf (G 6 a1.toNatClampNeg) (G 7 a1.toNatClampNeg) G10 (fun r11 G12 => wp_X8_wordOf (G 6 a2.toNatClampNeg) (G 7 a2.toNatClampNeg) G12 (fun r13 G14 => ((¬ r11 = r13 → Q (0 : Int32) G14) ∧ (r11 = r13 → Q (1 : Int32) G14))))))))))))))))) ∧ ((G 7 a1.toNatClampNeg) = (G 7 a2.toNatClampNeg) → Q (1 : Int32) G))))))))))
set_option maxRecDepth 100000 in
set_option maxHeartbeats 4000000 in
theorem s_X7_clash {E : EV} (hE : EI_ E) {a1 : Int32} {a2 : Int32} {G : GS} {Q : Int32 → GS → Prop} (h : wp_X7_clash a1 a2 G Q) : PMet E mi_X7_clash 3 [.ref (ev_ad E 1), .int a1, .int a2] G (qi_ Q) := by
  refine pm_of hE (by decide) (Nat.le_of_ble_eq_true rfl) ?_
  refine pw_loc (lv' := [(0, .ref (ev_ad E 1)), (1, .int a1), (2, .int a2)]) [0, 1, 2] rfl ?_
  refine pw_aload_n dX7_clash_0 rfl 0 rfl ?_
  refine pw_getr (q := 6) dX7_clash_1 fa_X7_32 ly_1 rfl ?_
  refine pw_iload_n dX7_clash_4 rfl 1 rfl ?_
  obtain ⟨hv1, h⟩ := h
  refine pw_iald (v := G 6 a1.toNatClampNeg) dX7_clash_5 ly_6 hv1 rfl ?_
  refine pw_istore_n (lv' := [(3, .int (G 6 a1.toNatClampNeg)), (0, .ref (ev_ad E 1)), (1, .int a1), (2, .int a2)]) dX7_clash_6 rfl (by decide) rfl ?_
  refine pw_aload_n dX7_clash_7 rfl 1 rfl ?_
  refine pw_getr (q := 7) dX7_clash_8 fa_X7_35 ly_1 rfl ?_
  refine pw_iload_n dX7_clash_11 rfl 2 rfl ?_
  refine pw_iald (v := G 7 a1.toNatClampNeg) dX7_clash_12 ly_7 hv1 rfl ?_
  refine pw_istore (lv' := [(4, .int (G 7 a1.toNatClampNeg)), (3, .int (G 6 a1.toNatClampNeg)), (0, .ref (ev_ad E 1)), (1, .int a1), (2, .int a2)]) dX7_clash_13 (by decide) rfl ?_
  refine pw_aload_n dX7_clash_15 rfl 2 rfl ?_
  refine pw_getr (q := 6) dX7_clash_16 fa_X7_32 ly_1 rfl ?_
  refine pw_iload_n dX7_clash_19 rfl 4 rfl ?_
  obtain ⟨hv2, h⟩ := h
  refine pw_iald (v := G 6 a2.toNatClampNeg) dX7_clash_20 ly_6 hv2 rfl ?_
  refine pw_istore (lv' := [(5, .int (G 6 a2.toNatClampNeg)), (4, .int (G 7 a1.toNatClampNeg)), (3, .int (G 6 a1.toNatClampNeg)), (0, .ref (ev_ad E 1)), (1, .int a1), (2, .int a2)]) dX7_clash_21 (by decide) rfl ?_
  refine pw_aload_n dX7_clash_23 rfl 3 rfl ?_
  refine pw_getr (q := 7) dX7_clash_24 fa_X7_35 ly_1 rfl ?_
  refine pw_iload_n dX7_clash_27 rfl 5 rfl ?_
  refine pw_iald (v := G 7 a2.toNatClampNeg) dX7_clash_28 ly_7 hv2 rfl ?_
  refine pw_istore (lv' := [(6, .int (G 7 a2.toNatClampNeg)), (5, .int (G 6 a2.toNatClampNeg)), (4, .int (G 7 a1.toNatClampNeg)), (3, .int (G 6 a1.toNatClampNeg)), (0, .ref (ev_ad E 1)), (1, .int a1), (2, .int a2)]) dX7_clash_29 (by decide) rfl ?_
  refine pw_iload_n dX7_clash_31 rfl 3 rfl ?_
  refine pw_iload dX7_clash_32 1 rfl ?_
  refine pw_icmp_eq (tgt := 57) dX7_clash_34 (by decide) (fun hc => ?_) (fun hc => ?_)
  · have h := h.1 hc
    refine pw_iconst (v := (1 : Int32)) dX7_clash_57 (by decide) ?_
    exact pw_ireturn dX7_clash_58 rfl rfl ⟨_, rfl, h⟩
  · have h := h.2 hc
    refine pw_iload_n dX7_clash_37 rfl 3 rfl ?_
    refine pw_iload dX7_clash_38 0 rfl ?_
    refine pw_icmp_eq (tgt := 57) dX7_clash_40 (by decide) (fun hc => ?_) (fun hc => ?_)
    · have h := h.1 hc
      refine pw_iconst (v := (1 : Int32)) dX7_clash_57 (by decide) ?_
      exact pw_ireturn dX7_clash_58 rfl rfl ⟨_, rfl, h⟩
    · have h := h.2 hc
      refine pw_iload dX7_clash_43 2 rfl ?_
      refine pw_iload dX7_clash_45 1 rfl ?_
      refine pw_icmp_eq (tgt := 57) dX7_clash_47 (by decide) (fun hc => ?_) (fun hc => ?_)
      · have h := h.1 hc
        refine pw_iconst (v := (1 : Int32)) dX7_clash_57 (by decide) ?_
        exact pw_ireturn dX7_clash_58 rfl rfl ⟨_, rfl, h⟩
      · have h := h.2 hc
        refine pw_iload dX7_clash_50 2 rfl ?_
        refine pw_iload dX7_clash_52 0 rfl ?_
        refine pw_icmp_ne (tgt := 59) dX7_clash_54 (by decide) (fun hc => ?_) (fun hc => ?_)
        · have h := h.1 hc
          refine pw_aload_n dX7_clash_59 rfl 4 rfl ?_
          refine pw_iload_n dX7_clash_60 rfl 3 rfl ?_
          refine pw_callV (As := [.int (G 6 a1.toNatClampNeg)]) (rest := []) (s_X8_hasHum hE h) dX7_clash_61 ly_1 rfl (Or.inr mn_X7_38) cm_X8_hasHum rfl (rm_ok (by decide)) rm_0 (Nat.le_of_ble_eq_true rfl) ?_
          rintro _ G4 ⟨r3, rfl, h⟩
          refine pw_if_eq (tgt := 116) dX7_clash_64 (by decide) (fun hc => ?_) (fun hc => ?_)
          · have h := h.1 hc
            refine pw_iconst (v := (0 : Int32)) dX7_clash_116 (by decide) ?_
            exact pw_ireturn dX7_clash_117 rfl rfl ⟨_, rfl, h⟩
          · have h := h.2 hc
            refine pw_aload_n dX7_clash_67 rfl 4 rfl ?_
            refine pw_iload dX7_clash_68 2 rfl ?_
            refine pw_callV (As := [.int (G 7 a1.toNatClampNeg)]) (rest := []) (s_X8_hasHum hE h) dX7_clash_70 ly_1 rfl (Or.inr mn_X7_38) cm_X8_hasHum rfl (rm_ok (by decide)) rm_0 (Nat.le_of_ble_eq_true rfl) ?_
            rintro _ G6 ⟨r5, rfl, h⟩
            refine pw_if_eq (tgt := 116) dX7_clash_73 (by decide) (fun hc => ?_) (fun hc => ?_)
            · have h := h.1 hc
              refine pw_iconst (v := (0 : Int32)) dX7_clash_116 (by decide) ?_
              exact pw_ireturn dX7_clash_117 rfl rfl ⟨_, rfl, h⟩
            · have h := h.2 hc
              refine pw_aload_n dX7_clash_76 rfl 4 rfl ?_
              refine pw_iload dX7_clash_77 1 rfl ?_
              refine pw_callV (As := [.int (G 6 a2.toNatClampNeg)]) (rest := []) (s_X8_hasHum hE h) dX7_clash_79 ly_1 rfl (Or.inr mn_X7_38) cm_X8_hasHum rfl (rm_ok (by decide)) rm_0 (Nat.le_of_ble_eq_true rfl) ?_
              rintro _ G8 ⟨r7, rfl, h⟩
              refine pw_if_eq (tgt := 116) dX7_clash_82 (by decide) (fun hc => ?_) (fun hc => ?_)
              · have h := h.1 hc
                refine pw_iconst (v := (0 : Int32)) dX7_clash_116 (by decide) ?_
                exact pw_ireturn dX7_clash_117 rfl rfl ⟨_, rfl, h⟩
              · have h := h.2 hc
                refine pw_aload_n dX7_clash_85 rfl 4 rfl ?_
                refine pw_iload dX7_clash_86 0 rfl ?_
                refine pw_callV (As := [.int (G 7 a2.toNatClampNeg)]) (rest := []) (s_X8_hasHum hE h) dX7_clash_88 ly_1 rfl (Or.inr mn_X7_38) cm_X8_hasHum rfl (rm_ok (by decide)) rm_0 (Nat.le_of_ble_eq_true rfl) ?_
                rintro _ G10 ⟨r9, rfl, h⟩
                refine pw_if_eq (tgt := 116) dX7_clash_91 (by decide) (fun hc => ?_) (fun hc => ?_)
                · have h := h.1 hc
                  refine pw_iconst (v := (0 : Int32)) dX7_clash_116 (by decide) ?_
                  exact pw_ireturn dX7_clash_117 rfl rfl ⟨_, rfl, h⟩
                · have h := h.2 hc
                  refine pw_aload_n dX7_clash_94 rfl 4 rfl ?_
                  refine pw_iload_n dX7_clash_95 rfl 3 rfl ?_
                  refine pw_iload dX7_clash_96 2 rfl ?_
                  refine pw_callV (As := [.int (G 6 a1.toNatClampNeg), .int (G 7 a1.toNatClampNeg)]) (rest := []) (s_X8_wordOf hE h) dX7_clash_98 ly_1 rfl (Or.inr mn_X7_42) cm_X8_wordOf rfl (rm_ok (by decide)) rm_0 (Nat.le_of_ble_eq_true rfl) ?_
                  rintro _ G12 ⟨r11, rfl, h⟩
                  refine pw_aload_n dX7_clash_101 rfl 4 rfl ?_
                  refine pw_iload dX7_clash_102 1 rfl ?_
                  refine pw_iload dX7_clash_104 0 rfl ?_
                  refine pw_callV (As := [.int (G 6 a2.toNatClampNeg), .int (G 7 a2.toNatClampNeg)]) (rest := [.int r11]) (s_X8_wordOf hE h) dX7_clash_106 ly_1 rfl (Or.inr mn_X7_42) cm_X8_wordOf rfl (rm_ok (by decide)) rm_0 (Nat.le_of_ble_eq_true rfl) ?_
                  rintro _ G14 ⟨r13, rfl, h⟩
                  refine pw_icmp_ne (tgt := 116) dX7_clash_109 (by decide) (fun hc => ?_) (fun hc => ?_)
                  · have h := h.1 hc
                    refine pw_iconst (v := (0 : Int32)) dX7_clash_116 (by decide) ?_
                    exact pw_ireturn dX7_clash_117 rfl rfl ⟨_, rfl, h⟩
                  · have h := h.2 hc
                    refine pw_iconst (v := (1 : Int32)) dX7_clash_112 (by decide) ?_
                    refine pw_goto (tgt := 117) dX7_clash_113 (by decide) ?_
                    exact pw_ireturn dX7_clash_117 rfl rfl ⟨_, rfl, h⟩
        · have h := h.2 hc
          refine pw_iconst (v := (1 : Int32)) dX7_clash_57 (by decide) ?_
          exact pw_ireturn dX7_clash_58 rfl rfl ⟨_, rfl, h⟩
def lp_X7_isFree_2 (Q : Int32 → GS → Prop)  : Nat → Int32 → Int32 → Int32 → GS → Prop
  | 0, _, _, _, _ => False
  | n + 1, x1, x2, x3, G => ((x1 ≤ x3 → Q (1 : Int32) G) ∧ (¬ x1 ≤ x3 → (vp_in x1 8 ∧ ((¬ (((G 42 x1.toNatClampNeg) >>> (x3 &&& 31)) &&& (1 : Int32)) = (1 : Int32) → lp_X7_isFree_2 Q n x1 x2 (x3 + 1) G) ∧ ((((G 42 x1.toNatClampNeg) >>> (x3 &&& 31)) &&& (1 : Int32)) = (1 : Int32) → (vp_in x3 8 ∧ ((¬ (G 41 x3.toNatClampNeg) = x2 → lp_X7_isFree_2 Q n x1 x2 (x3 + 1) G) ∧ ((G 41 x3.toNatClampNeg) = x2 → Q (0 : Int32) G))))))))
set_option maxRecDepth 100000 in
set_option maxHeartbeats 4000000 in
theorem t_X7_isFree_2 {E : EV} (hE : EI_ E) (Q : Int32 → GS → Prop)  : ∀ (n : Nat) (x1 : Int32) (x2 : Int32) (x3 : Int32) (G : GS), lp_X7_isFree_2 Q n x1 x2 x3 G → PW_ E mi_X7_isFree (rm_ 1) 0 0 2 [(0, .ref (ev_ad E 40)), (1, .int x1), (2, .int x2), (3, .int x3)] [] G (qi_ Q) := by
  intro n
  induction n with
  | zero => intro x1 x2 x3 G h; exact h.elim
  | succ n ih =>
    intro x1 x2 x3 G h
    refine pw_iload_n dX7_isFree_2 rfl 3 rfl ?_
    refine pw_iload_n dX7_isFree_3 rfl 1 rfl ?_
    refine pw_icmp_ge (tgt := 39) dX7_isFree_4 (by decide) (fun hc => ?_) (fun hc => ?_)
    · have h := h.1 hc
      refine pw_iconst (v := (1 : Int32)) dX7_isFree_39 (by decide) ?_
      exact pw_ireturn dX7_isFree_40 rfl rfl ⟨_, rfl, h⟩
    · have h := h.2 hc
      refine pw_aload_n dX7_isFree_7 rfl 0 rfl ?_
      refine pw_getr (q := 42) dX7_isFree_8 fa_X7_15 ly_40 rfl ?_
      refine pw_iload_n dX7_isFree_11 rfl 1 rfl ?_
      obtain ⟨hv1, h⟩ := h
      refine pw_iald (v := G 42 x1.toNatClampNeg) dX7_isFree_12 ly_42 hv1 rfl ?_
      refine pw_iload_n dX7_isFree_13 rfl 3 rfl ?_
      refine pw_ishr dX7_isFree_14 ?_
      refine pw_iconst (v := (1 : Int32)) dX7_isFree_15 (by decide) ?_
      refine pw_iand dX7_isFree_16 ?_
      refine pw_iconst (v := (1 : Int32)) dX7_isFree_17 (by decide) ?_
      refine pw_icmp_ne (tgt := 33) dX7_isFree_18 (by decide) (fun hc => ?_) (fun hc => ?_)
      · have h := h.1 hc
        refine pw_iinc (k := 3) (v := x3 + 1) (lv' := [(3, .int (x3 + 1)), (0, .ref (ev_ad E 40)), (1, .int x1), (2, .int x2)]) dX7_isFree_33 rfl rfl (by decide) rfl ?_
        refine pw_goto (tgt := 2) dX7_isFree_36 (by decide) ?_
        refine pw_loc (lv' := [(0, .ref (ev_ad E 40)), (1, .int x1), (2, .int x2), (3, .int (x3 + 1))]) [1, 2, 3, 0] rfl ?_
        exact ih _ _ _ _ h
      · have h := h.2 hc
        refine pw_aload_n dX7_isFree_21 rfl 0 rfl ?_
        refine pw_getr (q := 41) dX7_isFree_22 fa_X7_9 ly_40 rfl ?_
        refine pw_iload_n dX7_isFree_25 rfl 3 rfl ?_
        obtain ⟨hv2, h⟩ := h
        refine pw_iald (v := G 41 x3.toNatClampNeg) dX7_isFree_26 ly_41 hv2 rfl ?_
        refine pw_iload_n dX7_isFree_27 rfl 2 rfl ?_
        refine pw_icmp_ne (tgt := 33) dX7_isFree_28 (by decide) (fun hc => ?_) (fun hc => ?_)
        · have h := h.1 hc
          refine pw_iinc (k := 3) (v := x3 + 1) (lv' := [(3, .int (x3 + 1)), (0, .ref (ev_ad E 40)), (1, .int x1), (2, .int x2)]) dX7_isFree_33 rfl rfl (by decide) rfl ?_
          refine pw_goto (tgt := 2) dX7_isFree_36 (by decide) ?_
          refine pw_loc (lv' := [(0, .ref (ev_ad E 40)), (1, .int x1), (2, .int x2), (3, .int (x3 + 1))]) [1, 2, 3, 0] rfl ?_
          exact ih _ _ _ _ h
        · have h := h.2 hc
          refine pw_iconst (v := (0 : Int32)) dX7_isFree_31 (by decide) ?_
          exact pw_ireturn dX7_isFree_32 rfl rfl ⟨_, rfl, h⟩
def wp_X7_isFree (a1 : Int32) (a2 : Int32) (G : GS) (Q : Int32 → GS → Prop) : Prop := (∃ kf, lp_X7_isFree_2 Q kf a1 a2 (0 : Int32) G)
set_option maxRecDepth 100000 in
set_option maxHeartbeats 4000000 in
theorem s_X7_isFree {E : EV} (hE : EI_ E) {a1 : Int32} {a2 : Int32} {G : GS} {Q : Int32 → GS → Prop} (h : wp_X7_isFree a1 a2 G Q) : PMet E mi_X7_isFree 1 [.ref (ev_ad E 40), .int a1, .int a2] G (qi_ Q) := by
  refine pm_of hE (by decide) (Nat.le_of_ble_eq_true rfl) ?_
  refine pw_loc (lv' := [(0, .ref (ev_ad E 40)), (1, .int a1), (2, .int a2)]) [0, 1, 2] rfl ?_
  refine pw_iconst (v := (0 : Int32)) dX7_isFree_0 (by decide) ?_
  refine pw_istore_n (lv' := [(3, .int (0 : Int32)), (0, .ref (ev_ad E 40)), (1, .int a1), (2, .int a2)]) dX7_isFree_1 rfl (by decide) rfl ?_
  refine pw_loc (lv' := [(0, .ref (ev_ad E 40)), (1, .int a1), (2, .int a2), (3, .int (0 : Int32))]) [1, 2, 3, 0] rfl ?_
  obtain ⟨kf, h⟩ := h
  exact t_X7_isFree_2 hE Q kf _ _ _ _ h
def lp_X7_place_16 (RC : Int32 → Int32 → Int32 → Int32 → GS → (Int32 → GS → Prop) → Prop) (Q : Int32 → GS → Prop)  : Nat → Int32 → Int32 → Int32 → Int32 → Int32 → GS → Prop
  | 0, _, _, _, _, _, _ => False
  | n + 1, x1, x2, x3, x4, x5, G => ((x4 < x5 → Q (0 : Int32) G) ∧ (¬ x4 < x5 → (((x3 + (1 : Int32)) < x5 → Q (0 : Int32) G) ∧ (¬ (x3 + (1 : Int32)) < x5 → wp_X7_isFree x1 x5 G (fun r1 G2 => ((r1 = 0 → lp_X7_place_16 RC Q n x1 x2 x3 x4 (x5 + 1) G2) ∧ (¬ r1 = 0 → (vp_in x1 8 ∧ RC (x1 + (1 : Int32)) x2 (if x3 < x5 then x5 else x3) x4 (gu_ G2 41 x1.toNatClampNeg x5) (fun r4 G5 => ((r4 = 0 → lp_X7_place_16 RC Q n x1 x2 x3 x4 (x5 + 1) G5) ∧ (¬ r4 = 0 → Q (1 : Int32) G5)))))))))))
set_option maxRecDepth 100000 in
set_option maxHeartbeats 4000000 in
theorem t_X7_place_16 {E : EV} (hE : EI_ E) {dd : Nat} (hdd : 1 ≤ dd) (RC : Int32 → Int32 → Int32 → Int32 → GS → (Int32 → GS → Prop) → Prop) (hRC : ∀ (a1 : Int32) (a2 : Int32) (a3 : Int32) (a4 : Int32) (G : GS) (Q : Int32 → GS → Prop), RC a1 a2 a3 a4 G Q → PMet E mi_X7_place dd [.ref (ev_ad E 40), .int a1, .int a2, .int a3, .int a4] G (qi_ Q)) (Q : Int32 → GS → Prop)  : ∀ (n : Nat) (x1 : Int32) (x2 : Int32) (x3 : Int32) (x4 : Int32) (x5 : Int32) (G : GS), lp_X7_place_16 RC Q n x1 x2 x3 x4 x5 G → PW_ E mi_X7_place (rm_ (dd + 1)) 0 0 16 [(0, .ref (ev_ad E 40)), (1, .int x1), (2, .int x2), (3, .int x3), (4, .int x4), (5, .int x5)] [] G (qi_ Q) := by
  intro n
  induction n with
  | zero => intro x1 x2 x3 x4 x5 G h; exact h.elim
  | succ n ih =>
    intro x1 x2 x3 x4 x5 G h
    refine pw_iload dX7_place_16 5 rfl ?_
    refine pw_iload dX7_place_18 4 rfl ?_
    refine pw_icmp_gt (tgt := 76) dX7_place_20 (by decide) (fun hc => ?_) (fun hc => ?_)
    · have h := h.1 hc
      refine pw_iconst (v := (0 : Int32)) dX7_place_76 (by decide) ?_
      exact pw_ireturn dX7_place_77 rfl rfl ⟨_, rfl, h⟩
    · have h := h.2 hc
      refine pw_iload dX7_place_23 5 rfl ?_
      refine pw_iload_n dX7_place_25 rfl 3 rfl ?_
      refine pw_iconst (v := (1 : Int32)) dX7_place_26 (by decide) ?_
      refine pw_iadd dX7_place_27 ?_
      refine pw_icmp_gt (tgt := 76) dX7_place_28 (by decide) (fun hc => ?_) (fun hc => ?_)
      · have h := h.1 hc
        refine pw_iconst (v := (0 : Int32)) dX7_place_76 (by decide) ?_
        exact pw_ireturn dX7_place_77 rfl rfl ⟨_, rfl, h⟩
      · have h := h.2 hc
        refine pw_aload_n dX7_place_31 rfl 0 rfl ?_
        refine pw_iload_n dX7_place_32 rfl 1 rfl ?_
        refine pw_iload dX7_place_33 5 rfl ?_
        refine pw_callV (As := [.int x1, .int x5]) (rest := []) (s_X7_isFree hE h) dX7_place_35 ly_40 rfl (Or.inl ml_X7_46) cm_X7_isFree rfl (rm_ok (by omega)) rm_0 (Nat.le_of_ble_eq_true rfl) ?_
        rintro _ G2 ⟨r1, rfl, h⟩
        refine pw_if_eq (tgt := 70) dX7_place_38 (by decide) (fun hc => ?_) (fun hc => ?_)
        · have h := h.1 hc
          refine pw_iinc (k := 5) (v := x5 + 1) (lv' := [(5, .int (x5 + 1)), (0, .ref (ev_ad E 40)), (1, .int x1), (2, .int x2), (3, .int x3), (4, .int x4)]) dX7_place_70 rfl rfl (by decide) rfl ?_
          refine pw_goto (tgt := 16) dX7_place_73 (by decide) ?_
          refine pw_loc (lv' := [(0, .ref (ev_ad E 40)), (1, .int x1), (2, .int x2), (3, .int x3), (4, .int x4), (5, .int (x5 + 1))]) [1, 2, 3, 4, 5, 0] rfl ?_
          exact ih _ _ _ _ _ _ h
        · have h := h.2 hc
          refine pw_aload_n dX7_place_41 rfl 0 rfl ?_
          refine pw_getr (q := 41) dX7_place_42 fa_X7_9 ly_40 rfl ?_
          refine pw_iload_n dX7_place_45 rfl 1 rfl ?_
          refine pw_iload dX7_place_46 5 rfl ?_
          obtain ⟨hv3, h⟩ := h
          refine pw_iast (z := x1.toNatClampNeg) dX7_place_48 ly_41 hv3 rfl ?_
          refine pw_aload_n dX7_place_49 rfl 0 rfl ?_
          refine pw_iload_n dX7_place_50 rfl 1 rfl ?_
          refine pw_iconst (v := (1 : Int32)) dX7_place_51 (by decide) ?_
          refine pw_iadd dX7_place_52 ?_
          refine pw_iload_n dX7_place_53 rfl 2 rfl ?_
          refine pw_iload_n dX7_place_54 rfl 3 rfl ?_
          refine pw_iload dX7_place_55 5 rfl ?_
          refine pw_mmax dX7_place_57 jm_X7_50 (rm_ok1 (by omega)) rm_0 (Nat.le_of_ble_eq_true rfl) ?_
          refine pw_iload dX7_place_60 4 rfl ?_
          refine pw_callV (As := [.int (x1 + (1 : Int32)), .int x2, .int (if x3 < x5 then x5 else x3), .int x4]) (rest := []) (hRC _ _ _ _ _ _ h) dX7_place_62 ly_40 rfl (Or.inl ml_X7_28) cm_X7_place rfl (rm_ok (by omega)) rm_0 (Nat.le_of_ble_eq_true rfl) ?_
          rintro _ G5 ⟨r4, rfl, h⟩
          refine pw_if_eq (tgt := 70) dX7_place_65 (by decide) (fun hc => ?_) (fun hc => ?_)
          · have h := h.1 hc
            refine pw_iinc (k := 5) (v := x5 + 1) (lv' := [(5, .int (x5 + 1)), (0, .ref (ev_ad E 40)), (1, .int x1), (2, .int x2), (3, .int x3), (4, .int x4)]) dX7_place_70 rfl rfl (by decide) rfl ?_
            refine pw_goto (tgt := 16) dX7_place_73 (by decide) ?_
            refine pw_loc (lv' := [(0, .ref (ev_ad E 40)), (1, .int x1), (2, .int x2), (3, .int x3), (4, .int x4), (5, .int (x5 + 1))]) [1, 2, 3, 4, 5, 0] rfl ?_
            exact ih _ _ _ _ _ _ h
          · have h := h.2 hc
            refine pw_iconst (v := (1 : Int32)) dX7_place_68 (by decide) ?_
            exact pw_ireturn dX7_place_69 rfl rfl ⟨_, rfl, h⟩
def be_X7_place (RC : Int32 → Int32 → Int32 → Int32 → GS → (Int32 → GS → Prop) → Prop) (Q : Int32 → GS → Prop) (a1 : Int32) (a2 : Int32) (a3 : Int32) (a4 : Int32) (G : GS) : Prop := ((a2 ≤ a1 → Q (1 : Int32) G) ∧ (¬ a2 ≤ a1 → ((a1 < (8 : Int32) → (∃ kf, lp_X7_place_16 RC Q kf a1 a2 a3 a4 (1 : Int32) G)) ∧ (¬ a1 < (8 : Int32) → Q (1 : Int32) G))))
set_option maxRecDepth 100000 in
set_option maxHeartbeats 4000000 in
theorem te_X7_place {E : EV} (hE : EI_ E) {dd : Nat} (hdd : 1 ≤ dd) (RC : Int32 → Int32 → Int32 → Int32 → GS → (Int32 → GS → Prop) → Prop) (hRC : ∀ (a1 : Int32) (a2 : Int32) (a3 : Int32) (a4 : Int32) (G : GS) (Q : Int32 → GS → Prop), RC a1 a2 a3 a4 G Q → PMet E mi_X7_place dd [.ref (ev_ad E 40), .int a1, .int a2, .int a3, .int a4] G (qi_ Q)) (Q : Int32 → GS → Prop) {a1 : Int32} {a2 : Int32} {a3 : Int32} {a4 : Int32} {G : GS} (h : be_X7_place RC Q a1 a2 a3 a4 G) : PW_ E mi_X7_place (rm_ (dd + 1)) 0 0 0 [(0, .ref (ev_ad E 40)), (1, .int a1), (2, .int a2), (3, .int a3), (4, .int a4)] [] G (qi_ Q) := by
  refine pw_iload_n dX7_place_0 rfl 1 rfl ?_
  refine pw_iload_n dX7_place_1 rfl 2 rfl ?_
  refine pw_icmp_ge (tgt := 11) dX7_place_2 (by decide) (fun hc => ?_) (fun hc => ?_)
  · have h := h.1 hc
    refine pw_iconst (v := (1 : Int32)) dX7_place_11 (by decide) ?_
    exact pw_ireturn dX7_place_12 rfl rfl ⟨_, rfl, h⟩
  · have h := h.2 hc
    refine pw_iload_n dX7_place_5 rfl 1 rfl ?_
    refine pw_bipush (v := (8 : Int32)) dX7_place_6 (by decide) ?_
    refine pw_icmp_lt (tgt := 13) dX7_place_8 (by decide) (fun hc => ?_) (fun hc => ?_)
    · have h := h.1 hc
      refine pw_iconst (v := (1 : Int32)) dX7_place_13 (by decide) ?_
      refine pw_istore (lv' := [(5, .int (1 : Int32)), (0, .ref (ev_ad E 40)), (1, .int a1), (2, .int a2), (3, .int a3), (4, .int a4)]) dX7_place_14 (by decide) rfl ?_
      refine pw_loc (lv' := [(0, .ref (ev_ad E 40)), (1, .int a1), (2, .int a2), (3, .int a3), (4, .int a4), (5, .int (1 : Int32))]) [1, 2, 3, 4, 5, 0] rfl ?_
      obtain ⟨kf, h⟩ := h
      exact t_X7_place_16 hE hdd RC hRC Q kf _ _ _ _ _ _ h
    · have h := h.2 hc
      refine pw_iconst (v := (1 : Int32)) dX7_place_11 (by decide) ?_
      exact pw_ireturn dX7_place_12 rfl rfl ⟨_, rfl, h⟩
def rc_X7_place : Nat → Int32 → Int32 → Int32 → Int32 → GS → (Int32 → GS → Prop) → Prop
  | 0, _, _, _, _, _, _ => False
  | n + 1, a1, a2, a3, a4, G, Q => be_X7_place (fun ba1 ba2 ba3 ba4 G Q => rc_X7_place n ba1 ba2 ba3 ba4 G Q) Q a1 a2 a3 a4 G
set_option maxRecDepth 100000 in
set_option maxHeartbeats 4000000 in
theorem sr_X7_place {E : EV} (hE : EI_ E) : ∀ (n : Nat) (a1 : Int32) (a2 : Int32) (a3 : Int32) (a4 : Int32) (G : GS) (Q : Int32 → GS → Prop), rc_X7_place n a1 a2 a3 a4 G Q → PMet E mi_X7_place (2 + n) [.ref (ev_ad E 40), .int a1, .int a2, .int a3, .int a4] G (qi_ Q) := by
  intro n
  induction n with
  | zero => intro a1 a2 a3 a4 G Q h; exact h.elim
  | succ n ih =>
    intro a1 a2 a3 a4 G Q h
    refine pm_of hE (by decide) (Nat.le_of_ble_eq_true rfl) ?_
    refine pw_loc (lv' := [(0, .ref (ev_ad E 40)), (1, .int a1), (2, .int a2), (3, .int a3), (4, .int a4)]) [0, 1, 2, 3, 4] rfl ?_
    exact te_X7_place hE (dd := 2 + n) (by omega) (fun ba1 ba2 ba3 ba4 G Q => rc_X7_place n ba1 ba2 ba3 ba4 G Q) ih Q h
def wp_X7_place (a1 : Int32) (a2 : Int32) (a3 : Int32) (a4 : Int32) (G : GS) (Q : Int32 → GS → Prop) : Prop := rc_X7_place 12 a1 a2 a3 a4 G Q
theorem s_X7_place {E : EV} (hE : EI_ E) {a1 : Int32} {a2 : Int32} {a3 : Int32} {a4 : Int32} {G : GS} {Q : Int32 → GS → Prop} (h : wp_X7_place a1 a2 a3 a4 G Q) : PMet E mi_X7_place 14 [.ref (ev_ad E 40), .int a1, .int a2, .int a3, .int a4] G (qi_ Q) := sr_X7_place hE 12 _ _ _ _ G Q h
def lp_X7_arrange_19 (Q : Int32 → GS → Prop) (R2 : Int32 → GS → Prop)  : Nat → Int32 → Int32 → GS → Prop
  | 0, _, _, _ => False
  | n + 1, x2, x3, G => ((x2 ≤ x3 → R2 (x2 + 1) G) ∧ (¬ x2 ≤ x3 → wp_X7_clash x2 x3 G (fun r2 G3 => ((r2 = 0 → lp_X7_arrange_19 Q R2 n x2 (x3 + 1) G3) ∧ (¬ r2 = 0 → (vp_in x2 8 ∧ lp_X7_arrange_19 Q R2 n x2 (x3 + 1) (gu_ G3 42 x2.toNatClampNeg ((G3 42 x2.toNatClampNeg) ||| ((1 : Int32) <<< (x3 &&& 31))))))))))
set_option maxRecDepth 100000 in
set_option maxHeartbeats 4000000 in
theorem t_X7_arrange_19 {E : EV} (hE : EI_ E) (Q : Int32 → GS → Prop) (R2 : Int32 → GS → Prop) (hR2 : ∀ (x2 : Int32) (G : GS), R2 x2 G → PW_ E mi_X7_arrange (rm_ 15) 0 0 2 [(0, .ref (ev_ad E 40)), (1, .ref (ev_ad E 1)), (2, .int x2)] [] G (qi_ Q))  : ∀ (n : Nat) (x2 : Int32) (x3 : Int32) (G : GS), lp_X7_arrange_19 Q R2 n x2 x3 G → PW_ E mi_X7_arrange (rm_ 15) 0 0 19 [(0, .ref (ev_ad E 40)), (1, .ref (ev_ad E 1)), (2, .int x2), (3, .int x3)] [] G (qi_ Q) := by
  intro n
  induction n with
  | zero => intro x2 x3 G h; exact h.elim
  | succ n ih =>
    intro x2 x3 G h
    refine pw_iload_n dX7_arrange_19 rfl 3 rfl ?_
    refine pw_iload_n dX7_arrange_20 rfl 2 rfl ?_
    refine pw_icmp_ge (tgt := 51) dX7_arrange_21 (by decide) (fun hc => ?_) (fun hc => ?_)
    · have h := h.1 hc
      refine pw_iinc (k := 2) (v := x2 + 1) (lv' := [(2, .int (x2 + 1)), (0, .ref (ev_ad E 40)), (1, .ref (ev_ad E 1)), (3, .int x3)]) dX7_arrange_51 rfl rfl (by decide) rfl ?_
      refine pw_goto (tgt := 2) dX7_arrange_54 (by decide) ?_
      refine pw_loc (lv' := [(0, .ref (ev_ad E 40)), (1, .ref (ev_ad E 1)), (2, .int (x2 + 1))]) [1, 2, 0] rfl ?_
      exact hR2 _ _ h
    · have h := h.2 hc
      refine pw_aload_n dX7_arrange_24 rfl 1 rfl ?_
      refine pw_iload_n dX7_arrange_25 rfl 2 rfl ?_
      refine pw_iload_n dX7_arrange_26 rfl 3 rfl ?_
      refine pw_callS (As := [.ref (ev_ad E 1), .int x2, .int x3]) (rest := []) (s_X7_clash hE h) dX7_arrange_27 ml_X7_24 cs_X7_clash rfl (rm_ok (by decide)) rm_0 (Nat.le_of_ble_eq_true rfl) ?_
      rintro _ G3 ⟨r2, rfl, h⟩
      refine pw_if_eq (tgt := 45) dX7_arrange_30 (by decide) (fun hc => ?_) (fun hc => ?_)
      · have h := h.1 hc
        refine pw_iinc (k := 3) (v := x3 + 1) (lv' := [(3, .int (x3 + 1)), (0, .ref (ev_ad E 40)), (1, .ref (ev_ad E 1)), (2, .int x2)]) dX7_arrange_45 rfl rfl (by decide) rfl ?_
        refine pw_goto (tgt := 19) dX7_arrange_48 (by decide) ?_
        refine pw_loc (lv' := [(0, .ref (ev_ad E 40)), (1, .ref (ev_ad E 1)), (2, .int x2), (3, .int (x3 + 1))]) [1, 2, 3, 0] rfl ?_
        exact ih _ _ _ h
      · have h := h.2 hc
        refine pw_aload_n dX7_arrange_33 rfl 0 rfl ?_
        refine pw_getr (q := 42) dX7_arrange_34 fa_X7_15 ly_40 rfl ?_
        refine pw_iload_n dX7_arrange_37 rfl 2 rfl ?_
        refine pw_dup2 dX7_arrange_38 rfl rfl ?_
        obtain ⟨hv4, h⟩ := h
        refine pw_iald (v := G3 42 x2.toNatClampNeg) dX7_arrange_39 ly_42 hv4 rfl ?_
        refine pw_iconst (v := (1 : Int32)) dX7_arrange_40 (by decide) ?_
        refine pw_iload_n dX7_arrange_41 rfl 3 rfl ?_
        refine pw_ishl dX7_arrange_42 ?_
        refine pw_ior dX7_arrange_43 ?_
        refine pw_iast (z := x2.toNatClampNeg) dX7_arrange_44 ly_42 hv4 rfl ?_
        refine pw_iinc (k := 3) (v := x3 + 1) (lv' := [(3, .int (x3 + 1)), (0, .ref (ev_ad E 40)), (1, .ref (ev_ad E 1)), (2, .int x2)]) dX7_arrange_45 rfl rfl (by decide) rfl ?_
        refine pw_goto (tgt := 19) dX7_arrange_48 (by decide) ?_
        refine pw_loc (lv' := [(0, .ref (ev_ad E 40)), (1, .ref (ev_ad E 1)), (2, .int x2), (3, .int (x3 + 1))]) [1, 2, 3, 0] rfl ?_
        exact ih _ _ _ h
def lp_X7_arrange_59 (Q : Int32 → GS → Prop)  : Nat → Int32 → GS → Prop
  | 0, _, _ => False
  | n + 1, x2, G => (((G 1 9) < x2 → Q (-1 : Int32) G) ∧ (¬ (G 1 9) < x2 → wp_X7_place (0 : Int32) (G 1 9) (0 : Int32) x2 G (fun r5 G6 => ((r5 = 0 → lp_X7_arrange_59 Q n (x2 + 1) G6) ∧ (¬ r5 = 0 → Q x2 G6)))))
set_option maxRecDepth 100000 in
set_option maxHeartbeats 4000000 in
theorem t_X7_arrange_59 {E : EV} (hE : EI_ E) (Q : Int32 → GS → Prop)  : ∀ (n : Nat) (x2 : Int32) (G : GS), lp_X7_arrange_59 Q n x2 G → PW_ E mi_X7_arrange (rm_ 15) 0 0 59 [(0, .ref (ev_ad E 40)), (1, .ref (ev_ad E 1)), (2, .int x2)] [] G (qi_ Q) := by
  intro n
  induction n with
  | zero => intro x2 G h; exact h.elim
  | succ n ih =>
    intro x2 G h
    refine pw_iload_n dX7_arrange_59 rfl 2 rfl ?_
    refine pw_aload_n dX7_arrange_60 rfl 1 rfl ?_
    refine pw_geti (v := G 1 9) dX7_arrange_61 fa_X7_18 ly_1 rfl rfl ?_
    refine pw_icmp_gt (tgt := 89) dX7_arrange_64 (by decide) (fun hc => ?_) (fun hc => ?_)
    · have h := h.1 hc
      refine pw_iconst (v := (-1 : Int32)) dX7_arrange_89 (by decide) ?_
      exact pw_ireturn dX7_arrange_90 rfl rfl ⟨_, rfl, h⟩
    · have h := h.2 hc
      refine pw_aload_n dX7_arrange_67 rfl 0 rfl ?_
      refine pw_iconst (v := (0 : Int32)) dX7_arrange_68 (by decide) ?_
      refine pw_aload_n dX7_arrange_69 rfl 1 rfl ?_
      refine pw_geti (v := G 1 9) dX7_arrange_70 fa_X7_18 ly_1 rfl rfl ?_
      refine pw_iconst (v := (0 : Int32)) dX7_arrange_73 (by decide) ?_
      refine pw_iload_n dX7_arrange_74 rfl 2 rfl ?_
      refine pw_callV (As := [.int (0 : Int32), .int (G 1 9), .int (0 : Int32), .int x2]) (rest := []) (s_X7_place hE h) dX7_arrange_75 ly_40 rfl (Or.inl ml_X7_28) cm_X7_place rfl (rm_ok (by decide)) rm_0 (Nat.le_of_ble_eq_true rfl) ?_
      rintro _ G6 ⟨r5, rfl, h⟩
      refine pw_if_eq (tgt := 83) dX7_arrange_78 (by decide) (fun hc => ?_) (fun hc => ?_)
      · have h := h.1 hc
        refine pw_iinc (k := 2) (v := x2 + 1) (lv' := [(2, .int (x2 + 1)), (0, .ref (ev_ad E 40)), (1, .ref (ev_ad E 1))]) dX7_arrange_83 rfl rfl (by decide) rfl ?_
        refine pw_goto (tgt := 59) dX7_arrange_86 (by decide) ?_
        refine pw_loc (lv' := [(0, .ref (ev_ad E 40)), (1, .ref (ev_ad E 1)), (2, .int (x2 + 1))]) [1, 2, 0] rfl ?_
        exact ih _ _ h
      · have h := h.2 hc
        refine pw_iload_n dX7_arrange_81 rfl 2 rfl ?_
        exact pw_ireturn dX7_arrange_82 rfl rfl ⟨_, rfl, h⟩
def lp_X7_arrange_2 (Q : Int32 → GS → Prop)  : Nat → Int32 → GS → Prop
  | 0, _, _ => False
  | n + 1, x2, G => (((G 1 9) ≤ x2 → (∃ kf, lp_X7_arrange_59 Q kf (0 : Int32) G)) ∧ (¬ (G 1 9) ≤ x2 → (vp_in x2 8 ∧ (∃ kf, lp_X7_arrange_19 Q (fun y2 G => lp_X7_arrange_2 Q n y2 G) kf x2 (0 : Int32) (gu_ G 42 x2.toNatClampNeg (0 : Int32))))))
set_option maxRecDepth 100000 in
set_option maxHeartbeats 4000000 in
theorem t_X7_arrange_2 {E : EV} (hE : EI_ E) (Q : Int32 → GS → Prop)  : ∀ (n : Nat) (x2 : Int32) (G : GS), lp_X7_arrange_2 Q n x2 G → PW_ E mi_X7_arrange (rm_ 15) 0 0 2 [(0, .ref (ev_ad E 40)), (1, .ref (ev_ad E 1)), (2, .int x2)] [] G (qi_ Q) := by
  intro n
  induction n with
  | zero => intro x2 G h; exact h.elim
  | succ n ih =>
    intro x2 G h
    refine pw_iload_n dX7_arrange_2 rfl 2 rfl ?_
    refine pw_aload_n dX7_arrange_3 rfl 1 rfl ?_
    refine pw_geti (v := G 1 9) dX7_arrange_4 fa_X7_18 ly_1 rfl rfl ?_
    refine pw_icmp_ge (tgt := 57) dX7_arrange_7 (by decide) (fun hc => ?_) (fun hc => ?_)
    · have h := h.1 hc
      refine pw_iconst (v := (0 : Int32)) dX7_arrange_57 (by decide) ?_
      refine pw_istore_n (lv' := [(2, .int (0 : Int32)), (0, .ref (ev_ad E 40)), (1, .ref (ev_ad E 1))]) dX7_arrange_58 rfl (by decide) rfl ?_
      refine pw_loc (lv' := [(0, .ref (ev_ad E 40)), (1, .ref (ev_ad E 1)), (2, .int (0 : Int32))]) [1, 2, 0] rfl ?_
      obtain ⟨kf, h⟩ := h
      exact t_X7_arrange_59 hE Q kf _ _ h
    · have h := h.2 hc
      refine pw_aload_n dX7_arrange_10 rfl 0 rfl ?_
      refine pw_getr (q := 42) dX7_arrange_11 fa_X7_15 ly_40 rfl ?_
      refine pw_iload_n dX7_arrange_14 rfl 2 rfl ?_
      refine pw_iconst (v := (0 : Int32)) dX7_arrange_15 (by decide) ?_
      obtain ⟨hv1, h⟩ := h
      refine pw_iast (z := x2.toNatClampNeg) dX7_arrange_16 ly_42 hv1 rfl ?_
      refine pw_iconst (v := (0 : Int32)) dX7_arrange_17 (by decide) ?_
      refine pw_istore_n (lv' := [(3, .int (0 : Int32)), (0, .ref (ev_ad E 40)), (1, .ref (ev_ad E 1)), (2, .int x2)]) dX7_arrange_18 rfl (by decide) rfl ?_
      refine pw_loc (lv' := [(0, .ref (ev_ad E 40)), (1, .ref (ev_ad E 1)), (2, .int x2), (3, .int (0 : Int32))]) [1, 2, 3, 0] rfl ?_
      obtain ⟨kf, h⟩ := h
      exact t_X7_arrange_19 hE Q (fun y2 G => lp_X7_arrange_2 Q n y2 G) ih kf _ _ _ h
def wp_X7_arrange  (G : GS) (Q : Int32 → GS → Prop) : Prop := (∃ kf, lp_X7_arrange_2 Q kf (0 : Int32) G)
set_option maxRecDepth 100000 in
set_option maxHeartbeats 4000000 in
theorem s_X7_arrange {E : EV} (hE : EI_ E)  {G : GS} {Q : Int32 → GS → Prop} (h : wp_X7_arrange  G Q) : PMet E mi_X7_arrange 15 [.ref (ev_ad E 40), .ref (ev_ad E 1)] G (qi_ Q) := by
  refine pm_of hE (by decide) (Nat.le_of_ble_eq_true rfl) ?_
  refine pw_loc (lv' := [(0, .ref (ev_ad E 40)), (1, .ref (ev_ad E 1))]) [0, 1] rfl ?_
  refine pw_iconst (v := (0 : Int32)) dX7_arrange_0 (by decide) ?_
  refine pw_istore_n (lv' := [(2, .int (0 : Int32)), (0, .ref (ev_ad E 40)), (1, .ref (ev_ad E 1))]) dX7_arrange_1 rfl (by decide) rfl ?_
  refine pw_loc (lv' := [(0, .ref (ev_ad E 40)), (1, .ref (ev_ad E 1)), (2, .int (0 : Int32))]) [1, 2, 0] rfl ?_
  obtain ⟨kf, h⟩ := h
  exact t_X7_arrange_2 hE Q kf _ _ h
def wp_X9_turnOf (a1 : Int32) (G : GS) (Q : Int32 → GS → Prop) : Prop := ((¬ a1 = 0 → wp_X9_isInRow a1 (G 1 9) G (fun r1 G2 => ((¬ r1 = 0 → wp_X7_arrange G2 (fun r3 G4 => (vp_in (a1 - (10 : Int32)) 8 ∧ Q (G4 41 ((a1 - (10 : Int32)).toNatClampNeg)) G4))) ∧ (r1 = 0 → Q (-1 : Int32) G2)))) ∧ (a1 = 0 → wp_X7_arrange G (fun r6 G7 => Q r6 G7)))
set_option maxRecDepth 100000 in
set_option maxHeartbeats 4000000 in
theorem s_X9_turnOf {E : EV} (hE : EI_ E) {a1 : Int32} {G : GS} {Q : Int32 → GS → Prop} (h : wp_X9_turnOf a1 G Q) : PMet E mi_X9_turnOf 16 [.ref (ev_ad E 0), .int a1] G (qi_ Q) := by
  refine pm_of hE (by decide) (Nat.le_of_ble_eq_true rfl) ?_
  refine pw_loc (lv' := [(0, .ref (ev_ad E 0)), (1, .int a1)]) [0, 1] rfl ?_
  refine pw_iload_n dX9_turnOf_0 rfl 1 rfl ?_
  refine pw_if_ne (tgt := 16) dX9_turnOf_1 (by decide) (fun hc => ?_) (fun hc => ?_)
  · have h := h.1 hc
    refine pw_iload_n dX9_turnOf_16 rfl 1 rfl ?_
    refine pw_aload_n dX9_turnOf_17 rfl 0 rfl ?_
    refine pw_getr (q := 1) dX9_turnOf_18 fa_X9_10 ly_0 rfl ?_
    refine pw_geti (v := G 1 9) dX9_turnOf_21 fa_X9_210 ly_1 rfl rfl ?_
    refine pw_callS (As := [.int a1, .int (G 1 9)]) (rest := []) (s_X9_isInRow hE h) dX9_turnOf_24 ml_X9_223 cs_X9_isInRow rfl (rm_ok (by decide)) rm_0 (Nat.le_of_ble_eq_true rfl) ?_
    rintro _ G2 ⟨r1, rfl, h⟩
    refine pw_if_ne (tgt := 32) dX9_turnOf_27 (by decide) (fun hc => ?_) (fun hc => ?_)
    · have h := h.1 hc
      refine pw_aload_n dX9_turnOf_32 rfl 0 rfl ?_
      refine pw_getr (q := 40) dX9_turnOf_33 fa_X9_57 ly_0 rfl ?_
      refine pw_aload_n dX9_turnOf_36 rfl 0 rfl ?_
      refine pw_getr (q := 1) dX9_turnOf_37 fa_X9_10 ly_0 rfl ?_
      refine pw_callV (As := [.ref (ev_ad E 1)]) (rest := []) (s_X7_arrange hE h) dX9_turnOf_40 ly_40 rfl (Or.inr mn_X9_219) cm_X7_arrange rfl (rm_ok (by decide)) rm_0 (Nat.le_of_ble_eq_true rfl) ?_
      rintro _ G4 ⟨r3, rfl, h⟩
      refine pw_pop dX9_turnOf_43 rfl ?_
      refine pw_aload_n dX9_turnOf_44 rfl 0 rfl ?_
      refine pw_getr (q := 40) dX9_turnOf_45 fa_X9_57 ly_0 rfl ?_
      refine pw_getr (q := 41) dX9_turnOf_48 fa_X9_227 ly_40 rfl ?_
      refine pw_iload_n dX9_turnOf_51 rfl 1 rfl ?_
      refine pw_bipush (v := (10 : Int32)) dX9_turnOf_52 (by decide) ?_
      refine pw_isub dX9_turnOf_54 ?_
      obtain ⟨hv5, h⟩ := h
      refine pw_iald (v := G4 41 ((a1 - (10 : Int32)).toNatClampNeg)) dX9_turnOf_55 ly_41 hv5 rfl ?_
      exact pw_ireturn dX9_turnOf_56 rfl rfl ⟨_, rfl, h⟩
    · have h := h.2 hc
      refine pw_iconst (v := (-1 : Int32)) dX9_turnOf_30 (by decide) ?_
      exact pw_ireturn dX9_turnOf_31 rfl rfl ⟨_, rfl, h⟩
  · have h := h.2 hc
    refine pw_aload_n dX9_turnOf_4 rfl 0 rfl ?_
    refine pw_getr (q := 40) dX9_turnOf_5 fa_X9_57 ly_0 rfl ?_
    refine pw_aload_n dX9_turnOf_8 rfl 0 rfl ?_
    refine pw_getr (q := 1) dX9_turnOf_9 fa_X9_10 ly_0 rfl ?_
    refine pw_callV (As := [.ref (ev_ad E 1)]) (rest := []) (s_X7_arrange hE h) dX9_turnOf_12 ly_40 rfl (Or.inr mn_X9_219) cm_X7_arrange rfl (rm_ok (by decide)) rm_0 (Nat.le_of_ble_eq_true rfl) ?_
    rintro _ G7 ⟨r6, rfl, h⟩
    exact pw_ireturn dX9_turnOf_15 rfl rfl ⟨_, rfl, h⟩
def wp_X9_tell (a1 : Int32) (G : GS) (Q : Int32 → GS → Prop) : Prop := ((¬ a1 = (-1 : Int32) → ((a1 < (1 : Int32) → Q (-1 : Int32) G) ∧ (¬ a1 < (1 : Int32) → (((24 : Int32) < a1 → Q (-1 : Int32) G) ∧ (¬ (24 : Int32) < a1 → (((G 1 12) < (15 : Int32) → (vp_in (G 1 12) 15 ∧ Q ((G 1 12) + (1 : Int32)) (gu_ (gu_ G 8 ((G 1 12).toNatClampNeg) a1) 1 12 ((G 1 12) + (1 : Int32))))) ∧ (¬ (G 1 12) < (15 : Int32) → Q (-1 : Int32) G))))))) ∧ (a1 = (-1 : Int32) → Q (0 : Int32) (gu_ G 1 12 (0 : Int32))))
set_option maxRecDepth 100000 in
set_option maxHeartbeats 4000000 in
theorem s_X9_tell {E : EV} (hE : EI_ E) {a1 : Int32} {G : GS} {Q : Int32 → GS → Prop} (h : wp_X9_tell a1 G Q) : PMet E mi_X9_tell 1 [.ref (ev_ad E 0), .int a1] G (qi_ Q) := by
  refine pm_of hE (by decide) (Nat.le_of_ble_eq_true rfl) ?_
  refine pw_loc (lv' := [(0, .ref (ev_ad E 0)), (1, .int a1)]) [0, 1] rfl ?_
  refine pw_iload_n dX9_tell_0 rfl 1 rfl ?_
  refine pw_iconst (v := (-1 : Int32)) dX9_tell_1 (by decide) ?_
  refine pw_icmp_ne (tgt := 15) dX9_tell_2 (by decide) (fun hc => ?_) (fun hc => ?_)
  · have h := h.1 hc
    refine pw_iload_n dX9_tell_15 rfl 1 rfl ?_
    refine pw_iconst (v := (1 : Int32)) dX9_tell_16 (by decide) ?_
    refine pw_icmp_lt (tgt := 38) dX9_tell_17 (by decide) (fun hc => ?_) (fun hc => ?_)
    · have h := h.1 hc
      refine pw_iconst (v := (-1 : Int32)) dX9_tell_38 (by decide) ?_
      exact pw_ireturn dX9_tell_39 rfl rfl ⟨_, rfl, h⟩
    · have h := h.2 hc
      refine pw_iload_n dX9_tell_20 rfl 1 rfl ?_
      refine pw_bipush (v := (24 : Int32)) dX9_tell_21 (by decide) ?_
      refine pw_icmp_gt (tgt := 38) dX9_tell_23 (by decide) (fun hc => ?_) (fun hc => ?_)
      · have h := h.1 hc
        refine pw_iconst (v := (-1 : Int32)) dX9_tell_38 (by decide) ?_
        exact pw_ireturn dX9_tell_39 rfl rfl ⟨_, rfl, h⟩
      · have h := h.2 hc
        refine pw_aload_n dX9_tell_26 rfl 0 rfl ?_
        refine pw_getr (q := 1) dX9_tell_27 fa_X9_10 ly_0 rfl ?_
        refine pw_geti (v := G 1 12) dX9_tell_30 fa_X9_230 ly_1 rfl rfl ?_
        refine pw_bipush (v := (15 : Int32)) dX9_tell_33 (by decide) ?_
        refine pw_icmp_lt (tgt := 40) dX9_tell_35 (by decide) (fun hc => ?_) (fun hc => ?_)
        · have h := h.1 hc
          refine pw_aload_n dX9_tell_40 rfl 0 rfl ?_
          refine pw_getr (q := 1) dX9_tell_41 fa_X9_10 ly_0 rfl ?_
          refine pw_getr (q := 8) dX9_tell_44 fa_X9_233 ly_1 rfl ?_
          refine pw_aload_n dX9_tell_47 rfl 0 rfl ?_
          refine pw_getr (q := 1) dX9_tell_48 fa_X9_10 ly_0 rfl ?_
          refine pw_geti (v := G 1 12) dX9_tell_51 fa_X9_230 ly_1 rfl rfl ?_
          refine pw_iload_n dX9_tell_54 rfl 1 rfl ?_
          obtain ⟨hv1, h⟩ := h
          refine pw_iast (z := ((G 1 12).toNatClampNeg)) dX9_tell_55 ly_8 hv1 rfl ?_
          refine pw_aload_n dX9_tell_56 rfl 0 rfl ?_
          refine pw_getr (q := 1) dX9_tell_57 fa_X9_10 ly_0 rfl ?_
          refine pw_dup dX9_tell_60 rfl ?_
          refine pw_geti (v := G 1 12) dX9_tell_61 fa_X9_230 ly_1 rfl rfl ?_
          refine pw_iconst (v := (1 : Int32)) dX9_tell_64 (by decide) ?_
          refine pw_iadd dX9_tell_65 ?_
          refine pw_puti dX9_tell_66 fp_X9_230 ly_1 rfl ?_
          refine pw_aload_n dX9_tell_69 rfl 0 rfl ?_
          refine pw_getr (q := 1) dX9_tell_70 fa_X9_10 ly_0 rfl ?_
          refine pw_geti (v := (G 1 12) + (1 : Int32)) dX9_tell_73 fa_X9_230 ly_1 rfl rfl ?_
          exact pw_ireturn dX9_tell_76 rfl rfl ⟨_, rfl, h⟩
        · have h := h.2 hc
          refine pw_iconst (v := (-1 : Int32)) dX9_tell_38 (by decide) ?_
          exact pw_ireturn dX9_tell_39 rfl rfl ⟨_, rfl, h⟩
  · have h := h.2 hc
    refine pw_aload_n dX9_tell_5 rfl 0 rfl ?_
    refine pw_getr (q := 1) dX9_tell_6 fa_X9_10 ly_0 rfl ?_
    refine pw_iconst (v := (0 : Int32)) dX9_tell_9 (by decide) ?_
    refine pw_puti dX9_tell_10 fp_X9_230 ly_1 rfl ?_
    refine pw_iconst (v := (0 : Int32)) dX9_tell_13 (by decide) ?_
    exact pw_ireturn dX9_tell_14 rfl rfl ⟨_, rfl, h⟩
def lp_J7_fill_5 (Q : Int32 → GS → Prop)  : Nat → Int32 → Int32 → Int32 → GS → Prop
  | 0, _, _, _, _ => False
  | n + 1, x1, x2, x3, G => ((x3 ≤ x2 → Q 0 G) ∧ (¬ x3 ≤ x2 → (vp_in x2 25 ∧ lp_J7_fill_5 Q n x1 (x2 + 1) x3 (gu_ G 46 x2.toNatClampNeg x1))))
set_option maxRecDepth 100000 in
set_option maxHeartbeats 4000000 in
theorem t_J7_fill_5 {E : EV} (hE : EI_ E) (Q : Int32 → GS → Prop)  : ∀ (n : Nat) (x1 : Int32) (x2 : Int32) (x3 : Int32) (G : GS), lp_J7_fill_5 Q n x1 x2 x3 G → PW_ E mi_J7_fill_53178 (rm_ 1) 0 0 5 [(0, .ref (ev_ad E 46)), (1, .int x1), (2, .int x2), (3, .int x3)] [] G (qv_ Q) := by
  intro n
  induction n with
  | zero => intro x1 x2 x3 G h; exact h.elim
  | succ n ih =>
    intro x1 x2 x3 G h
    refine pw_iload_n dJ7_fill_53178_5 rfl 2 rfl ?_
    refine pw_iload_n dJ7_fill_53178_6 rfl 3 rfl ?_
    refine pw_icmp_ge (tgt := 20) dJ7_fill_53178_7 (by decide) (fun hc => ?_) (fun hc => ?_)
    · have h := h.1 hc
      exact pw_return dJ7_fill_53178_20 rfl ⟨rfl, h⟩
    · have h := h.2 hc
      refine pw_aload_n dJ7_fill_53178_10 rfl 0 rfl ?_
      refine pw_iload_n dJ7_fill_53178_11 rfl 2 rfl ?_
      refine pw_iload_n dJ7_fill_53178_12 rfl 1 rfl ?_
      obtain ⟨hv1, h⟩ := h
      refine pw_iast (z := x2.toNatClampNeg) dJ7_fill_53178_13 ly_46 hv1 rfl ?_
      refine pw_iinc (k := 2) (v := x2 + 1) (lv' := [(2, .int (x2 + 1)), (0, .ref (ev_ad E 46)), (1, .int x1), (3, .int x3)]) dJ7_fill_53178_14 rfl rfl (by decide) rfl ?_
      refine pw_goto (tgt := 5) dJ7_fill_53178_17 (by decide) ?_
      refine pw_loc (lv' := [(0, .ref (ev_ad E 46)), (1, .int x1), (2, .int (x2 + 1)), (3, .int x3)]) [1, 2, 0, 3] rfl ?_
      exact ih _ _ _ _ h
def wp_J7_fill (a1 : Int32) (G : GS) (Q : Int32 → GS → Prop) : Prop := (∃ kf, lp_J7_fill_5 Q kf a1 (0 : Int32) (25 : Int32) G)
set_option maxRecDepth 100000 in
set_option maxHeartbeats 4000000 in
theorem s_J7_fill {E : EV} (hE : EI_ E) {a1 : Int32} {G : GS} {Q : Int32 → GS → Prop} (h : wp_J7_fill a1 G Q) : PMet E mi_J7_fill_53178 1 [.ref (ev_ad E 46), .int a1] G (qv_ Q) := by
  refine pm_of hE (by decide) (Nat.le_of_ble_eq_true rfl) ?_
  refine pw_loc (lv' := [(0, .ref (ev_ad E 46)), (1, .int a1)]) [0, 1] rfl ?_
  refine pw_iconst (v := (0 : Int32)) dJ7_fill_53178_0 (by decide) ?_
  refine pw_istore_n (lv' := [(2, .int (0 : Int32)), (0, .ref (ev_ad E 46)), (1, .int a1)]) dJ7_fill_53178_1 rfl (by decide) rfl ?_
  refine pw_aload_n dJ7_fill_53178_2 rfl 1 rfl ?_
  refine pw_alen (v := (25 : Int32)) dJ7_fill_53178_3 ly_46 (by decide) rfl ?_
  refine pw_istore_n (lv' := [(3, .int (25 : Int32)), (2, .int (0 : Int32)), (0, .ref (ev_ad E 46)), (1, .int a1)]) dJ7_fill_53178_4 rfl (by decide) rfl ?_
  refine pw_loc (lv' := [(0, .ref (ev_ad E 46)), (1, .int a1), (2, .int (0 : Int32)), (3, .int (25 : Int32))]) [2, 3, 1, 0] rfl ?_
  obtain ⟨kf, h⟩ := h
  exact t_J7_fill_5 hE Q kf _ _ _ _ h
