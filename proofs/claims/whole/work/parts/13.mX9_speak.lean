def wp_X9_speak (a1 : Int32) (a2 : Int32) (G : GS) (Q : Int32 → GS → Prop) : Prop := ((a1 = a2 → Q (-1 : Int32) G) ∧ (¬ a1 = a2 → wp_X8_hasHum a1 G (fun r1 G2 => ((r1 = 0 → Q (-1 : Int32) G2) ∧ (¬ r1 = 0 → wp_X8_hasHum a2 G2 (fun r3 G4 => ((¬ r3 = 0 → wp_X5_keep G4 (fun _ G6 => wp_X2_hearersOf a1 a2 G6 (fun r7 G8 => wp_X8_wordOf a1 a2 G8 (fun r9 G10 => wp_X0_write (if a2 < a1 then a2 else a1) (if a1 < a2 then a2 else a1) r9 (G10 1 6) r7 G10 (fun _ G12 => Q r7 G12))))) ∧ (r3 = 0 → Q (-1 : Int32) G4))))))))
set_option maxRecDepth 100000 in
set_option maxHeartbeats 4000000 in
theorem s_X9_speak {E : EV} (hE : EI_ E) {a1 : Int32} {a2 : Int32} {G : GS} {Q : Int32 → GS → Prop} (h : wp_X9_speak a1 a2 G Q) : PMet E mi_X9_speak 5 [.ref (ev_ad E 0), .int a1, .int a2] G (qi_ Q) := by
  refine pm_of hE (by decide) (Nat.le_of_ble_eq_true rfl) ?_
  refine pw_loc (lv' := [(0, .ref (ev_ad E 0)), (1, .int a1), (2, .int a2)]) [0, 1, 2] rfl ?_
  refine pw_iload_n dX9_speak_0 rfl 1 rfl ?_
  refine pw_iload_n dX9_speak_1 rfl 2 rfl ?_
  refine pw_icmp_eq (tgt := 27) dX9_speak_2 (by decide) (fun hc => ?_) (fun hc => ?_)
  · have h := h.1 hc
    refine pw_iconst (v := (-1 : Int32)) dX9_speak_27 (by decide) ?_
    exact pw_ireturn dX9_speak_28 rfl rfl ⟨_, rfl, h⟩
  · have h := h.2 hc
    refine pw_aload_n dX9_speak_5 rfl 0 rfl ?_
    refine pw_getr (q := 1) dX9_speak_6 fa_X9_10 ly_0 rfl ?_
    refine pw_iload_n dX9_speak_9 rfl 1 rfl ?_
    refine pw_callV (As := [.int a1]) (rest := []) (s_X8_hasHum hE h) dX9_speak_10 ly_1 rfl (Or.inr mn_X9_131) cm_X8_hasHum rfl (rm_ok (by decide)) rm_0 (Nat.le_of_ble_eq_true rfl) ?_
    rintro _ G2 ⟨r1, rfl, h⟩
    refine pw_if_eq (tgt := 27) dX9_speak_13 (by decide) (fun hc => ?_) (fun hc => ?_)
    · have h := h.1 hc
      refine pw_iconst (v := (-1 : Int32)) dX9_speak_27 (by decide) ?_
      exact pw_ireturn dX9_speak_28 rfl rfl ⟨_, rfl, h⟩
    · have h := h.2 hc
      refine pw_aload_n dX9_speak_16 rfl 0 rfl ?_
      refine pw_getr (q := 1) dX9_speak_17 fa_X9_10 ly_0 rfl ?_
      refine pw_iload_n dX9_speak_20 rfl 2 rfl ?_
      refine pw_callV (As := [.int a2]) (rest := []) (s_X8_hasHum hE h) dX9_speak_21 ly_1 rfl (Or.inr mn_X9_131) cm_X8_hasHum rfl (rm_ok (by decide)) rm_0 (Nat.le_of_ble_eq_true rfl) ?_
      rintro _ G4 ⟨r3, rfl, h⟩
      refine pw_if_ne (tgt := 29) dX9_speak_24 (by decide) (fun hc => ?_) (fun hc => ?_)
      · have h := h.1 hc
        refine pw_aload_n dX9_speak_29 rfl 0 rfl ?_
        refine pw_getr (q := 27) dX9_speak_30 fa_X9_26 ly_0 rfl ?_
        refine pw_aload_n dX9_speak_33 rfl 0 rfl ?_
        refine pw_getr (q := 1) dX9_speak_34 fa_X9_10 ly_0 rfl ?_
        refine pw_callV (As := [.ref (ev_ad E 1)]) (rest := []) (s_X5_keep hE h) dX9_speak_37 ly_27 rfl (Or.inr mn_X9_134) cm_X5_keep rfl (rm_ok (by decide)) rm_0 (Nat.le_of_ble_eq_true rfl) ?_
        rintro _ G6 ⟨rfl, h⟩
        refine pw_aload_n dX9_speak_40 rfl 0 rfl ?_
        refine pw_getr (q := 38) dX9_speak_41 fa_X9_50 ly_0 rfl ?_
        refine pw_aload_n dX9_speak_44 rfl 0 rfl ?_
        refine pw_getr (q := 1) dX9_speak_45 fa_X9_10 ly_0 rfl ?_
        refine pw_iload_n dX9_speak_48 rfl 1 rfl ?_
        refine pw_iload_n dX9_speak_49 rfl 2 rfl ?_
        refine pw_callV (As := [.ref (ev_ad E 1), .int a1, .int a2]) (rest := []) (s_X2_hearersOf hE h) dX9_speak_50 ly_38 rfl (Or.inr mn_X9_138) cm_X2_hearersOf rfl (rm_ok (by decide)) rm_0 (Nat.le_of_ble_eq_true rfl) ?_
        rintro _ G8 ⟨r7, rfl, h⟩
        refine pw_istore_n (lv' := [(3, .int r7), (0, .ref (ev_ad E 0)), (1, .int a1), (2, .int a2)]) dX9_speak_53 rfl (by decide) rfl ?_
        refine pw_aload_n dX9_speak_54 rfl 1 rfl ?_
        refine pw_getr (q := 1) dX9_speak_55 fa_X9_10 ly_0 rfl ?_
        refine pw_getr (q := 12) dX9_speak_58 fa_X9_142 ly_1 rfl ?_
        refine pw_iload_n dX9_speak_61 rfl 2 rfl ?_
        refine pw_iload_n dX9_speak_62 rfl 3 rfl ?_
        refine pw_mmin dX9_speak_63 jm_X9_146 (rm_ok1 (by decide)) rm_0 (Nat.le_of_ble_eq_true rfl) ?_
        refine pw_iload_n dX9_speak_66 rfl 2 rfl ?_
        refine pw_iload_n dX9_speak_67 rfl 3 rfl ?_
        refine pw_mmax dX9_speak_68 jm_X9_152 (rm_ok1 (by decide)) rm_0 (Nat.le_of_ble_eq_true rfl) ?_
        refine pw_aload_n dX9_speak_71 rfl 1 rfl ?_
        refine pw_getr (q := 1) dX9_speak_72 fa_X9_10 ly_0 rfl ?_
        refine pw_iload_n dX9_speak_75 rfl 2 rfl ?_
        refine pw_iload_n dX9_speak_76 rfl 3 rfl ?_
        refine pw_callV (As := [.int a1, .int a2]) (rest := [.int (if a1 < a2 then a2 else a1), .int (if a2 < a1 then a2 else a1), .ref (ev_ad E 12)]) (s_X8_wordOf hE h) dX9_speak_77 ly_1 rfl (Or.inr mn_X9_155) cm_X8_wordOf rfl (rm_ok (by decide)) rm_0 (Nat.le_of_ble_eq_true rfl) ?_
        rintro _ G10 ⟨r9, rfl, h⟩
        refine pw_aload_n dX9_speak_80 rfl 1 rfl ?_
        refine pw_getr (q := 1) dX9_speak_81 fa_X9_10 ly_0 rfl ?_
        refine pw_geti (v := G10 1 6) dX9_speak_84 fa_X9_158 ly_1 rfl rfl ?_
        refine pw_iload_n dX9_speak_87 rfl 0 rfl ?_
        refine pw_callV (As := [.int (if a2 < a1 then a2 else a1), .int (if a1 < a2 then a2 else a1), .int r9, .int (G10 1 6), .int r7]) (rest := []) (s_X0_write hE h) dX9_speak_88 ly_12 rfl (Or.inr mn_X9_161) cm_X0_write rfl (rm_ok (by decide)) rm_0 (Nat.le_of_ble_eq_true rfl) ?_
        rintro _ G12 ⟨rfl, h⟩
        refine pw_iload_n dX9_speak_91 rfl 0 rfl ?_
        exact pw_ireturn dX9_speak_92 rfl rfl ⟨_, rfl, h⟩
      · have h := h.2 hc
        refine pw_iconst (v := (-1 : Int32)) dX9_speak_27 (by decide) ?_
        exact pw_ireturn dX9_speak_28 rfl rfl ⟨_, rfl, h⟩
def wp_X8_draw (a1 : Int32) (G : GS) (Q : Int32 → GS → Prop) : Prop := (((1 : Int32) ≤ a1 → ((¬ a1 = 0) ∧ Q ((ush_ (((1664525 : Int32) * (G 1 0)) + (1013904223 : Int32)) (8 : Int32)) - (ush_ (((1664525 : Int32) * (G 1 0)) + (1013904223 : Int32)) (8 : Int32)) / a1 * a1) (gu_ G 1 0 (((1664525 : Int32) * (G 1 0)) + (1013904223 : Int32))))) ∧ (¬ (1 : Int32) ≤ a1 → Q (0 : Int32) (gu_ G 1 0 (((1664525 : Int32) * (G 1 0)) + (1013904223 : Int32)))))
set_option maxRecDepth 100000 in
set_option maxHeartbeats 4000000 in
theorem s_X8_draw {E : EV} (hE : EI_ E) {a1 : Int32} {G : GS} {Q : Int32 → GS → Prop} (h : wp_X8_draw a1 G Q) : PMet E mi_X8_draw 1 [.ref (ev_ad E 1), .int a1] G (qi_ Q) := by
  refine pm_of hE (by decide) (Nat.le_of_ble_eq_true rfl) ?_
  refine pw_loc (lv' := [(0, .ref (ev_ad E 1)), (1, .int a1)]) [0, 1] rfl ?_
  refine pw_aload_n dX8_draw_0 rfl 0 rfl ?_
  refine pw_ldc (v := (1664525 : Int32)) dX8_draw_1 k_X8_105 ?_
  refine pw_aload_n dX8_draw_3 rfl 0 rfl ?_
  refine pw_geti (v := G 1 0) dX8_draw_4 fa_X8_53 ly_1 rfl rfl ?_
  refine pw_imul dX8_draw_7 ?_
  refine pw_ldc (v := (1013904223 : Int32)) dX8_draw_8 k_X8_106 ?_
  refine pw_iadd dX8_draw_10 ?_
  refine pw_puti dX8_draw_11 fp_X8_53 ly_1 rfl ?_
  refine pw_iload_n dX8_draw_14 rfl 1 rfl ?_
  refine pw_iconst (v := (1 : Int32)) dX8_draw_15 (by decide) ?_
  refine pw_icmp_ge (tgt := 23) dX8_draw_16 (by decide) (fun hc => ?_) (fun hc => ?_)
  · have h := h.1 hc
    refine pw_aload_n dX8_draw_23 rfl 0 rfl ?_
    refine pw_geti (v := ((1664525 : Int32) * (G 1 0)) + (1013904223 : Int32)) dX8_draw_24 fa_X8_53 ly_1 rfl rfl ?_
    refine pw_bipush (v := (8 : Int32)) dX8_draw_27 (by decide) ?_
    refine pw_iushr dX8_draw_29 ?_
    refine pw_iload_n dX8_draw_30 rfl 1 rfl ?_
    obtain ⟨hv1, h⟩ := h
    refine pw_irem dX8_draw_31 hv1 ?_
    exact pw_ireturn dX8_draw_32 rfl rfl ⟨_, rfl, h⟩
  · have h := h.2 hc
    refine pw_iconst (v := (0 : Int32)) dX8_draw_19 (by decide) ?_
    refine pw_goto (tgt := 32) dX8_draw_20 (by decide) ?_
    exact pw_ireturn dX8_draw_32 rfl rfl ⟨_, rfl, h⟩
def bk_X8_passHour_72 (Q : Int32 → GS → Prop) (R4 : Int32 → Int32 → GS → Prop)  (x1 : Int32) (x2 : Int32) (z0 : Int32) (G : GS) : Prop := (vp_in x2 10 ∧ R4 (x1 + 1) (x2 + 1) (gu_ G 2 x2.toNatClampNeg (if (0 : Int32) < (if z0 < (60 : Int32) then z0 else (60 : Int32)) then if z0 < (60 : Int32) then z0 else (60 : Int32) else (0 : Int32))))
set_option maxRecDepth 100000 in
set_option maxHeartbeats 4000000 in
theorem t_X8_passHour_72 {E : EV} (hE : EI_ E) (Q : Int32 → GS → Prop) (R4 : Int32 → Int32 → GS → Prop) (hR4 : ∀ (x1 : Int32) (x2 : Int32) (G : GS), R4 x1 x2 G → PW_ E mi_X8_passHour (rm_ 2) 0 0 4 [(0, .ref (ev_ad E 1)), (1, .int x1), (2, .int x2)] [] G (qi_ Q))  {x1 : Int32} {x2 : Int32} {z0 : Int32} {G : GS} (h : bk_X8_passHour_72 Q R4 x1 x2 z0 G) : PW_ E mi_X8_passHour (rm_ 2) 0 0 72 [(0, .ref (ev_ad E 1)), (1, .int x1), (2, .int x2)] [.int z0] G (qi_ Q) := by
  refine pw_istore_n (lv' := [(3, .int z0), (0, .ref (ev_ad E 1)), (1, .int x1), (2, .int x2)]) dX8_passHour_72 rfl (by decide) rfl ?_
  refine pw_aload_n dX8_passHour_73 rfl 1 rfl ?_
  refine pw_getr (q := 2) dX8_passHour_74 fa_X8_9 ly_1 rfl ?_
  refine pw_iload_n dX8_passHour_77 rfl 3 rfl ?_
  refine pw_iconst (v := (0 : Int32)) dX8_passHour_78 (by decide) ?_
  refine pw_bipush (v := (60 : Int32)) dX8_passHour_79 (by decide) ?_
  refine pw_iload_n dX8_passHour_81 rfl 0 rfl ?_
  refine pw_mmin dX8_passHour_82 jm_X8_110 (rm_ok1 (by decide)) rm_0 (Nat.le_of_ble_eq_true rfl) ?_
  refine pw_mmax dX8_passHour_85 jm_X8_113 (rm_ok1 (by decide)) rm_0 (Nat.le_of_ble_eq_true rfl) ?_
  obtain ⟨hv7, h⟩ := h
  refine pw_iast (z := x2.toNatClampNeg) dX8_passHour_88 ly_2 hv7 rfl ?_
  refine pw_iinc (k := 2) (v := x1 + 1) (lv' := [(1, .int (x1 + 1)), (3, .int z0), (0, .ref (ev_ad E 1)), (2, .int x2)]) dX8_passHour_89 rfl rfl (by decide) rfl ?_
  refine pw_iinc (k := 3) (v := x2 + 1) (lv' := [(2, .int (x2 + 1)), (1, .int (x1 + 1)), (3, .int z0), (0, .ref (ev_ad E 1))]) dX8_passHour_92 rfl rfl (by decide) rfl ?_
  refine pw_goto (tgt := 4) dX8_passHour_95 (by decide) ?_
  refine pw_loc (lv' := [(0, .ref (ev_ad E 1)), (1, .int (x1 + 1)), (2, .int (x2 + 1))]) [3, 1, 0] rfl ?_
  exact hR4 _ _ _ h
def lp_X8_passHour_4 (Q : Int32 → GS → Prop)  : Nat → Int32 → Int32 → GS → Prop
  | 0, _, _, _ => False
  | n + 1, x1, x2, G => (((G 1 1) ≤ x2 → Q x1 (gu_ G 1 6 ((G 1 6) + (1 : Int32)))) ∧ (¬ (G 1 1) ≤ x2 → (((G 1 5) ≤ 0 → Q x1 (gu_ G 1 6 ((G 1 6) + (1 : Int32)))) ∧ (¬ (G 1 5) ≤ 0 → ((¬ (((G 1 4) >>> (x2 &&& 31)) &&& (1 : Int32)) = (1 : Int32) → lp_X8_passHour_4 Q n x1 (x2 + 1) G) ∧ ((((G 1 4) >>> (x2 &&& 31)) &&& (1 : Int32)) = (1 : Int32) → wp_X8_draw (1000 : Int32) G (fun r1 G2 => (((G2 1 5) ≤ r1 → lp_X8_passHour_4 Q n x1 (x2 + 1) G2) ∧ (¬ (G2 1 5) ≤ r1 → wp_X8_draw (2 : Int32) G2 (fun r3 G4 => ((¬ r3 = 0 → (vp_in x2 10 ∧ bk_X8_passHour_72 Q (fun y1 y2 G => lp_X8_passHour_4 Q n y1 y2 G) x1 x2 ((G4 2 x2.toNatClampNeg) + (1 : Int32)) G4)) ∧ (r3 = 0 → (vp_in x2 10 ∧ bk_X8_passHour_72 Q (fun y1 y2 G => lp_X8_passHour_4 Q n y1 y2 G) x1 x2 ((G4 2 x2.toNatClampNeg) - (1 : Int32)) G4)))))))))))))
set_option maxRecDepth 100000 in
set_option maxHeartbeats 4000000 in
theorem t_X8_passHour_4 {E : EV} (hE : EI_ E) (Q : Int32 → GS → Prop)  : ∀ (n : Nat) (x1 : Int32) (x2 : Int32) (G : GS), lp_X8_passHour_4 Q n x1 x2 G → PW_ E mi_X8_passHour (rm_ 2) 0 0 4 [(0, .ref (ev_ad E 1)), (1, .int x1), (2, .int x2)] [] G (qi_ Q) := by
  intro n
  induction n with
  | zero => intro x1 x2 G h; exact h.elim
  | succ n ih =>
    intro x1 x2 G h
    refine pw_iload_n dX8_passHour_4 rfl 2 rfl ?_
    refine pw_aload_n dX8_passHour_5 rfl 0 rfl ?_
    refine pw_geti (v := G 1 1) dX8_passHour_6 fa_X8_57 ly_1 rfl rfl ?_
    refine pw_icmp_ge (tgt := 98) dX8_passHour_9 (by decide) (fun hc => ?_) (fun hc => ?_)
    · have h := h.1 hc
      refine pw_aload_n dX8_passHour_98 rfl 0 rfl ?_
      refine pw_dup dX8_passHour_99 rfl ?_
      refine pw_geti (v := G 1 6) dX8_passHour_100 fa_X8_72 ly_1 rfl rfl ?_
      refine pw_iconst (v := (1 : Int32)) dX8_passHour_103 (by decide) ?_
      refine pw_iadd dX8_passHour_104 ?_
      refine pw_puti dX8_passHour_105 fp_X8_72 ly_1 rfl ?_
      refine pw_iload_n dX8_passHour_108 rfl 1 rfl ?_
      exact pw_ireturn dX8_passHour_109 rfl rfl ⟨_, rfl, h⟩
    · have h := h.2 hc
      refine pw_aload_n dX8_passHour_12 rfl 0 rfl ?_
      refine pw_geti (v := G 1 5) dX8_passHour_13 fa_X8_69 ly_1 rfl rfl ?_
      refine pw_if_le (tgt := 98) dX8_passHour_16 (by decide) (fun hc => ?_) (fun hc => ?_)
      · have h := h.1 hc
        refine pw_aload_n dX8_passHour_98 rfl 0 rfl ?_
        refine pw_dup dX8_passHour_99 rfl ?_
        refine pw_geti (v := G 1 6) dX8_passHour_100 fa_X8_72 ly_1 rfl rfl ?_
        refine pw_iconst (v := (1 : Int32)) dX8_passHour_103 (by decide) ?_
        refine pw_iadd dX8_passHour_104 ?_
        refine pw_puti dX8_passHour_105 fp_X8_72 ly_1 rfl ?_
        refine pw_iload_n dX8_passHour_108 rfl 1 rfl ?_
        exact pw_ireturn dX8_passHour_109 rfl rfl ⟨_, rfl, h⟩
      · have h := h.2 hc
        refine pw_aload_n dX8_passHour_19 rfl 0 rfl ?_
        refine pw_geti (v := G 1 4) dX8_passHour_20 fa_X8_66 ly_1 rfl rfl ?_
        refine pw_iload_n dX8_passHour_23 rfl 2 rfl ?_
        refine pw_ishr dX8_passHour_24 ?_
        refine pw_iconst (v := (1 : Int32)) dX8_passHour_25 (by decide) ?_
        refine pw_iand dX8_passHour_26 ?_
        refine pw_iconst (v := (1 : Int32)) dX8_passHour_27 (by decide) ?_
        refine pw_icmp_ne (tgt := 92) dX8_passHour_28 (by decide) (fun hc => ?_) (fun hc => ?_)
        · have h := h.1 hc
          refine pw_iinc (k := 2) (v := x2 + 1) (lv' := [(2, .int (x2 + 1)), (0, .ref (ev_ad E 1)), (1, .int x1)]) dX8_passHour_92 rfl rfl (by decide) rfl ?_
          refine pw_goto (tgt := 4) dX8_passHour_95 (by decide) ?_
          refine pw_loc (lv' := [(0, .ref (ev_ad E 1)), (1, .int x1), (2, .int (x2 + 1))]) [1, 2, 0] rfl ?_
          exact ih _ _ _ h
        · have h := h.2 hc
          refine pw_aload_n dX8_passHour_31 rfl 0 rfl ?_
          refine pw_sipush (v := (1000 : Int32)) dX8_passHour_32 (by decide) ?_
          refine pw_callV (As := [.int (1000 : Int32)]) (rest := []) (s_X8_draw hE h) dX8_passHour_35 ly_1 rfl (Or.inl ml_X8_107) cm_X8_draw rfl (rm_ok (by decide)) rm_0 (Nat.le_of_ble_eq_true rfl) ?_
          rintro _ G2 ⟨r1, rfl, h⟩
          refine pw_aload_n dX8_passHour_38 rfl 0 rfl ?_
          refine pw_geti (v := G2 1 5) dX8_passHour_39 fa_X8_69 ly_1 rfl rfl ?_
          refine pw_icmp_ge (tgt := 92) dX8_passHour_42 (by decide) (fun hc => ?_) (fun hc => ?_)
          · have h := h.1 hc
            refine pw_iinc (k := 2) (v := x2 + 1) (lv' := [(2, .int (x2 + 1)), (0, .ref (ev_ad E 1)), (1, .int x1)]) dX8_passHour_92 rfl rfl (by decide) rfl ?_
            refine pw_goto (tgt := 4) dX8_passHour_95 (by decide) ?_
            refine pw_loc (lv' := [(0, .ref (ev_ad E 1)), (1, .int x1), (2, .int (x2 + 1))]) [1, 2, 0] rfl ?_
            exact ih _ _ _ h
          · have h := h.2 hc
            refine pw_aload_n dX8_passHour_45 rfl 0 rfl ?_
            refine pw_iconst (v := (2 : Int32)) dX8_passHour_46 (by decide) ?_
            refine pw_callV (As := [.int (2 : Int32)]) (rest := []) (s_X8_draw hE h) dX8_passHour_47 ly_1 rfl (Or.inl ml_X8_107) cm_X8_draw rfl (rm_ok (by decide)) rm_0 (Nat.le_of_ble_eq_true rfl) ?_
            rintro _ G4 ⟨r3, rfl, h⟩
            refine pw_if_ne (tgt := 64) dX8_passHour_50 (by decide) (fun hc => ?_) (fun hc => ?_)
            · have h := h.1 hc
              refine pw_aload_n dX8_passHour_64 rfl 0 rfl ?_
              refine pw_getr (q := 2) dX8_passHour_65 fa_X8_9 ly_1 rfl ?_
              refine pw_iload_n dX8_passHour_68 rfl 2 rfl ?_
              obtain ⟨hv5, h⟩ := h
              refine pw_iald (v := G4 2 x2.toNatClampNeg) dX8_passHour_69 ly_2 hv5 rfl ?_
              refine pw_iconst (v := (1 : Int32)) dX8_passHour_70 (by decide) ?_
              refine pw_iadd dX8_passHour_71 ?_
              refine pw_loc (lv' := [(0, .ref (ev_ad E 1)), (1, .int x1), (2, .int x2)]) [0, 1, 2] rfl ?_
              exact t_X8_passHour_72 hE Q (fun y1 y2 G => lp_X8_passHour_4 Q n y1 y2 G) ih h
            · have h := h.2 hc
              refine pw_aload_n dX8_passHour_53 rfl 0 rfl ?_
              refine pw_getr (q := 2) dX8_passHour_54 fa_X8_9 ly_1 rfl ?_
              refine pw_iload_n dX8_passHour_57 rfl 2 rfl ?_
              obtain ⟨hv6, h⟩ := h
              refine pw_iald (v := G4 2 x2.toNatClampNeg) dX8_passHour_58 ly_2 hv6 rfl ?_
              refine pw_iconst (v := (1 : Int32)) dX8_passHour_59 (by decide) ?_
              refine pw_isub dX8_passHour_60 ?_
              refine pw_goto (tgt := 72) dX8_passHour_61 (by decide) ?_
              refine pw_loc (lv' := [(0, .ref (ev_ad E 1)), (1, .int x1), (2, .int x2)]) [0, 1, 2] rfl ?_
              exact t_X8_passHour_72 hE Q (fun y1 y2 G => lp_X8_passHour_4 Q n y1 y2 G) ih h
def wp_X8_passHour  (G : GS) (Q : Int32 → GS → Prop) : Prop := (∃ kf, lp_X8_passHour_4 Q kf (0 : Int32) (0 : Int32) G)
set_option maxRecDepth 100000 in
set_option maxHeartbeats 4000000 in
theorem s_X8_passHour {E : EV} (hE : EI_ E)  {G : GS} {Q : Int32 → GS → Prop} (h : wp_X8_passHour  G Q) : PMet E mi_X8_passHour 2 [.ref (ev_ad E 1)] G (qi_ Q) := by
  refine pm_of hE (by decide) (Nat.le_of_ble_eq_true rfl) ?_
  refine pw_loc (lv' := [(0, .ref (ev_ad E 1))]) [0] rfl ?_
  refine pw_iconst (v := (0 : Int32)) dX8_passHour_0 (by decide) ?_
  refine pw_istore_n (lv' := [(1, .int (0 : Int32)), (0, .ref (ev_ad E 1))]) dX8_passHour_1 rfl (by decide) rfl ?_
  refine pw_iconst (v := (0 : Int32)) dX8_passHour_2 (by decide) ?_
  refine pw_istore_n (lv' := [(2, .int (0 : Int32)), (1, .int (0 : Int32)), (0, .ref (ev_ad E 1))]) dX8_passHour_3 rfl (by decide) rfl ?_
  refine pw_loc (lv' := [(0, .ref (ev_ad E 1)), (1, .int (0 : Int32)), (2, .int (0 : Int32))]) [2, 1, 0] rfl ?_
  obtain ⟨kf, h⟩ := h
  exact t_X8_passHour_4 hE Q kf _ _ _ h
def lp_X9_hours_32 (Q : Int32 → GS → Prop)  : Nat → Int32 → Int32 → Int32 → GS → Prop
  | 0, _, _, _, _ => False
  | n + 1, x1, x2, x3, G => ((x1 ≤ x3 → Q x2 G) ∧ (¬ x1 ≤ x3 → wp_X5_keep G (fun _ G2 => wp_X8_passHour G2 (fun r3 G4 => lp_X9_hours_32 Q n x1 (x2 + r3) (x3 + 1) G4))))
set_option maxRecDepth 100000 in
set_option maxHeartbeats 4000000 in
theorem t_X9_hours_32 {E : EV} (hE : EI_ E) (Q : Int32 → GS → Prop)  : ∀ (n : Nat) (x1 : Int32) (x2 : Int32) (x3 : Int32) (G : GS), lp_X9_hours_32 Q n x1 x2 x3 G → PW_ E mi_X9_hours (rm_ 3) 0 0 32 [(0, .ref (ev_ad E 0)), (1, .int x1), (2, .int x2), (3, .int x3)] [] G (qi_ Q) := by
  intro n
  induction n with
  | zero => intro x1 x2 x3 G h; exact h.elim
  | succ n ih =>
    intro x1 x2 x3 G h
    refine pw_iload_n dX9_hours_32 rfl 3 rfl ?_
    refine pw_iload_n dX9_hours_33 rfl 1 rfl ?_
    refine pw_icmp_ge (tgt := 64) dX9_hours_34 (by decide) (fun hc => ?_) (fun hc => ?_)
    · have h := h.1 hc
      refine pw_iload_n dX9_hours_64 rfl 2 rfl ?_
      exact pw_ireturn dX9_hours_65 rfl rfl ⟨_, rfl, h⟩
    · have h := h.2 hc
      refine pw_aload_n dX9_hours_37 rfl 0 rfl ?_
      refine pw_getr (q := 27) dX9_hours_38 fa_X9_26 ly_0 rfl ?_
      refine pw_aload_n dX9_hours_41 rfl 0 rfl ?_
      refine pw_getr (q := 1) dX9_hours_42 fa_X9_10 ly_0 rfl ?_
      refine pw_callV (As := [.ref (ev_ad E 1)]) (rest := []) (s_X5_keep hE h) dX9_hours_45 ly_27 rfl (Or.inr mn_X9_134) cm_X5_keep rfl (rm_ok (by decide)) rm_0 (Nat.le_of_ble_eq_true rfl) ?_
      rintro _ G2 ⟨rfl, h⟩
      refine pw_iload_n dX9_hours_48 rfl 2 rfl ?_
      refine pw_aload_n dX9_hours_49 rfl 0 rfl ?_
      refine pw_getr (q := 1) dX9_hours_50 fa_X9_10 ly_0 rfl ?_
      refine pw_callV (As := []) (rest := [.int x2]) (s_X8_passHour hE h) dX9_hours_53 ly_1 rfl (Or.inr mn_X9_167) cm_X8_passHour rfl (rm_ok (by decide)) rm_0 (Nat.le_of_ble_eq_true rfl) ?_
      rintro _ G4 ⟨r3, rfl, h⟩
      refine pw_iadd dX9_hours_56 ?_
      refine pw_istore_n (lv' := [(2, .int (x2 + r3)), (0, .ref (ev_ad E 0)), (1, .int x1), (3, .int x3)]) dX9_hours_57 rfl (by decide) rfl ?_
      refine pw_iinc (k := 3) (v := x3 + 1) (lv' := [(3, .int (x3 + 1)), (2, .int (x2 + r3)), (0, .ref (ev_ad E 0)), (1, .int x1)]) dX9_hours_58 rfl rfl (by decide) rfl ?_
      refine pw_goto (tgt := 32) dX9_hours_61 (by decide) ?_
      refine pw_loc (lv' := [(0, .ref (ev_ad E 0)), (1, .int x1), (2, .int (x2 + r3)), (3, .int (x3 + 1))]) [2, 3, 1, 0] rfl ?_
      exact ih _ _ _ _ h
def wp_X9_hours (a1 : Int32) (G : GS) (Q : Int32 → GS → Prop) : Prop := ((a1 < (1 : Int32) → Q (-1 : Int32) G) ∧ (¬ a1 < (1 : Int32) → (((100 : Int32) < a1 → Q (-1 : Int32) G) ∧ (¬ (100 : Int32) < a1 → ((((G 1 6) + a1) ≤ (9999 : Int32) → (∃ kf, lp_X9_hours_32 Q kf a1 (0 : Int32) (0 : Int32) G)) ∧ (¬ ((G 1 6) + a1) ≤ (9999 : Int32) → Q (-1 : Int32) G))))))
set_option maxRecDepth 100000 in
set_option maxHeartbeats 4000000 in
theorem s_X9_hours {E : EV} (hE : EI_ E) {a1 : Int32} {G : GS} {Q : Int32 → GS → Prop} (h : wp_X9_hours a1 G Q) : PMet E mi_X9_hours 3 [.ref (ev_ad E 0), .int a1] G (qi_ Q) := by
  refine pm_of hE (by decide) (Nat.le_of_ble_eq_true rfl) ?_
  refine pw_loc (lv' := [(0, .ref (ev_ad E 0)), (1, .int a1)]) [0, 1] rfl ?_
  refine pw_iload_n dX9_hours_0 rfl 1 rfl ?_
  refine pw_iconst (v := (1 : Int32)) dX9_hours_1 (by decide) ?_
  refine pw_icmp_lt (tgt := 26) dX9_hours_2 (by decide) (fun hc => ?_) (fun hc => ?_)
  · have h := h.1 hc
    refine pw_iconst (v := (-1 : Int32)) dX9_hours_26 (by decide) ?_
    exact pw_ireturn dX9_hours_27 rfl rfl ⟨_, rfl, h⟩
  · have h := h.2 hc
    refine pw_iload_n dX9_hours_5 rfl 1 rfl ?_
    refine pw_bipush (v := (100 : Int32)) dX9_hours_6 (by decide) ?_
    refine pw_icmp_gt (tgt := 26) dX9_hours_8 (by decide) (fun hc => ?_) (fun hc => ?_)
    · have h := h.1 hc
      refine pw_iconst (v := (-1 : Int32)) dX9_hours_26 (by decide) ?_
      exact pw_ireturn dX9_hours_27 rfl rfl ⟨_, rfl, h⟩
    · have h := h.2 hc
      refine pw_aload_n dX9_hours_11 rfl 0 rfl ?_
      refine pw_getr (q := 1) dX9_hours_12 fa_X9_10 ly_0 rfl ?_
      refine pw_geti (v := G 1 6) dX9_hours_15 fa_X9_158 ly_1 rfl rfl ?_
      refine pw_iload_n dX9_hours_18 rfl 1 rfl ?_
      refine pw_iadd dX9_hours_19 ?_
      refine pw_sipush (v := (9999 : Int32)) dX9_hours_20 (by decide) ?_
      refine pw_icmp_le (tgt := 28) dX9_hours_23 (by decide) (fun hc => ?_) (fun hc => ?_)
      · have h := h.1 hc
        refine pw_iconst (v := (0 : Int32)) dX9_hours_28 (by decide) ?_
        refine pw_istore_n (lv' := [(2, .int (0 : Int32)), (0, .ref (ev_ad E 0)), (1, .int a1)]) dX9_hours_29 rfl (by decide) rfl ?_
        refine pw_iconst (v := (0 : Int32)) dX9_hours_30 (by decide) ?_
        refine pw_istore_n (lv' := [(3, .int (0 : Int32)), (2, .int (0 : Int32)), (0, .ref (ev_ad E 0)), (1, .int a1)]) dX9_hours_31 rfl (by decide) rfl ?_
        refine pw_loc (lv' := [(0, .ref (ev_ad E 0)), (1, .int a1), (2, .int (0 : Int32)), (3, .int (0 : Int32))]) [2, 3, 1, 0] rfl ?_
        obtain ⟨kf, h⟩ := h
        exact t_X9_hours_32 hE Q kf _ _ _ _ h
      · have h := h.2 hc
        refine pw_iconst (v := (-1 : Int32)) dX9_hours_26 (by decide) ?_
        exact pw_ireturn dX9_hours_27 rfl rfl ⟨_, rfl, h⟩
def wp_X2_hearsNow (a2 : Int32) (a3 : Int32) (a4 : Int32) (a5 : Int32) (G : GS) (Q : Int32 → GS → Prop) : Prop := (vp_in a4 10 ∧ (vp_in a5 10 ∧ wp_X2_attend a4 a5 (G 2 a4.toNatClampNeg) (G 2 a5.toNatClampNeg) G (fun _ G4 => wp_X2_hearsThem a2 a3 G4 (fun r5 G6 => (bz_ r5 ∧ Q r5 G6)))))
set_option maxRecDepth 100000 in
set_option maxHeartbeats 4000000 in
theorem s_X2_hearsNow {E : EV} (hE : EI_ E) {a2 : Int32} {a3 : Int32} {a4 : Int32} {a5 : Int32} {G : GS} {Q : Int32 → GS → Prop} (h : wp_X2_hearsNow a2 a3 a4 a5 G Q) : PMet E mi_X2_hearsNow 4 [.ref (ev_ad E 38), .ref (ev_ad E 1), .int a2, .int a3, .int a4, .int a5] G (qi_ Q) := by
  refine pm_of hE (by decide) (Nat.le_of_ble_eq_true rfl) ?_
  refine pw_loc (lv' := [(0, .ref (ev_ad E 38)), (1, .ref (ev_ad E 1)), (2, .int a2), (3, .int a3), (4, .int a4), (5, .int a5)]) [0, 1, 2, 3, 4, 5] rfl ?_
  refine pw_aload_n dX2_hearsNow_0 rfl 0 rfl ?_
  refine pw_aload_n dX2_hearsNow_1 rfl 1 rfl ?_
  refine pw_iload dX2_hearsNow_2 4 rfl ?_
  refine pw_iload dX2_hearsNow_4 5 rfl ?_
  refine pw_aload_n dX2_hearsNow_6 rfl 1 rfl ?_
  refine pw_getr (q := 2) dX2_hearsNow_7 fa_X2_15 ly_1 rfl ?_
  refine pw_iload dX2_hearsNow_10 4 rfl ?_
  obtain ⟨hv1, h⟩ := h
  refine pw_iald (v := G 2 a4.toNatClampNeg) dX2_hearsNow_12 ly_2 hv1 rfl ?_
  refine pw_aload_n dX2_hearsNow_13 rfl 1 rfl ?_
  refine pw_getr (q := 2) dX2_hearsNow_14 fa_X2_15 ly_1 rfl ?_
  refine pw_iload dX2_hearsNow_17 5 rfl ?_
  obtain ⟨hv2, h⟩ := h
  refine pw_iald (v := G 2 a5.toNatClampNeg) dX2_hearsNow_19 ly_2 hv2 rfl ?_
  refine pw_callV (As := [.ref (ev_ad E 1), .int a4, .int a5, .int (G 2 a4.toNatClampNeg), .int (G 2 a5.toNatClampNeg)]) (rest := []) (s_X2_attend hE h) dX2_hearsNow_20 ly_38 rfl (Or.inl ml_X2_20) cm_X2_attend rfl (rm_ok (by decide)) rm_0 (Nat.le_of_ble_eq_true rfl) ?_
  rintro _ G4 ⟨rfl, h⟩
  refine pw_aload_n dX2_hearsNow_23 rfl 0 rfl ?_
  refine pw_aload_n dX2_hearsNow_24 rfl 1 rfl ?_
  refine pw_iload_n dX2_hearsNow_25 rfl 2 rfl ?_
  refine pw_iload_n dX2_hearsNow_26 rfl 3 rfl ?_
  refine pw_callV (As := [.ref (ev_ad E 1), .int a2, .int a3]) (rest := []) (s_X2_hearsThem hE h) dX2_hearsNow_27 ly_38 rfl (Or.inl ml_X2_35) cm_X2_hearsThem rfl (rm_ok (by decide)) rm_0 (Nat.le_of_ble_eq_true rfl) ?_
  rintro _ G6 ⟨r5, rfl, h⟩
  exact pw_ireturn dX2_hearsNow_30 rfl (bz_n h.1) ⟨_, rfl, h.2⟩
def lp_X2_couplesHeard_27 (Q : Int32 → GS → Prop) (R15 : Int32 → Int32 → Int32 → Int32 → Int32 → GS → Prop)  : Nat → Int32 → Int32 → Int32 → Int32 → Int32 → Int32 → GS → Prop
  | 0, _, _, _, _, _, _, _ => False
  | n + 1, x2, x3, x4, x5, x6, x7, G => ((x6 ≤ x7 → R15 x2 x3 x4 x5 (x6 + 1) G) ∧ (¬ x6 ≤ x7 → ((¬ (((x5 >>> (x6 &&& 31)) &&& (x5 >>> (x7 &&& 31))) &&& (1 : Int32)) = (1 : Int32) → lp_X2_couplesHeard_27 Q R15 n x2 x3 x4 x5 x6 (x7 + 1) G) ∧ ((((x5 >>> (x6 &&& 31)) &&& (x5 >>> (x7 &&& 31))) &&& (1 : Int32)) = (1 : Int32) → wp_X2_hearsNow x2 x3 x6 x7 G (fun r1 G2 => ((r1 = 0 → lp_X2_couplesHeard_27 Q R15 n x2 x3 x4 x5 x6 (x7 + 1) G2) ∧ (¬ r1 = 0 → lp_X2_couplesHeard_27 Q R15 n x2 x3 (x4 + 1) x5 x6 (x7 + 1) G2)))))))
set_option maxRecDepth 100000 in
set_option maxHeartbeats 4000000 in
theorem t_X2_couplesHeard_27 {E : EV} (hE : EI_ E) (Q : Int32 → GS → Prop) (R15 : Int32 → Int32 → Int32 → Int32 → Int32 → GS → Prop) (hR15 : ∀ (x2 : Int32) (x3 : Int32) (x4 : Int32) (x5 : Int32) (x6 : Int32) (G : GS), R15 x2 x3 x4 x5 x6 G → PW_ E mi_X2_couplesHeard (rm_ 5) 0 0 15 [(0, .ref (ev_ad E 38)), (1, .ref (ev_ad E 1)), (2, .int x2), (3, .int x3), (4, .int x4), (5, .int x5), (6, .int x6)] [] G (qi_ Q))  : ∀ (n : Nat) (x2 : Int32) (x3 : Int32) (x4 : Int32) (x5 : Int32) (x6 : Int32) (x7 : Int32) (G : GS), lp_X2_couplesHeard_27 Q R15 n x2 x3 x4 x5 x6 x7 G → PW_ E mi_X2_couplesHeard (rm_ 5) 0 0 27 [(0, .ref (ev_ad E 38)), (1, .ref (ev_ad E 1)), (2, .int x2), (3, .int x3), (4, .int x4), (5, .int x5), (6, .int x6), (7, .int x7)] [] G (qi_ Q) := by
  intro n
  induction n with
  | zero => intro x2 x3 x4 x5 x6 x7 G h; exact h.elim
  | succ n ih =>
    intro x2 x3 x4 x5 x6 x7 G h
    refine pw_iload dX2_couplesHeard_27 7 rfl ?_
    refine pw_iload dX2_couplesHeard_29 6 rfl ?_
    refine pw_icmp_ge (tgt := 74) dX2_couplesHeard_31 (by decide) (fun hc => ?_) (fun hc => ?_)
    · have h := h.1 hc
      refine pw_iinc (k := 6) (v := x6 + 1) (lv' := [(6, .int (x6 + 1)), (0, .ref (ev_ad E 38)), (1, .ref (ev_ad E 1)), (2, .int x2), (3, .int x3), (4, .int x4), (5, .int x5), (7, .int x7)]) dX2_couplesHeard_74 rfl rfl (by decide) rfl ?_
      refine pw_goto (tgt := 15) dX2_couplesHeard_77 (by decide) ?_
      refine pw_loc (lv' := [(0, .ref (ev_ad E 38)), (1, .ref (ev_ad E 1)), (2, .int x2), (3, .int x3), (4, .int x4), (5, .int x5), (6, .int (x6 + 1))]) [1, 2, 3, 4, 5, 6, 0] rfl ?_
      exact hR15 _ _ _ _ _ _ h
    · have h := h.2 hc
      refine pw_iload dX2_couplesHeard_34 5 rfl ?_
      refine pw_iload dX2_couplesHeard_36 6 rfl ?_
      refine pw_ishr dX2_couplesHeard_38 ?_
      refine pw_iload dX2_couplesHeard_39 5 rfl ?_
      refine pw_iload dX2_couplesHeard_41 7 rfl ?_
      refine pw_ishr dX2_couplesHeard_43 ?_
      refine pw_iand dX2_couplesHeard_44 ?_
      refine pw_iconst (v := (1 : Int32)) dX2_couplesHeard_45 (by decide) ?_
      refine pw_iand dX2_couplesHeard_46 ?_
      refine pw_iconst (v := (1 : Int32)) dX2_couplesHeard_47 (by decide) ?_
      refine pw_icmp_ne (tgt := 68) dX2_couplesHeard_48 (by decide) (fun hc => ?_) (fun hc => ?_)
      · have h := h.1 hc
        refine pw_iinc (k := 7) (v := x7 + 1) (lv' := [(7, .int (x7 + 1)), (0, .ref (ev_ad E 38)), (1, .ref (ev_ad E 1)), (2, .int x2), (3, .int x3), (4, .int x4), (5, .int x5), (6, .int x6)]) dX2_couplesHeard_68 rfl rfl (by decide) rfl ?_
        refine pw_goto (tgt := 27) dX2_couplesHeard_71 (by decide) ?_
        refine pw_loc (lv' := [(0, .ref (ev_ad E 38)), (1, .ref (ev_ad E 1)), (2, .int x2), (3, .int x3), (4, .int x4), (5, .int x5), (6, .int x6), (7, .int (x7 + 1))]) [1, 2, 3, 4, 5, 6, 7, 0] rfl ?_
        exact ih _ _ _ _ _ _ _ h
      · have h := h.2 hc
        refine pw_aload_n dX2_couplesHeard_51 rfl 0 rfl ?_
        refine pw_aload_n dX2_couplesHeard_52 rfl 1 rfl ?_
        refine pw_iload_n dX2_couplesHeard_53 rfl 2 rfl ?_
        refine pw_iload_n dX2_couplesHeard_54 rfl 3 rfl ?_
        refine pw_iload dX2_couplesHeard_55 6 rfl ?_
        refine pw_iload dX2_couplesHeard_57 7 rfl ?_
        refine pw_callV (As := [.ref (ev_ad E 1), .int x2, .int x3, .int x6, .int x7]) (rest := []) (s_X2_hearsNow hE h) dX2_couplesHeard_59 ly_38 rfl (Or.inl ml_X2_39) cm_X2_hearsNow rfl (rm_ok (by decide)) rm_0 (Nat.le_of_ble_eq_true rfl) ?_
        rintro _ G2 ⟨r1, rfl, h⟩
        refine pw_if_eq (tgt := 68) dX2_couplesHeard_62 (by decide) (fun hc => ?_) (fun hc => ?_)
        · have h := h.1 hc
          refine pw_iinc (k := 7) (v := x7 + 1) (lv' := [(7, .int (x7 + 1)), (0, .ref (ev_ad E 38)), (1, .ref (ev_ad E 1)), (2, .int x2), (3, .int x3), (4, .int x4), (5, .int x5), (6, .int x6)]) dX2_couplesHeard_68 rfl rfl (by decide) rfl ?_
          refine pw_goto (tgt := 27) dX2_couplesHeard_71 (by decide) ?_
          refine pw_loc (lv' := [(0, .ref (ev_ad E 38)), (1, .ref (ev_ad E 1)), (2, .int x2), (3, .int x3), (4, .int x4), (5, .int x5), (6, .int x6), (7, .int (x7 + 1))]) [1, 2, 3, 4, 5, 6, 7, 0] rfl ?_
          exact ih _ _ _ _ _ _ _ h
        · have h := h.2 hc
          refine pw_iinc (k := 4) (v := x4 + 1) (lv' := [(4, .int (x4 + 1)), (0, .ref (ev_ad E 38)), (1, .ref (ev_ad E 1)), (2, .int x2), (3, .int x3), (5, .int x5), (6, .int x6), (7, .int x7)]) dX2_couplesHeard_65 rfl rfl (by decide) rfl ?_
          refine pw_iinc (k := 7) (v := x7 + 1) (lv' := [(7, .int (x7 + 1)), (4, .int (x4 + 1)), (0, .ref (ev_ad E 38)), (1, .ref (ev_ad E 1)), (2, .int x2), (3, .int x3), (5, .int x5), (6, .int x6)]) dX2_couplesHeard_68 rfl rfl (by decide) rfl ?_
          refine pw_goto (tgt := 27) dX2_couplesHeard_71 (by decide) ?_
          refine pw_loc (lv' := [(0, .ref (ev_ad E 38)), (1, .ref (ev_ad E 1)), (2, .int x2), (3, .int x3), (4, .int (x4 + 1)), (5, .int x5), (6, .int x6), (7, .int (x7 + 1))]) [2, 3, 4, 5, 1, 6, 7, 0] rfl ?_
          exact ih _ _ _ _ _ _ _ h
def lp_X2_couplesHeard_15 (Q : Int32 → GS → Prop)  : Nat → Int32 → Int32 → Int32 → Int32 → Int32 → GS → Prop
  | 0, _, _, _, _, _, _ => False
  | n + 1, x2, x3, x4, x5, x6, G => (((G 1 1) ≤ x6 → Q x4 G) ∧ (¬ (G 1 1) ≤ x6 → (∃ kf, lp_X2_couplesHeard_27 Q (fun y2 y3 y4 y5 y6 G => lp_X2_couplesHeard_15 Q n y2 y3 y4 y5 y6 G) kf x2 x3 x4 x5 x6 (0 : Int32) G)))
set_option maxRecDepth 100000 in
set_option maxHeartbeats 4000000 in
theorem t_X2_couplesHeard_15 {E : EV} (hE : EI_ E) (Q : Int32 → GS → Prop)  : ∀ (n : Nat) (x2 : Int32) (x3 : Int32) (x4 : Int32) (x5 : Int32) (x6 : Int32) (G : GS), lp_X2_couplesHeard_15 Q n x2 x3 x4 x5 x6 G → PW_ E mi_X2_couplesHeard (rm_ 5) 0 0 15 [(0, .ref (ev_ad E 38)), (1, .ref (ev_ad E 1)), (2, .int x2), (3, .int x3), (4, .int x4), (5, .int x5), (6, .int x6)] [] G (qi_ Q) := by
  intro n
  induction n with
  | zero => intro x2 x3 x4 x5 x6 G h; exact h.elim
  | succ n ih =>
    intro x2 x3 x4 x5 x6 G h
    refine pw_iload dX2_couplesHeard_15 6 rfl ?_
    refine pw_aload_n dX2_couplesHeard_17 rfl 1 rfl ?_
    refine pw_geti (v := G 1 1) dX2_couplesHeard_18 fa_X2_24 ly_1 rfl rfl ?_
    refine pw_icmp_ge (tgt := 80) dX2_couplesHeard_21 (by decide) (fun hc => ?_) (fun hc => ?_)
    · have h := h.1 hc
      refine pw_iload dX2_couplesHeard_80 4 rfl ?_
      exact pw_ireturn dX2_couplesHeard_82 rfl rfl ⟨_, rfl, h⟩
    · have h := h.2 hc
      refine pw_iconst (v := (0 : Int32)) dX2_couplesHeard_24 (by decide) ?_
      refine pw_istore (lv' := [(7, .int (0 : Int32)), (0, .ref (ev_ad E 38)), (1, .ref (ev_ad E 1)), (2, .int x2), (3, .int x3), (4, .int x4), (5, .int x5), (6, .int x6)]) dX2_couplesHeard_25 (by decide) rfl ?_
      refine pw_loc (lv' := [(0, .ref (ev_ad E 38)), (1, .ref (ev_ad E 1)), (2, .int x2), (3, .int x3), (4, .int x4), (5, .int x5), (6, .int x6), (7, .int (0 : Int32))]) [1, 2, 3, 4, 5, 6, 7, 0] rfl ?_
      obtain ⟨kf, h⟩ := h
      exact t_X2_couplesHeard_27 hE Q (fun y2 y3 y4 y5 y6 G => lp_X2_couplesHeard_15 Q n y2 y3 y4 y5 y6 G) ih kf _ _ _ _ _ _ _ h
def wp_X2_couplesHeard (a2 : Int32) (a3 : Int32) (G : GS) (Q : Int32 → GS → Prop) : Prop := (∃ kf, lp_X2_couplesHeard_15 Q kf a2 a3 (0 : Int32) (a3 &&& (((1 : Int32) <<< (a2 &&& 31)) ^^^ (-1 : Int32))) (0 : Int32) G)
set_option maxRecDepth 100000 in
set_option maxHeartbeats 4000000 in
theorem s_X2_couplesHeard {E : EV} (hE : EI_ E) {a2 : Int32} {a3 : Int32} {G : GS} {Q : Int32 → GS → Prop} (h : wp_X2_couplesHeard a2 a3 G Q) : PMet E mi_X2_couplesHeard 5 [.ref (ev_ad E 38), .ref (ev_ad E 1), .int a2, .int a3] G (qi_ Q) := by
  refine pm_of hE (by decide) (Nat.le_of_ble_eq_true rfl) ?_
  refine pw_loc (lv' := [(0, .ref (ev_ad E 38)), (1, .ref (ev_ad E 1)), (2, .int a2), (3, .int a3)]) [0, 1, 2, 3] rfl ?_
  refine pw_iconst (v := (0 : Int32)) dX2_couplesHeard_0 (by decide) ?_
  refine pw_istore (lv' := [(4, .int (0 : Int32)), (0, .ref (ev_ad E 38)), (1, .ref (ev_ad E 1)), (2, .int a2), (3, .int a3)]) dX2_couplesHeard_1 (by decide) rfl ?_
  refine pw_iload_n dX2_couplesHeard_3 rfl 4 rfl ?_
  refine pw_iconst (v := (1 : Int32)) dX2_couplesHeard_4 (by decide) ?_
  refine pw_iload_n dX2_couplesHeard_5 rfl 3 rfl ?_
  refine pw_ishl dX2_couplesHeard_6 ?_
  refine pw_iconst (v := (-1 : Int32)) dX2_couplesHeard_7 (by decide) ?_
  refine pw_ixor dX2_couplesHeard_8 ?_
  refine pw_iand dX2_couplesHeard_9 ?_
  refine pw_istore (lv' := [(5, .int (a3 &&& (((1 : Int32) <<< (a2 &&& 31)) ^^^ (-1 : Int32)))), (4, .int (0 : Int32)), (0, .ref (ev_ad E 38)), (1, .ref (ev_ad E 1)), (2, .int a2), (3, .int a3)]) dX2_couplesHeard_10 (by decide) rfl ?_
  refine pw_iconst (v := (0 : Int32)) dX2_couplesHeard_12 (by decide) ?_
  refine pw_istore (lv' := [(6, .int (0 : Int32)), (5, .int (a3 &&& (((1 : Int32) <<< (a2 &&& 31)) ^^^ (-1 : Int32)))), (4, .int (0 : Int32)), (0, .ref (ev_ad E 38)), (1, .ref (ev_ad E 1)), (2, .int a2), (3, .int a3)]) dX2_couplesHeard_13 (by decide) rfl ?_
  refine pw_loc (lv' := [(0, .ref (ev_ad E 38)), (1, .ref (ev_ad E 1)), (2, .int a2), (3, .int a3), (4, .int (0 : Int32)), (5, .int (a3 &&& (((1 : Int32) <<< (a2 &&& 31)) ^^^ (-1 : Int32)))), (6, .int (0 : Int32))]) [3, 4, 5, 6, 2, 1, 0] rfl ?_
  obtain ⟨kf, h⟩ := h
  exact t_X2_couplesHeard_15 hE Q kf _ _ _ _ _ _ h
def wp_J13_bitCount (a0 : Int64) (G : GS) (Q : Int32 → GS → Prop) : Prop := Q ((((((((((a0 - ((lush_ a0 (1 : Int32)) &&& (6148914691236517205 : Int64))) &&& (3689348814741910323 : Int64)) + ((lush_ (a0 - ((lush_ a0 (1 : Int32)) &&& (6148914691236517205 : Int64))) (2 : Int32)) &&& (3689348814741910323 : Int64))) + (lush_ (((a0 - ((lush_ a0 (1 : Int32)) &&& (6148914691236517205 : Int64))) &&& (3689348814741910323 : Int64)) + ((lush_ (a0 - ((lush_ a0 (1 : Int32)) &&& (6148914691236517205 : Int64))) (2 : Int32)) &&& (3689348814741910323 : Int64))) (4 : Int32))) &&& (1085102592571150095 : Int64)) + (lush_ (((((a0 - ((lush_ a0 (1 : Int32)) &&& (6148914691236517205 : Int64))) &&& (3689348814741910323 : Int64)) + ((lush_ (a0 - ((lush_ a0 (1 : Int32)) &&& (6148914691236517205 : Int64))) (2 : Int32)) &&& (3689348814741910323 : Int64))) + (lush_ (((a0 - ((lush_ a0 (1 : Int32)) &&& (6148914691236517205 : Int64))) &&& (3689348814741910323 : Int64)) + ((lush_ (a0 - ((lush_ a0 (1 : Int32)) &&& (6148914691236517205 : Int64))) (2 : Int32)) &&& (3689348814741910323 : Int64))) (4 : Int32))) &&& (1085102592571150095 : Int64)) (8 : Int32))) + (lush_ ((((((a0 - ((lush_ a0 (1 : Int32)) &&& (6148914691236517205 : Int64))) &&& (3689348814741910323 : Int64)) + ((lush_ (a0 - ((lush_ a0 (1 : Int32)) &&& (6148914691236517205 : Int64))) (2 : Int32)) &&& (3689348814741910323 : Int64))) + (lush_ (((a0 - ((lush_ a0 (1 : Int32)) &&& (6148914691236517205 : Int64))) &&& (3689348814741910323 : Int64)) + ((lush_ (a0 - ((lush_ a0 (1 : Int32)) &&& (6148914691236517205 : Int64))) (2 : Int32)) &&& (3689348814741910323 : Int64))) (4 : Int32))) &&& (1085102592571150095 : Int64)) + (lush_ (((((a0 - ((lush_ a0 (1 : Int32)) &&& (6148914691236517205 : Int64))) &&& (3689348814741910323 : Int64)) + ((lush_ (a0 - ((lush_ a0 (1 : Int32)) &&& (6148914691236517205 : Int64))) (2 : Int32)) &&& (3689348814741910323 : Int64))) + (lush_ (((a0 - ((lush_ a0 (1 : Int32)) &&& (6148914691236517205 : Int64))) &&& (3689348814741910323 : Int64)) + ((lush_ (a0 - ((lush_ a0 (1 : Int32)) &&& (6148914691236517205 : Int64))) (2 : Int32)) &&& (3689348814741910323 : Int64))) (4 : Int32))) &&& (1085102592571150095 : Int64)) (8 : Int32))) (16 : Int32))) + (lush_ (((((((a0 - ((lush_ a0 (1 : Int32)) &&& (6148914691236517205 : Int64))) &&& (3689348814741910323 : Int64)) + ((lush_ (a0 - ((lush_ a0 (1 : Int32)) &&& (6148914691236517205 : Int64))) (2 : Int32)) &&& (3689348814741910323 : Int64))) + (lush_ (((a0 - ((lush_ a0 (1 : Int32)) &&& (6148914691236517205 : Int64))) &&& (3689348814741910323 : Int64)) + ((lush_ (a0 - ((lush_ a0 (1 : Int32)) &&& (6148914691236517205 : Int64))) (2 : Int32)) &&& (3689348814741910323 : Int64))) (4 : Int32))) &&& (1085102592571150095 : Int64)) + (lush_ (((((a0 - ((lush_ a0 (1 : Int32)) &&& (6148914691236517205 : Int64))) &&& (3689348814741910323 : Int64)) + ((lush_ (a0 - ((lush_ a0 (1 : Int32)) &&& (6148914691236517205 : Int64))) (2 : Int32)) &&& (3689348814741910323 : Int64))) + (lush_ (((a0 - ((lush_ a0 (1 : Int32)) &&& (6148914691236517205 : Int64))) &&& (3689348814741910323 : Int64)) + ((lush_ (a0 - ((lush_ a0 (1 : Int32)) &&& (6148914691236517205 : Int64))) (2 : Int32)) &&& (3689348814741910323 : Int64))) (4 : Int32))) &&& (1085102592571150095 : Int64)) (8 : Int32))) + (lush_ ((((((a0 - ((lush_ a0 (1 : Int32)) &&& (6148914691236517205 : Int64))) &&& (3689348814741910323 : Int64)) + ((lush_ (a0 - ((lush_ a0 (1 : Int32)) &&& (6148914691236517205 : Int64))) (2 : Int32)) &&& (3689348814741910323 : Int64))) + (lush_ (((a0 - ((lush_ a0 (1 : Int32)) &&& (6148914691236517205 : Int64))) &&& (3689348814741910323 : Int64)) + ((lush_ (a0 - ((lush_ a0 (1 : Int32)) &&& (6148914691236517205 : Int64))) (2 : Int32)) &&& (3689348814741910323 : Int64))) (4 : Int32))) &&& (1085102592571150095 : Int64)) + (lush_ (((((a0 - ((lush_ a0 (1 : Int32)) &&& (6148914691236517205 : Int64))) &&& (3689348814741910323 : Int64)) + ((lush_ (a0 - ((lush_ a0 (1 : Int32)) &&& (6148914691236517205 : Int64))) (2 : Int32)) &&& (3689348814741910323 : Int64))) + (lush_ (((a0 - ((lush_ a0 (1 : Int32)) &&& (6148914691236517205 : Int64))) &&& (3689348814741910323 : Int64)) + ((lush_ (a0 - ((lush_ a0 (1 : Int32)) &&& (6148914691236517205 : Int64))) (2 : Int32)) &&& (3689348814741910323 : Int64))) (4 : Int32))) &&& (1085102592571150095 : Int64)) (8 : Int32))) (16 : Int32))) (32 : Int32))).toInt32) &&& (127 : Int32)) G
set_option maxRecDepth 100000 in
set_option maxHeartbeats 4000000 in
theorem s_J13_bitCount {E : EV} (hE : EI_ E) {a0 : Int64} {G : GS} {Q : Int32 → GS → Prop} (h : wp_J13_bitCount a0 G Q) : PMet E mi_J13_bitCount_95d88 1 [.long a0] G (qi_ Q) := by
  refine pm_of hE (by decide) (Nat.le_of_ble_eq_true rfl) ?_
  refine pw_loc (lv' := [(0, .long a0)]) [0] rfl ?_
  refine pw_lload_n dJ13_bitCount_95d88_0 rfl 0 rfl ?_
  refine pw_lload_n dJ13_bitCount_95d88_1 rfl 0 rfl ?_
  refine pw_iconst (v := (1 : Int32)) dJ13_bitCount_95d88_2 (by decide) ?_
  refine pw_lushr dJ13_bitCount_95d88_3 ?_
  refine pw_ldc2 (v := (6148914691236517205 : Int64)) dJ13_bitCount_95d88_4 k_J13_314 ?_
  refine pw_land dJ13_bitCount_95d88_7 ?_
  refine pw_lsub dJ13_bitCount_95d88_8 ?_
  refine pw_lstore_n (lv' := [(0, .long (a0 - ((lush_ a0 (1 : Int32)) &&& (6148914691236517205 : Int64))))]) dJ13_bitCount_95d88_9 rfl (by decide) rfl ?_
  refine pw_lload_n dJ13_bitCount_95d88_10 rfl 0 rfl ?_
  refine pw_ldc2 (v := (3689348814741910323 : Int64)) dJ13_bitCount_95d88_11 k_J13_316 ?_
  refine pw_land dJ13_bitCount_95d88_14 ?_
  refine pw_lload_n dJ13_bitCount_95d88_15 rfl 0 rfl ?_
  refine pw_iconst (v := (2 : Int32)) dJ13_bitCount_95d88_16 (by decide) ?_
  refine pw_lushr dJ13_bitCount_95d88_17 ?_
  refine pw_ldc2 (v := (3689348814741910323 : Int64)) dJ13_bitCount_95d88_18 k_J13_316 ?_
  refine pw_land dJ13_bitCount_95d88_21 ?_
  refine pw_ladd dJ13_bitCount_95d88_22 ?_
  refine pw_lstore_n (lv' := [(0, .long (((a0 - ((lush_ a0 (1 : Int32)) &&& (6148914691236517205 : Int64))) &&& (3689348814741910323 : Int64)) + ((lush_ (a0 - ((lush_ a0 (1 : Int32)) &&& (6148914691236517205 : Int64))) (2 : Int32)) &&& (3689348814741910323 : Int64))))]) dJ13_bitCount_95d88_23 rfl (by decide) rfl ?_
  refine pw_lload_n dJ13_bitCount_95d88_24 rfl 0 rfl ?_
  refine pw_lload_n dJ13_bitCount_95d88_25 rfl 0 rfl ?_
  refine pw_iconst (v := (4 : Int32)) dJ13_bitCount_95d88_26 (by decide) ?_
  refine pw_lushr dJ13_bitCount_95d88_27 ?_
  refine pw_ladd dJ13_bitCount_95d88_28 ?_
  refine pw_ldc2 (v := (1085102592571150095 : Int64)) dJ13_bitCount_95d88_29 k_J13_318 ?_
  refine pw_land dJ13_bitCount_95d88_32 ?_
  refine pw_lstore_n (lv' := [(0, .long (((((a0 - ((lush_ a0 (1 : Int32)) &&& (6148914691236517205 : Int64))) &&& (3689348814741910323 : Int64)) + ((lush_ (a0 - ((lush_ a0 (1 : Int32)) &&& (6148914691236517205 : Int64))) (2 : Int32)) &&& (3689348814741910323 : Int64))) + (lush_ (((a0 - ((lush_ a0 (1 : Int32)) &&& (6148914691236517205 : Int64))) &&& (3689348814741910323 : Int64)) + ((lush_ (a0 - ((lush_ a0 (1 : Int32)) &&& (6148914691236517205 : Int64))) (2 : Int32)) &&& (3689348814741910323 : Int64))) (4 : Int32))) &&& (1085102592571150095 : Int64)))]) dJ13_bitCount_95d88_33 rfl (by decide) rfl ?_
  refine pw_lload_n dJ13_bitCount_95d88_34 rfl 0 rfl ?_
  refine pw_lload_n dJ13_bitCount_95d88_35 rfl 0 rfl ?_
  refine pw_bipush (v := (8 : Int32)) dJ13_bitCount_95d88_36 (by decide) ?_
  refine pw_lushr dJ13_bitCount_95d88_38 ?_
  refine pw_ladd dJ13_bitCount_95d88_39 ?_
  refine pw_lstore_n (lv' := [(0, .long ((((((a0 - ((lush_ a0 (1 : Int32)) &&& (6148914691236517205 : Int64))) &&& (3689348814741910323 : Int64)) + ((lush_ (a0 - ((lush_ a0 (1 : Int32)) &&& (6148914691236517205 : Int64))) (2 : Int32)) &&& (3689348814741910323 : Int64))) + (lush_ (((a0 - ((lush_ a0 (1 : Int32)) &&& (6148914691236517205 : Int64))) &&& (3689348814741910323 : Int64)) + ((lush_ (a0 - ((lush_ a0 (1 : Int32)) &&& (6148914691236517205 : Int64))) (2 : Int32)) &&& (3689348814741910323 : Int64))) (4 : Int32))) &&& (1085102592571150095 : Int64)) + (lush_ (((((a0 - ((lush_ a0 (1 : Int32)) &&& (6148914691236517205 : Int64))) &&& (3689348814741910323 : Int64)) + ((lush_ (a0 - ((lush_ a0 (1 : Int32)) &&& (6148914691236517205 : Int64))) (2 : Int32)) &&& (3689348814741910323 : Int64))) + (lush_ (((a0 - ((lush_ a0 (1 : Int32)) &&& (6148914691236517205 : Int64))) &&& (3689348814741910323 : Int64)) + ((lush_ (a0 - ((lush_ a0 (1 : Int32)) &&& (6148914691236517205 : Int64))) (2 : Int32)) &&& (3689348814741910323 : Int64))) (4 : Int32))) &&& (1085102592571150095 : Int64)) (8 : Int32))))]) dJ13_bitCount_95d88_40 rfl (by decide) rfl ?_
  refine pw_lload_n dJ13_bitCount_95d88_41 rfl 0 rfl ?_
  refine pw_lload_n dJ13_bitCount_95d88_42 rfl 0 rfl ?_
  refine pw_bipush (v := (16 : Int32)) dJ13_bitCount_95d88_43 (by decide) ?_
  refine pw_lushr dJ13_bitCount_95d88_45 ?_
  refine pw_ladd dJ13_bitCount_95d88_46 ?_
  refine pw_lstore_n (lv' := [(0, .long (((((((a0 - ((lush_ a0 (1 : Int32)) &&& (6148914691236517205 : Int64))) &&& (3689348814741910323 : Int64)) + ((lush_ (a0 - ((lush_ a0 (1 : Int32)) &&& (6148914691236517205 : Int64))) (2 : Int32)) &&& (3689348814741910323 : Int64))) + (lush_ (((a0 - ((lush_ a0 (1 : Int32)) &&& (6148914691236517205 : Int64))) &&& (3689348814741910323 : Int64)) + ((lush_ (a0 - ((lush_ a0 (1 : Int32)) &&& (6148914691236517205 : Int64))) (2 : Int32)) &&& (3689348814741910323 : Int64))) (4 : Int32))) &&& (1085102592571150095 : Int64)) + (lush_ (((((a0 - ((lush_ a0 (1 : Int32)) &&& (6148914691236517205 : Int64))) &&& (3689348814741910323 : Int64)) + ((lush_ (a0 - ((lush_ a0 (1 : Int32)) &&& (6148914691236517205 : Int64))) (2 : Int32)) &&& (3689348814741910323 : Int64))) + (lush_ (((a0 - ((lush_ a0 (1 : Int32)) &&& (6148914691236517205 : Int64))) &&& (3689348814741910323 : Int64)) + ((lush_ (a0 - ((lush_ a0 (1 : Int32)) &&& (6148914691236517205 : Int64))) (2 : Int32)) &&& (3689348814741910323 : Int64))) (4 : Int32))) &&& (1085102592571150095 : Int64)) (8 : Int32))) + (lush_ ((((((a0 - ((lush_ a0 (1 : Int32)) &&& (6148914691236517205 : Int64))) &&& (3689348814741910323 : Int64)) + ((lush_ (a0 - ((lush_ a0 (1 : Int32)) &&& (6148914691236517205 : Int64))) (2 : Int32)) &&& (3689348814741910323 : Int64))) + (lush_ (((a0 - ((lush_ a0 (1 : Int32)) &&& (6148914691236517205 : Int64))) &&& (3689348814741910323 : Int64)) + ((lush_ (a0 - ((lush_ a0 (1 : Int32)) &&& (6148914691236517205 : Int64))) (2 : Int32)) &&& (3689348814741910323 : Int64))) (4 : Int32))) &&& (1085102592571150095 : Int64)) + (lush_ (((((a0 - ((lush_ a0 (1 : Int32)) &&& (6148914691236517205 : Int64))) &&& (3689348814741910323 : Int64)) + ((lush_ (a0 - ((lush_ a0 (1 : Int32)) &&& (6148914691236517205 : Int64))) (2 : Int32)) &&& (3689348814741910323 : Int64))) + (lush_ (((a0 - ((lush_ a0 (1 : Int32)) &&& (6148914691236517205 : Int64))) &&& (3689348814741910323 : Int64)) + ((lush_ (a0 - ((lush_ a0 (1 : Int32)) &&& (6148914691236517205 : Int64))) (2 : Int32)) &&& (3689348814741910323 : Int64))) (4 : Int32))) &&& (1085102592571150095 : Int64)) (8 : Int32))) (16 : Int32))))]) dJ13_bitCount_95d88_47 rfl (by decide) rfl ?_
  refine pw_lload_n dJ13_bitCount_95d88_48 rfl 0 rfl ?_
  refine pw_lload_n dJ13_bitCount_95d88_49 rfl 0 rfl ?_
  refine pw_bipush (v := (32 : Int32)) dJ13_bitCount_95d88_50 (by decide) ?_
  refine pw_lushr dJ13_bitCount_95d88_52 ?_
  refine pw_ladd dJ13_bitCount_95d88_53 ?_
  refine pw_lstore_n (lv' := [(0, .long ((((((((a0 - ((lush_ a0 (1 : Int32)) &&& (6148914691236517205 : Int64))) &&& (3689348814741910323 : Int64)) + ((lush_ (a0 - ((lush_ a0 (1 : Int32)) &&& (6148914691236517205 : Int64))) (2 : Int32)) &&& (3689348814741910323 : Int64))) + (lush_ (((a0 - ((lush_ a0 (1 : Int32)) &&& (6148914691236517205 : Int64))) &&& (3689348814741910323 : Int64)) + ((lush_ (a0 - ((lush_ a0 (1 : Int32)) &&& (6148914691236517205 : Int64))) (2 : Int32)) &&& (3689348814741910323 : Int64))) (4 : Int32))) &&& (1085102592571150095 : Int64)) + (lush_ (((((a0 - ((lush_ a0 (1 : Int32)) &&& (6148914691236517205 : Int64))) &&& (3689348814741910323 : Int64)) + ((lush_ (a0 - ((lush_ a0 (1 : Int32)) &&& (6148914691236517205 : Int64))) (2 : Int32)) &&& (3689348814741910323 : Int64))) + (lush_ (((a0 - ((lush_ a0 (1 : Int32)) &&& (6148914691236517205 : Int64))) &&& (3689348814741910323 : Int64)) + ((lush_ (a0 - ((lush_ a0 (1 : Int32)) &&& (6148914691236517205 : Int64))) (2 : Int32)) &&& (3689348814741910323 : Int64))) (4 : Int32))) &&& (1085102592571150095 : Int64)) (8 : Int32))) + (lush_ ((((((a0 - ((lush_ a0 (1 : Int32)) &&& (6148914691236517205 : Int64))) &&& (3689348814741910323 : Int64)) + ((lush_ (a0 - ((lush_ a0 (1 : Int32)) &&& (6148914691236517205 : Int64))) (2 : Int32)) &&& (3689348814741910323 : Int64))) + (lush_ (((a0 - ((lush_ a0 (1 : Int32)) &&& (6148914691236517205 : Int64))) &&& (3689348814741910323 : Int64)) + ((lush_ (a0 - ((lush_ a0 (1 : Int32)) &&& (6148914691236517205 : Int64))) (2 : Int32)) &&& (3689348814741910323 : Int64))) (4 : Int32))) &&& (1085102592571150095 : Int64)) + (lush_ (((((a0 - ((lush_ a0 (1 : Int32)) &&& (6148914691236517205 : Int64))) &&& (3689348814741910323 : Int64)) + ((lush_ (a0 - ((lush_ a0 (1 : Int32)) &&& (6148914691236517205 : Int64))) (2 : Int32)) &&& (3689348814741910323 : Int64))) + (lush_ (((a0 - ((lush_ a0 (1 : Int32)) &&& (6148914691236517205 : Int64))) &&& (3689348814741910323 : Int64)) + ((lush_ (a0 - ((lush_ a0 (1 : Int32)) &&& (6148914691236517205 : Int64))) (2 : Int32)) &&& (3689348814741910323 : Int64))) (4 : Int32))) &&& (1085102592571150095 : Int64)) (8 : Int32))) (16 : Int32))) + (lush_ (((((((a0 - ((lush_ a0 (1 : Int32)) &&& (6148914691236517205 : Int64))) &&& (3689348814741910323 : Int64)) + ((lush_ (a0 - ((lush_ a0 (1 : Int32)) &&& (6148914691236517205 : Int64))) (2 : Int32)) &&& (3689348814741910323 : Int64))) + (lush_ (((a0 - ((lush_ a0 (1 : Int32)) &&& (6148914691236517205 : Int64))) &&& (3689348814741910323 : Int64)) + ((lush_ (a0 - ((lush_ a0 (1 : Int32)) &&& (6148914691236517205 : Int64))) (2 : Int32)) &&& (3689348814741910323 : Int64))) (4 : Int32))) &&& (1085102592571150095 : Int64)) + (lush_ (((((a0 - ((lush_ a0 (1 : Int32)) &&& (6148914691236517205 : Int64))) &&& (3689348814741910323 : Int64)) + ((lush_ (a0 - ((lush_ a0 (1 : Int32)) &&& (6148914691236517205 : Int64))) (2 : Int32)) &&& (3689348814741910323 : Int64))) + (lush_ (((a0 - ((lush_ a0 (1 : Int32)) &&& (6148914691236517205 : Int64))) &&& (3689348814741910323 : Int64)) + ((lush_ (a0 - ((lush_ a0 (1 : Int32)) &&& (6148914691236517205 : Int64))) (2 : Int32)) &&& (3689348814741910323 : Int64))) (4 : Int32))) &&& (1085102592571150095 : Int64)) (8 : Int32))) + (lush_ ((((((a0 - ((lush_ a0 (1 : Int32)) &&& (6148914691236517205 : Int64))) &&& (3689348814741910323 : Int64)) + ((lush_ (a0 - ((lush_ a0 (1 : Int32)) &&& (6148914691236517205 : Int64))) (2 : Int32)) &&& (3689348814741910323 : Int64))) + (lush_ (((a0 - ((lush_ a0 (1 : Int32)) &&& (6148914691236517205 : Int64))) &&& (3689348814741910323 : Int64)) + ((lush_ (a0 - ((lush_ a0 (1 : Int32)) &&& (6148914691236517205 : Int64))) (2 : Int32)) &&& (3689348814741910323 : Int64))) (4 : Int32))) &&& (1085102592571150095 : Int64)) + (lush_ (((((a0 - ((lush_ a0 (1 : Int32)) &&& (6148914691236517205 : Int64))) &&& (3689348814741910323 : Int64)) + ((lush_ (a0 - ((lush_ a0 (1 : Int32)) &&& (6148914691236517205 : Int64))) (2 : Int32)) &&& (3689348814741910323 : Int64))) + (lush_ (((a0 - ((lush_ a0 (1 : Int32)) &&& (6148914691236517205 : Int64))) &&& (3689348814741910323 : Int64)) + ((lush_ (a0 - ((lush_ a0 (1 : Int32)) &&& (6148914691236517205 : Int64))) (2 : Int32)) &&& (3689348814741910323 : Int64))) (4 : Int32))) &&& (1085102592571150095 : Int64)) (8 : Int32))) (16 : Int32))) (32 : Int32))))]) dJ13_bitCount_95d88_54 rfl (by decide) rfl ?_
  refine pw_lload_n dJ13_bitCount_95d88_55 rfl 0 rfl ?_
  refine pw_l2i dJ13_bitCount_95d88_56 ?_
  refine pw_bipush (v := (127 : Int32)) dJ13_bitCount_95d88_57 (by decide) ?_
  refine pw_iand dJ13_bitCount_95d88_59 ?_
  exact pw_ireturn dJ13_bitCount_95d88_60 rfl rfl ⟨_, rfl, h⟩
def lp_X2_wordsHeard_29 (Q : Int32 → GS → Prop) (R17 : Int32 → Int64 → Int32 → Int32 → GS → Prop)  : Nat → Int32 → Int64 → Int32 → Int32 → Int32 → GS → Prop
  | 0, _, _, _, _, _, _ => False
  | n + 1, x2, x3, x5, x6, x7, G => ((x6 ≤ x7 → R17 x2 x3 x5 (x6 + 1) G) ∧ (¬ x6 ≤ x7 → ((¬ (((x5 >>> (x6 &&& 31)) &&& (x5 >>> (x7 &&& 31))) &&& (1 : Int32)) = (1 : Int32) → lp_X2_wordsHeard_29 Q R17 n x2 x3 x5 x6 (x7 + 1) G) ∧ ((((x5 >>> (x6 &&& 31)) &&& (x5 >>> (x7 &&& 31))) &&& (1 : Int32)) = (1 : Int32) → wp_X2_hearsNow x2 (G 1 4) x6 x7 G (fun r3 G4 => ((r3 = 0 → lp_X2_wordsHeard_29 Q R17 n x2 x3 x5 x6 (x7 + 1) G4) ∧ (¬ r3 = 0 → wp_X8_wordOf x6 x7 G4 (fun r5 G6 => lp_X2_wordsHeard_29 Q R17 n x2 (x3 ||| ((1 : Int64) <<< (r5.toInt64 &&& 63))) x5 x6 (x7 + 1) G6))))))))
set_option maxRecDepth 100000 in
set_option maxHeartbeats 4000000 in
theorem t_X2_wordsHeard_29 {E : EV} (hE : EI_ E) (Q : Int32 → GS → Prop) (R17 : Int32 → Int64 → Int32 → Int32 → GS → Prop) (hR17 : ∀ (x2 : Int32) (x3 : Int64) (x5 : Int32) (x6 : Int32) (G : GS), R17 x2 x3 x5 x6 G → PW_ E mi_X2_wordsHeard (rm_ 5) 0 0 17 [(0, .ref (ev_ad E 38)), (1, .ref (ev_ad E 1)), (2, .int x2), (3, .long x3), (5, .int x5), (6, .int x6)] [] G (qi_ Q))  : ∀ (n : Nat) (x2 : Int32) (x3 : Int64) (x5 : Int32) (x6 : Int32) (x7 : Int32) (G : GS), lp_X2_wordsHeard_29 Q R17 n x2 x3 x5 x6 x7 G → PW_ E mi_X2_wordsHeard (rm_ 5) 0 0 29 [(0, .ref (ev_ad E 38)), (1, .ref (ev_ad E 1)), (2, .int x2), (3, .long x3), (5, .int x5), (6, .int x6), (7, .int x7)] [] G (qi_ Q) := by
  intro n
  induction n with
  | zero => intro x2 x3 x5 x6 x7 G h; exact h.elim
  | succ n ih =>
    intro x2 x3 x5 x6 x7 G h
    refine pw_iload dX2_wordsHeard_29 6 rfl ?_
    refine pw_iload dX2_wordsHeard_31 5 rfl ?_
    refine pw_icmp_ge (tgt := 89) dX2_wordsHeard_33 (by decide) (fun hc => ?_) (fun hc => ?_)
    · have h := h.1 hc
      refine pw_iinc (k := 5) (v := x6 + 1) (lv' := [(6, .int (x6 + 1)), (0, .ref (ev_ad E 38)), (1, .ref (ev_ad E 1)), (2, .int x2), (3, .long x3), (5, .int x5), (7, .int x7)]) dX2_wordsHeard_89 rfl rfl (by decide) rfl ?_
      refine pw_goto (tgt := 17) dX2_wordsHeard_92 (by decide) ?_
      refine pw_loc (lv' := [(0, .ref (ev_ad E 38)), (1, .ref (ev_ad E 1)), (2, .int x2), (3, .long x3), (5, .int x5), (6, .int (x6 + 1))]) [1, 2, 3, 4, 5, 0] rfl ?_
      exact hR17 _ _ _ _ _ h
    · have h := h.2 hc
      refine pw_iload dX2_wordsHeard_36 4 rfl ?_
      refine pw_iload dX2_wordsHeard_38 5 rfl ?_
      refine pw_ishr dX2_wordsHeard_40 ?_
      refine pw_iload dX2_wordsHeard_41 4 rfl ?_
      refine pw_iload dX2_wordsHeard_43 6 rfl ?_
      refine pw_ishr dX2_wordsHeard_45 ?_
      refine pw_iand dX2_wordsHeard_46 ?_
      refine pw_iconst (v := (1 : Int32)) dX2_wordsHeard_47 (by decide) ?_
      refine pw_iand dX2_wordsHeard_48 ?_
      refine pw_iconst (v := (1 : Int32)) dX2_wordsHeard_49 (by decide) ?_
      refine pw_icmp_ne (tgt := 83) dX2_wordsHeard_50 (by decide) (fun hc => ?_) (fun hc => ?_)
      · have h := h.1 hc
        refine pw_iinc (k := 6) (v := x7 + 1) (lv' := [(7, .int (x7 + 1)), (0, .ref (ev_ad E 38)), (1, .ref (ev_ad E 1)), (2, .int x2), (3, .long x3), (5, .int x5), (6, .int x6)]) dX2_wordsHeard_83 rfl rfl (by decide) rfl ?_
        refine pw_goto (tgt := 29) dX2_wordsHeard_86 (by decide) ?_
        refine pw_loc (lv' := [(0, .ref (ev_ad E 38)), (1, .ref (ev_ad E 1)), (2, .int x2), (3, .long x3), (5, .int x5), (6, .int x6), (7, .int (x7 + 1))]) [1, 2, 3, 4, 5, 6, 0] rfl ?_
        exact ih _ _ _ _ _ _ h
      · have h := h.2 hc
        refine pw_aload_n dX2_wordsHeard_53 rfl 0 rfl ?_
        refine pw_aload_n dX2_wordsHeard_54 rfl 1 rfl ?_
        refine pw_iload_n dX2_wordsHeard_55 rfl 2 rfl ?_
        refine pw_aload_n dX2_wordsHeard_56 rfl 1 rfl ?_
        refine pw_geti (v := G 1 4) dX2_wordsHeard_57 fa_X2_32 ly_1 rfl rfl ?_
        refine pw_iload dX2_wordsHeard_60 5 rfl ?_
        refine pw_iload dX2_wordsHeard_62 6 rfl ?_
        refine pw_callV (As := [.ref (ev_ad E 1), .int x2, .int (G 1 4), .int x6, .int x7]) (rest := []) (s_X2_hearsNow hE h) dX2_wordsHeard_64 ly_38 rfl (Or.inl ml_X2_39) cm_X2_hearsNow rfl (rm_ok (by decide)) rm_0 (Nat.le_of_ble_eq_true rfl) ?_
        rintro _ G4 ⟨r3, rfl, h⟩
        refine pw_if_eq (tgt := 83) dX2_wordsHeard_67 (by decide) (fun hc => ?_) (fun hc => ?_)
        · have h := h.1 hc
          refine pw_iinc (k := 6) (v := x7 + 1) (lv' := [(7, .int (x7 + 1)), (0, .ref (ev_ad E 38)), (1, .ref (ev_ad E 1)), (2, .int x2), (3, .long x3), (5, .int x5), (6, .int x6)]) dX2_wordsHeard_83 rfl rfl (by decide) rfl ?_
          refine pw_goto (tgt := 29) dX2_wordsHeard_86 (by decide) ?_
          refine pw_loc (lv' := [(0, .ref (ev_ad E 38)), (1, .ref (ev_ad E 1)), (2, .int x2), (3, .long x3), (5, .int x5), (6, .int x6), (7, .int (x7 + 1))]) [1, 2, 3, 4, 5, 6, 0] rfl ?_
          exact ih _ _ _ _ _ _ h
        · have h := h.2 hc
          refine pw_lload_n dX2_wordsHeard_70 rfl 3 rfl ?_
          refine pw_lconst (v := (1 : Int64)) dX2_wordsHeard_71 (by decide) ?_
          refine pw_aload_n dX2_wordsHeard_72 rfl 1 rfl ?_
          refine pw_iload dX2_wordsHeard_73 5 rfl ?_
          refine pw_iload dX2_wordsHeard_75 6 rfl ?_
          refine pw_callV (As := [.int x6, .int x7]) (rest := [.long (1 : Int64), .long x3]) (s_X8_wordOf hE h) dX2_wordsHeard_77 ly_1 rfl (Or.inr mn_X2_43) cm_X8_wordOf rfl (rm_ok (by decide)) rm_0 (Nat.le_of_ble_eq_true rfl) ?_
          rintro _ G6 ⟨r5, rfl, h⟩
          refine pw_lshl dX2_wordsHeard_80 ?_
          refine pw_lor dX2_wordsHeard_81 ?_
          refine pw_lstore_n (lv' := [(3, .long (x3 ||| ((1 : Int64) <<< (r5.toInt64 &&& 63)))), (0, .ref (ev_ad E 38)), (1, .ref (ev_ad E 1)), (2, .int x2), (5, .int x5), (6, .int x6), (7, .int x7)]) dX2_wordsHeard_82 rfl (by decide) rfl ?_
          refine pw_iinc (k := 6) (v := x7 + 1) (lv' := [(7, .int (x7 + 1)), (3, .long (x3 ||| ((1 : Int64) <<< (r5.toInt64 &&& 63)))), (0, .ref (ev_ad E 38)), (1, .ref (ev_ad E 1)), (2, .int x2), (5, .int x5), (6, .int x6)]) dX2_wordsHeard_83 rfl rfl (by decide) rfl ?_
          refine pw_goto (tgt := 29) dX2_wordsHeard_86 (by decide) ?_
          refine pw_loc (lv' := [(0, .ref (ev_ad E 38)), (1, .ref (ev_ad E 1)), (2, .int x2), (3, .long (x3 ||| ((1 : Int64) <<< (r5.toInt64 &&& 63)))), (5, .int x5), (6, .int x6), (7, .int (x7 + 1))]) [2, 3, 4, 1, 5, 6, 0] rfl ?_
          exact ih _ _ _ _ _ _ h
def lp_X2_wordsHeard_17 (Q : Int32 → GS → Prop)  : Nat → Int32 → Int64 → Int32 → Int32 → GS → Prop
  | 0, _, _, _, _, _ => False
  | n + 1, x2, x3, x5, x6, G => (((G 1 1) ≤ x6 → wp_J13_bitCount x3 G (fun r1 G2 => Q r1 G2)) ∧ (¬ (G 1 1) ≤ x6 → (∃ kf, lp_X2_wordsHeard_29 Q (fun y2 y3 y5 y6 G => lp_X2_wordsHeard_17 Q n y2 y3 y5 y6 G) kf x2 x3 x5 x6 (0 : Int32) G)))
set_option maxRecDepth 100000 in
set_option maxHeartbeats 4000000 in
theorem t_X2_wordsHeard_17 {E : EV} (hE : EI_ E) (Q : Int32 → GS → Prop)  : ∀ (n : Nat) (x2 : Int32) (x3 : Int64) (x5 : Int32) (x6 : Int32) (G : GS), lp_X2_wordsHeard_17 Q n x2 x3 x5 x6 G → PW_ E mi_X2_wordsHeard (rm_ 5) 0 0 17 [(0, .ref (ev_ad E 38)), (1, .ref (ev_ad E 1)), (2, .int x2), (3, .long x3), (5, .int x5), (6, .int x6)] [] G (qi_ Q) := by
  intro n
  induction n with
  | zero => intro x2 x3 x5 x6 G h; exact h.elim
  | succ n ih =>
    intro x2 x3 x5 x6 G h
    refine pw_iload dX2_wordsHeard_17 5 rfl ?_
    refine pw_aload_n dX2_wordsHeard_19 rfl 1 rfl ?_
    refine pw_geti (v := G 1 1) dX2_wordsHeard_20 fa_X2_24 ly_1 rfl rfl ?_
    refine pw_icmp_ge (tgt := 95) dX2_wordsHeard_23 (by decide) (fun hc => ?_) (fun hc => ?_)
    · have h := h.1 hc
      refine pw_lload_n dX2_wordsHeard_95 rfl 3 rfl ?_
      refine pw_callS (As := [.long x3]) (rest := []) (s_J13_bitCount hE h) dX2_wordsHeard_96 ml_X2_47 cs_J13_bitCount_95d88 rfl (rm_ok (by decide)) rm_0 (Nat.le_of_ble_eq_true rfl) ?_
      rintro _ G2 ⟨r1, rfl, h⟩
      exact pw_ireturn dX2_wordsHeard_99 rfl rfl ⟨_, rfl, h⟩
    · have h := h.2 hc
      refine pw_iconst (v := (0 : Int32)) dX2_wordsHeard_26 (by decide) ?_
      refine pw_istore (lv' := [(7, .int (0 : Int32)), (0, .ref (ev_ad E 38)), (1, .ref (ev_ad E 1)), (2, .int x2), (3, .long x3), (5, .int x5), (6, .int x6)]) dX2_wordsHeard_27 (by decide) rfl ?_
      refine pw_loc (lv' := [(0, .ref (ev_ad E 38)), (1, .ref (ev_ad E 1)), (2, .int x2), (3, .long x3), (5, .int x5), (6, .int x6), (7, .int (0 : Int32))]) [1, 2, 3, 4, 5, 6, 0] rfl ?_
      obtain ⟨kf, h⟩ := h
      exact t_X2_wordsHeard_29 hE Q (fun y2 y3 y5 y6 G => lp_X2_wordsHeard_17 Q n y2 y3 y5 y6 G) ih kf _ _ _ _ _ _ h
def wp_X2_wordsHeard (a2 : Int32) (G : GS) (Q : Int32 → GS → Prop) : Prop := (∃ kf, lp_X2_wordsHeard_17 Q kf a2 (0 : Int64) ((G 1 4) &&& (((1 : Int32) <<< (a2 &&& 31)) ^^^ (-1 : Int32))) (0 : Int32) G)
set_option maxRecDepth 100000 in
set_option maxHeartbeats 4000000 in
theorem s_X2_wordsHeard {E : EV} (hE : EI_ E) {a2 : Int32} {G : GS} {Q : Int32 → GS → Prop} (h : wp_X2_wordsHeard a2 G Q) : PMet E mi_X2_wordsHeard 5 [.ref (ev_ad E 38), .ref (ev_ad E 1), .int a2] G (qi_ Q) := by
  refine pm_of hE (by decide) (Nat.le_of_ble_eq_true rfl) ?_
  refine pw_loc (lv' := [(0, .ref (ev_ad E 38)), (1, .ref (ev_ad E 1)), (2, .int a2)]) [0, 1, 2] rfl ?_
  refine pw_lconst (v := (0 : Int64)) dX2_wordsHeard_0 (by decide) ?_
  refine pw_lstore_n (lv' := [(3, .long (0 : Int64)), (0, .ref (ev_ad E 38)), (1, .ref (ev_ad E 1)), (2, .int a2)]) dX2_wordsHeard_1 rfl (by decide) rfl ?_
  refine pw_aload_n dX2_wordsHeard_2 rfl 2 rfl ?_
  refine pw_geti (v := G 1 4) dX2_wordsHeard_3 fa_X2_32 ly_1 rfl rfl ?_
  refine pw_iconst (v := (1 : Int32)) dX2_wordsHeard_6 (by decide) ?_
  refine pw_iload_n dX2_wordsHeard_7 rfl 3 rfl ?_
  refine pw_ishl dX2_wordsHeard_8 ?_
  refine pw_iconst (v := (-1 : Int32)) dX2_wordsHeard_9 (by decide) ?_
  refine pw_ixor dX2_wordsHeard_10 ?_
  refine pw_iand dX2_wordsHeard_11 ?_
  refine pw_istore (lv' := [(5, .int ((G 1 4) &&& (((1 : Int32) <<< (a2 &&& 31)) ^^^ (-1 : Int32)))), (3, .long (0 : Int64)), (0, .ref (ev_ad E 38)), (1, .ref (ev_ad E 1)), (2, .int a2)]) dX2_wordsHeard_12 (by decide) rfl ?_
  refine pw_iconst (v := (0 : Int32)) dX2_wordsHeard_14 (by decide) ?_
  refine pw_istore (lv' := [(6, .int (0 : Int32)), (5, .int ((G 1 4) &&& (((1 : Int32) <<< (a2 &&& 31)) ^^^ (-1 : Int32)))), (3, .long (0 : Int64)), (0, .ref (ev_ad E 38)), (1, .ref (ev_ad E 1)), (2, .int a2)]) dX2_wordsHeard_15 (by decide) rfl ?_
  refine pw_loc (lv' := [(0, .ref (ev_ad E 38)), (1, .ref (ev_ad E 1)), (2, .int a2), (3, .long (0 : Int64)), (5, .int ((G 1 4) &&& (((1 : Int32) <<< (a2 &&& 31)) ^^^ (-1 : Int32)))), (6, .int (0 : Int32))]) [3, 4, 5, 2, 1, 0] rfl ?_
  obtain ⟨kf, h⟩ := h
  exact t_X2_wordsHeard_17 hE Q kf _ _ _ _ _ h
def wp_X9_of (a1 : Int32) (a2 : Int32) (G : GS) (Q : Int32 → GS → Prop) : Prop := wp_X8_isPerson a1 G (fun r1 G2 => ((¬ r1 = 0 → ((a2 = 0 → (vp_in a1 10 ∧ Q (G2 2 a1.toNatClampNeg) G2)) ∧ (a2 = 1 → Q (((G2 1 4) >>> (a1 &&& 31)) &&& (1 : Int32)) G2) ∧ (a2 = 2 → (vp_in a1 10 ∧ Q (G2 3 a1.toNatClampNeg) G2)) ∧ (a2 = 3 → wp_X2_couplesHeard a1 (G2 1 4) G2 (fun r5 G6 => Q r5 G6)) ∧ (a2 = 4 → wp_X2_wordsHeard a1 G2 (fun r7 G8 => Q r7 G8)) ∧ (¬ a2 = 0 → ¬ a2 = 1 → ¬ a2 = 2 → ¬ a2 = 3 → ¬ a2 = 4 → Q (-2 : Int32) G2))) ∧ (r1 = 0 → Q (-2 : Int32) G2)))
set_option maxRecDepth 100000 in
set_option maxHeartbeats 4000000 in
theorem s_X9_of {E : EV} (hE : EI_ E) {a1 : Int32} {a2 : Int32} {G : GS} {Q : Int32 → GS → Prop} (h : wp_X9_of a1 a2 G Q) : PMet E mi_X9_of 6 [.ref (ev_ad E 0), .int a1, .int a2] G (qi_ Q) := by
  refine pm_of hE (by decide) (Nat.le_of_ble_eq_true rfl) ?_
  refine pw_loc (lv' := [(0, .ref (ev_ad E 0)), (1, .int a1), (2, .int a2)]) [0, 1, 2] rfl ?_
  refine pw_aload_n dX9_of_0 rfl 0 rfl ?_
  refine pw_getr (q := 1) dX9_of_1 fa_X9_10 ly_0 rfl ?_
  refine pw_iload_n dX9_of_4 rfl 1 rfl ?_
  refine pw_callV (As := [.int a1]) (rest := []) (s_X8_isPerson hE h) dX9_of_5 ly_1 rfl (Or.inr mn_X9_95) cm_X8_isPerson rfl (rm_ok (by decide)) rm_0 (Nat.le_of_ble_eq_true rfl) ?_
  rintro _ G2 ⟨r1, rfl, h⟩
  refine pw_if_ne (tgt := 14) dX9_of_8 (by decide) (fun hc => ?_) (fun hc => ?_)
  · have h := h.1 hc
    refine pw_iload_n dX9_of_14 rfl 2 rfl ?_
    by_cases hs0 : a2 = (0 : Int32)
    · have h := h.1 hs0
      refine pw_tswIn (tgt := 48) (off := 33) (0 : Int32) dX9_of_15 hs0 (by decide) (by decide) (by decide +kernel) (by decide) ?_
      refine pw_aload_n dX9_of_48 rfl 0 rfl ?_
      refine pw_getr (q := 1) dX9_of_49 fa_X9_10 ly_0 rfl ?_
      refine pw_getr (q := 2) dX9_of_52 fa_X9_88 ly_1 rfl ?_
      refine pw_iload_n dX9_of_55 rfl 1 rfl ?_
      obtain ⟨hv3, h⟩ := h
      refine pw_iald (v := G2 2 a1.toNatClampNeg) dX9_of_56 ly_2 hv3 rfl ?_
      exact pw_ireturn dX9_of_57 rfl rfl ⟨_, rfl, h⟩
    by_cases hs1 : a2 = (1 : Int32)
    · have h := h.2.1 hs1
      refine pw_tswIn (tgt := 58) (off := 43) (1 : Int32) dX9_of_15 hs1 (by decide) (by decide) (by decide +kernel) (by decide) ?_
      refine pw_aload_n dX9_of_58 rfl 0 rfl ?_
      refine pw_getr (q := 1) dX9_of_59 fa_X9_10 ly_0 rfl ?_
      refine pw_geti (v := G2 1 4) dX9_of_62 fa_X9_171 ly_1 rfl rfl ?_
      refine pw_iload_n dX9_of_65 rfl 1 rfl ?_
      refine pw_ishr dX9_of_66 ?_
      refine pw_iconst (v := (1 : Int32)) dX9_of_67 (by decide) ?_
      refine pw_iand dX9_of_68 ?_
      exact pw_ireturn dX9_of_69 rfl rfl ⟨_, rfl, h⟩
    by_cases hs2 : a2 = (2 : Int32)
    · have h := h.2.2.1 hs2
      refine pw_tswIn (tgt := 70) (off := 55) (2 : Int32) dX9_of_15 hs2 (by decide) (by decide) (by decide +kernel) (by decide) ?_
      refine pw_aload_n dX9_of_70 rfl 0 rfl ?_
      refine pw_getr (q := 1) dX9_of_71 fa_X9_10 ly_0 rfl ?_
      refine pw_getr (q := 3) dX9_of_74 fa_X9_174 ly_1 rfl ?_
      refine pw_iload_n dX9_of_77 rfl 1 rfl ?_
      obtain ⟨hv4, h⟩ := h
      refine pw_iald (v := G2 3 a1.toNatClampNeg) dX9_of_78 ly_3 hv4 rfl ?_
      exact pw_ireturn dX9_of_79 rfl rfl ⟨_, rfl, h⟩
    by_cases hs3 : a2 = (3 : Int32)
    · have h := h.2.2.2.1 hs3
      refine pw_tswIn (tgt := 80) (off := 65) (3 : Int32) dX9_of_15 hs3 (by decide) (by decide) (by decide +kernel) (by decide) ?_
      refine pw_aload_n dX9_of_80 rfl 0 rfl ?_
      refine pw_getr (q := 38) dX9_of_81 fa_X9_50 ly_0 rfl ?_
      refine pw_aload_n dX9_of_84 rfl 0 rfl ?_
      refine pw_getr (q := 1) dX9_of_85 fa_X9_10 ly_0 rfl ?_
      refine pw_iload_n dX9_of_88 rfl 1 rfl ?_
      refine pw_aload_n dX9_of_89 rfl 0 rfl ?_
      refine pw_getr (q := 1) dX9_of_90 fa_X9_10 ly_0 rfl ?_
      refine pw_geti (v := G2 1 4) dX9_of_93 fa_X9_171 ly_1 rfl rfl ?_
      refine pw_callV (As := [.ref (ev_ad E 1), .int a1, .int (G2 1 4)]) (rest := []) (s_X2_couplesHeard hE h) dX9_of_96 ly_38 rfl (Or.inr mn_X9_177) cm_X2_couplesHeard rfl (rm_ok (by decide)) rm_0 (Nat.le_of_ble_eq_true rfl) ?_
      rintro _ G6 ⟨r5, rfl, h⟩
      exact pw_ireturn dX9_of_99 rfl rfl ⟨_, rfl, h⟩
    by_cases hs4 : a2 = (4 : Int32)
    · have h := h.2.2.2.2.1 hs4
      refine pw_tswIn (tgt := 100) (off := 85) (4 : Int32) dX9_of_15 hs4 (by decide) (by decide) (by decide +kernel) (by decide) ?_
      refine pw_aload_n dX9_of_100 rfl 0 rfl ?_
      refine pw_getr (q := 38) dX9_of_101 fa_X9_50 ly_0 rfl ?_
      refine pw_aload_n dX9_of_104 rfl 0 rfl ?_
      refine pw_getr (q := 1) dX9_of_105 fa_X9_10 ly_0 rfl ?_
      refine pw_iload_n dX9_of_108 rfl 1 rfl ?_
      refine pw_callV (As := [.ref (ev_ad E 1), .int a1]) (rest := []) (s_X2_wordsHeard hE h) dX9_of_109 ly_38 rfl (Or.inr mn_X9_180) cm_X2_wordsHeard rfl (rm_ok (by decide)) rm_0 (Nat.le_of_ble_eq_true rfl) ?_
      rintro _ G8 ⟨r7, rfl, h⟩
      exact pw_ireturn dX9_of_112 rfl rfl ⟨_, rfl, h⟩
    have h := h.2.2.2.2.2 hs0 hs1 hs2 hs3 hs4
    refine pw_tswOut (tgt := 113) dX9_of_15 (by have := lv_neT hs0 (show (0 : Int32).toInt = 0 from by decide); have := lv_neT hs1 (show (1 : Int32).toInt = 1 from by decide); have := lv_neT hs2 (show (2 : Int32).toInt = 2 from by decide); have := lv_neT hs3 (show (3 : Int32).toInt = 3 from by decide); have := lv_neT hs4 (show (4 : Int32).toInt = 4 from by decide);  omega) (by decide) ?_
    refine pw_bipush (v := (-2 : Int32)) dX9_of_113 (by decide) ?_
    exact pw_ireturn dX9_of_115 rfl rfl ⟨_, rfl, h⟩
  · have h := h.2 hc
    refine pw_bipush (v := (-2 : Int32)) dX9_of_11 (by decide) ?_
    exact pw_ireturn dX9_of_13 rfl rfl ⟨_, rfl, h⟩
def wp_X9_areThree (a1 : Int32) (a2 : Int32) (a3 : Int32) (G : GS) (Q : Int32 → GS → Prop) : Prop := wp_X8_isPerson a1 G (fun r1 G2 => ((r1 = 0 → Q (0 : Int32) G2) ∧ (¬ r1 = 0 → wp_X8_isPerson a2 G2 (fun r3 G4 => ((r3 = 0 → Q (0 : Int32) G4) ∧ (¬ r3 = 0 → wp_X8_isPerson a3 G4 (fun r5 G6 => ((r5 = 0 → Q (0 : Int32) G6) ∧ (¬ r5 = 0 → ((a1 = a2 → Q (0 : Int32) G6) ∧ (¬ a1 = a2 → ((a1 = a3 → Q (0 : Int32) G6) ∧ (¬ a1 = a3 → ((a2 = a3 → Q (0 : Int32) G6) ∧ (¬ a2 = a3 → Q (1 : Int32) G6)))))))))))))))
set_option maxRecDepth 100000 in
set_option maxHeartbeats 4000000 in
theorem s_X9_areThree {E : EV} (hE : EI_ E) {a1 : Int32} {a2 : Int32} {a3 : Int32} {G : GS} {Q : Int32 → GS → Prop} (h : wp_X9_areThree a1 a2 a3 G Q) : PMet E mi_X9_areThree 2 [.ref (ev_ad E 0), .int a1, .int a2, .int a3] G (qi_ Q) := by
  refine pm_of hE (by decide) (Nat.le_of_ble_eq_true rfl) ?_
  refine pw_loc (lv' := [(0, .ref (ev_ad E 0)), (1, .int a1), (2, .int a2), (3, .int a3)]) [0, 1, 2, 3] rfl ?_
  refine pw_aload_n dX9_areThree_0 rfl 0 rfl ?_
  refine pw_getr (q := 1) dX9_areThree_1 fa_X9_10 ly_0 rfl ?_
  refine pw_iload_n dX9_areThree_4 rfl 1 rfl ?_
  refine pw_callV (As := [.int a1]) (rest := []) (s_X8_isPerson hE h) dX9_areThree_5 ly_1 rfl (Or.inr mn_X9_95) cm_X8_isPerson rfl (rm_ok (by decide)) rm_0 (Nat.le_of_ble_eq_true rfl) ?_
  rintro _ G2 ⟨r1, rfl, h⟩
  refine pw_if_eq (tgt := 52) dX9_areThree_8 (by decide) (fun hc => ?_) (fun hc => ?_)
  · have h := h.1 hc
    refine pw_iconst (v := (0 : Int32)) dX9_areThree_52 (by decide) ?_
    exact pw_ireturn dX9_areThree_53 rfl rfl ⟨_, rfl, h⟩
  · have h := h.2 hc
    refine pw_aload_n dX9_areThree_11 rfl 0 rfl ?_
    refine pw_getr (q := 1) dX9_areThree_12 fa_X9_10 ly_0 rfl ?_
    refine pw_iload_n dX9_areThree_15 rfl 2 rfl ?_
    refine pw_callV (As := [.int a2]) (rest := []) (s_X8_isPerson hE h) dX9_areThree_16 ly_1 rfl (Or.inr mn_X9_95) cm_X8_isPerson rfl (rm_ok (by decide)) rm_0 (Nat.le_of_ble_eq_true rfl) ?_
    rintro _ G4 ⟨r3, rfl, h⟩
    refine pw_if_eq (tgt := 52) dX9_areThree_19 (by decide) (fun hc => ?_) (fun hc => ?_)
    · have h := h.1 hc
      refine pw_iconst (v := (0 : Int32)) dX9_areThree_52 (by decide) ?_
      exact pw_ireturn dX9_areThree_53 rfl rfl ⟨_, rfl, h⟩
    · have h := h.2 hc
      refine pw_aload_n dX9_areThree_22 rfl 0 rfl ?_
      refine pw_getr (q := 1) dX9_areThree_23 fa_X9_10 ly_0 rfl ?_
      refine pw_iload_n dX9_areThree_26 rfl 3 rfl ?_
      refine pw_callV (As := [.int a3]) (rest := []) (s_X8_isPerson hE h) dX9_areThree_27 ly_1 rfl (Or.inr mn_X9_95) cm_X8_isPerson rfl (rm_ok (by decide)) rm_0 (Nat.le_of_ble_eq_true rfl) ?_
      rintro _ G6 ⟨r5, rfl, h⟩
      refine pw_if_eq (tgt := 52) dX9_areThree_30 (by decide) (fun hc => ?_) (fun hc => ?_)
      · have h := h.1 hc
        refine pw_iconst (v := (0 : Int32)) dX9_areThree_52 (by decide) ?_
        exact pw_ireturn dX9_areThree_53 rfl rfl ⟨_, rfl, h⟩
      · have h := h.2 hc
        refine pw_iload_n dX9_areThree_33 rfl 1 rfl ?_
        refine pw_iload_n dX9_areThree_34 rfl 2 rfl ?_
        refine pw_icmp_eq (tgt := 52) dX9_areThree_35 (by decide) (fun hc => ?_) (fun hc => ?_)
        · have h := h.1 hc
          refine pw_iconst (v := (0 : Int32)) dX9_areThree_52 (by decide) ?_
          exact pw_ireturn dX9_areThree_53 rfl rfl ⟨_, rfl, h⟩
        · have h := h.2 hc
          refine pw_iload_n dX9_areThree_38 rfl 1 rfl ?_
          refine pw_iload_n dX9_areThree_39 rfl 3 rfl ?_
          refine pw_icmp_eq (tgt := 52) dX9_areThree_40 (by decide) (fun hc => ?_) (fun hc => ?_)
          · have h := h.1 hc
            refine pw_iconst (v := (0 : Int32)) dX9_areThree_52 (by decide) ?_
            exact pw_ireturn dX9_areThree_53 rfl rfl ⟨_, rfl, h⟩
          · have h := h.2 hc
            refine pw_iload_n dX9_areThree_43 rfl 2 rfl ?_
            refine pw_iload_n dX9_areThree_44 rfl 3 rfl ?_
            refine pw_icmp_eq (tgt := 52) dX9_areThree_45 (by decide) (fun hc => ?_) (fun hc => ?_)
            · have h := h.1 hc
              refine pw_iconst (v := (0 : Int32)) dX9_areThree_52 (by decide) ?_
              exact pw_ireturn dX9_areThree_53 rfl rfl ⟨_, rfl, h⟩
            · have h := h.2 hc
              refine pw_iconst (v := (1 : Int32)) dX9_areThree_48 (by decide) ?_
              refine pw_goto (tgt := 53) dX9_areThree_49 (by decide) ?_
              exact pw_ireturn dX9_areThree_53 rfl rfl ⟨_, rfl, h⟩
def wp_X9_hears (a1 : Int32) (a2 : Int32) (a3 : Int32) (G : GS) (Q : Int32 → GS → Prop) : Prop := wp_X9_areThree a1 a2 a3 G (fun r1 G2 => ((r1 = 0 → Q (-1 : Int32) G2) ∧ (¬ r1 = 0 → wp_X8_hasHum a2 G2 (fun r3 G4 => ((r3 = 0 → Q (-1 : Int32) G4) ∧ (¬ r3 = 0 → wp_X8_hasHum a3 G4 (fun r5 G6 => ((¬ r5 = 0 → wp_X2_hearsNow a1 (G6 1 4) a2 a3 G6 (fun r7 G8 => ((r7 = 0 → Q (0 : Int32) G8) ∧ (¬ r7 = 0 → Q (1 : Int32) G8)))) ∧ (r5 = 0 → Q (-1 : Int32) G6)))))))))
set_option maxRecDepth 100000 in
set_option maxHeartbeats 4000000 in
theorem s_X9_hears {E : EV} (hE : EI_ E) {a1 : Int32} {a2 : Int32} {a3 : Int32} {G : GS} {Q : Int32 → GS → Prop} (h : wp_X9_hears a1 a2 a3 G Q) : PMet E mi_X9_hears 5 [.ref (ev_ad E 0), .int a1, .int a2, .int a3] G (qi_ Q) := by
  refine pm_of hE (by decide) (Nat.le_of_ble_eq_true rfl) ?_
  refine pw_loc (lv' := [(0, .ref (ev_ad E 0)), (1, .int a1), (2, .int a2), (3, .int a3)]) [0, 1, 2, 3] rfl ?_
  refine pw_aload_n dX9_hears_0 rfl 0 rfl ?_
  refine pw_iload_n dX9_hears_1 rfl 1 rfl ?_
  refine pw_iload_n dX9_hears_2 rfl 2 rfl ?_
  refine pw_iload_n dX9_hears_3 rfl 3 rfl ?_
  refine pw_callV (As := [.int a1, .int a2, .int a3]) (rest := []) (s_X9_areThree hE h) dX9_hears_4 ly_0 rfl (Or.inl ml_X9_184) cm_X9_areThree rfl (rm_ok (by decide)) rm_0 (Nat.le_of_ble_eq_true rfl) ?_
  rintro _ G2 ⟨r1, rfl, h⟩
  refine pw_if_eq (tgt := 32) dX9_hears_7 (by decide) (fun hc => ?_) (fun hc => ?_)
  · have h := h.1 hc
    refine pw_iconst (v := (-1 : Int32)) dX9_hears_32 (by decide) ?_
    exact pw_ireturn dX9_hears_33 rfl rfl ⟨_, rfl, h⟩
  · have h := h.2 hc
    refine pw_aload_n dX9_hears_10 rfl 0 rfl ?_
    refine pw_getr (q := 1) dX9_hears_11 fa_X9_10 ly_0 rfl ?_
    refine pw_iload_n dX9_hears_14 rfl 2 rfl ?_
    refine pw_callV (As := [.int a2]) (rest := []) (s_X8_hasHum hE h) dX9_hears_15 ly_1 rfl (Or.inr mn_X9_131) cm_X8_hasHum rfl (rm_ok (by decide)) rm_0 (Nat.le_of_ble_eq_true rfl) ?_
    rintro _ G4 ⟨r3, rfl, h⟩
    refine pw_if_eq (tgt := 32) dX9_hears_18 (by decide) (fun hc => ?_) (fun hc => ?_)
    · have h := h.1 hc
      refine pw_iconst (v := (-1 : Int32)) dX9_hears_32 (by decide) ?_
      exact pw_ireturn dX9_hears_33 rfl rfl ⟨_, rfl, h⟩
    · have h := h.2 hc
      refine pw_aload_n dX9_hears_21 rfl 0 rfl ?_
      refine pw_getr (q := 1) dX9_hears_22 fa_X9_10 ly_0 rfl ?_
      refine pw_iload_n dX9_hears_25 rfl 3 rfl ?_
      refine pw_callV (As := [.int a3]) (rest := []) (s_X8_hasHum hE h) dX9_hears_26 ly_1 rfl (Or.inr mn_X9_131) cm_X8_hasHum rfl (rm_ok (by decide)) rm_0 (Nat.le_of_ble_eq_true rfl) ?_
      rintro _ G6 ⟨r5, rfl, h⟩
      refine pw_if_ne (tgt := 34) dX9_hears_29 (by decide) (fun hc => ?_) (fun hc => ?_)
      · have h := h.1 hc
        refine pw_aload_n dX9_hears_34 rfl 0 rfl ?_
        refine pw_getr (q := 38) dX9_hears_35 fa_X9_50 ly_0 rfl ?_
        refine pw_aload_n dX9_hears_38 rfl 0 rfl ?_
        refine pw_getr (q := 1) dX9_hears_39 fa_X9_10 ly_0 rfl ?_
        refine pw_iload_n dX9_hears_42 rfl 1 rfl ?_
        refine pw_aload_n dX9_hears_43 rfl 0 rfl ?_
        refine pw_getr (q := 1) dX9_hears_44 fa_X9_10 ly_0 rfl ?_
        refine pw_geti (v := G6 1 4) dX9_hears_47 fa_X9_171 ly_1 rfl rfl ?_
        refine pw_iload_n dX9_hears_50 rfl 2 rfl ?_
        refine pw_iload_n dX9_hears_51 rfl 3 rfl ?_
        refine pw_callV (As := [.ref (ev_ad E 1), .int a1, .int (G6 1 4), .int a2, .int a3]) (rest := []) (s_X2_hearsNow hE h) dX9_hears_52 ly_38 rfl (Or.inr mn_X9_187) cm_X2_hearsNow rfl (rm_ok (by decide)) rm_0 (Nat.le_of_ble_eq_true rfl) ?_
        rintro _ G8 ⟨r7, rfl, h⟩
        refine pw_if_eq (tgt := 62) dX9_hears_55 (by decide) (fun hc => ?_) (fun hc => ?_)
        · have h := h.1 hc
          refine pw_iconst (v := (0 : Int32)) dX9_hears_62 (by decide) ?_
          exact pw_ireturn dX9_hears_63 rfl rfl ⟨_, rfl, h⟩
        · have h := h.2 hc
          refine pw_iconst (v := (1 : Int32)) dX9_hears_58 (by decide) ?_
          refine pw_goto (tgt := 63) dX9_hears_59 (by decide) ?_
          exact pw_ireturn dX9_hears_63 rfl rfl ⟨_, rfl, h⟩
      · have h := h.2 hc
        refine pw_iconst (v := (-1 : Int32)) dX9_hears_32 (by decide) ?_
        exact pw_ireturn dX9_hears_33 rfl rfl ⟨_, rfl, h⟩
