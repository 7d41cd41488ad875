def bk_X6_step_45 (Q : Int32 → GS → Prop)   (G : GS) : Prop := wp_X6_signAt (G 33 7) (gu_ G 33 8 ((G 33 7) + (1 : Int32))) (fun r5 G6 => (((G6 33 7) < (G6 33 4) → wp_X6_isLetter r5 G6 (fun r7 G8 => ((r7 = 0 → wp_X6_isDigit r5 G8 (fun r9 G10 => ((r9 = 0 → wp_X6_isSign r5 G10 (fun r11 G12 => ((r11 = 0 → Q 0 (gu_ G12 33 5 (1 : Int32))) ∧ (¬ r11 = 0 → Q 0 (gu_ G12 33 5 r5))))) ∧ (¬ r9 = 0 → wp_X6_takeDigits G10 (fun _ G14 => Q 0 G14))))) ∧ (¬ r7 = 0 → wp_X6_takeLetters G8 (fun _ G16 => Q 0 G16))))) ∧ (¬ (G6 33 7) < (G6 33 4) → Q 0 (gu_ (gu_ G6 33 8 (G6 33 4)) 33 5 (0 : Int32)))))
set_option maxRecDepth 100000 in
set_option maxHeartbeats 4000000 in
theorem t_X6_step_45 {E : EV} (hE : EI_ E) (Q : Int32 → GS → Prop)   {G : GS} (h : bk_X6_step_45 Q G) : PW_ E mi_X6_step (rm_ 8) 0 0 45 [(0, .ref (ev_ad E 33))] [] G (qv_ Q) := by
  refine pw_aload_n dX6_step_45 rfl 0 rfl ?_
  refine pw_aload_n dX6_step_46 rfl 0 rfl ?_
  refine pw_geti (v := G 33 7) dX6_step_47 fa_X6_61 ly_33 rfl rfl ?_
  refine pw_iconst (v := (1 : Int32)) dX6_step_50 (by decide) ?_
  refine pw_iadd dX6_step_51 ?_
  refine pw_puti dX6_step_52 fp_X6_33 ly_33 rfl ?_
  refine pw_aload_n dX6_step_55 rfl 0 rfl ?_
  refine pw_aload_n dX6_step_56 rfl 0 rfl ?_
  refine pw_geti (v := G 33 7) dX6_step_57 fa_X6_61 ly_33 rfl rfl ?_
  refine pw_callV (As := [.int (G 33 7)]) (rest := []) (s_X6_signAt hE h) dX6_step_60 ly_33 rfl (Or.inl ml_X6_126) cm_X6_signAt rfl (rm_ok (by decide)) rm_0 (Nat.le_of_ble_eq_true rfl) ?_
  rintro _ G6 ⟨r5, rfl, h⟩
  refine pw_istore_n (lv' := [(1, .int r5), (0, .ref (ev_ad E 33))]) dX6_step_63 rfl (by decide) rfl ?_
  refine pw_aload_n dX6_step_64 rfl 1 rfl ?_
  refine pw_geti (v := G6 33 7) dX6_step_65 fa_X6_61 ly_33 rfl rfl ?_
  refine pw_aload_n dX6_step_68 rfl 1 rfl ?_
  refine pw_geti (v := G6 33 4) dX6_step_69 fa_X6_30 ly_33 rfl rfl ?_
  refine pw_icmp_lt (tgt := 91) dX6_step_72 (by decide) (fun hc => ?_) (fun hc => ?_)
  · have h := h.1 hc
    refine pw_iload_n dX6_step_91 rfl 0 rfl ?_
    refine pw_callS (As := [.int r5]) (rest := []) (s_X6_isLetter hE h) dX6_step_92 ml_X6_132 cs_X6_isLetter rfl (rm_ok (by decide)) rm_0 (Nat.le_of_ble_eq_true rfl) ?_
    rintro _ G8 ⟨r7, rfl, h⟩
    refine pw_if_eq (tgt := 105) dX6_step_95 (by decide) (fun hc => ?_) (fun hc => ?_)
    · have h := h.1 hc
      refine pw_iload_n dX6_step_105 rfl 0 rfl ?_
      refine pw_callS (As := [.int r5]) (rest := []) (s_X6_isDigit hE h) dX6_step_106 ml_X6_138 cs_X6_isDigit rfl (rm_ok (by decide)) rm_0 (Nat.le_of_ble_eq_true rfl) ?_
      rintro _ G10 ⟨r9, rfl, h⟩
      refine pw_if_eq (tgt := 119) dX6_step_109 (by decide) (fun hc => ?_) (fun hc => ?_)
      · have h := h.1 hc
        refine pw_aload_n dX6_step_119 rfl 1 rfl ?_
        refine pw_iload_n dX6_step_120 rfl 0 rfl ?_
        refine pw_callS (As := [.int r5]) (rest := [.ref (ev_ad E 33)]) (s_X6_isSign hE h) dX6_step_121 ml_X6_144 cs_X6_isSign rfl (rm_ok (by decide)) rm_0 (Nat.le_of_ble_eq_true rfl) ?_
        rintro _ G12 ⟨r11, rfl, h⟩
        refine pw_if_eq (tgt := 131) dX6_step_124 (by decide) (fun hc => ?_) (fun hc => ?_)
        · have h := h.1 hc
          refine pw_iconst (v := (1 : Int32)) dX6_step_131 (by decide) ?_
          refine pw_puti dX6_step_132 fp_X6_54 ly_33 rfl ?_
          exact pw_return dX6_step_135 rfl ⟨rfl, h⟩
        · have h := h.2 hc
          refine pw_iload_n dX6_step_127 rfl 0 rfl ?_
          refine pw_goto (tgt := 132) dX6_step_128 (by decide) ?_
          refine pw_puti dX6_step_132 fp_X6_54 ly_33 rfl ?_
          exact pw_return dX6_step_135 rfl ⟨rfl, h⟩
      · have h := h.2 hc
        refine pw_aload_n dX6_step_112 rfl 1 rfl ?_
        refine pw_callV (As := []) (rest := []) (s_X6_takeDigits hE h) dX6_step_113 ly_33 rfl (Or.inl ml_X6_141) cm_X6_takeDigits rfl (rm_ok (by decide)) rm_0 (Nat.le_of_ble_eq_true rfl) ?_
        rintro _ G14 ⟨rfl, h⟩
        refine pw_goto (tgt := 135) dX6_step_116 (by decide) ?_
        exact pw_return dX6_step_135 rfl ⟨rfl, h⟩
    · have h := h.2 hc
      refine pw_aload_n dX6_step_98 rfl 1 rfl ?_
      refine pw_callV (As := []) (rest := []) (s_X6_takeLetters hE h) dX6_step_99 ly_33 rfl (Or.inl ml_X6_135) cm_X6_takeLetters rfl (rm_ok (by decide)) rm_0 (Nat.le_of_ble_eq_true rfl) ?_
      rintro _ G16 ⟨rfl, h⟩
      refine pw_goto (tgt := 135) dX6_step_102 (by decide) ?_
      exact pw_return dX6_step_135 rfl ⟨rfl, h⟩
  · have h := h.2 hc
    refine pw_aload_n dX6_step_75 rfl 1 rfl ?_
    refine pw_aload_n dX6_step_76 rfl 1 rfl ?_
    refine pw_geti (v := G6 33 4) dX6_step_77 fa_X6_30 ly_33 rfl rfl ?_
    refine pw_puti dX6_step_80 fp_X6_33 ly_33 rfl ?_
    refine pw_aload_n dX6_step_83 rfl 1 rfl ?_
    refine pw_iconst (v := (0 : Int32)) dX6_step_84 (by decide) ?_
    refine pw_puti dX6_step_85 fp_X6_54 ly_33 rfl ?_
    refine pw_goto (tgt := 135) dX6_step_88 (by decide) ?_
    exact pw_return dX6_step_135 rfl ⟨rfl, h⟩
def lp_X6_step_13 (Q : Int32 → GS → Prop)  : Nat → Int32 → GS → Prop
  | 0, _, _ => False
  | n + 1, x1, G => (((G 33 4) ≤ x1 → bk_X6_step_45 Q G) ∧ (¬ (G 33 4) ≤ x1 → wp_X6_signAt x1 G (fun r1 G2 => wp_X6_isBlank r1 G2 (fun r3 G4 => ((r3 = 0 → bk_X6_step_45 Q G4) ∧ (¬ r3 = 0 → lp_X6_step_13 Q n (x1 + 1) (gu_ G4 33 7 (x1 + (1 : Int32)))))))))
set_option maxRecDepth 100000 in
set_option maxHeartbeats 4000000 in
theorem t_X6_step_13 {E : EV} (hE : EI_ E) (Q : Int32 → GS → Prop)  : ∀ (n : Nat) (x1 : Int32) (G : GS), lp_X6_step_13 Q n x1 G → PW_ E mi_X6_step (rm_ 8) 0 0 13 [(0, .ref (ev_ad E 33)), (1, .int x1)] [] G (qv_ Q) := by
  intro n
  induction n with
  | zero => intro x1 G h; exact h.elim
  | succ n ih =>
    intro x1 G h
    refine pw_iload_n dX6_step_13 rfl 1 rfl ?_
    refine pw_aload_n dX6_step_14 rfl 0 rfl ?_
    refine pw_geti (v := G 33 4) dX6_step_15 fa_X6_30 ly_33 rfl rfl ?_
    refine pw_icmp_ge (tgt := 45) dX6_step_18 (by decide) (fun hc => ?_) (fun hc => ?_)
    · have h := h.1 hc
      refine pw_loc (lv' := [(0, .ref (ev_ad E 33))]) [0] rfl ?_
      exact t_X6_step_45 hE Q h
    · have h := h.2 hc
      refine pw_aload_n dX6_step_21 rfl 0 rfl ?_
      refine pw_iload_n dX6_step_22 rfl 1 rfl ?_
      refine pw_callV (As := [.int x1]) (rest := []) (s_X6_signAt hE h) dX6_step_23 ly_33 rfl (Or.inl ml_X6_126) cm_X6_signAt rfl (rm_ok (by decide)) rm_0 (Nat.le_of_ble_eq_true rfl) ?_
      rintro _ G2 ⟨r1, rfl, h⟩
      refine pw_callS (As := [.int r1]) (rest := []) (s_X6_isBlank hE h) dX6_step_26 ml_X6_129 cs_X6_isBlank rfl (rm_ok (by decide)) rm_0 (Nat.le_of_ble_eq_true rfl) ?_
      rintro _ G4 ⟨r3, rfl, h⟩
      refine pw_if_eq (tgt := 45) dX6_step_29 (by decide) (fun hc => ?_) (fun hc => ?_)
      · have h := h.1 hc
        refine pw_loc (lv' := [(0, .ref (ev_ad E 33))]) [0] rfl ?_
        exact t_X6_step_45 hE Q h
      · have h := h.2 hc
        refine pw_aload_n dX6_step_32 rfl 0 rfl ?_
        refine pw_iload_n dX6_step_33 rfl 1 rfl ?_
        refine pw_iconst (v := (1 : Int32)) dX6_step_34 (by decide) ?_
        refine pw_iadd dX6_step_35 ?_
        refine pw_puti dX6_step_36 fp_X6_61 ly_33 rfl ?_
        refine pw_iinc (k := 1) (v := x1 + 1) (lv' := [(1, .int (x1 + 1)), (0, .ref (ev_ad E 33))]) dX6_step_39 rfl rfl (by decide) rfl ?_
        refine pw_goto (tgt := 13) dX6_step_42 (by decide) ?_
        refine pw_loc (lv' := [(0, .ref (ev_ad E 33)), (1, .int (x1 + 1))]) [1, 0] rfl ?_
        exact ih _ _ h
def wp_X6_step  (G : GS) (Q : Int32 → GS → Prop) : Prop := (∃ kf, lp_X6_step_13 Q kf (G 33 8) (gu_ G 33 7 (G 33 8)))
set_option maxRecDepth 100000 in
set_option maxHeartbeats 4000000 in
theorem s_X6_step {E : EV} (hE : EI_ E)  {G : GS} {Q : Int32 → GS → Prop} (h : wp_X6_step  G Q) : PMet E mi_X6_step 8 [.ref (ev_ad E 33)] G (qv_ Q) := by
  refine pm_of hE (by decide) (Nat.le_of_ble_eq_true rfl) ?_
  refine pw_loc (lv' := [(0, .ref (ev_ad E 33))]) [0] rfl ?_
  refine pw_aload_n dX6_step_0 rfl 0 rfl ?_
  refine pw_aload_n dX6_step_1 rfl 0 rfl ?_
  refine pw_geti (v := G 33 8) dX6_step_2 fa_X6_33 ly_33 rfl rfl ?_
  refine pw_puti dX6_step_5 fp_X6_61 ly_33 rfl ?_
  refine pw_aload_n dX6_step_8 rfl 0 rfl ?_
  refine pw_geti (v := G 33 8) dX6_step_9 fa_X6_33 ly_33 rfl rfl ?_
  refine pw_istore_n (lv' := [(1, .int (G 33 8)), (0, .ref (ev_ad E 33))]) dX6_step_12 rfl (by decide) rfl ?_
  refine pw_loc (lv' := [(0, .ref (ev_ad E 33)), (1, .int (G 33 8))]) [1, 0] rfl ?_
  obtain ⟨kf, h⟩ := h
  exact t_X6_step_13 hE Q kf _ _ h
def wp_X6_refuse (a1 : Int32) (G : GS) (Q : Int32 → GS → Prop) : Prop := Q (0 : Int32) (gu_ (gu_ G 33 2 a1) 33 3 (G 33 7))
set_option maxRecDepth 100000 in
set_option maxHeartbeats 4000000 in
theorem s_X6_refuse {E : EV} (hE : EI_ E) {a1 : Int32} {G : GS} {Q : Int32 → GS → Prop} (h : wp_X6_refuse a1 G Q) : PMet E mi_X6_refuse 1 [.ref (ev_ad E 33), .int a1] G (qi_ Q) := by
  refine pm_of hE (by decide) (Nat.le_of_ble_eq_true rfl) ?_
  refine pw_loc (lv' := [(0, .ref (ev_ad E 33)), (1, .int a1)]) [0, 1] rfl ?_
  refine pw_aload_n dX6_refuse_0 rfl 0 rfl ?_
  refine pw_iload_n dX6_refuse_1 rfl 1 rfl ?_
  refine pw_puti dX6_refuse_2 fp_X6_36 ly_33 rfl ?_
  refine pw_aload_n dX6_refuse_5 rfl 0 rfl ?_
  refine pw_aload_n dX6_refuse_6 rfl 0 rfl ?_
  refine pw_geti (v := G 33 7) dX6_refuse_7 fa_X6_61 ly_33 rfl rfl ?_
  refine pw_puti dX6_refuse_10 fp_X6_26 ly_33 rfl ?_
  refine pw_iconst (v := (0 : Int32)) dX6_refuse_13 (by decide) ?_
  exact pw_ireturn dX6_refuse_14 rfl rfl ⟨_, rfl, h⟩
def bk_X6_acceptLine_26 (Q : Int32 → GS → Prop)   (G : GS) : Prop := (((G 34 0) < (16 : Int32) → ((¬ (G 33 5) = (200 : Int32) → Q (1 : Int32) (gu_ (gu_ G 33 10 (0 : Int32)) 33 9 (1 : Int32))) ∧ ((G 33 5) = (200 : Int32) → Q (1 : Int32) (gu_ (gu_ G 33 10 (1 : Int32)) 33 9 (1 : Int32))))) ∧ (¬ (G 34 0) < (16 : Int32) → wp_X6_refuse (3 : Int32) G (fun r3 G4 => (bz_ r3 ∧ Q r3 G4))))
set_option maxRecDepth 100000 in
set_option maxHeartbeats 4000000 in
theorem t_X6_acceptLine_26 {E : EV} (hE : EI_ E) (Q : Int32 → GS → Prop)   {G : GS} (h : bk_X6_acceptLine_26 Q G) : PW_ E mi_X6_acceptLine (rm_ 2) 0 0 26 [(0, .ref (ev_ad E 33))] [] G (qi_ Q) := by
  refine pw_aload_n dX6_acceptLine_26 rfl 0 rfl ?_
  refine pw_getr (q := 34) dX6_acceptLine_27 fa_X6_18 ly_33 rfl ?_
  refine pw_geti (v := G 34 0) dX6_acceptLine_30 fa_X6_89 ly_34 rfl rfl ?_
  refine pw_bipush (v := (16 : Int32)) dX6_acceptLine_33 (by decide) ?_
  refine pw_icmp_lt (tgt := 44) dX6_acceptLine_35 (by decide) (fun hc => ?_) (fun hc => ?_)
  · have h := h.1 hc
    refine pw_aload_n dX6_acceptLine_44 rfl 0 rfl ?_
    refine pw_aload_n dX6_acceptLine_45 rfl 0 rfl ?_
    refine pw_geti (v := G 33 5) dX6_acceptLine_46 fa_X6_54 ly_33 rfl rfl ?_
    refine pw_sipush (v := (200 : Int32)) dX6_acceptLine_49 (by decide) ?_
    refine pw_icmp_ne (tgt := 59) dX6_acceptLine_52 (by decide) (fun hc => ?_) (fun hc => ?_)
    · have h := h.1 hc
      refine pw_iconst (v := (0 : Int32)) dX6_acceptLine_59 (by decide) ?_
      refine pw_putz dX6_acceptLine_60 fp_X6_92 ly_33 rfl (Or.inl rfl) ?_
      refine pw_aload_n dX6_acceptLine_63 rfl 0 rfl ?_
      refine pw_iconst (v := (1 : Int32)) dX6_acceptLine_64 (by decide) ?_
      refine pw_puti dX6_acceptLine_65 fp_X6_39 ly_33 rfl ?_
      refine pw_iconst (v := (1 : Int32)) dX6_acceptLine_68 (by decide) ?_
      exact pw_ireturn dX6_acceptLine_69 rfl rfl ⟨_, rfl, h⟩
    · have h := h.2 hc
      refine pw_iconst (v := (1 : Int32)) dX6_acceptLine_55 (by decide) ?_
      refine pw_goto (tgt := 60) dX6_acceptLine_56 (by decide) ?_
      refine pw_putz dX6_acceptLine_60 fp_X6_92 ly_33 rfl (Or.inr rfl) ?_
      refine pw_aload_n dX6_acceptLine_63 rfl 0 rfl ?_
      refine pw_iconst (v := (1 : Int32)) dX6_acceptLine_64 (by decide) ?_
      refine pw_puti dX6_acceptLine_65 fp_X6_39 ly_33 rfl ?_
      refine pw_iconst (v := (1 : Int32)) dX6_acceptLine_68 (by decide) ?_
      exact pw_ireturn dX6_acceptLine_69 rfl rfl ⟨_, rfl, h⟩
  · have h := h.2 hc
    refine pw_aload_n dX6_acceptLine_38 rfl 0 rfl ?_
    refine pw_iconst (v := (3 : Int32)) dX6_acceptLine_39 (by decide) ?_
    refine pw_callV (As := [.int (3 : Int32)]) (rest := []) (s_X6_refuse hE h) dX6_acceptLine_40 ly_33 rfl (Or.inl ml_X6_85) cm_X6_refuse rfl (rm_ok (by decide)) rm_0 (Nat.le_of_ble_eq_true rfl) ?_
    rintro _ G4 ⟨r3, rfl, h⟩
    exact pw_ireturn dX6_acceptLine_43 rfl (bz_n h.1) ⟨_, rfl, h.2⟩
def wp_X6_acceptLine  (G : GS) (Q : Int32 → GS → Prop) : Prop := (((G 33 5) = (200 : Int32) → bk_X6_acceptLine_26 Q G) ∧ (¬ (G 33 5) = (200 : Int32) → (((G 33 5) = (201 : Int32) → bk_X6_acceptLine_26 Q G) ∧ (¬ (G 33 5) = (201 : Int32) → wp_X6_refuse (1 : Int32) G (fun r1 G2 => (bz_ r1 ∧ Q r1 G2))))))
set_option maxRecDepth 100000 in
set_option maxHeartbeats 4000000 in
theorem s_X6_acceptLine {E : EV} (hE : EI_ E)  {G : GS} {Q : Int32 → GS → Prop} (h : wp_X6_acceptLine  G Q) : PMet E mi_X6_acceptLine 2 [.ref (ev_ad E 33)] G (qi_ Q) := by
  refine pm_of hE (by decide) (Nat.le_of_ble_eq_true rfl) ?_
  refine pw_loc (lv' := [(0, .ref (ev_ad E 33))]) [0] rfl ?_
  refine pw_aload_n dX6_acceptLine_0 rfl 0 rfl ?_
  refine pw_geti (v := G 33 5) dX6_acceptLine_1 fa_X6_54 ly_33 rfl rfl ?_
  refine pw_sipush (v := (200 : Int32)) dX6_acceptLine_4 (by decide) ?_
  refine pw_icmp_eq (tgt := 26) dX6_acceptLine_7 (by decide) (fun hc => ?_) (fun hc => ?_)
  · have h := h.1 hc
    refine pw_loc (lv' := [(0, .ref (ev_ad E 33))]) [0] rfl ?_
    exact t_X6_acceptLine_26 hE Q h
  · have h := h.2 hc
    refine pw_aload_n dX6_acceptLine_10 rfl 0 rfl ?_
    refine pw_geti (v := G 33 5) dX6_acceptLine_11 fa_X6_54 ly_33 rfl rfl ?_
    refine pw_sipush (v := (201 : Int32)) dX6_acceptLine_14 (by decide) ?_
    refine pw_icmp_eq (tgt := 26) dX6_acceptLine_17 (by decide) (fun hc => ?_) (fun hc => ?_)
    · have h := h.1 hc
      refine pw_loc (lv' := [(0, .ref (ev_ad E 33))]) [0] rfl ?_
      exact t_X6_acceptLine_26 hE Q h
    · have h := h.2 hc
      refine pw_aload_n dX6_acceptLine_20 rfl 0 rfl ?_
      refine pw_iconst (v := (1 : Int32)) dX6_acceptLine_21 (by decide) ?_
      refine pw_callV (As := [.int (1 : Int32)]) (rest := []) (s_X6_refuse hE h) dX6_acceptLine_22 ly_33 rfl (Or.inl ml_X6_85) cm_X6_refuse rfl (rm_ok (by decide)) rm_0 (Nat.le_of_ble_eq_true rfl) ?_
      rintro _ G2 ⟨r1, rfl, h⟩
      exact pw_ireturn dX6_acceptLine_25 rfl (bz_n h.1) ⟨_, rfl, h.2⟩
def bk_X4_closeLine_28 (Q : Int32 → GS → Prop)  (z0 : Int32) (z1 : Int32) (G : GS) : Prop := (vp_in (G 34 0) 16 ∧ Q 0 (gu_ (gu_ (gu_ G 34 1 (z1 ||| z0)) 35 ((G 34 0).toNatClampNeg) (G 34 3)) 34 0 ((G 34 0) + (1 : Int32))))
set_option maxRecDepth 100000 in
set_option maxHeartbeats 4000000 in
theorem t_X4_closeLine_28 {E : EV} (hE : EI_ E) (Q : Int32 → GS → Prop)  {z0 : Int32} {z1 : Int32} {G : GS} (h : bk_X4_closeLine_28 Q z0 z1 G) : PW_ E mi_X4_closeLine (rm_ 1) 0 0 28 [(0, .ref (ev_ad E 34))] [.int z0, .int z1, .ref (ev_ad E 34)] G (qv_ Q) := by
  refine pw_ior dX4_closeLine_28 ?_
  refine pw_puti dX4_closeLine_29 fp_X4_22 ly_34 rfl ?_
  refine pw_aload_n dX4_closeLine_32 rfl 0 rfl ?_
  refine pw_getr (q := 35) dX4_closeLine_33 fa_X4_9 ly_34 rfl ?_
  refine pw_aload_n dX4_closeLine_36 rfl 0 rfl ?_
  refine pw_geti (v := G 34 0) dX4_closeLine_37 fa_X4_18 ly_34 rfl rfl ?_
  refine pw_aload_n dX4_closeLine_40 rfl 0 rfl ?_
  refine pw_geti (v := G 34 3) dX4_closeLine_41 fa_X4_31 ly_34 rfl rfl ?_
  obtain ⟨hv1, h⟩ := h
  refine pw_iast (z := ((G 34 0).toNatClampNeg)) dX4_closeLine_44 ly_35 hv1 rfl ?_
  refine pw_aload_n dX4_closeLine_45 rfl 0 rfl ?_
  refine pw_dup dX4_closeLine_46 rfl ?_
  refine pw_geti (v := G 34 0) dX4_closeLine_47 fa_X4_18 ly_34 rfl rfl ?_
  refine pw_iconst (v := (1 : Int32)) dX4_closeLine_50 (by decide) ?_
  refine pw_iadd dX4_closeLine_51 ?_
  refine pw_puti dX4_closeLine_52 fp_X4_18 ly_34 rfl ?_
  exact pw_return dX4_closeLine_55 rfl ⟨rfl, h⟩
def wp_X4_closeLine (a1 : Int32) (G : GS) (Q : Int32 → GS → Prop) : Prop := (((16 : Int32) ≤ (G 34 0) → Q 0 G) ∧ (¬ (16 : Int32) ≤ (G 34 0) → ((a1 = 0 → bk_X4_closeLine_28 Q (0 : Int32) (G 34 1) G) ∧ (¬ a1 = 0 → bk_X4_closeLine_28 Q ((1 : Int32) <<< ((G 34 0) &&& 31)) (G 34 1) G))))
set_option maxRecDepth 100000 in
set_option maxHeartbeats 4000000 in
theorem s_X4_closeLine {E : EV} (hE : EI_ E) {a1 : Int32} {G : GS} {Q : Int32 → GS → Prop} (h : wp_X4_closeLine a1 G Q) : PMet E mi_X4_closeLine 1 [.ref (ev_ad E 34), .int a1] G (qv_ Q) := by
  refine pm_of hE (by decide) (Nat.le_of_ble_eq_true rfl) ?_
  refine pw_loc (lv' := [(0, .ref (ev_ad E 34)), (1, .int a1)]) [0, 1] rfl ?_
  refine pw_aload_n dX4_closeLine_0 rfl 0 rfl ?_
  refine pw_geti (v := G 34 0) dX4_closeLine_1 fa_X4_18 ly_34 rfl rfl ?_
  refine pw_bipush (v := (16 : Int32)) dX4_closeLine_4 (by decide) ?_
  refine pw_icmp_ge (tgt := 55) dX4_closeLine_6 (by decide) (fun hc => ?_) (fun hc => ?_)
  · have h := h.1 hc
    exact pw_return dX4_closeLine_55 rfl ⟨rfl, h⟩
  · have h := h.2 hc
    refine pw_aload_n dX4_closeLine_9 rfl 0 rfl ?_
    refine pw_dup dX4_closeLine_10 rfl ?_
    refine pw_geti (v := G 34 1) dX4_closeLine_11 fa_X4_22 ly_34 rfl rfl ?_
    refine pw_iload_n dX4_closeLine_14 rfl 1 rfl ?_
    refine pw_if_eq (tgt := 27) dX4_closeLine_15 (by decide) (fun hc => ?_) (fun hc => ?_)
    · have h := h.1 hc
      refine pw_iconst (v := (0 : Int32)) dX4_closeLine_27 (by decide) ?_
      refine pw_loc (lv' := [(0, .ref (ev_ad E 34))]) [0] rfl ?_
      exact t_X4_closeLine_28 hE Q h
    · have h := h.2 hc
      refine pw_iconst (v := (1 : Int32)) dX4_closeLine_18 (by decide) ?_
      refine pw_aload_n dX4_closeLine_19 rfl 0 rfl ?_
      refine pw_geti (v := G 34 0) dX4_closeLine_20 fa_X4_18 ly_34 rfl rfl ?_
      refine pw_ishl dX4_closeLine_23 ?_
      refine pw_goto (tgt := 28) dX4_closeLine_24 (by decide) ?_
      refine pw_loc (lv' := [(0, .ref (ev_ad E 34))]) [0] rfl ?_
      exact t_X4_closeLine_28 hE Q h
def wp_X6_closeLine  (G : GS) (Q : Int32 → GS → Prop) : Prop := wp_X4_closeLine (G 33 10) G (fun _ G2 => Q (1 : Int32) (gu_ G2 33 9 (0 : Int32)))
set_option maxRecDepth 100000 in
set_option maxHeartbeats 4000000 in
theorem s_X6_closeLine {E : EV} (hE : EI_ E)  {G : GS} {Q : Int32 → GS → Prop} (h : wp_X6_closeLine  G Q) : PMet E mi_X6_closeLine 2 [.ref (ev_ad E 33)] G (qi_ Q) := by
  refine pm_of hE (by decide) (Nat.le_of_ble_eq_true rfl) ?_
  refine pw_loc (lv' := [(0, .ref (ev_ad E 33))]) [0] rfl ?_
  refine pw_aload_n dX6_closeLine_0 rfl 0 rfl ?_
  refine pw_getr (q := 34) dX6_closeLine_1 fa_X6_18 ly_33 rfl ?_
  refine pw_aload_n dX6_closeLine_4 rfl 0 rfl ?_
  refine pw_geti (v := G 33 10) dX6_closeLine_5 fa_X6_92 ly_33 rfl rfl ?_
  refine pw_callV (As := [.int (G 33 10)]) (rest := []) (s_X4_closeLine hE h) dX6_closeLine_8 ly_34 rfl (Or.inr mn_X6_123) cm_X4_closeLine rfl (rm_ok (by decide)) rm_0 (Nat.le_of_ble_eq_true rfl) ?_
  rintro _ G2 ⟨rfl, h⟩
  refine pw_aload_n dX6_closeLine_11 rfl 0 rfl ?_
  refine pw_iconst (v := (0 : Int32)) dX6_closeLine_12 (by decide) ?_
  refine pw_puti dX6_closeLine_13 fp_X6_39 ly_33 rfl ?_
  refine pw_iconst (v := (1 : Int32)) dX6_closeLine_16 (by decide) ?_
  exact pw_ireturn dX6_closeLine_17 rfl rfl ⟨_, rfl, h⟩
def wp_X6_acceptLineTail  (G : GS) (Q : Int32 → GS → Prop) : Prop := ((¬ (G 33 5) = (202 : Int32) → ((¬ (G 33 5) = (59 : Int32) → wp_X6_refuse (1 : Int32) G (fun r1 G2 => (bz_ r1 ∧ Q r1 G2))) ∧ ((G 33 5) = (59 : Int32) → wp_X6_closeLine G (fun r3 G4 => (bz_ r3 ∧ Q r3 G4))))) ∧ ((G 33 5) = (202 : Int32) → Q (1 : Int32) (gu_ G 33 9 (2 : Int32))))
set_option maxRecDepth 100000 in
set_option maxHeartbeats 4000000 in
theorem s_X6_acceptLineTail {E : EV} (hE : EI_ E)  {G : GS} {Q : Int32 → GS → Prop} (h : wp_X6_acceptLineTail  G Q) : PMet E mi_X6_acceptLineTail 3 [.ref (ev_ad E 33)] G (qi_ Q) := by
  refine pm_of hE (by decide) (Nat.le_of_ble_eq_true rfl) ?_
  refine pw_loc (lv' := [(0, .ref (ev_ad E 33))]) [0] rfl ?_
  refine pw_aload_n dX6_acceptLineTail_0 rfl 0 rfl ?_
  refine pw_geti (v := G 33 5) dX6_acceptLineTail_1 fa_X6_54 ly_33 rfl rfl ?_
  refine pw_sipush (v := (202 : Int32)) dX6_acceptLineTail_4 (by decide) ?_
  refine pw_icmp_ne (tgt := 17) dX6_acceptLineTail_7 (by decide) (fun hc => ?_) (fun hc => ?_)
  · have h := h.1 hc
    refine pw_aload_n dX6_acceptLineTail_17 rfl 0 rfl ?_
    refine pw_geti (v := G 33 5) dX6_acceptLineTail_18 fa_X6_54 ly_33 rfl rfl ?_
    refine pw_bipush (v := (59 : Int32)) dX6_acceptLineTail_21 (by decide) ?_
    refine pw_icmp_ne (tgt := 33) dX6_acceptLineTail_23 (by decide) (fun hc => ?_) (fun hc => ?_)
    · have h := h.1 hc
      refine pw_aload_n dX6_acceptLineTail_33 rfl 0 rfl ?_
      refine pw_iconst (v := (1 : Int32)) dX6_acceptLineTail_34 (by decide) ?_
      refine pw_callV (As := [.int (1 : Int32)]) (rest := []) (s_X6_refuse hE h) dX6_acceptLineTail_35 ly_33 rfl (Or.inl ml_X6_85) cm_X6_refuse rfl (rm_ok (by decide)) rm_0 (Nat.le_of_ble_eq_true rfl) ?_
      rintro _ G2 ⟨r1, rfl, h⟩
      exact pw_ireturn dX6_acceptLineTail_38 rfl (bz_n h.1) ⟨_, rfl, h.2⟩
    · have h := h.2 hc
      refine pw_aload_n dX6_acceptLineTail_26 rfl 0 rfl ?_
      refine pw_callV (As := []) (rest := []) (s_X6_closeLine hE h) dX6_acceptLineTail_27 ly_33 rfl (Or.inl ml_X6_96) cm_X6_closeLine rfl (rm_ok (by decide)) rm_0 (Nat.le_of_ble_eq_true rfl) ?_
      rintro _ G4 ⟨r3, rfl, h⟩
      refine pw_goto (tgt := 38) dX6_acceptLineTail_30 (by decide) ?_
      exact pw_ireturn dX6_acceptLineTail_38 rfl (bz_n h.1) ⟨_, rfl, h.2⟩
  · have h := h.2 hc
    refine pw_aload_n dX6_acceptLineTail_10 rfl 0 rfl ?_
    refine pw_iconst (v := (2 : Int32)) dX6_acceptLineTail_11 (by decide) ?_
    refine pw_puti dX6_acceptLineTail_12 fp_X6_39 ly_33 rfl ?_
    refine pw_iconst (v := (1 : Int32)) dX6_acceptLineTail_15 (by decide) ?_
    exact pw_ireturn dX6_acceptLineTail_16 rfl rfl ⟨_, rfl, h⟩
def wp_X4_add (a1 : Int32) (G : GS) (Q : Int32 → GS → Prop) : Prop := (((400 : Int32) ≤ (G 34 3) → Q 0 G) ∧ (¬ (400 : Int32) ≤ (G 34 3) → (vp_in (G 34 3) 400 ∧ Q 0 (gu_ (gu_ G 36 ((G 34 3).toNatClampNeg) a1) 34 3 ((G 34 3) + (1 : Int32))))))
set_option maxRecDepth 100000 in
set_option maxHeartbeats 4000000 in
theorem s_X4_add {E : EV} (hE : EI_ E) {a1 : Int32} {G : GS} {Q : Int32 → GS → Prop} (h : wp_X4_add a1 G Q) : PMet E mi_X4_add 1 [.ref (ev_ad E 34), .int a1] G (qv_ Q) := by
  refine pm_of hE (by decide) (Nat.le_of_ble_eq_true rfl) ?_
  refine pw_loc (lv' := [(0, .ref (ev_ad E 34)), (1, .int a1)]) [0, 1] rfl ?_
  refine pw_aload_n dX4_add_0 rfl 0 rfl ?_
  refine pw_geti (v := G 34 3) dX4_add_1 fa_X4_31 ly_34 rfl rfl ?_
  refine pw_sipush (v := (400 : Int32)) dX4_add_4 (by decide) ?_
  refine pw_icmp_ge (tgt := 30) dX4_add_7 (by decide) (fun hc => ?_) (fun hc => ?_)
  · have h := h.1 hc
    exact pw_return dX4_add_30 rfl ⟨rfl, h⟩
  · have h := h.2 hc
    refine pw_aload_n dX4_add_10 rfl 0 rfl ?_
    refine pw_getr (q := 36) dX4_add_11 fa_X4_15 ly_34 rfl ?_
    refine pw_aload_n dX4_add_14 rfl 0 rfl ?_
    refine pw_geti (v := G 34 3) dX4_add_15 fa_X4_31 ly_34 rfl rfl ?_
    refine pw_iload_n dX4_add_18 rfl 1 rfl ?_
    obtain ⟨hv1, h⟩ := h
    refine pw_iast (z := ((G 34 3).toNatClampNeg)) dX4_add_19 ly_36 hv1 rfl ?_
    refine pw_aload_n dX4_add_20 rfl 0 rfl ?_
    refine pw_dup dX4_add_21 rfl ?_
    refine pw_geti (v := G 34 3) dX4_add_22 fa_X4_31 ly_34 rfl rfl ?_
    refine pw_iconst (v := (1 : Int32)) dX4_add_25 (by decide) ?_
    refine pw_iadd dX4_add_26 ?_
    refine pw_puti dX4_add_27 fp_X4_31 ly_34 rfl ?_
    exact pw_return dX4_add_30 rfl ⟨rfl, h⟩
def wp_X6_acceptValue  (G : GS) (Q : Int32 → GS → Prop) : Prop := ((¬ (G 33 5) = (2 : Int32) → (((G 33 5) < (206 : Int32) → wp_X6_refuse (1 : Int32) G (fun r1 G2 => (bz_ r1 ∧ Q r1 G2))) ∧ (¬ (G 33 5) < (206 : Int32) → (((214 : Int32) < (G 33 5) → wp_X6_refuse (1 : Int32) G (fun r3 G4 => (bz_ r3 ∧ Q r3 G4))) ∧ (¬ (214 : Int32) < (G 33 5) → wp_X4_add (-(G 33 5)) G (fun _ G6 => Q (1 : Int32) (gu_ G6 33 9 (5 : Int32)))))))) ∧ ((G 33 5) = (2 : Int32) → wp_X4_add (G 33 6) G (fun _ G8 => Q (1 : Int32) (gu_ G8 33 9 (5 : Int32)))))
set_option maxRecDepth 100000 in
set_option maxHeartbeats 4000000 in
theorem s_X6_acceptValue {E : EV} (hE : EI_ E)  {G : GS} {Q : Int32 → GS → Prop} (h : wp_X6_acceptValue  G Q) : PMet E mi_X6_acceptValue 2 [.ref (ev_ad E 33)] G (qi_ Q) := by
  refine pm_of hE (by decide) (Nat.le_of_ble_eq_true rfl) ?_
  refine pw_loc (lv' := [(0, .ref (ev_ad E 33))]) [0] rfl ?_
  refine pw_aload_n dX6_acceptValue_0 rfl 0 rfl ?_
  refine pw_geti (v := G 33 5) dX6_acceptValue_1 fa_X6_54 ly_33 rfl rfl ?_
  refine pw_iconst (v := (2 : Int32)) dX6_acceptValue_4 (by decide) ?_
  refine pw_icmp_ne (tgt := 22) dX6_acceptValue_5 (by decide) (fun hc => ?_) (fun hc => ?_)
  · have h := h.1 hc
    refine pw_aload_n dX6_acceptValue_22 rfl 0 rfl ?_
    refine pw_geti (v := G 33 5) dX6_acceptValue_23 fa_X6_54 ly_33 rfl rfl ?_
    refine pw_sipush (v := (206 : Int32)) dX6_acceptValue_26 (by decide) ?_
    refine pw_icmp_lt (tgt := 57) dX6_acceptValue_29 (by decide) (fun hc => ?_) (fun hc => ?_)
    · have h := h.1 hc
      refine pw_aload_n dX6_acceptValue_57 rfl 0 rfl ?_
      refine pw_iconst (v := (1 : Int32)) dX6_acceptValue_58 (by decide) ?_
      refine pw_callV (As := [.int (1 : Int32)]) (rest := []) (s_X6_refuse hE h) dX6_acceptValue_59 ly_33 rfl (Or.inl ml_X6_85) cm_X6_refuse rfl (rm_ok (by decide)) rm_0 (Nat.le_of_ble_eq_true rfl) ?_
      rintro _ G2 ⟨r1, rfl, h⟩
      exact pw_ireturn dX6_acceptValue_62 rfl (bz_n h.1) ⟨_, rfl, h.2⟩
    · have h := h.2 hc
      refine pw_aload_n dX6_acceptValue_32 rfl 0 rfl ?_
      refine pw_geti (v := G 33 5) dX6_acceptValue_33 fa_X6_54 ly_33 rfl rfl ?_
      refine pw_sipush (v := (214 : Int32)) dX6_acceptValue_36 (by decide) ?_
      refine pw_icmp_gt (tgt := 57) dX6_acceptValue_39 (by decide) (fun hc => ?_) (fun hc => ?_)
      · have h := h.1 hc
        refine pw_aload_n dX6_acceptValue_57 rfl 0 rfl ?_
        refine pw_iconst (v := (1 : Int32)) dX6_acceptValue_58 (by decide) ?_
        refine pw_callV (As := [.int (1 : Int32)]) (rest := []) (s_X6_refuse hE h) dX6_acceptValue_59 ly_33 rfl (Or.inl ml_X6_85) cm_X6_refuse rfl (rm_ok (by decide)) rm_0 (Nat.le_of_ble_eq_true rfl) ?_
        rintro _ G4 ⟨r3, rfl, h⟩
        exact pw_ireturn dX6_acceptValue_62 rfl (bz_n h.1) ⟨_, rfl, h.2⟩
      · have h := h.2 hc
        refine pw_aload_n dX6_acceptValue_42 rfl 0 rfl ?_
        refine pw_getr (q := 34) dX6_acceptValue_43 fa_X6_18 ly_33 rfl ?_
        refine pw_aload_n dX6_acceptValue_46 rfl 0 rfl ?_
        refine pw_geti (v := G 33 5) dX6_acceptValue_47 fa_X6_54 ly_33 rfl rfl ?_
        refine pw_ineg dX6_acceptValue_50 ?_
        refine pw_callV (As := [.int (-(G 33 5))]) (rest := []) (s_X4_add hE h) dX6_acceptValue_51 ly_34 rfl (Or.inr mn_X6_109) cm_X4_add rfl (rm_ok (by decide)) rm_0 (Nat.le_of_ble_eq_true rfl) ?_
        rintro _ G6 ⟨rfl, h⟩
        refine pw_goto (tgt := 63) dX6_acceptValue_54 (by decide) ?_
        refine pw_aload_n dX6_acceptValue_63 rfl 0 rfl ?_
        refine pw_iconst (v := (5 : Int32)) dX6_acceptValue_64 (by decide) ?_
        refine pw_puti dX6_acceptValue_65 fp_X6_39 ly_33 rfl ?_
        refine pw_iconst (v := (1 : Int32)) dX6_acceptValue_68 (by decide) ?_
        exact pw_ireturn dX6_acceptValue_69 rfl rfl ⟨_, rfl, h⟩
  · have h := h.2 hc
    refine pw_aload_n dX6_acceptValue_8 rfl 0 rfl ?_
    refine pw_getr (q := 34) dX6_acceptValue_9 fa_X6_18 ly_33 rfl ?_
    refine pw_aload_n dX6_acceptValue_12 rfl 0 rfl ?_
    refine pw_geti (v := G 33 6) dX6_acceptValue_13 fa_X6_106 ly_33 rfl rfl ?_
    refine pw_callV (As := [.int (G 33 6)]) (rest := []) (s_X4_add hE h) dX6_acceptValue_16 ly_34 rfl (Or.inr mn_X6_109) cm_X4_add rfl (rm_ok (by decide)) rm_0 (Nat.le_of_ble_eq_true rfl) ?_
    rintro _ G8 ⟨rfl, h⟩
    refine pw_goto (tgt := 63) dX6_acceptValue_19 (by decide) ?_
    refine pw_aload_n dX6_acceptValue_63 rfl 0 rfl ?_
    refine pw_iconst (v := (5 : Int32)) dX6_acceptValue_64 (by decide) ?_
    refine pw_puti dX6_acceptValue_65 fp_X6_39 ly_33 rfl ?_
    refine pw_iconst (v := (1 : Int32)) dX6_acceptValue_68 (by decide) ?_
    exact pw_ireturn dX6_acceptValue_69 rfl rfl ⟨_, rfl, h⟩
def wp_X6_holdSign (a1 : Int32) (a2 : Int32) (G : GS) (Q : Int32 → GS → Prop) : Prop := (((G 33 13) < (32 : Int32) → (vp_in (G 33 13) 32 ∧ Q (1 : Int32) (gu_ (gu_ (gu_ G 37 ((G 33 13).toNatClampNeg) a1) 33 13 ((G 33 13) + (1 : Int32))) 33 9 a2))) ∧ (¬ (G 33 13) < (32 : Int32) → wp_X6_refuse (3 : Int32) G (fun r2 G3 => (bz_ r2 ∧ Q r2 G3))))
set_option maxRecDepth 100000 in
set_option maxHeartbeats 4000000 in
theorem s_X6_holdSign {E : EV} (hE : EI_ E) {a1 : Int32} {a2 : Int32} {G : GS} {Q : Int32 → GS → Prop} (h : wp_X6_holdSign a1 a2 G Q) : PMet E mi_X6_holdSign 2 [.ref (ev_ad E 33), .int a1, .int a2] G (qi_ Q) := by
  refine pm_of hE (by decide) (Nat.le_of_ble_eq_true rfl) ?_
  refine pw_loc (lv' := [(0, .ref (ev_ad E 33)), (1, .int a1), (2, .int a2)]) [0, 1, 2] rfl ?_
  refine pw_aload_n dX6_holdSign_0 rfl 0 rfl ?_
  refine pw_geti (v := G 33 13) dX6_holdSign_1 fa_X6_42 ly_33 rfl rfl ?_
  refine pw_bipush (v := (32 : Int32)) dX6_holdSign_4 (by decide) ?_
  refine pw_icmp_lt (tgt := 15) dX6_holdSign_6 (by decide) (fun hc => ?_) (fun hc => ?_)
  · have h := h.1 hc
    refine pw_aload_n dX6_holdSign_15 rfl 0 rfl ?_
    refine pw_getr (q := 37) dX6_holdSign_16 fa_X6_22 ly_33 rfl ?_
    refine pw_aload_n dX6_holdSign_19 rfl 0 rfl ?_
    refine pw_geti (v := G 33 13) dX6_holdSign_20 fa_X6_42 ly_33 rfl rfl ?_
    refine pw_iload_n dX6_holdSign_23 rfl 1 rfl ?_
    obtain ⟨hv1, h⟩ := h
    refine pw_iast (z := ((G 33 13).toNatClampNeg)) dX6_holdSign_24 ly_37 hv1 rfl ?_
    refine pw_aload_n dX6_holdSign_25 rfl 0 rfl ?_
    refine pw_dup dX6_holdSign_26 rfl ?_
    refine pw_geti (v := G 33 13) dX6_holdSign_27 fa_X6_42 ly_33 rfl rfl ?_
    refine pw_iconst (v := (1 : Int32)) dX6_holdSign_30 (by decide) ?_
    refine pw_iadd dX6_holdSign_31 ?_
    refine pw_puti dX6_holdSign_32 fp_X6_42 ly_33 rfl ?_
    refine pw_aload_n dX6_holdSign_35 rfl 0 rfl ?_
    refine pw_iload_n dX6_holdSign_36 rfl 2 rfl ?_
    refine pw_puti dX6_holdSign_37 fp_X6_39 ly_33 rfl ?_
    refine pw_iconst (v := (1 : Int32)) dX6_holdSign_40 (by decide) ?_
    exact pw_ireturn dX6_holdSign_41 rfl rfl ⟨_, rfl, h⟩
  · have h := h.2 hc
    refine pw_aload_n dX6_holdSign_9 rfl 0 rfl ?_
    refine pw_iconst (v := (3 : Int32)) dX6_holdSign_10 (by decide) ?_
    refine pw_callV (As := [.int (3 : Int32)]) (rest := []) (s_X6_refuse hE h) dX6_holdSign_11 ly_33 rfl (Or.inl ml_X6_85) cm_X6_refuse rfl (rm_ok (by decide)) rm_0 (Nat.le_of_ble_eq_true rfl) ?_
    rintro _ G3 ⟨r2, rfl, h⟩
    exact pw_ireturn dX6_holdSign_14 rfl (bz_n h.1) ⟨_, rfl, h.2⟩
def bk_X6_acceptCondition_29 (Q : Int32 → GS → Prop)   (G : GS) : Prop := (((G 33 14) < (8 : Int32) → wp_X6_holdSign (G 33 5) (2 : Int32) (gu_ G 33 14 ((G 33 14) + (1 : Int32))) (fun r3 G4 => (bz_ r3 ∧ Q r3 G4))) ∧ (¬ (G 33 14) < (8 : Int32) → wp_X6_refuse (3 : Int32) G (fun r5 G6 => (bz_ r5 ∧ Q r5 G6))))
set_option maxRecDepth 100000 in
set_option maxHeartbeats 4000000 in
theorem t_X6_acceptCondition_29 {E : EV} (hE : EI_ E) (Q : Int32 → GS → Prop)   {G : GS} (h : bk_X6_acceptCondition_29 Q G) : PW_ E mi_X6_acceptCondition (rm_ 3) 0 0 29 [(0, .ref (ev_ad E 33))] [] G (qi_ Q) := by
  refine pw_aload_n dX6_acceptCondition_29 rfl 0 rfl ?_
  refine pw_geti (v := G 33 14) dX6_acceptCondition_30 fa_X6_45 ly_33 rfl rfl ?_
  refine pw_bipush (v := (8 : Int32)) dX6_acceptCondition_33 (by decide) ?_
  refine pw_icmp_lt (tgt := 44) dX6_acceptCondition_35 (by decide) (fun hc => ?_) (fun hc => ?_)
  · have h := h.1 hc
    refine pw_aload_n dX6_acceptCondition_44 rfl 0 rfl ?_
    refine pw_dup dX6_acceptCondition_45 rfl ?_
    refine pw_geti (v := G 33 14) dX6_acceptCondition_46 fa_X6_45 ly_33 rfl rfl ?_
    refine pw_iconst (v := (1 : Int32)) dX6_acceptCondition_49 (by decide) ?_
    refine pw_iadd dX6_acceptCondition_50 ?_
    refine pw_puti dX6_acceptCondition_51 fp_X6_45 ly_33 rfl ?_
    refine pw_aload_n dX6_acceptCondition_54 rfl 0 rfl ?_
    refine pw_aload_n dX6_acceptCondition_55 rfl 0 rfl ?_
    refine pw_geti (v := G 33 5) dX6_acceptCondition_56 fa_X6_54 ly_33 rfl rfl ?_
    refine pw_iconst (v := (2 : Int32)) dX6_acceptCondition_59 (by decide) ?_
    refine pw_callV (As := [.int (G 33 5), .int (2 : Int32)]) (rest := []) (s_X6_holdSign hE h) dX6_acceptCondition_60 ly_33 rfl (Or.inl ml_X6_102) cm_X6_holdSign rfl (rm_ok (by decide)) rm_0 (Nat.le_of_ble_eq_true rfl) ?_
    rintro _ G4 ⟨r3, rfl, h⟩
    exact pw_ireturn dX6_acceptCondition_63 rfl (bz_n h.1) ⟨_, rfl, h.2⟩
  · have h := h.2 hc
    refine pw_aload_n dX6_acceptCondition_38 rfl 0 rfl ?_
    refine pw_iconst (v := (3 : Int32)) dX6_acceptCondition_39 (by decide) ?_
    refine pw_callV (As := [.int (3 : Int32)]) (rest := []) (s_X6_refuse hE h) dX6_acceptCondition_40 ly_33 rfl (Or.inl ml_X6_85) cm_X6_refuse rfl (rm_ok (by decide)) rm_0 (Nat.le_of_ble_eq_true rfl) ?_
    rintro _ G6 ⟨r5, rfl, h⟩
    exact pw_ireturn dX6_acceptCondition_43 rfl (bz_n h.1) ⟨_, rfl, h.2⟩
def wp_X6_acceptCondition  (G : GS) (Q : Int32 → GS → Prop) : Prop := (((G 33 5) = (205 : Int32) → bk_X6_acceptCondition_29 Q G) ∧ (¬ (G 33 5) = (205 : Int32) → (((G 33 5) = (40 : Int32) → bk_X6_acceptCondition_29 Q G) ∧ (¬ (G 33 5) = (40 : Int32) → wp_X6_acceptValue (gu_ G 33 11 (0 : Int32)) (fun r1 G2 => (bz_ r1 ∧ Q r1 G2))))))
set_option maxRecDepth 100000 in
set_option maxHeartbeats 4000000 in
theorem s_X6_acceptCondition {E : EV} (hE : EI_ E)  {G : GS} {Q : Int32 → GS → Prop} (h : wp_X6_acceptCondition  G Q) : PMet E mi_X6_acceptCondition 3 [.ref (ev_ad E 33)] G (qi_ Q) := by
  refine pm_of hE (by decide) (Nat.le_of_ble_eq_true rfl) ?_
  refine pw_loc (lv' := [(0, .ref (ev_ad E 33))]) [0] rfl ?_
  refine pw_aload_n dX6_acceptCondition_0 rfl 0 rfl ?_
  refine pw_geti (v := G 33 5) dX6_acceptCondition_1 fa_X6_54 ly_33 rfl rfl ?_
  refine pw_sipush (v := (205 : Int32)) dX6_acceptCondition_4 (by decide) ?_
  refine pw_icmp_eq (tgt := 29) dX6_acceptCondition_7 (by decide) (fun hc => ?_) (fun hc => ?_)
  · have h := h.1 hc
    refine pw_loc (lv' := [(0, .ref (ev_ad E 33))]) [0] rfl ?_
    exact t_X6_acceptCondition_29 hE Q h
  · have h := h.2 hc
    refine pw_aload_n dX6_acceptCondition_10 rfl 0 rfl ?_
    refine pw_geti (v := G 33 5) dX6_acceptCondition_11 fa_X6_54 ly_33 rfl rfl ?_
    refine pw_bipush (v := (40 : Int32)) dX6_acceptCondition_14 (by decide) ?_
    refine pw_icmp_eq (tgt := 29) dX6_acceptCondition_16 (by decide) (fun hc => ?_) (fun hc => ?_)
    · have h := h.1 hc
      refine pw_loc (lv' := [(0, .ref (ev_ad E 33))]) [0] rfl ?_
      exact t_X6_acceptCondition_29 hE Q h
    · have h := h.2 hc
      refine pw_aload_n dX6_acceptCondition_19 rfl 0 rfl ?_
      refine pw_iconst (v := (0 : Int32)) dX6_acceptCondition_20 (by decide) ?_
      refine pw_putz dX6_acceptCondition_21 fp_X6_99 ly_33 rfl (Or.inl rfl) ?_
      refine pw_aload_n dX6_acceptCondition_24 rfl 0 rfl ?_
      refine pw_callV (As := []) (rest := []) (s_X6_acceptValue hE h) dX6_acceptCondition_25 ly_33 rfl (Or.inl ml_X6_73) cm_X6_acceptValue rfl (rm_ok (by decide)) rm_0 (Nat.le_of_ble_eq_true rfl) ?_
      rintro _ G2 ⟨r1, rfl, h⟩
      exact pw_ireturn dX6_acceptCondition_28 rfl (bz_n h.1) ⟨_, rfl, h.2⟩
def wp_X6_acceptDivisor  (G : GS) (Q : Int32 → GS → Prop) : Prop := (((G 33 5) = (2 : Int32) → ((¬ (G 33 6) = 0 → wp_X6_acceptValue G (fun r1 G2 => (bz_ r1 ∧ Q r1 G2))) ∧ ((G 33 6) = 0 → wp_X6_refuse (2 : Int32) G (fun r3 G4 => (bz_ r3 ∧ Q r3 G4))))) ∧ (¬ (G 33 5) = (2 : Int32) → wp_X6_refuse (1 : Int32) G (fun r5 G6 => (bz_ r5 ∧ Q r5 G6))))
set_option maxRecDepth 100000 in
set_option maxHeartbeats 4000000 in
theorem s_X6_acceptDivisor {E : EV} (hE : EI_ E)  {G : GS} {Q : Int32 → GS → Prop} (h : wp_X6_acceptDivisor  G Q) : PMet E mi_X6_acceptDivisor 3 [.ref (ev_ad E 33)] G (qi_ Q) := by
  refine pm_of hE (by decide) (Nat.le_of_ble_eq_true rfl) ?_
  refine pw_loc (lv' := [(0, .ref (ev_ad E 33))]) [0] rfl ?_
  refine pw_aload_n dX6_acceptDivisor_0 rfl 0 rfl ?_
  refine pw_geti (v := G 33 5) dX6_acceptDivisor_1 fa_X6_54 ly_33 rfl rfl ?_
  refine pw_iconst (v := (2 : Int32)) dX6_acceptDivisor_4 (by decide) ?_
  refine pw_icmp_eq (tgt := 14) dX6_acceptDivisor_5 (by decide) (fun hc => ?_) (fun hc => ?_)
  · have h := h.1 hc
    refine pw_aload_n dX6_acceptDivisor_14 rfl 0 rfl ?_
    refine pw_geti (v := G 33 6) dX6_acceptDivisor_15 fa_X6_106 ly_33 rfl rfl ?_
    refine pw_if_ne (tgt := 29) dX6_acceptDivisor_18 (by decide) (fun hc => ?_) (fun hc => ?_)
    · have h := h.1 hc
      refine pw_aload_n dX6_acceptDivisor_29 rfl 0 rfl ?_
      refine pw_callV (As := []) (rest := []) (s_X6_acceptValue hE h) dX6_acceptDivisor_30 ly_33 rfl (Or.inl ml_X6_73) cm_X6_acceptValue rfl (rm_ok (by decide)) rm_0 (Nat.le_of_ble_eq_true rfl) ?_
      rintro _ G2 ⟨r1, rfl, h⟩
      exact pw_ireturn dX6_acceptDivisor_33 rfl (bz_n h.1) ⟨_, rfl, h.2⟩
    · have h := h.2 hc
      refine pw_aload_n dX6_acceptDivisor_21 rfl 0 rfl ?_
      refine pw_iconst (v := (2 : Int32)) dX6_acceptDivisor_22 (by decide) ?_
      refine pw_callV (As := [.int (2 : Int32)]) (rest := []) (s_X6_refuse hE h) dX6_acceptDivisor_23 ly_33 rfl (Or.inl ml_X6_85) cm_X6_refuse rfl (rm_ok (by decide)) rm_0 (Nat.le_of_ble_eq_true rfl) ?_
      rintro _ G4 ⟨r3, rfl, h⟩
      refine pw_goto (tgt := 33) dX6_acceptDivisor_26 (by decide) ?_
      exact pw_ireturn dX6_acceptDivisor_33 rfl (bz_n h.1) ⟨_, rfl, h.2⟩
  · have h := h.2 hc
    refine pw_aload_n dX6_acceptDivisor_8 rfl 0 rfl ?_
    refine pw_iconst (v := (1 : Int32)) dX6_acceptDivisor_9 (by decide) ?_
    refine pw_callV (As := [.int (1 : Int32)]) (rest := []) (s_X6_refuse hE h) dX6_acceptDivisor_10 ly_33 rfl (Or.inl ml_X6_85) cm_X6_refuse rfl (rm_ok (by decide)) rm_0 (Nat.le_of_ble_eq_true rfl) ?_
    rintro _ G6 ⟨r5, rfl, h⟩
    exact pw_ireturn dX6_acceptDivisor_13 rfl (bz_n h.1) ⟨_, rfl, h.2⟩
def wp_X6_rankOf (a0 : Int32) (G : GS) (Q : Int32 → GS → Prop) : Prop := ((a0 = 42 → Q (6 : Int32) G) ∧ (a0 = 43 → Q (5 : Int32) G) ∧ (a0 = 45 → Q (5 : Int32) G) ∧ (a0 = 47 → Q (6 : Int32) G) ∧ (a0 = 60 → Q (4 : Int32) G) ∧ (a0 = 61 → Q (4 : Int32) G) ∧ (a0 = 62 → Q (4 : Int32) G) ∧ (a0 = 203 → Q (1 : Int32) G) ∧ (a0 = 204 → Q (2 : Int32) G) ∧ (a0 = 205 → Q (3 : Int32) G) ∧ (¬ a0 = 42 → ¬ a0 = 43 → ¬ a0 = 45 → ¬ a0 = 47 → ¬ a0 = 60 → ¬ a0 = 61 → ¬ a0 = 62 → ¬ a0 = 203 → ¬ a0 = 204 → ¬ a0 = 205 → Q (0 : Int32) G))
set_option maxRecDepth 100000 in
set_option maxHeartbeats 4000000 in
theorem s_X6_rankOf {E : EV} (hE : EI_ E) {a0 : Int32} {G : GS} {Q : Int32 → GS → Prop} (h : wp_X6_rankOf a0 G Q) : PMet E mi_X6_rankOf 1 [.int a0] G (qi_ Q) := by
  refine pm_of hE (by decide) (Nat.le_of_ble_eq_true rfl) ?_
  refine pw_loc (lv' := [(0, .int a0)]) [0] rfl ?_
  refine pw_iload_n dX6_rankOf_0 rfl 0 rfl ?_
  by_cases hs0 : a0 = (42 : Int32)
  · have h := h.1 hs0
    refine pw_lsw (tgt := 102) (off := 101) dX6_rankOf_1 (by decide +kernel) (by rw [hs0]; decide +kernel) (by decide) ?_
    refine pw_bipush (v := (6 : Int32)) dX6_rankOf_102 (by decide) ?_
    exact pw_ireturn dX6_rankOf_104 rfl rfl ⟨_, rfl, h⟩
  by_cases hs1 : a0 = (43 : Int32)
  · have h := h.2.1 hs1
    refine pw_lsw (tgt := 100) (off := 99) dX6_rankOf_1 (by decide +kernel) (by rw [hs1]; decide +kernel) (by decide) ?_
    refine pw_iconst (v := (5 : Int32)) dX6_rankOf_100 (by decide) ?_
    exact pw_ireturn dX6_rankOf_101 rfl rfl ⟨_, rfl, h⟩
  by_cases hs2 : a0 = (45 : Int32)
  · have h := h.2.2.1 hs2
    refine pw_lsw (tgt := 100) (off := 99) dX6_rankOf_1 (by decide +kernel) (by rw [hs2]; decide +kernel) (by decide) ?_
    refine pw_iconst (v := (5 : Int32)) dX6_rankOf_100 (by decide) ?_
    exact pw_ireturn dX6_rankOf_101 rfl rfl ⟨_, rfl, h⟩
  by_cases hs3 : a0 = (47 : Int32)
  · have h := h.2.2.2.1 hs3
    refine pw_lsw (tgt := 102) (off := 101) dX6_rankOf_1 (by decide +kernel) (by rw [hs3]; decide +kernel) (by decide) ?_
    refine pw_bipush (v := (6 : Int32)) dX6_rankOf_102 (by decide) ?_
    exact pw_ireturn dX6_rankOf_104 rfl rfl ⟨_, rfl, h⟩
  by_cases hs4 : a0 = (60 : Int32)
  · have h := h.2.2.2.2.1 hs4
    refine pw_lsw (tgt := 98) (off := 97) dX6_rankOf_1 (by decide +kernel) (by rw [hs4]; decide +kernel) (by decide) ?_
    refine pw_iconst (v := (4 : Int32)) dX6_rankOf_98 (by decide) ?_
    exact pw_ireturn dX6_rankOf_99 rfl rfl ⟨_, rfl, h⟩
  by_cases hs5 : a0 = (61 : Int32)
  · have h := h.2.2.2.2.2.1 hs5
    refine pw_lsw (tgt := 98) (off := 97) dX6_rankOf_1 (by decide +kernel) (by rw [hs5]; decide +kernel) (by decide) ?_
    refine pw_iconst (v := (4 : Int32)) dX6_rankOf_98 (by decide) ?_
    exact pw_ireturn dX6_rankOf_99 rfl rfl ⟨_, rfl, h⟩
  by_cases hs6 : a0 = (62 : Int32)
  · have h := h.2.2.2.2.2.2.1 hs6
    refine pw_lsw (tgt := 98) (off := 97) dX6_rankOf_1 (by decide +kernel) (by rw [hs6]; decide +kernel) (by decide) ?_
    refine pw_iconst (v := (4 : Int32)) dX6_rankOf_98 (by decide) ?_
    exact pw_ireturn dX6_rankOf_99 rfl rfl ⟨_, rfl, h⟩
  by_cases hs7 : a0 = (203 : Int32)
  · have h := h.2.2.2.2.2.2.2.1 hs7
    refine pw_lsw (tgt := 92) (off := 91) dX6_rankOf_1 (by decide +kernel) (by rw [hs7]; decide +kernel) (by decide) ?_
    refine pw_iconst (v := (1 : Int32)) dX6_rankOf_92 (by decide) ?_
    exact pw_ireturn dX6_rankOf_93 rfl rfl ⟨_, rfl, h⟩
  by_cases hs8 : a0 = (204 : Int32)
  · have h := h.2.2.2.2.2.2.2.2.1 hs8
    refine pw_lsw (tgt := 94) (off := 93) dX6_rankOf_1 (by decide +kernel) (by rw [hs8]; decide +kernel) (by decide) ?_
    refine pw_iconst (v := (2 : Int32)) dX6_rankOf_94 (by decide) ?_
    exact pw_ireturn dX6_rankOf_95 rfl rfl ⟨_, rfl, h⟩
  by_cases hs9 : a0 = (205 : Int32)
  · have h := h.2.2.2.2.2.2.2.2.2.1 hs9
    refine pw_lsw (tgt := 96) (off := 95) dX6_rankOf_1 (by decide +kernel) (by rw [hs9]; decide +kernel) (by decide) ?_
    refine pw_iconst (v := (3 : Int32)) dX6_rankOf_96 (by decide) ?_
    exact pw_ireturn dX6_rankOf_97 rfl rfl ⟨_, rfl, h⟩
  have h := h.2.2.2.2.2.2.2.2.2.2 hs0 hs1 hs2 hs3 hs4 hs5 hs6 hs7 hs8 hs9
  refine pw_lsw (tgt := 105) (off := 104) dX6_rankOf_1 (by decide +kernel) (by rw [lv_osw hs0 (by decide)]; rw [lv_osw hs1 (by decide)]; rw [lv_osw hs2 (by decide)]; rw [lv_osw hs3 (by decide)]; rw [lv_osw hs4 (by decide)]; rw [lv_osw hs5 (by decide)]; rw [lv_osw hs6 (by decide)]; rw [lv_osw hs7 (by decide)]; rw [lv_osw hs8 (by decide)]; rw [lv_osw hs9 (by decide)];  rfl) (by decide) ?_
  refine pw_iconst (v := (0 : Int32)) dX6_rankOf_105 (by decide) ?_
  exact pw_ireturn dX6_rankOf_106 rfl rfl ⟨_, rfl, h⟩
def lp_X6_settle_7 (Q : Int32 → GS → Prop)  : Nat → Int32 → Int32 → GS → Prop
  | 0, _, _, _ => False
  | n + 1, x1, x2, G => ((x2 < 0 → Q 0 G) ∧ (¬ x2 < 0 → (vp_in x2 32 ∧ wp_X6_rankOf (G 37 x2.toNatClampNeg) G (fun r2 G3 => ((r2 < x1 → Q 0 G3) ∧ (¬ r2 < x1 → wp_X4_add (-(G3 37 x2.toNatClampNeg)) G3 (fun _ G5 => ((¬ (G5 37 x2.toNatClampNeg) = (205 : Int32) → lp_X6_settle_7 Q n x1 (x2 + (-1)) (gu_ G5 33 13 x2)) ∧ ((G5 37 x2.toNatClampNeg) = (205 : Int32) → lp_X6_settle_7 Q n x1 (x2 + (-1)) (gu_ (gu_ G5 33 14 ((G5 33 14) - (1 : Int32))) 33 13 x2))))))))))
set_option maxRecDepth 100000 in
set_option maxHeartbeats 4000000 in
theorem t_X6_settle_7 {E : EV} (hE : EI_ E) (Q : Int32 → GS → Prop)  : ∀ (n : Nat) (x1 : Int32) (x2 : Int32) (G : GS), lp_X6_settle_7 Q n x1 x2 G → PW_ E mi_X6_settle (rm_ 2) 0 0 7 [(0, .ref (ev_ad E 33)), (1, .int x1), (2, .int x2)] [] G (qv_ Q) := by
  intro n
  induction n with
  | zero => intro x1 x2 G h; exact h.elim
  | succ n ih =>
    intro x1 x2 G h
    refine pw_iload_n dX6_settle_7 rfl 2 rfl ?_
    refine pw_if_lt (tgt := 71) dX6_settle_8 (by decide) (fun hc => ?_) (fun hc => ?_)
    · have h := h.1 hc
      exact pw_return dX6_settle_71 rfl ⟨rfl, h⟩
    · have h := h.2 hc
      refine pw_aload_n dX6_settle_11 rfl 0 rfl ?_
      refine pw_getr (q := 37) dX6_settle_12 fa_X6_22 ly_33 rfl ?_
      refine pw_iload_n dX6_settle_15 rfl 2 rfl ?_
      obtain ⟨hv1, h⟩ := h
      refine pw_iald (v := G 37 x2.toNatClampNeg) dX6_settle_16 ly_37 hv1 rfl ?_
      refine pw_callS (As := [.int (G 37 x2.toNatClampNeg)]) (rest := []) (s_X6_rankOf hE h) dX6_settle_17 ml_X6_113 cs_X6_rankOf rfl (rm_ok (by decide)) rm_0 (Nat.le_of_ble_eq_true rfl) ?_
      rintro _ G3 ⟨r2, rfl, h⟩
      refine pw_iload_n dX6_settle_20 rfl 1 rfl ?_
      refine pw_icmp_lt (tgt := 71) dX6_settle_21 (by decide) (fun hc => ?_) (fun hc => ?_)
      · have h := h.1 hc
        exact pw_return dX6_settle_71 rfl ⟨rfl, h⟩
      · have h := h.2 hc
        refine pw_aload_n dX6_settle_24 rfl 0 rfl ?_
        refine pw_getr (q := 34) dX6_settle_25 fa_X6_18 ly_33 rfl ?_
        refine pw_aload_n dX6_settle_28 rfl 0 rfl ?_
        refine pw_getr (q := 37) dX6_settle_29 fa_X6_22 ly_33 rfl ?_
        refine pw_iload_n dX6_settle_32 rfl 2 rfl ?_
        refine pw_iald (v := G3 37 x2.toNatClampNeg) dX6_settle_33 ly_37 hv1 rfl ?_
        refine pw_ineg dX6_settle_34 ?_
        refine pw_callV (As := [.int (-(G3 37 x2.toNatClampNeg))]) (rest := []) (s_X4_add hE h) dX6_settle_35 ly_34 rfl (Or.inr mn_X6_109) cm_X4_add rfl (rm_ok (by decide)) rm_0 (Nat.le_of_ble_eq_true rfl) ?_
        rintro _ G5 ⟨rfl, h⟩
        refine pw_aload_n dX6_settle_38 rfl 0 rfl ?_
        refine pw_getr (q := 37) dX6_settle_39 fa_X6_22 ly_33 rfl ?_
        refine pw_iload_n dX6_settle_42 rfl 2 rfl ?_
        refine pw_iald (v := G5 37 x2.toNatClampNeg) dX6_settle_43 ly_37 hv1 rfl ?_
        refine pw_sipush (v := (205 : Int32)) dX6_settle_44 (by decide) ?_
        refine pw_icmp_ne (tgt := 60) dX6_settle_47 (by decide) (fun hc => ?_) (fun hc => ?_)
        · have h := h.1 hc
          refine pw_aload_n dX6_settle_60 rfl 0 rfl ?_
          refine pw_iload_n dX6_settle_61 rfl 2 rfl ?_
          refine pw_puti dX6_settle_62 fp_X6_42 ly_33 rfl ?_
          refine pw_iinc (k := 2) (v := x2 + (-1)) (lv' := [(2, .int (x2 + (-1))), (0, .ref (ev_ad E 33)), (1, .int x1)]) dX6_settle_65 rfl rfl (by decide) rfl ?_
          refine pw_goto (tgt := 7) dX6_settle_68 (by decide) ?_
          refine pw_loc (lv' := [(0, .ref (ev_ad E 33)), (1, .int x1), (2, .int (x2 + (-1)))]) [1, 2, 0] rfl ?_
          exact ih _ _ _ h
        · have h := h.2 hc
          refine pw_aload_n dX6_settle_50 rfl 0 rfl ?_
          refine pw_dup dX6_settle_51 rfl ?_
          refine pw_geti (v := G5 33 14) dX6_settle_52 fa_X6_45 ly_33 rfl rfl ?_
          refine pw_iconst (v := (1 : Int32)) dX6_settle_55 (by decide) ?_
          refine pw_isub dX6_settle_56 ?_
          refine pw_puti dX6_settle_57 fp_X6_45 ly_33 rfl ?_
          refine pw_aload_n dX6_settle_60 rfl 0 rfl ?_
          refine pw_iload_n dX6_settle_61 rfl 2 rfl ?_
          refine pw_puti dX6_settle_62 fp_X6_42 ly_33 rfl ?_
          refine pw_iinc (k := 2) (v := x2 + (-1)) (lv' := [(2, .int (x2 + (-1))), (0, .ref (ev_ad E 33)), (1, .int x1)]) dX6_settle_65 rfl rfl (by decide) rfl ?_
          refine pw_goto (tgt := 7) dX6_settle_68 (by decide) ?_
          refine pw_loc (lv' := [(0, .ref (ev_ad E 33)), (1, .int x1), (2, .int (x2 + (-1)))]) [1, 2, 0] rfl ?_
          exact ih _ _ _ h
def wp_X6_settle (a1 : Int32) (G : GS) (Q : Int32 → GS → Prop) : Prop := (∃ kf, lp_X6_settle_7 Q kf a1 ((G 33 13) - (1 : Int32)) G)
set_option maxRecDepth 100000 in
set_option maxHeartbeats 4000000 in
theorem s_X6_settle {E : EV} (hE : EI_ E) {a1 : Int32} {G : GS} {Q : Int32 → GS → Prop} (h : wp_X6_settle a1 G Q) : PMet E mi_X6_settle 2 [.ref (ev_ad E 33), .int a1] G (qv_ Q) := by
  refine pm_of hE (by decide) (Nat.le_of_ble_eq_true rfl) ?_
  refine pw_loc (lv' := [(0, .ref (ev_ad E 33)), (1, .int a1)]) [0, 1] rfl ?_
  refine pw_aload_n dX6_settle_0 rfl 0 rfl ?_
  refine pw_geti (v := G 33 13) dX6_settle_1 fa_X6_42 ly_33 rfl rfl ?_
  refine pw_iconst (v := (1 : Int32)) dX6_settle_4 (by decide) ?_
  refine pw_isub dX6_settle_5 ?_
  refine pw_istore_n (lv' := [(2, .int ((G 33 13) - (1 : Int32))), (0, .ref (ev_ad E 33)), (1, .int a1)]) dX6_settle_6 rfl (by decide) rfl ?_
  refine pw_loc (lv' := [(0, .ref (ev_ad E 33)), (1, .int a1), (2, .int ((G 33 13) - (1 : Int32)))]) [1, 2, 0] rfl ?_
  obtain ⟨kf, h⟩ := h
  exact t_X6_settle_7 hE Q kf _ _ _ h
def wp_X6_closeBracket  (G : GS) (Q : Int32 → GS → Prop) : Prop := Q (1 : Int32) (gu_ (gu_ (gu_ G 33 13 ((G 33 13) - (1 : Int32))) 33 14 ((G 33 14) - (1 : Int32))) 33 9 (6 : Int32))
set_option maxRecDepth 100000 in
set_option maxHeartbeats 4000000 in
theorem s_X6_closeBracket {E : EV} (hE : EI_ E)  {G : GS} {Q : Int32 → GS → Prop} (h : wp_X6_closeBracket  G Q) : PMet E mi_X6_closeBracket 1 [.ref (ev_ad E 33)] G (qi_ Q) := by
  refine pm_of hE (by decide) (Nat.le_of_ble_eq_true rfl) ?_
  refine pw_loc (lv' := [(0, .ref (ev_ad E 33))]) [0] rfl ?_
  refine pw_aload_n dX6_closeBracket_0 rfl 0 rfl ?_
  refine pw_dup dX6_closeBracket_1 rfl ?_
  refine pw_geti (v := G 33 13) dX6_closeBracket_2 fa_X6_42 ly_33 rfl rfl ?_
  refine pw_iconst (v := (1 : Int32)) dX6_closeBracket_5 (by decide) ?_
  refine pw_isub dX6_closeBracket_6 ?_
  refine pw_puti dX6_closeBracket_7 fp_X6_42 ly_33 rfl ?_
  refine pw_aload_n dX6_closeBracket_10 rfl 0 rfl ?_
  refine pw_dup dX6_closeBracket_11 rfl ?_
  refine pw_geti (v := G 33 14) dX6_closeBracket_12 fa_X6_45 ly_33 rfl rfl ?_
  refine pw_iconst (v := (1 : Int32)) dX6_closeBracket_15 (by decide) ?_
  refine pw_isub dX6_closeBracket_16 ?_
  refine pw_puti dX6_closeBracket_17 fp_X6_45 ly_33 rfl ?_
  refine pw_aload_n dX6_closeBracket_20 rfl 0 rfl ?_
  refine pw_bipush (v := (6 : Int32)) dX6_closeBracket_21 (by decide) ?_
  refine pw_puti dX6_closeBracket_23 fp_X6_39 ly_33 rfl ?_
  refine pw_iconst (v := (1 : Int32)) dX6_closeBracket_26 (by decide) ?_
  exact pw_ireturn dX6_closeBracket_27 rfl rfl ⟨_, rfl, h⟩
def bk_X6_acceptConditionTail_103 (Q : Int32 → GS → Prop)  (x1 : Int32) (z0 : Int32) (z1 : Int32) (G : GS) : Prop := ((z1 = z0 → ((x1 = 0 → wp_X6_closeLine G (fun r19 G20 => (bz_ r19 ∧ Q r19 G20))) ∧ (¬ x1 = 0 → wp_X6_closeBracket G (fun r21 G22 => (bz_ r21 ∧ Q r21 G22))))) ∧ (¬ z1 = z0 → wp_X6_refuse (1 : Int32) G (fun r23 G24 => (bz_ r23 ∧ Q r23 G24))))
set_option maxRecDepth 100000 in
set_option maxHeartbeats 4000000 in
theorem t_X6_acceptConditionTail_103 {E : EV} (hE : EI_ E) (Q : Int32 → GS → Prop)  {x1 : Int32} {z0 : Int32} {z1 : Int32} {G : GS} (h : bk_X6_acceptConditionTail_103 Q x1 z0 z1 G) : PW_ E mi_X6_acceptConditionTail (rm_ 3) 0 0 103 [(0, .ref (ev_ad E 33)), (1, .int x1)] [.int z0, .int z1] G (qi_ Q) := by
  refine pw_icmp_eq (tgt := 112) dX6_acceptConditionTail_103 (by decide) (fun hc => ?_) (fun hc => ?_)
  · have h := h.1 hc
    refine pw_iload_n dX6_acceptConditionTail_112 rfl 1 rfl ?_
    refine pw_if_eq (tgt := 123) dX6_acceptConditionTail_113 (by decide) (fun hc => ?_) (fun hc => ?_)
    · have h := h.1 hc
      refine pw_aload_n dX6_acceptConditionTail_123 rfl 0 rfl ?_
      refine pw_callV (As := []) (rest := []) (s_X6_closeLine hE h) dX6_acceptConditionTail_124 ly_33 rfl (Or.inl ml_X6_96) cm_X6_closeLine rfl (rm_ok (by decide)) rm_0 (Nat.le_of_ble_eq_true rfl) ?_
      rintro _ G20 ⟨r19, rfl, h⟩
      exact pw_ireturn dX6_acceptConditionTail_127 rfl (bz_n h.1) ⟨_, rfl, h.2⟩
    · have h := h.2 hc
      refine pw_aload_n dX6_acceptConditionTail_116 rfl 0 rfl ?_
      refine pw_callV (As := []) (rest := []) (s_X6_closeBracket hE h) dX6_acceptConditionTail_117 ly_33 rfl (Or.inl ml_X6_120) cm_X6_closeBracket rfl (rm_ok (by decide)) rm_0 (Nat.le_of_ble_eq_true rfl) ?_
      rintro _ G22 ⟨r21, rfl, h⟩
      refine pw_goto (tgt := 127) dX6_acceptConditionTail_120 (by decide) ?_
      exact pw_ireturn dX6_acceptConditionTail_127 rfl (bz_n h.1) ⟨_, rfl, h.2⟩
  · have h := h.2 hc
    refine pw_aload_n dX6_acceptConditionTail_106 rfl 0 rfl ?_
    refine pw_iconst (v := (1 : Int32)) dX6_acceptConditionTail_107 (by decide) ?_
    refine pw_callV (As := [.int (1 : Int32)]) (rest := []) (s_X6_refuse hE h) dX6_acceptConditionTail_108 ly_33 rfl (Or.inl ml_X6_85) cm_X6_refuse rfl (rm_ok (by decide)) rm_0 (Nat.le_of_ble_eq_true rfl) ?_
    rintro _ G24 ⟨r23, rfl, h⟩
    exact pw_ireturn dX6_acceptConditionTail_111 rfl (bz_n h.1) ⟨_, rfl, h.2⟩
def bk_X6_acceptConditionTail_65 (Q : Int32 → GS → Prop)   (G : GS) : Prop := wp_X6_rankOf (203 : Int32) G (fun r15 G16 => wp_X6_settle r15 G16 (fun _ G18 => (((G18 33 13) ≤ 0 → ((¬ (G18 33 5) = (41 : Int32) → bk_X6_acceptConditionTail_103 Q (0 : Int32) (0 : Int32) (0 : Int32) G18) ∧ ((G18 33 5) = (41 : Int32) → bk_X6_acceptConditionTail_103 Q (0 : Int32) (1 : Int32) (0 : Int32) G18))) ∧ (¬ (G18 33 13) ≤ 0 → ((¬ (G18 33 5) = (41 : Int32) → bk_X6_acceptConditionTail_103 Q (1 : Int32) (0 : Int32) (1 : Int32) G18) ∧ ((G18 33 5) = (41 : Int32) → bk_X6_acceptConditionTail_103 Q (1 : Int32) (1 : Int32) (1 : Int32) G18))))))
set_option maxRecDepth 100000 in
set_option maxHeartbeats 4000000 in
theorem t_X6_acceptConditionTail_65 {E : EV} (hE : EI_ E) (Q : Int32 → GS → Prop)   {G : GS} (h : bk_X6_acceptConditionTail_65 Q G) : PW_ E mi_X6_acceptConditionTail (rm_ 3) 0 0 65 [(0, .ref (ev_ad E 33))] [] G (qi_ Q) := by
  refine pw_aload_n dX6_acceptConditionTail_65 rfl 0 rfl ?_
  refine pw_sipush (v := (203 : Int32)) dX6_acceptConditionTail_66 (by decide) ?_
  refine pw_callS (As := [.int (203 : Int32)]) (rest := [.ref (ev_ad E 33)]) (s_X6_rankOf hE h) dX6_acceptConditionTail_69 ml_X6_113 cs_X6_rankOf rfl (rm_ok (by decide)) rm_0 (Nat.le_of_ble_eq_true rfl) ?_
  rintro _ G16 ⟨r15, rfl, h⟩
  refine pw_callV (As := [.int r15]) (rest := []) (s_X6_settle hE h) dX6_acceptConditionTail_72 ly_33 rfl (Or.inl ml_X6_117) cm_X6_settle rfl (rm_ok (by decide)) rm_0 (Nat.le_of_ble_eq_true rfl) ?_
  rintro _ G18 ⟨rfl, h⟩
  refine pw_aload_n dX6_acceptConditionTail_75 rfl 0 rfl ?_
  refine pw_geti (v := G18 33 13) dX6_acceptConditionTail_76 fa_X6_42 ly_33 rfl rfl ?_
  refine pw_if_le (tgt := 86) dX6_acceptConditionTail_79 (by decide) (fun hc => ?_) (fun hc => ?_)
  · have h := h.1 hc
    refine pw_iconst (v := (0 : Int32)) dX6_acceptConditionTail_86 (by decide) ?_
    refine pw_istore_n (lv' := [(1, .int (0 : Int32)), (0, .ref (ev_ad E 33))]) dX6_acceptConditionTail_87 rfl (by decide) rfl ?_
    refine pw_iload_n dX6_acceptConditionTail_88 rfl 0 rfl ?_
    refine pw_aload_n dX6_acceptConditionTail_89 rfl 1 rfl ?_
    refine pw_geti (v := G18 33 5) dX6_acceptConditionTail_90 fa_X6_54 ly_33 rfl rfl ?_
    refine pw_bipush (v := (41 : Int32)) dX6_acceptConditionTail_93 (by decide) ?_
    refine pw_icmp_ne (tgt := 102) dX6_acceptConditionTail_95 (by decide) (fun hc => ?_) (fun hc => ?_)
    · have h := h.1 hc
      refine pw_iconst (v := (0 : Int32)) dX6_acceptConditionTail_102 (by decide) ?_
      refine pw_loc (lv' := [(0, .ref (ev_ad E 33)), (1, .int (0 : Int32))]) [1, 0] rfl ?_
      exact t_X6_acceptConditionTail_103 hE Q h
    · have h := h.2 hc
      refine pw_iconst (v := (1 : Int32)) dX6_acceptConditionTail_98 (by decide) ?_
      refine pw_goto (tgt := 103) dX6_acceptConditionTail_99 (by decide) ?_
      refine pw_loc (lv' := [(0, .ref (ev_ad E 33)), (1, .int (0 : Int32))]) [1, 0] rfl ?_
      exact t_X6_acceptConditionTail_103 hE Q h
  · have h := h.2 hc
    refine pw_iconst (v := (1 : Int32)) dX6_acceptConditionTail_82 (by decide) ?_
    refine pw_goto (tgt := 87) dX6_acceptConditionTail_83 (by decide) ?_
    refine pw_istore_n (lv' := [(1, .int (1 : Int32)), (0, .ref (ev_ad E 33))]) dX6_acceptConditionTail_87 rfl (by decide) rfl ?_
    refine pw_iload_n dX6_acceptConditionTail_88 rfl 0 rfl ?_
    refine pw_aload_n dX6_acceptConditionTail_89 rfl 1 rfl ?_
    refine pw_geti (v := G18 33 5) dX6_acceptConditionTail_90 fa_X6_54 ly_33 rfl rfl ?_
    refine pw_bipush (v := (41 : Int32)) dX6_acceptConditionTail_93 (by decide) ?_
    refine pw_icmp_ne (tgt := 102) dX6_acceptConditionTail_95 (by decide) (fun hc => ?_) (fun hc => ?_)
    · have h := h.1 hc
      refine pw_iconst (v := (0 : Int32)) dX6_acceptConditionTail_102 (by decide) ?_
      refine pw_loc (lv' := [(0, .ref (ev_ad E 33)), (1, .int (1 : Int32))]) [1, 0] rfl ?_
      exact t_X6_acceptConditionTail_103 hE Q h
    · have h := h.2 hc
      refine pw_iconst (v := (1 : Int32)) dX6_acceptConditionTail_98 (by decide) ?_
      refine pw_goto (tgt := 103) dX6_acceptConditionTail_99 (by decide) ?_
      refine pw_loc (lv' := [(0, .ref (ev_ad E 33)), (1, .int (1 : Int32))]) [1, 0] rfl ?_
      exact t_X6_acceptConditionTail_103 hE Q h
def wp_X6_acceptConditionTail  (G : GS) (Q : Int32 → GS → Prop) : Prop := (((G 33 5) = (204 : Int32) → wp_X6_rankOf (G 33 5) G (fun r1 G2 => wp_X6_settle r1 G2 (fun _ G4 => wp_X6_holdSign (G4 33 5) (2 : Int32) G4 (fun r5 G6 => (bz_ r5 ∧ Q r5 G6))))) ∧ (¬ (G 33 5) = (204 : Int32) → ((¬ (G 33 5) = (203 : Int32) → (((G 33 5) = (41 : Int32) → bk_X6_acceptConditionTail_65 Q G) ∧ (¬ (G 33 5) = (41 : Int32) → (((G 33 5) = (59 : Int32) → bk_X6_acceptConditionTail_65 Q G) ∧ (¬ (G 33 5) = (59 : Int32) → wp_X6_refuse (1 : Int32) G (fun r7 G8 => (bz_ r7 ∧ Q r7 G8))))))) ∧ ((G 33 5) = (203 : Int32) → wp_X6_rankOf (G 33 5) G (fun r9 G10 => wp_X6_settle r9 G10 (fun _ G12 => wp_X6_holdSign (G12 33 5) (2 : Int32) G12 (fun r13 G14 => (bz_ r13 ∧ Q r13 G14))))))))
set_option maxRecDepth 100000 in
set_option maxHeartbeats 4000000 in
theorem s_X6_acceptConditionTail {E : EV} (hE : EI_ E)  {G : GS} {Q : Int32 → GS → Prop} (h : wp_X6_acceptConditionTail  G Q) : PMet E mi_X6_acceptConditionTail 3 [.ref (ev_ad E 33)] G (qi_ Q) := by
  refine pm_of hE (by decide) (Nat.le_of_ble_eq_true rfl) ?_
  refine pw_loc (lv' := [(0, .ref (ev_ad E 33))]) [0] rfl ?_
  refine pw_aload_n dX6_acceptConditionTail_0 rfl 0 rfl ?_
  refine pw_geti (v := G 33 5) dX6_acceptConditionTail_1 fa_X6_54 ly_33 rfl rfl ?_
  refine pw_sipush (v := (204 : Int32)) dX6_acceptConditionTail_4 (by decide) ?_
  refine pw_icmp_eq (tgt := 20) dX6_acceptConditionTail_7 (by decide) (fun hc => ?_) (fun hc => ?_)
  · have h := h.1 hc
    refine pw_aload_n dX6_acceptConditionTail_20 rfl 0 rfl ?_
    refine pw_aload_n dX6_acceptConditionTail_21 rfl 0 rfl ?_
    refine pw_geti (v := G 33 5) dX6_acceptConditionTail_22 fa_X6_54 ly_33 rfl rfl ?_
    refine pw_callS (As := [.int (G 33 5)]) (rest := [.ref (ev_ad E 33)]) (s_X6_rankOf hE h) dX6_acceptConditionTail_25 ml_X6_113 cs_X6_rankOf rfl (rm_ok (by decide)) rm_0 (Nat.le_of_ble_eq_true rfl) ?_
    rintro _ G2 ⟨r1, rfl, h⟩
    refine pw_callV (As := [.int r1]) (rest := []) (s_X6_settle hE h) dX6_acceptConditionTail_28 ly_33 rfl (Or.inl ml_X6_117) cm_X6_settle rfl (rm_ok (by decide)) rm_0 (Nat.le_of_ble_eq_true rfl) ?_
    rintro _ G4 ⟨rfl, h⟩
    refine pw_aload_n dX6_acceptConditionTail_31 rfl 0 rfl ?_
    refine pw_aload_n dX6_acceptConditionTail_32 rfl 0 rfl ?_
    refine pw_geti (v := G4 33 5) dX6_acceptConditionTail_33 fa_X6_54 ly_33 rfl rfl ?_
    refine pw_iconst (v := (2 : Int32)) dX6_acceptConditionTail_36 (by decide) ?_
    refine pw_callV (As := [.int (G4 33 5), .int (2 : Int32)]) (rest := []) (s_X6_holdSign hE h) dX6_acceptConditionTail_37 ly_33 rfl (Or.inl ml_X6_102) cm_X6_holdSign rfl (rm_ok (by decide)) rm_0 (Nat.le_of_ble_eq_true rfl) ?_
    rintro _ G6 ⟨r5, rfl, h⟩
    exact pw_ireturn dX6_acceptConditionTail_40 rfl (bz_n h.1) ⟨_, rfl, h.2⟩
  · have h := h.2 hc
    refine pw_aload_n dX6_acceptConditionTail_10 rfl 0 rfl ?_
    refine pw_geti (v := G 33 5) dX6_acceptConditionTail_11 fa_X6_54 ly_33 rfl rfl ?_
    refine pw_sipush (v := (203 : Int32)) dX6_acceptConditionTail_14 (by decide) ?_
    refine pw_icmp_ne (tgt := 41) dX6_acceptConditionTail_17 (by decide) (fun hc => ?_) (fun hc => ?_)
    · have h := h.1 hc
      refine pw_aload_n dX6_acceptConditionTail_41 rfl 0 rfl ?_
      refine pw_geti (v := G 33 5) dX6_acceptConditionTail_42 fa_X6_54 ly_33 rfl rfl ?_
      refine pw_bipush (v := (41 : Int32)) dX6_acceptConditionTail_45 (by decide) ?_
      refine pw_icmp_eq (tgt := 65) dX6_acceptConditionTail_47 (by decide) (fun hc => ?_) (fun hc => ?_)
      · have h := h.1 hc
        refine pw_loc (lv' := [(0, .ref (ev_ad E 33))]) [0] rfl ?_
        exact t_X6_acceptConditionTail_65 hE Q h
      · have h := h.2 hc
        refine pw_aload_n dX6_acceptConditionTail_50 rfl 0 rfl ?_
        refine pw_geti (v := G 33 5) dX6_acceptConditionTail_51 fa_X6_54 ly_33 rfl rfl ?_
        refine pw_bipush (v := (59 : Int32)) dX6_acceptConditionTail_54 (by decide) ?_
        refine pw_icmp_eq (tgt := 65) dX6_acceptConditionTail_56 (by decide) (fun hc => ?_) (fun hc => ?_)
        · have h := h.1 hc
          refine pw_loc (lv' := [(0, .ref (ev_ad E 33))]) [0] rfl ?_
          exact t_X6_acceptConditionTail_65 hE Q h
        · have h := h.2 hc
          refine pw_aload_n dX6_acceptConditionTail_59 rfl 0 rfl ?_
          refine pw_iconst (v := (1 : Int32)) dX6_acceptConditionTail_60 (by decide) ?_
          refine pw_callV (As := [.int (1 : Int32)]) (rest := []) (s_X6_refuse hE h) dX6_acceptConditionTail_61 ly_33 rfl (Or.inl ml_X6_85) cm_X6_refuse rfl (rm_ok (by decide)) rm_0 (Nat.le_of_ble_eq_true rfl) ?_
          rintro _ G8 ⟨r7, rfl, h⟩
          exact pw_ireturn dX6_acceptConditionTail_64 rfl (bz_n h.1) ⟨_, rfl, h.2⟩
    · have h := h.2 hc
      refine pw_aload_n dX6_acceptConditionTail_20 rfl 0 rfl ?_
      refine pw_aload_n dX6_acceptConditionTail_21 rfl 0 rfl ?_
      refine pw_geti (v := G 33 5) dX6_acceptConditionTail_22 fa_X6_54 ly_33 rfl rfl ?_
      refine pw_callS (As := [.int (G 33 5)]) (rest := [.ref (ev_ad E 33)]) (s_X6_rankOf hE h) dX6_acceptConditionTail_25 ml_X6_113 cs_X6_rankOf rfl (rm_ok (by decide)) rm_0 (Nat.le_of_ble_eq_true rfl) ?_
      rintro _ G10 ⟨r9, rfl, h⟩
      refine pw_callV (As := [.int r9]) (rest := []) (s_X6_settle hE h) dX6_acceptConditionTail_28 ly_33 rfl (Or.inl ml_X6_117) cm_X6_settle rfl (rm_ok (by decide)) rm_0 (Nat.le_of_ble_eq_true rfl) ?_
      rintro _ G12 ⟨rfl, h⟩
      refine pw_aload_n dX6_acceptConditionTail_31 rfl 0 rfl ?_
      refine pw_aload_n dX6_acceptConditionTail_32 rfl 0 rfl ?_
      refine pw_geti (v := G12 33 5) dX6_acceptConditionTail_33 fa_X6_54 ly_33 rfl rfl ?_
      refine pw_iconst (v := (2 : Int32)) dX6_acceptConditionTail_36 (by decide) ?_
      refine pw_callV (As := [.int (G12 33 5), .int (2 : Int32)]) (rest := []) (s_X6_holdSign hE h) dX6_acceptConditionTail_37 ly_33 rfl (Or.inl ml_X6_102) cm_X6_holdSign rfl (rm_ok (by decide)) rm_0 (Nat.le_of_ble_eq_true rfl) ?_
      rintro _ G14 ⟨r13, rfl, h⟩
      exact pw_ireturn dX6_acceptConditionTail_40 rfl (bz_n h.1) ⟨_, rfl, h.2⟩
def wp_X6_acceptValueTail  (G : GS) (Q : Int32 → GS → Prop) : Prop := wp_X6_rankOf (G 33 5) G (fun r1 G2 => wp_X6_rankOf (43 : Int32) G2 (fun r3 G4 => ((r1 < r3 → (((G4 33 11) = 0 → wp_X6_rankOf (61 : Int32) G4 (fun r5 G6 => ((r1 = r5 → wp_X6_settle r1 G6 (fun _ G8 => wp_X6_holdSign (G8 33 5) (3 : Int32) (gu_ G8 33 11 (1 : Int32)) (fun r9 G10 => (bz_ r9 ∧ Q r9 G10)))) ∧ (¬ r1 = r5 → wp_X6_refuse (1 : Int32) G6 (fun r11 G12 => (bz_ r11 ∧ Q r11 G12)))))) ∧ (¬ (G4 33 11) = 0 → wp_X6_acceptConditionTail G4 (fun r13 G14 => (bz_ r13 ∧ Q r13 G14))))) ∧ (¬ r1 < r3 → wp_X6_settle r1 G4 (fun _ G16 => ((¬ (G16 33 5) = (47 : Int32) → wp_X6_holdSign (G16 33 5) (3 : Int32) G16 (fun r17 G18 => (bz_ r17 ∧ Q r17 G18))) ∧ ((G16 33 5) = (47 : Int32) → wp_X6_holdSign (G16 33 5) (4 : Int32) G16 (fun r19 G20 => (bz_ r19 ∧ Q r19 G20)))))))))
set_option maxRecDepth 100000 in
set_option maxHeartbeats 4000000 in
theorem s_X6_acceptValueTail {E : EV} (hE : EI_ E)  {G : GS} {Q : Int32 → GS → Prop} (h : wp_X6_acceptValueTail  G Q) : PMet E mi_X6_acceptValueTail 4 [.ref (ev_ad E 33)] G (qi_ Q) := by
  refine pm_of hE (by decide) (Nat.le_of_ble_eq_true rfl) ?_
  refine pw_loc (lv' := [(0, .ref (ev_ad E 33))]) [0] rfl ?_
  refine pw_aload_n dX6_acceptValueTail_0 rfl 0 rfl ?_
  refine pw_geti (v := G 33 5) dX6_acceptValueTail_1 fa_X6_54 ly_33 rfl rfl ?_
  refine pw_callS (As := [.int (G 33 5)]) (rest := []) (s_X6_rankOf hE h) dX6_acceptValueTail_4 ml_X6_113 cs_X6_rankOf rfl (rm_ok (by decide)) rm_0 (Nat.le_of_ble_eq_true rfl) ?_
  rintro _ G2 ⟨r1, rfl, h⟩
  refine pw_istore_n (lv' := [(1, .int r1), (0, .ref (ev_ad E 33))]) dX6_acceptValueTail_7 rfl (by decide) rfl ?_
  refine pw_iload_n dX6_acceptValueTail_8 rfl 0 rfl ?_
  refine pw_bipush (v := (43 : Int32)) dX6_acceptValueTail_9 (by decide) ?_
  refine pw_callS (As := [.int (43 : Int32)]) (rest := [.int r1]) (s_X6_rankOf hE h) dX6_acceptValueTail_11 ml_X6_113 cs_X6_rankOf rfl (rm_ok (by decide)) rm_0 (Nat.le_of_ble_eq_true rfl) ?_
  rintro _ G4 ⟨r3, rfl, h⟩
  refine pw_icmp_lt (tgt := 45) dX6_acceptValueTail_14 (by decide) (fun hc => ?_) (fun hc => ?_)
  · have h := h.1 hc
    refine pw_aload_n dX6_acceptValueTail_45 rfl 1 rfl ?_
    refine pw_geti (v := G4 33 11) dX6_acceptValueTail_46 fa_X6_99 ly_33 rfl rfl ?_
    refine pw_if_eq (tgt := 57) dX6_acceptValueTail_49 (by decide) (fun hc => ?_) (fun hc => ?_)
    · have h := h.1 hc
      refine pw_iload_n dX6_acceptValueTail_57 rfl 0 rfl ?_
      refine pw_bipush (v := (61 : Int32)) dX6_acceptValueTail_58 (by decide) ?_
      refine pw_callS (As := [.int (61 : Int32)]) (rest := [.int r1]) (s_X6_rankOf hE h) dX6_acceptValueTail_60 ml_X6_113 cs_X6_rankOf rfl (rm_ok (by decide)) rm_0 (Nat.le_of_ble_eq_true rfl) ?_
      rintro _ G6 ⟨r5, rfl, h⟩
      refine pw_icmp_eq (tgt := 72) dX6_acceptValueTail_63 (by decide) (fun hc => ?_) (fun hc => ?_)
      · have h := h.1 hc
        refine pw_aload_n dX6_acceptValueTail_72 rfl 1 rfl ?_
        refine pw_iload_n dX6_acceptValueTail_73 rfl 0 rfl ?_
        refine pw_callV (As := [.int r1]) (rest := []) (s_X6_settle hE h) dX6_acceptValueTail_74 ly_33 rfl (Or.inl ml_X6_117) cm_X6_settle rfl (rm_ok (by decide)) rm_0 (Nat.le_of_ble_eq_true rfl) ?_
        rintro _ G8 ⟨rfl, h⟩
        refine pw_aload_n dX6_acceptValueTail_77 rfl 1 rfl ?_
        refine pw_iconst (v := (1 : Int32)) dX6_acceptValueTail_78 (by decide) ?_
        refine pw_putz dX6_acceptValueTail_79 fp_X6_99 ly_33 rfl (Or.inr rfl) ?_
        refine pw_aload_n dX6_acceptValueTail_82 rfl 1 rfl ?_
        refine pw_aload_n dX6_acceptValueTail_83 rfl 1 rfl ?_
        refine pw_geti (v := G8 33 5) dX6_acceptValueTail_84 fa_X6_54 ly_33 rfl rfl ?_
        refine pw_iconst (v := (3 : Int32)) dX6_acceptValueTail_87 (by decide) ?_
        refine pw_callV (As := [.int (G8 33 5), .int (3 : Int32)]) (rest := []) (s_X6_holdSign hE h) dX6_acceptValueTail_88 ly_33 rfl (Or.inl ml_X6_102) cm_X6_holdSign rfl (rm_ok (by decide)) rm_0 (Nat.le_of_ble_eq_true rfl) ?_
        rintro _ G10 ⟨r9, rfl, h⟩
        exact pw_ireturn dX6_acceptValueTail_91 rfl (bz_n h.1) ⟨_, rfl, h.2⟩
      · have h := h.2 hc
        refine pw_aload_n dX6_acceptValueTail_66 rfl 1 rfl ?_
        refine pw_iconst (v := (1 : Int32)) dX6_acceptValueTail_67 (by decide) ?_
        refine pw_callV (As := [.int (1 : Int32)]) (rest := []) (s_X6_refuse hE h) dX6_acceptValueTail_68 ly_33 rfl (Or.inl ml_X6_85) cm_X6_refuse rfl (rm_ok (by decide)) rm_0 (Nat.le_of_ble_eq_true rfl) ?_
        rintro _ G12 ⟨r11, rfl, h⟩
        exact pw_ireturn dX6_acceptValueTail_71 rfl (bz_n h.1) ⟨_, rfl, h.2⟩
    · have h := h.2 hc
      refine pw_aload_n dX6_acceptValueTail_52 rfl 1 rfl ?_
      refine pw_callV (As := []) (rest := []) (s_X6_acceptConditionTail hE h) dX6_acceptValueTail_53 ly_33 rfl (Or.inl ml_X6_82) cm_X6_acceptConditionTail rfl (rm_ok (by decide)) rm_0 (Nat.le_of_ble_eq_true rfl) ?_
      rintro _ G14 ⟨r13, rfl, h⟩
      exact pw_ireturn dX6_acceptValueTail_56 rfl (bz_n h.1) ⟨_, rfl, h.2⟩
  · have h := h.2 hc
    refine pw_aload_n dX6_acceptValueTail_17 rfl 1 rfl ?_
    refine pw_iload_n dX6_acceptValueTail_18 rfl 0 rfl ?_
    refine pw_callV (As := [.int r1]) (rest := []) (s_X6_settle hE h) dX6_acceptValueTail_19 ly_33 rfl (Or.inl ml_X6_117) cm_X6_settle rfl (rm_ok (by decide)) rm_0 (Nat.le_of_ble_eq_true rfl) ?_
    rintro _ G16 ⟨rfl, h⟩
    refine pw_aload_n dX6_acceptValueTail_22 rfl 1 rfl ?_
    refine pw_aload_n dX6_acceptValueTail_23 rfl 1 rfl ?_
    refine pw_geti (v := G16 33 5) dX6_acceptValueTail_24 fa_X6_54 ly_33 rfl rfl ?_
    refine pw_aload_n dX6_acceptValueTail_27 rfl 1 rfl ?_
    refine pw_geti (v := G16 33 5) dX6_acceptValueTail_28 fa_X6_54 ly_33 rfl rfl ?_
    refine pw_bipush (v := (47 : Int32)) dX6_acceptValueTail_31 (by decide) ?_
    refine pw_icmp_ne (tgt := 40) dX6_acceptValueTail_33 (by decide) (fun hc => ?_) (fun hc => ?_)
    · have h := h.1 hc
      refine pw_iconst (v := (3 : Int32)) dX6_acceptValueTail_40 (by decide) ?_
      refine pw_callV (As := [.int (G16 33 5), .int (3 : Int32)]) (rest := []) (s_X6_holdSign hE h) dX6_acceptValueTail_41 ly_33 rfl (Or.inl ml_X6_102) cm_X6_holdSign rfl (rm_ok (by decide)) rm_0 (Nat.le_of_ble_eq_true rfl) ?_
      rintro _ G18 ⟨r17, rfl, h⟩
      exact pw_ireturn dX6_acceptValueTail_44 rfl (bz_n h.1) ⟨_, rfl, h.2⟩
    · have h := h.2 hc
      refine pw_iconst (v := (4 : Int32)) dX6_acceptValueTail_36 (by decide) ?_
      refine pw_goto (tgt := 41) dX6_acceptValueTail_37 (by decide) ?_
      refine pw_callV (As := [.int (G16 33 5), .int (4 : Int32)]) (rest := []) (s_X6_holdSign hE h) dX6_acceptValueTail_41 ly_33 rfl (Or.inl ml_X6_102) cm_X6_holdSign rfl (rm_ok (by decide)) rm_0 (Nat.le_of_ble_eq_true rfl) ?_
      rintro _ G20 ⟨r19, rfl, h⟩
      exact pw_ireturn dX6_acceptValueTail_44 rfl (bz_n h.1) ⟨_, rfl, h.2⟩
def wp_X6_accept  (G : GS) (Q : Int32 → GS → Prop) : Prop := (((G 33 9) = 0 → wp_X6_acceptLine G (fun r1 G2 => (bz_ r1 ∧ Q r1 G2))) ∧ ((G 33 9) = 1 → wp_X6_acceptLineTail G (fun r3 G4 => (bz_ r3 ∧ Q r3 G4))) ∧ ((G 33 9) = 2 → wp_X6_acceptCondition G (fun r5 G6 => (bz_ r5 ∧ Q r5 G6))) ∧ ((G 33 9) = 3 → wp_X6_acceptValue G (fun r7 G8 => (bz_ r7 ∧ Q r7 G8))) ∧ ((G 33 9) = 4 → wp_X6_acceptDivisor G (fun r9 G10 => (bz_ r9 ∧ Q r9 G10))) ∧ ((G 33 9) = 5 → wp_X6_acceptValueTail G (fun r11 G12 => (bz_ r11 ∧ Q r11 G12))) ∧ (¬ (G 33 9) = 0 → ¬ (G 33 9) = 1 → ¬ (G 33 9) = 2 → ¬ (G 33 9) = 3 → ¬ (G 33 9) = 4 → ¬ (G 33 9) = 5 → wp_X6_acceptConditionTail G (fun r13 G14 => (bz_ r13 ∧ Q r13 G14))))
set_option maxRecDepth 100000 in
set_option maxHeartbeats 4000000 in
theorem s_X6_accept {E : EV} (hE : EI_ E)  {G : GS} {Q : Int32 → GS → Prop} (h : wp_X6_accept  G Q) : PMet E mi_X6_accept 5 [.ref (ev_ad E 33)] G (qi_ Q) := by
  refine pm_of hE (by decide) (Nat.le_of_ble_eq_true rfl) ?_
  refine pw_loc (lv' := [(0, .ref (ev_ad E 33))]) [0] rfl ?_
  refine pw_aload_n dX6_accept_0 rfl 0 rfl ?_
  refine pw_geti (v := G 33 9) dX6_accept_1 fa_X6_39 ly_33 rfl rfl ?_
  by_cases hs0 : (G 33 9) = (0 : Int32)
  · have h := h.1 hs0
    refine pw_tswIn (tgt := 44) (off := 40) (0 : Int32) dX6_accept_4 hs0 (by decide) (by decide) (by decide +kernel) (by decide) ?_
    refine pw_aload_n dX6_accept_44 rfl 0 rfl ?_
    refine pw_callV (As := []) (rest := []) (s_X6_acceptLine hE h) dX6_accept_45 ly_33 rfl (Or.inl ml_X6_64) cm_X6_acceptLine rfl (rm_ok (by decide)) rm_0 (Nat.le_of_ble_eq_true rfl) ?_
    rintro _ G2 ⟨r1, rfl, h⟩
    exact pw_ireturn dX6_accept_48 rfl (bz_n h.1) ⟨_, rfl, h.2⟩
  by_cases hs1 : (G 33 9) = (1 : Int32)
  · have h := h.2.1 hs1
    refine pw_tswIn (tgt := 49) (off := 45) (1 : Int32) dX6_accept_4 hs1 (by decide) (by decide) (by decide +kernel) (by decide) ?_
    refine pw_aload_n dX6_accept_49 rfl 0 rfl ?_
    refine pw_callV (As := []) (rest := []) (s_X6_acceptLineTail hE h) dX6_accept_50 ly_33 rfl (Or.inl ml_X6_67) cm_X6_acceptLineTail rfl (rm_ok (by decide)) rm_0 (Nat.le_of_ble_eq_true rfl) ?_
    rintro _ G4 ⟨r3, rfl, h⟩
    exact pw_ireturn dX6_accept_53 rfl (bz_n h.1) ⟨_, rfl, h.2⟩
  by_cases hs2 : (G 33 9) = (2 : Int32)
  · have h := h.2.2.1 hs2
    refine pw_tswIn (tgt := 54) (off := 50) (2 : Int32) dX6_accept_4 hs2 (by decide) (by decide) (by decide +kernel) (by decide) ?_
    refine pw_aload_n dX6_accept_54 rfl 0 rfl ?_
    refine pw_callV (As := []) (rest := []) (s_X6_acceptCondition hE h) dX6_accept_55 ly_33 rfl (Or.inl ml_X6_70) cm_X6_acceptCondition rfl (rm_ok (by decide)) rm_0 (Nat.le_of_ble_eq_true rfl) ?_
    rintro _ G6 ⟨r5, rfl, h⟩
    exact pw_ireturn dX6_accept_58 rfl (bz_n h.1) ⟨_, rfl, h.2⟩
  by_cases hs3 : (G 33 9) = (3 : Int32)
  · have h := h.2.2.2.1 hs3
    refine pw_tswIn (tgt := 59) (off := 55) (3 : Int32) dX6_accept_4 hs3 (by decide) (by decide) (by decide +kernel) (by decide) ?_
    refine pw_aload_n dX6_accept_59 rfl 0 rfl ?_
    refine pw_callV (As := []) (rest := []) (s_X6_acceptValue hE h) dX6_accept_60 ly_33 rfl (Or.inl ml_X6_73) cm_X6_acceptValue rfl (rm_ok (by decide)) rm_0 (Nat.le_of_ble_eq_true rfl) ?_
    rintro _ G8 ⟨r7, rfl, h⟩
    exact pw_ireturn dX6_accept_63 rfl (bz_n h.1) ⟨_, rfl, h.2⟩
  by_cases hs4 : (G 33 9) = (4 : Int32)
  · have h := h.2.2.2.2.1 hs4
    refine pw_tswIn (tgt := 64) (off := 60) (4 : Int32) dX6_accept_4 hs4 (by decide) (by decide) (by decide +kernel) (by decide) ?_
    refine pw_aload_n dX6_accept_64 rfl 0 rfl ?_
    refine pw_callV (As := []) (rest := []) (s_X6_acceptDivisor hE h) dX6_accept_65 ly_33 rfl (Or.inl ml_X6_76) cm_X6_acceptDivisor rfl (rm_ok (by decide)) rm_0 (Nat.le_of_ble_eq_true rfl) ?_
    rintro _ G10 ⟨r9, rfl, h⟩
    exact pw_ireturn dX6_accept_68 rfl (bz_n h.1) ⟨_, rfl, h.2⟩
  by_cases hs5 : (G 33 9) = (5 : Int32)
  · have h := h.2.2.2.2.2.1 hs5
    refine pw_tswIn (tgt := 69) (off := 65) (5 : Int32) dX6_accept_4 hs5 (by decide) (by decide) (by decide +kernel) (by decide) ?_
    refine pw_aload_n dX6_accept_69 rfl 0 rfl ?_
    refine pw_callV (As := []) (rest := []) (s_X6_acceptValueTail hE h) dX6_accept_70 ly_33 rfl (Or.inl ml_X6_79) cm_X6_acceptValueTail rfl (rm_ok (by decide)) rm_0 (Nat.le_of_ble_eq_true rfl) ?_
    rintro _ G12 ⟨r11, rfl, h⟩
    exact pw_ireturn dX6_accept_73 rfl (bz_n h.1) ⟨_, rfl, h.2⟩
  have h := h.2.2.2.2.2.2 hs0 hs1 hs2 hs3 hs4 hs5
  refine pw_tswOut (tgt := 74) dX6_accept_4 (by have := lv_neT hs0 (show (0 : Int32).toInt = 0 from by decide); have := lv_neT hs1 (show (1 : Int32).toInt = 1 from by decide); have := lv_neT hs2 (show (2 : Int32).toInt = 2 from by decide); have := lv_neT hs3 (show (3 : Int32).toInt = 3 from by decide); have := lv_neT hs4 (show (4 : Int32).toInt = 4 from by decide); have := lv_neT hs5 (show (5 : Int32).toInt = 5 from by decide);  omega) (by decide) ?_
  refine pw_aload_n dX6_accept_74 rfl 0 rfl ?_
  refine pw_callV (As := []) (rest := []) (s_X6_acceptConditionTail hE h) dX6_accept_75 ly_33 rfl (Or.inl ml_X6_82) cm_X6_acceptConditionTail rfl (rm_ok (by decide)) rm_0 (Nat.le_of_ble_eq_true rfl) ?_
  rintro _ G14 ⟨r13, rfl, h⟩
  exact pw_ireturn dX6_accept_78 rfl (bz_n h.1) ⟨_, rfl, h.2⟩
