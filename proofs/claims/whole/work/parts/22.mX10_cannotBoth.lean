def wp_X10_cannotBoth (a1 : Int32) (a2 : Int32) (G : GS) (Q : Int32 → GS → Prop) : Prop := (vp_in a1 8 ∧ (vp_in a2 8 ∧ (((G 67 a1.toNatClampNeg) = (G 67 a2.toNatClampNeg) → Q (1 : Int32) G) ∧ (¬ (G 67 a1.toNatClampNeg) = (G 67 a2.toNatClampNeg) → (((G 67 a1.toNatClampNeg) = (G 68 a2.toNatClampNeg) → Q (1 : Int32) G) ∧ (¬ (G 67 a1.toNatClampNeg) = (G 68 a2.toNatClampNeg) → (((G 68 a1.toNatClampNeg) = (G 67 a2.toNatClampNeg) → Q (1 : Int32) G) ∧ (¬ (G 68 a1.toNatClampNeg) = (G 67 a2.toNatClampNeg) → ((¬ (G 68 a1.toNatClampNeg) = (G 68 a2.toNatClampNeg) → wp_X10_areWithHums a1 G (fun r3 G4 => ((r3 = 0 → Q (0 : Int32) G4) ∧ (¬ r3 = 0 → wp_X10_areWithHums a2 G4 (fun r5 G6 => ((r5 = 0 → Q (0 : Int32) G6) ∧ (¬ r5 = 0 → wp_X10_humOf (G6 67 a1.toNatClampNeg) G6 (fun r7 G8 => wp_X10_humOf (G8 68 a1.toNatClampNeg) G8 (fun r9 G10 => wp_X10_without (r7 - r9) G10 (fun r11 G12 => wp_X10_humOf (G12 67 a2.toNatClampNeg) G12 (fun r13 G14 => wp_X10_humOf (G14 68 a2.toNatClampNeg) G14 (fun r15 G16 => wp_X10_without (r13 - r15) G16 (fun r17 G18 => ((¬ r11 = r17 → Q (0 : Int32) G18) ∧ (r11 = r17 → Q (1 : Int32) G18))))))))))))))) ∧ ((G 68 a1.toNatClampNeg) = (G 68 a2.toNatClampNeg) → Q (1 : Int32) G))))))))))
set_option maxRecDepth 100000 in
set_option maxHeartbeats 4000000 in
theorem s_X10_cannotBoth {E : EV} (hE : EI_ E) {a1 : Int32} {a2 : Int32} {G : GS} {Q : Int32 → GS → Prop} (h : wp_X10_cannotBoth a1 a2 G Q) : PMet E mi_X10_cannotBoth 3 [.ref (ev_ad E 49), .int a1, .int a2] G (qi_ Q) := by
  refine pm_of hE (by decide) (Nat.le_of_ble_eq_true rfl) ?_
  refine pw_loc (lv' := [(0, .ref (ev_ad E 49)), (1, .int a1), (2, .int a2)]) [0, 1, 2] rfl ?_
  refine pw_aload_n dX10_cannotBoth_0 rfl 0 rfl ?_
  refine pw_getr (q := 67) dX10_cannotBoth_1 fa_X10_66 ly_49 rfl ?_
  refine pw_iload_n dX10_cannotBoth_4 rfl 1 rfl ?_
  obtain ⟨hv1, h⟩ := h
  refine pw_iald (v := G 67 a1.toNatClampNeg) dX10_cannotBoth_5 ly_67 hv1 rfl ?_
  refine pw_aload_n dX10_cannotBoth_6 rfl 0 rfl ?_
  refine pw_getr (q := 67) dX10_cannotBoth_7 fa_X10_66 ly_49 rfl ?_
  refine pw_iload_n dX10_cannotBoth_10 rfl 2 rfl ?_
  obtain ⟨hv2, h⟩ := h
  refine pw_iald (v := G 67 a2.toNatClampNeg) dX10_cannotBoth_11 ly_67 hv2 rfl ?_
  refine pw_icmp_eq (tgt := 60) dX10_cannotBoth_12 (by decide) (fun hc => ?_) (fun hc => ?_)
  · have h := h.1 hc
    refine pw_iconst (v := (1 : Int32)) dX10_cannotBoth_60 (by decide) ?_
    exact pw_ireturn dX10_cannotBoth_61 rfl rfl ⟨_, rfl, h⟩
  · have h := h.2 hc
    refine pw_aload_n dX10_cannotBoth_15 rfl 0 rfl ?_
    refine pw_getr (q := 67) dX10_cannotBoth_16 fa_X10_66 ly_49 rfl ?_
    refine pw_iload_n dX10_cannotBoth_19 rfl 1 rfl ?_
    refine pw_iald (v := G 67 a1.toNatClampNeg) dX10_cannotBoth_20 ly_67 hv1 rfl ?_
    refine pw_aload_n dX10_cannotBoth_21 rfl 0 rfl ?_
    refine pw_getr (q := 68) dX10_cannotBoth_22 fa_X10_69 ly_49 rfl ?_
    refine pw_iload_n dX10_cannotBoth_25 rfl 2 rfl ?_
    refine pw_iald (v := G 68 a2.toNatClampNeg) dX10_cannotBoth_26 ly_68 hv2 rfl ?_
    refine pw_icmp_eq (tgt := 60) dX10_cannotBoth_27 (by decide) (fun hc => ?_) (fun hc => ?_)
    · have h := h.1 hc
      refine pw_iconst (v := (1 : Int32)) dX10_cannotBoth_60 (by decide) ?_
      exact pw_ireturn dX10_cannotBoth_61 rfl rfl ⟨_, rfl, h⟩
    · have h := h.2 hc
      refine pw_aload_n dX10_cannotBoth_30 rfl 0 rfl ?_
      refine pw_getr (q := 68) dX10_cannotBoth_31 fa_X10_69 ly_49 rfl ?_
      refine pw_iload_n dX10_cannotBoth_34 rfl 1 rfl ?_
      refine pw_iald (v := G 68 a1.toNatClampNeg) dX10_cannotBoth_35 ly_68 hv1 rfl ?_
      refine pw_aload_n dX10_cannotBoth_36 rfl 0 rfl ?_
      refine pw_getr (q := 67) dX10_cannotBoth_37 fa_X10_66 ly_49 rfl ?_
      refine pw_iload_n dX10_cannotBoth_40 rfl 2 rfl ?_
      refine pw_iald (v := G 67 a2.toNatClampNeg) dX10_cannotBoth_41 ly_67 hv2 rfl ?_
      refine pw_icmp_eq (tgt := 60) dX10_cannotBoth_42 (by decide) (fun hc => ?_) (fun hc => ?_)
      · have h := h.1 hc
        refine pw_iconst (v := (1 : Int32)) dX10_cannotBoth_60 (by decide) ?_
        exact pw_ireturn dX10_cannotBoth_61 rfl rfl ⟨_, rfl, h⟩
      · have h := h.2 hc
        refine pw_aload_n dX10_cannotBoth_45 rfl 0 rfl ?_
        refine pw_getr (q := 68) dX10_cannotBoth_46 fa_X10_69 ly_49 rfl ?_
        refine pw_iload_n dX10_cannotBoth_49 rfl 1 rfl ?_
        refine pw_iald (v := G 68 a1.toNatClampNeg) dX10_cannotBoth_50 ly_68 hv1 rfl ?_
        refine pw_aload_n dX10_cannotBoth_51 rfl 0 rfl ?_
        refine pw_getr (q := 68) dX10_cannotBoth_52 fa_X10_69 ly_49 rfl ?_
        refine pw_iload_n dX10_cannotBoth_55 rfl 2 rfl ?_
        refine pw_iald (v := G 68 a2.toNatClampNeg) dX10_cannotBoth_56 ly_68 hv2 rfl ?_
        refine pw_icmp_ne (tgt := 62) dX10_cannotBoth_57 (by decide) (fun hc => ?_) (fun hc => ?_)
        · have h := h.1 hc
          refine pw_aload_n dX10_cannotBoth_62 rfl 0 rfl ?_
          refine pw_iload_n dX10_cannotBoth_63 rfl 1 rfl ?_
          refine pw_callV (As := [.int a1]) (rest := []) (s_X10_areWithHums hE h) dX10_cannotBoth_64 ly_49 rfl (Or.inl ml_X10_272) cm_X10_areWithHums rfl (rm_ok (by decide)) rm_0 (Nat.le_of_ble_eq_true rfl) ?_
          rintro _ G4 ⟨r3, rfl, h⟩
          refine pw_if_eq (tgt := 135) dX10_cannotBoth_67 (by decide) (fun hc => ?_) (fun hc => ?_)
          · have h := h.1 hc
            refine pw_iconst (v := (0 : Int32)) dX10_cannotBoth_135 (by decide) ?_
            exact pw_ireturn dX10_cannotBoth_136 rfl rfl ⟨_, rfl, h⟩
          · have h := h.2 hc
            refine pw_aload_n dX10_cannotBoth_70 rfl 0 rfl ?_
            refine pw_iload_n dX10_cannotBoth_71 rfl 2 rfl ?_
            refine pw_callV (As := [.int a2]) (rest := []) (s_X10_areWithHums hE h) dX10_cannotBoth_72 ly_49 rfl (Or.inl ml_X10_272) cm_X10_areWithHums rfl (rm_ok (by decide)) rm_0 (Nat.le_of_ble_eq_true rfl) ?_
            rintro _ G6 ⟨r5, rfl, h⟩
            refine pw_if_eq (tgt := 135) dX10_cannotBoth_75 (by decide) (fun hc => ?_) (fun hc => ?_)
            · have h := h.1 hc
              refine pw_iconst (v := (0 : Int32)) dX10_cannotBoth_135 (by decide) ?_
              exact pw_ireturn dX10_cannotBoth_136 rfl rfl ⟨_, rfl, h⟩
            · have h := h.2 hc
              refine pw_aload_n dX10_cannotBoth_78 rfl 0 rfl ?_
              refine pw_aload_n dX10_cannotBoth_79 rfl 0 rfl ?_
              refine pw_aload_n dX10_cannotBoth_80 rfl 0 rfl ?_
              refine pw_getr (q := 67) dX10_cannotBoth_81 fa_X10_66 ly_49 rfl ?_
              refine pw_iload_n dX10_cannotBoth_84 rfl 1 rfl ?_
              refine pw_iald (v := G6 67 a1.toNatClampNeg) dX10_cannotBoth_85 ly_67 hv1 rfl ?_
              refine pw_callV (As := [.int (G6 67 a1.toNatClampNeg)]) (rest := [.ref (ev_ad E 49)]) (s_X10_humOf hE h) dX10_cannotBoth_86 ly_49 rfl (Or.inl ml_X10_109) cm_X10_humOf rfl (rm_ok (by decide)) rm_0 (Nat.le_of_ble_eq_true rfl) ?_
              rintro _ G8 ⟨r7, rfl, h⟩
              refine pw_aload_n dX10_cannotBoth_89 rfl 0 rfl ?_
              refine pw_aload_n dX10_cannotBoth_90 rfl 0 rfl ?_
              refine pw_getr (q := 68) dX10_cannotBoth_91 fa_X10_69 ly_49 rfl ?_
              refine pw_iload_n dX10_cannotBoth_94 rfl 1 rfl ?_
              refine pw_iald (v := G8 68 a1.toNatClampNeg) dX10_cannotBoth_95 ly_68 hv1 rfl ?_
              refine pw_callV (As := [.int (G8 68 a1.toNatClampNeg)]) (rest := [.int r7, .ref (ev_ad E 49)]) (s_X10_humOf hE h) dX10_cannotBoth_96 ly_49 rfl (Or.inl ml_X10_109) cm_X10_humOf rfl (rm_ok (by decide)) rm_0 (Nat.le_of_ble_eq_true rfl) ?_
              rintro _ G10 ⟨r9, rfl, h⟩
              refine pw_isub dX10_cannotBoth_99 ?_
              refine pw_callV (As := [.int (r7 - r9)]) (rest := []) (s_X10_without hE h) dX10_cannotBoth_100 ly_49 rfl (Or.inl ml_X10_223) cm_X10_without rfl (rm_ok (by decide)) rm_0 (Nat.le_of_ble_eq_true rfl) ?_
              rintro _ G12 ⟨r11, rfl, h⟩
              refine pw_aload_n dX10_cannotBoth_103 rfl 0 rfl ?_
              refine pw_aload_n dX10_cannotBoth_104 rfl 0 rfl ?_
              refine pw_aload_n dX10_cannotBoth_105 rfl 0 rfl ?_
              refine pw_getr (q := 67) dX10_cannotBoth_106 fa_X10_66 ly_49 rfl ?_
              refine pw_iload_n dX10_cannotBoth_109 rfl 2 rfl ?_
              refine pw_iald (v := G12 67 a2.toNatClampNeg) dX10_cannotBoth_110 ly_67 hv2 rfl ?_
              refine pw_callV (As := [.int (G12 67 a2.toNatClampNeg)]) (rest := [.ref (ev_ad E 49), .int r11]) (s_X10_humOf hE h) dX10_cannotBoth_111 ly_49 rfl (Or.inl ml_X10_109) cm_X10_humOf rfl (rm_ok (by decide)) rm_0 (Nat.le_of_ble_eq_true rfl) ?_
              rintro _ G14 ⟨r13, rfl, h⟩
              refine pw_aload_n dX10_cannotBoth_114 rfl 0 rfl ?_
              refine pw_aload_n dX10_cannotBoth_115 rfl 0 rfl ?_
              refine pw_getr (q := 68) dX10_cannotBoth_116 fa_X10_69 ly_49 rfl ?_
              refine pw_iload_n dX10_cannotBoth_119 rfl 2 rfl ?_
              refine pw_iald (v := G14 68 a2.toNatClampNeg) dX10_cannotBoth_120 ly_68 hv2 rfl ?_
              refine pw_callV (As := [.int (G14 68 a2.toNatClampNeg)]) (rest := [.int r13, .ref (ev_ad E 49), .int r11]) (s_X10_humOf hE h) dX10_cannotBoth_121 ly_49 rfl (Or.inl ml_X10_109) cm_X10_humOf rfl (rm_ok (by decide)) rm_0 (Nat.le_of_ble_eq_true rfl) ?_
              rintro _ G16 ⟨r15, rfl, h⟩
              refine pw_isub dX10_cannotBoth_124 ?_
              refine pw_callV (As := [.int (r13 - r15)]) (rest := [.int r11]) (s_X10_without hE h) dX10_cannotBoth_125 ly_49 rfl (Or.inl ml_X10_223) cm_X10_without rfl (rm_ok (by decide)) rm_0 (Nat.le_of_ble_eq_true rfl) ?_
              rintro _ G18 ⟨r17, rfl, h⟩
              refine pw_icmp_ne (tgt := 135) dX10_cannotBoth_128 (by decide) (fun hc => ?_) (fun hc => ?_)
              · have h := h.1 hc
                refine pw_iconst (v := (0 : Int32)) dX10_cannotBoth_135 (by decide) ?_
                exact pw_ireturn dX10_cannotBoth_136 rfl rfl ⟨_, rfl, h⟩
              · have h := h.2 hc
                refine pw_iconst (v := (1 : Int32)) dX10_cannotBoth_131 (by decide) ?_
                refine pw_goto (tgt := 136) dX10_cannotBoth_132 (by decide) ?_
                exact pw_ireturn dX10_cannotBoth_136 rfl rfl ⟨_, rfl, h⟩
        · have h := h.2 hc
          refine pw_iconst (v := (1 : Int32)) dX10_cannotBoth_60 (by decide) ?_
          exact pw_ireturn dX10_cannotBoth_61 rfl rfl ⟨_, rfl, h⟩
def lp_X10_canHave_2 (Q : Int32 → GS → Prop)  : Nat → Int32 → Int32 → Int32 → GS → Prop
  | 0, _, _, _, _ => False
  | n + 1, x1, x2, x3, G => ((x1 ≤ x3 → Q (1 : Int32) G) ∧ (¬ x1 ≤ x3 → (vp_in x3 8 ∧ ((¬ (G 69 x3.toNatClampNeg) = x2 → lp_X10_canHave_2 Q n x1 x2 (x3 + 1) G) ∧ ((G 69 x3.toNatClampNeg) = x2 → wp_X10_cannotBoth x1 x3 G (fun r2 G3 => ((r2 = 0 → lp_X10_canHave_2 Q n x1 x2 (x3 + 1) G3) ∧ (¬ r2 = 0 → Q (0 : Int32) G3))))))))
set_option maxRecDepth 100000 in
set_option maxHeartbeats 4000000 in
theorem t_X10_canHave_2 {E : EV} (hE : EI_ E) (Q : Int32 → GS → Prop)  : ∀ (n : Nat) (x1 : Int32) (x2 : Int32) (x3 : Int32) (G : GS), lp_X10_canHave_2 Q n x1 x2 x3 G → PW_ E mi_X10_canHave (rm_ 4) 0 0 2 [(0, .ref (ev_ad E 49)), (1, .int x1), (2, .int x2), (3, .int x3)] [] G (qi_ Q) := by
  intro n
  induction n with
  | zero => intro x1 x2 x3 G h; exact h.elim
  | succ n ih =>
    intro x1 x2 x3 G h
    refine pw_iload_n dX10_canHave_2 rfl 3 rfl ?_
    refine pw_iload_n dX10_canHave_3 rfl 1 rfl ?_
    refine pw_icmp_ge (tgt := 34) dX10_canHave_4 (by decide) (fun hc => ?_) (fun hc => ?_)
    · have h := h.1 hc
      refine pw_iconst (v := (1 : Int32)) dX10_canHave_34 (by decide) ?_
      exact pw_ireturn dX10_canHave_35 rfl rfl ⟨_, rfl, h⟩
    · have h := h.2 hc
      refine pw_aload_n dX10_canHave_7 rfl 0 rfl ?_
      refine pw_getr (q := 69) dX10_canHave_8 fa_X10_72 ly_49 rfl ?_
      refine pw_iload_n dX10_canHave_11 rfl 3 rfl ?_
      obtain ⟨hv1, h⟩ := h
      refine pw_iald (v := G 69 x3.toNatClampNeg) dX10_canHave_12 ly_69 hv1 rfl ?_
      refine pw_iload_n dX10_canHave_13 rfl 2 rfl ?_
      refine pw_icmp_ne (tgt := 28) dX10_canHave_14 (by decide) (fun hc => ?_) (fun hc => ?_)
      · have h := h.1 hc
        refine pw_iinc (k := 3) (v := x3 + 1) (lv' := [(3, .int (x3 + 1)), (0, .ref (ev_ad E 49)), (1, .int x1), (2, .int x2)]) dX10_canHave_28 rfl rfl (by decide) rfl ?_
        refine pw_goto (tgt := 2) dX10_canHave_31 (by decide) ?_
        refine pw_loc (lv' := [(0, .ref (ev_ad E 49)), (1, .int x1), (2, .int x2), (3, .int (x3 + 1))]) [1, 2, 3, 0] rfl ?_
        exact ih _ _ _ _ h
      · have h := h.2 hc
        refine pw_aload_n dX10_canHave_17 rfl 0 rfl ?_
        refine pw_iload_n dX10_canHave_18 rfl 1 rfl ?_
        refine pw_iload_n dX10_canHave_19 rfl 3 rfl ?_
        refine pw_callV (As := [.int x1, .int x3]) (rest := []) (s_X10_cannotBoth hE h) dX10_canHave_20 ly_49 rfl (Or.inl ml_X10_275) cm_X10_cannotBoth rfl (rm_ok (by decide)) rm_0 (Nat.le_of_ble_eq_true rfl) ?_
        rintro _ G3 ⟨r2, rfl, h⟩
        refine pw_if_eq (tgt := 28) dX10_canHave_23 (by decide) (fun hc => ?_) (fun hc => ?_)
        · have h := h.1 hc
          refine pw_iinc (k := 3) (v := x3 + 1) (lv' := [(3, .int (x3 + 1)), (0, .ref (ev_ad E 49)), (1, .int x1), (2, .int x2)]) dX10_canHave_28 rfl rfl (by decide) rfl ?_
          refine pw_goto (tgt := 2) dX10_canHave_31 (by decide) ?_
          refine pw_loc (lv' := [(0, .ref (ev_ad E 49)), (1, .int x1), (2, .int x2), (3, .int (x3 + 1))]) [1, 2, 3, 0] rfl ?_
          exact ih _ _ _ _ h
        · have h := h.2 hc
          refine pw_iconst (v := (0 : Int32)) dX10_canHave_26 (by decide) ?_
          exact pw_ireturn dX10_canHave_27 rfl rfl ⟨_, rfl, h⟩
def wp_X10_canHave (a1 : Int32) (a2 : Int32) (G : GS) (Q : Int32 → GS → Prop) : Prop := (∃ kf, lp_X10_canHave_2 Q kf a1 a2 (0 : Int32) G)
set_option maxRecDepth 100000 in
set_option maxHeartbeats 4000000 in
theorem s_X10_canHave {E : EV} (hE : EI_ E) {a1 : Int32} {a2 : Int32} {G : GS} {Q : Int32 → GS → Prop} (h : wp_X10_canHave a1 a2 G Q) : PMet E mi_X10_canHave 4 [.ref (ev_ad E 49), .int a1, .int a2] G (qi_ Q) := by
  refine pm_of hE (by decide) (Nat.le_of_ble_eq_true rfl) ?_
  refine pw_loc (lv' := [(0, .ref (ev_ad E 49)), (1, .int a1), (2, .int a2)]) [0, 1, 2] rfl ?_
  refine pw_iconst (v := (0 : Int32)) dX10_canHave_0 (by decide) ?_
  refine pw_istore_n (lv' := [(3, .int (0 : Int32)), (0, .ref (ev_ad E 49)), (1, .int a1), (2, .int a2)]) dX10_canHave_1 rfl (by decide) rfl ?_
  refine pw_loc (lv' := [(0, .ref (ev_ad E 49)), (1, .int a1), (2, .int a2), (3, .int (0 : Int32))]) [1, 2, 3, 0] rfl ?_
  obtain ⟨kf, h⟩ := h
  exact t_X10_canHave_2 hE Q kf _ _ _ _ h
def bk_X10_canAll_80 (Q : Int32 → GS → Prop) (R23 : Int32 → Int32 → GS → Prop)  (x1 : Int32) (x2 : Int32) (x3 : Int32) (z0 : Int32) (z1 : Int32) (G : GS) : Prop := (vp_in z1 8 ∧ ((x1 < x3 → R23 x1 (x2 - (1 : Int32)) (gu_ G 69 z1.toNatClampNeg z0)) ∧ (¬ x1 < x3 → R23 x1 (x2 + (1 : Int32)) (gu_ G 69 z1.toNatClampNeg z0))))
set_option maxRecDepth 100000 in
set_option maxHeartbeats 4000000 in
theorem t_X10_canAll_80 {E : EV} (hE : EI_ E) (Q : Int32 → GS → Prop) (R23 : Int32 → Int32 → GS → Prop) (hR23 : ∀ (x1 : Int32) (x2 : Int32) (G : GS), R23 x1 x2 G → PW_ E mi_X10_canAll (rm_ 5) 0 0 23 [(0, .ref (ev_ad E 49)), (1, .int x1), (2, .int x2)] [] G (qi_ Q))  {x1 : Int32} {x2 : Int32} {x3 : Int32} {z0 : Int32} {z1 : Int32} {G : GS} (h : bk_X10_canAll_80 Q R23 x1 x2 x3 z0 z1 G) : PW_ E mi_X10_canAll (rm_ 5) 0 0 80 [(0, .ref (ev_ad E 49)), (1, .int x1), (2, .int x2), (3, .int x3)] [.int z0, .int z1, .ref (ev_ad E 69)] G (qi_ Q) := by
  obtain ⟨hv5, h⟩ := h
  refine pw_iast (z := z1.toNatClampNeg) dX10_canAll_80 ly_69 hv5 rfl ?_
  refine pw_iload_n dX10_canAll_81 rfl 3 rfl ?_
  refine pw_iload_n dX10_canAll_82 rfl 1 rfl ?_
  refine pw_icmp_gt (tgt := 92) dX10_canAll_83 (by decide) (fun hc => ?_) (fun hc => ?_)
  · have h := h.1 hc
    refine pw_iload_n dX10_canAll_92 rfl 2 rfl ?_
    refine pw_iconst (v := (1 : Int32)) dX10_canAll_93 (by decide) ?_
    refine pw_isub dX10_canAll_94 ?_
    refine pw_istore_n (lv' := [(2, .int (x2 - (1 : Int32))), (0, .ref (ev_ad E 49)), (1, .int x1), (3, .int x3)]) dX10_canAll_95 rfl (by decide) rfl ?_
    refine pw_goto (tgt := 23) dX10_canAll_96 (by decide) ?_
    refine pw_loc (lv' := [(0, .ref (ev_ad E 49)), (1, .int x1), (2, .int (x2 - (1 : Int32)))]) [1, 2, 0] rfl ?_
    exact hR23 _ _ _ h
  · have h := h.2 hc
    refine pw_iload_n dX10_canAll_86 rfl 2 rfl ?_
    refine pw_iconst (v := (1 : Int32)) dX10_canAll_87 (by decide) ?_
    refine pw_iadd dX10_canAll_88 ?_
    refine pw_goto (tgt := 95) dX10_canAll_89 (by decide) ?_
    refine pw_istore_n (lv' := [(2, .int (x2 + (1 : Int32))), (0, .ref (ev_ad E 49)), (1, .int x1), (3, .int x3)]) dX10_canAll_95 rfl (by decide) rfl ?_
    refine pw_goto (tgt := 23) dX10_canAll_96 (by decide) ?_
    refine pw_loc (lv' := [(0, .ref (ev_ad E 49)), (1, .int x1), (2, .int (x2 + (1 : Int32)))]) [1, 2, 0] rfl ?_
    exact hR23 _ _ _ h
def lp_X10_canAll_44 (Q : Int32 → GS → Prop) (R23 : Int32 → Int32 → GS → Prop)  : Nat → Int32 → Int32 → Int32 → GS → Prop
  | 0, _, _, _, _ => False
  | n + 1, x1, x2, x3, G => ((x1 < x3 → ((x1 < x3 → bk_X10_canAll_80 Q R23 x1 x2 x3 (0 : Int32) x2 G) ∧ (¬ x1 < x3 → bk_X10_canAll_80 Q R23 x1 x2 x3 x3 x2 G))) ∧ (¬ x1 < x3 → wp_X10_canHave x2 x3 G (fun r3 G4 => ((¬ r3 = 0 → ((x1 < x3 → bk_X10_canAll_80 Q R23 x1 x2 x3 (0 : Int32) x2 G4) ∧ (¬ x1 < x3 → bk_X10_canAll_80 Q R23 x1 x2 x3 x3 x2 G4))) ∧ (r3 = 0 → lp_X10_canAll_44 Q R23 n x1 x2 (x3 + (1 : Int32)) G4)))))
set_option maxRecDepth 100000 in
set_option maxHeartbeats 4000000 in
theorem t_X10_canAll_44 {E : EV} (hE : EI_ E) (Q : Int32 → GS → Prop) (R23 : Int32 → Int32 → GS → Prop) (hR23 : ∀ (x1 : Int32) (x2 : Int32) (G : GS), R23 x1 x2 G → PW_ E mi_X10_canAll (rm_ 5) 0 0 23 [(0, .ref (ev_ad E 49)), (1, .int x1), (2, .int x2)] [] G (qi_ Q))  : ∀ (n : Nat) (x1 : Int32) (x2 : Int32) (x3 : Int32) (G : GS), lp_X10_canAll_44 Q R23 n x1 x2 x3 G → PW_ E mi_X10_canAll (rm_ 5) 0 0 44 [(0, .ref (ev_ad E 49)), (1, .int x1), (2, .int x2), (3, .int x3)] [] G (qi_ Q) := by
  intro n
  induction n with
  | zero => intro x1 x2 x3 G h; exact h.elim
  | succ n ih =>
    intro x1 x2 x3 G h
    refine pw_iload_n dX10_canAll_44 rfl 3 rfl ?_
    refine pw_iload_n dX10_canAll_45 rfl 1 rfl ?_
    refine pw_icmp_gt (tgt := 65) dX10_canAll_46 (by decide) (fun hc => ?_) (fun hc => ?_)
    · have h := h.1 hc
      refine pw_aload_n dX10_canAll_65 rfl 0 rfl ?_
      refine pw_getr (q := 69) dX10_canAll_66 fa_X10_72 ly_49 rfl ?_
      refine pw_iload_n dX10_canAll_69 rfl 2 rfl ?_
      refine pw_iload_n dX10_canAll_70 rfl 3 rfl ?_
      refine pw_iload_n dX10_canAll_71 rfl 1 rfl ?_
      refine pw_icmp_gt (tgt := 79) dX10_canAll_72 (by decide) (fun hc => ?_) (fun hc => ?_)
      · have h := h.1 hc
        refine pw_iconst (v := (0 : Int32)) dX10_canAll_79 (by decide) ?_
        refine pw_loc (lv' := [(0, .ref (ev_ad E 49)), (1, .int x1), (2, .int x2), (3, .int x3)]) [0, 1, 2, 3] rfl ?_
        exact t_X10_canAll_80 hE Q R23 hR23 h
      · have h := h.2 hc
        refine pw_iload_n dX10_canAll_75 rfl 3 rfl ?_
        refine pw_goto (tgt := 80) dX10_canAll_76 (by decide) ?_
        refine pw_loc (lv' := [(0, .ref (ev_ad E 49)), (1, .int x1), (2, .int x2), (3, .int x3)]) [0, 1, 2, 3] rfl ?_
        exact t_X10_canAll_80 hE Q R23 hR23 h
    · have h := h.2 hc
      refine pw_aload_n dX10_canAll_49 rfl 0 rfl ?_
      refine pw_iload_n dX10_canAll_50 rfl 2 rfl ?_
      refine pw_iload_n dX10_canAll_51 rfl 3 rfl ?_
      refine pw_callV (As := [.int x2, .int x3]) (rest := []) (s_X10_canHave hE h) dX10_canAll_52 ly_49 rfl (Or.inl ml_X10_278) cm_X10_canHave rfl (rm_ok (by decide)) rm_0 (Nat.le_of_ble_eq_true rfl) ?_
      rintro _ G4 ⟨r3, rfl, h⟩
      refine pw_if_ne (tgt := 65) dX10_canAll_55 (by decide) (fun hc => ?_) (fun hc => ?_)
      · have h := h.1 hc
        refine pw_aload_n dX10_canAll_65 rfl 0 rfl ?_
        refine pw_getr (q := 69) dX10_canAll_66 fa_X10_72 ly_49 rfl ?_
        refine pw_iload_n dX10_canAll_69 rfl 2 rfl ?_
        refine pw_iload_n dX10_canAll_70 rfl 3 rfl ?_
        refine pw_iload_n dX10_canAll_71 rfl 1 rfl ?_
        refine pw_icmp_gt (tgt := 79) dX10_canAll_72 (by decide) (fun hc => ?_) (fun hc => ?_)
        · have h := h.1 hc
          refine pw_iconst (v := (0 : Int32)) dX10_canAll_79 (by decide) ?_
          refine pw_loc (lv' := [(0, .ref (ev_ad E 49)), (1, .int x1), (2, .int x2), (3, .int x3)]) [0, 1, 2, 3] rfl ?_
          exact t_X10_canAll_80 hE Q R23 hR23 h
        · have h := h.2 hc
          refine pw_iload_n dX10_canAll_75 rfl 3 rfl ?_
          refine pw_goto (tgt := 80) dX10_canAll_76 (by decide) ?_
          refine pw_loc (lv' := [(0, .ref (ev_ad E 49)), (1, .int x1), (2, .int x2), (3, .int x3)]) [0, 1, 2, 3] rfl ?_
          exact t_X10_canAll_80 hE Q R23 hR23 h
      · have h := h.2 hc
        refine pw_iload_n dX10_canAll_58 rfl 3 rfl ?_
        refine pw_iconst (v := (1 : Int32)) dX10_canAll_59 (by decide) ?_
        refine pw_iadd dX10_canAll_60 ?_
        refine pw_istore_n (lv' := [(3, .int (x3 + (1 : Int32))), (0, .ref (ev_ad E 49)), (1, .int x1), (2, .int x2)]) dX10_canAll_61 rfl (by decide) rfl ?_
        refine pw_goto (tgt := 44) dX10_canAll_62 (by decide) ?_
        refine pw_loc (lv' := [(0, .ref (ev_ad E 49)), (1, .int x1), (2, .int x2), (3, .int (x3 + (1 : Int32)))]) [1, 2, 3, 0] rfl ?_
        exact ih _ _ _ _ h
def lp_X10_canAll_23 (Q : Int32 → GS → Prop)  : Nat → Int32 → Int32 → GS → Prop
  | 0, _, _, _ => False
  | n + 1, x1, x2, G => ((x2 < 0 → ((¬ x2 = (G 49 35) → Q (0 : Int32) G) ∧ (x2 = (G 49 35) → Q (1 : Int32) G))) ∧ (¬ x2 < 0 → (((G 49 35) ≤ x2 → ((¬ x2 = (G 49 35) → Q (0 : Int32) G) ∧ (x2 = (G 49 35) → Q (1 : Int32) G))) ∧ (¬ (G 49 35) ≤ x2 → (vp_in x2 8 ∧ (∃ kf, lp_X10_canAll_44 Q (fun y1 y2 G => lp_X10_canAll_23 Q n y1 y2 G) kf x1 x2 ((G 69 x2.toNatClampNeg) + (1 : Int32)) G))))))
set_option maxRecDepth 100000 in
set_option maxHeartbeats 4000000 in
theorem t_X10_canAll_23 {E : EV} (hE : EI_ E) (Q : Int32 → GS → Prop)  : ∀ (n : Nat) (x1 : Int32) (x2 : Int32) (G : GS), lp_X10_canAll_23 Q n x1 x2 G → PW_ E mi_X10_canAll (rm_ 5) 0 0 23 [(0, .ref (ev_ad E 49)), (1, .int x1), (2, .int x2)] [] G (qi_ Q) := by
  intro n
  induction n with
  | zero => intro x1 x2 G h; exact h.elim
  | succ n ih =>
    intro x1 x2 G h
    refine pw_iload_n dX10_canAll_23 rfl 2 rfl ?_
    refine pw_if_lt (tgt := 99) dX10_canAll_24 (by decide) (fun hc => ?_) (fun hc => ?_)
    · have h := h.1 hc
      refine pw_iload_n dX10_canAll_99 rfl 2 rfl ?_
      refine pw_aload_n dX10_canAll_100 rfl 0 rfl ?_
      refine pw_geti (v := G 49 35) dX10_canAll_101 fa_X10_269 ly_49 rfl rfl ?_
      refine pw_icmp_ne (tgt := 111) dX10_canAll_104 (by decide) (fun hc => ?_) (fun hc => ?_)
      · have h := h.1 hc
        refine pw_iconst (v := (0 : Int32)) dX10_canAll_111 (by decide) ?_
        exact pw_ireturn dX10_canAll_112 rfl rfl ⟨_, rfl, h⟩
      · have h := h.2 hc
        refine pw_iconst (v := (1 : Int32)) dX10_canAll_107 (by decide) ?_
        refine pw_goto (tgt := 112) dX10_canAll_108 (by decide) ?_
        exact pw_ireturn dX10_canAll_112 rfl rfl ⟨_, rfl, h⟩
    · have h := h.2 hc
      refine pw_iload_n dX10_canAll_27 rfl 2 rfl ?_
      refine pw_aload_n dX10_canAll_28 rfl 0 rfl ?_
      refine pw_geti (v := G 49 35) dX10_canAll_29 fa_X10_269 ly_49 rfl rfl ?_
      refine pw_icmp_ge (tgt := 99) dX10_canAll_32 (by decide) (fun hc => ?_) (fun hc => ?_)
      · have h := h.1 hc
        refine pw_iload_n dX10_canAll_99 rfl 2 rfl ?_
        refine pw_aload_n dX10_canAll_100 rfl 0 rfl ?_
        refine pw_geti (v := G 49 35) dX10_canAll_101 fa_X10_269 ly_49 rfl rfl ?_
        refine pw_icmp_ne (tgt := 111) dX10_canAll_104 (by decide) (fun hc => ?_) (fun hc => ?_)
        · have h := h.1 hc
          refine pw_iconst (v := (0 : Int32)) dX10_canAll_111 (by decide) ?_
          exact pw_ireturn dX10_canAll_112 rfl rfl ⟨_, rfl, h⟩
        · have h := h.2 hc
          refine pw_iconst (v := (1 : Int32)) dX10_canAll_107 (by decide) ?_
          refine pw_goto (tgt := 112) dX10_canAll_108 (by decide) ?_
          exact pw_ireturn dX10_canAll_112 rfl rfl ⟨_, rfl, h⟩
      · have h := h.2 hc
        refine pw_aload_n dX10_canAll_35 rfl 0 rfl ?_
        refine pw_getr (q := 69) dX10_canAll_36 fa_X10_72 ly_49 rfl ?_
        refine pw_iload_n dX10_canAll_39 rfl 2 rfl ?_
        obtain ⟨hv2, h⟩ := h
        refine pw_iald (v := G 69 x2.toNatClampNeg) dX10_canAll_40 ly_69 hv2 rfl ?_
        refine pw_iconst (v := (1 : Int32)) dX10_canAll_41 (by decide) ?_
        refine pw_iadd dX10_canAll_42 ?_
        refine pw_istore_n (lv' := [(3, .int ((G 69 x2.toNatClampNeg) + (1 : Int32))), (0, .ref (ev_ad E 49)), (1, .int x1), (2, .int x2)]) dX10_canAll_43 rfl (by decide) rfl ?_
        refine pw_loc (lv' := [(0, .ref (ev_ad E 49)), (1, .int x1), (2, .int x2), (3, .int ((G 69 x2.toNatClampNeg) + (1 : Int32)))]) [1, 2, 3, 0] rfl ?_
        obtain ⟨kf, h⟩ := h
        exact t_X10_canAll_44 hE Q (fun y1 y2 G => lp_X10_canAll_23 Q n y1 y2 G) ih kf _ _ _ _ h
def lp_X10_canAll_4 (Q : Int32 → GS → Prop)  : Nat → Int32 → Int32 → Int32 → GS → Prop
  | 0, _, _, _, _ => False
  | n + 1, x1, x2, x3, G => (((8 : Int32) ≤ x3 → (∃ kf, lp_X10_canAll_23 Q kf x1 x2 G)) ∧ (¬ (8 : Int32) ≤ x3 → (vp_in x3 8 ∧ lp_X10_canAll_4 Q n x1 x2 (x3 + 1) (gu_ G 69 x3.toNatClampNeg (0 : Int32)))))
set_option maxRecDepth 100000 in
set_option maxHeartbeats 4000000 in
theorem t_X10_canAll_4 {E : EV} (hE : EI_ E) (Q : Int32 → GS → Prop)  : ∀ (n : Nat) (x1 : Int32) (x2 : Int32) (x3 : Int32) (G : GS), lp_X10_canAll_4 Q n x1 x2 x3 G → PW_ E mi_X10_canAll (rm_ 5) 0 0 4 [(0, .ref (ev_ad E 49)), (1, .int x1), (2, .int x2), (3, .int x3)] [] G (qi_ Q) := by
  intro n
  induction n with
  | zero => intro x1 x2 x3 G h; exact h.elim
  | succ n ih =>
    intro x1 x2 x3 G h
    refine pw_iload_n dX10_canAll_4 rfl 3 rfl ?_
    refine pw_bipush (v := (8 : Int32)) dX10_canAll_5 (by decide) ?_
    refine pw_icmp_ge (tgt := 23) dX10_canAll_7 (by decide) (fun hc => ?_) (fun hc => ?_)
    · have h := h.1 hc
      refine pw_loc (lv' := [(0, .ref (ev_ad E 49)), (1, .int x1), (2, .int x2)]) [0, 1, 2] rfl ?_
      obtain ⟨kf, h⟩ := h
      exact t_X10_canAll_23 hE Q kf _ _ _ h
    · have h := h.2 hc
      refine pw_aload_n dX10_canAll_10 rfl 0 rfl ?_
      refine pw_getr (q := 69) dX10_canAll_11 fa_X10_72 ly_49 rfl ?_
      refine pw_iload_n dX10_canAll_14 rfl 3 rfl ?_
      refine pw_iconst (v := (0 : Int32)) dX10_canAll_15 (by decide) ?_
      obtain ⟨hv1, h⟩ := h
      refine pw_iast (z := x3.toNatClampNeg) dX10_canAll_16 ly_69 hv1 rfl ?_
      refine pw_iinc (k := 3) (v := x3 + 1) (lv' := [(3, .int (x3 + 1)), (0, .ref (ev_ad E 49)), (1, .int x1), (2, .int x2)]) dX10_canAll_17 rfl rfl (by decide) rfl ?_
      refine pw_goto (tgt := 4) dX10_canAll_20 (by decide) ?_
      refine pw_loc (lv' := [(0, .ref (ev_ad E 49)), (1, .int x1), (2, .int x2), (3, .int (x3 + 1))]) [1, 2, 3, 0] rfl ?_
      exact ih _ _ _ _ h
def wp_X10_canAll (a1 : Int32) (G : GS) (Q : Int32 → GS → Prop) : Prop := (∃ kf, lp_X10_canAll_4 Q kf a1 (0 : Int32) (0 : Int32) G)
set_option maxRecDepth 100000 in
set_option maxHeartbeats 4000000 in
theorem s_X10_canAll {E : EV} (hE : EI_ E) {a1 : Int32} {G : GS} {Q : Int32 → GS → Prop} (h : wp_X10_canAll a1 G Q) : PMet E mi_X10_canAll 5 [.ref (ev_ad E 49), .int a1] G (qi_ Q) := by
  refine pm_of hE (by decide) (Nat.le_of_ble_eq_true rfl) ?_
  refine pw_loc (lv' := [(0, .ref (ev_ad E 49)), (1, .int a1)]) [0, 1] rfl ?_
  refine pw_iconst (v := (0 : Int32)) dX10_canAll_0 (by decide) ?_
  refine pw_istore_n (lv' := [(2, .int (0 : Int32)), (0, .ref (ev_ad E 49)), (1, .int a1)]) dX10_canAll_1 rfl (by decide) rfl ?_
  refine pw_iconst (v := (0 : Int32)) dX10_canAll_2 (by decide) ?_
  refine pw_istore_n (lv' := [(3, .int (0 : Int32)), (2, .int (0 : Int32)), (0, .ref (ev_ad E 49)), (1, .int a1)]) dX10_canAll_3 rfl (by decide) rfl ?_
  refine pw_loc (lv' := [(0, .ref (ev_ad E 49)), (1, .int a1), (2, .int (0 : Int32)), (3, .int (0 : Int32))]) [2, 3, 1, 0] rfl ?_
  obtain ⟨kf, h⟩ := h
  exact t_X10_canAll_4 hE Q kf _ _ _ _ h
def lp_X10_turnOf_30 (Q : Int32 → GS → Prop)  : Nat → Int32 → Int32 → GS → Prop
  | 0, _, _, _ => False
  | n + 1, x1, x2, G => wp_X10_canAll x2 G (fun r3 G4 => ((¬ r3 = 0 → ((¬ x1 = 0 → (vp_in (x1 - (10 : Int32)) 8 ∧ Q (G4 69 ((x1 - (10 : Int32)).toNatClampNeg)) G4)) ∧ (x1 = 0 → Q x2 G4))) ∧ (r3 = 0 → lp_X10_turnOf_30 Q n x1 (x2 + (1 : Int32)) G4)))
set_option maxRecDepth 100000 in
set_option maxHeartbeats 4000000 in
theorem t_X10_turnOf_30 {E : EV} (hE : EI_ E) (Q : Int32 → GS → Prop)  : ∀ (n : Nat) (x1 : Int32) (x2 : Int32) (G : GS), lp_X10_turnOf_30 Q n x1 x2 G → PW_ E mi_X10_turnOf (rm_ 6) 0 0 30 [(0, .ref (ev_ad E 49)), (1, .int x1), (2, .int x2)] [] G (qi_ Q) := by
  intro n
  induction n with
  | zero => intro x1 x2 G h; exact h.elim
  | succ n ih =>
    intro x1 x2 G h
    refine pw_aload_n dX10_turnOf_30 rfl 0 rfl ?_
    refine pw_iload_n dX10_turnOf_31 rfl 2 rfl ?_
    refine pw_callV (As := [.int x2]) (rest := []) (s_X10_canAll hE h) dX10_turnOf_32 ly_49 rfl (Or.inl ml_X10_281) cm_X10_canAll rfl (rm_ok (by decide)) rm_0 (Nat.le_of_ble_eq_true rfl) ?_
    rintro _ G4 ⟨r3, rfl, h⟩
    refine pw_if_ne (tgt := 45) dX10_turnOf_35 (by decide) (fun hc => ?_) (fun hc => ?_)
    · have h := h.1 hc
      refine pw_iload_n dX10_turnOf_45 rfl 1 rfl ?_
      refine pw_if_ne (tgt := 53) dX10_turnOf_46 (by decide) (fun hc => ?_) (fun hc => ?_)
      · have h := h.1 hc
        refine pw_aload_n dX10_turnOf_53 rfl 0 rfl ?_
        refine pw_getr (q := 69) dX10_turnOf_54 fa_X10_72 ly_49 rfl ?_
        refine pw_iload_n dX10_turnOf_57 rfl 1 rfl ?_
        refine pw_bipush (v := (10 : Int32)) dX10_turnOf_58 (by decide) ?_
        refine pw_isub dX10_turnOf_60 ?_
        obtain ⟨hv5, h⟩ := h
        refine pw_iald (v := G4 69 ((x1 - (10 : Int32)).toNatClampNeg)) dX10_turnOf_61 ly_69 hv5 rfl ?_
        exact pw_ireturn dX10_turnOf_62 rfl rfl ⟨_, rfl, h⟩
      · have h := h.2 hc
        refine pw_iload_n dX10_turnOf_49 rfl 2 rfl ?_
        refine pw_goto (tgt := 62) dX10_turnOf_50 (by decide) ?_
        exact pw_ireturn dX10_turnOf_62 rfl rfl ⟨_, rfl, h⟩
    · have h := h.2 hc
      refine pw_iload_n dX10_turnOf_38 rfl 2 rfl ?_
      refine pw_iconst (v := (1 : Int32)) dX10_turnOf_39 (by decide) ?_
      refine pw_iadd dX10_turnOf_40 ?_
      refine pw_istore_n (lv' := [(2, .int (x2 + (1 : Int32))), (0, .ref (ev_ad E 49)), (1, .int x1)]) dX10_turnOf_41 rfl (by decide) rfl ?_
      refine pw_goto (tgt := 30) dX10_turnOf_42 (by decide) ?_
      refine pw_loc (lv' := [(0, .ref (ev_ad E 49)), (1, .int x1), (2, .int (x2 + (1 : Int32)))]) [1, 2, 0] rfl ?_
      exact ih _ _ _ h
def wp_X10_turnOf (a1 : Int32) (G : GS) (Q : Int32 → GS → Prop) : Prop := ((a1 = 0 → (∃ kf, lp_X10_turnOf_30 Q kf a1 (0 : Int32) (gu_ G 49 0 (0 : Int32)))) ∧ (¬ a1 = 0 → wp_X10_isIn a1 (10 : Int32) ((9 : Int32) + (G 49 35)) (gu_ G 49 0 (0 : Int32)) (fun r1 G2 => ((¬ r1 = 0 → (∃ kf, lp_X10_turnOf_30 Q kf a1 (0 : Int32) G2)) ∧ (r1 = 0 → Q (-1 : Int32) G2)))))
set_option maxRecDepth 100000 in
set_option maxHeartbeats 4000000 in
theorem s_X10_turnOf {E : EV} (hE : EI_ E) {a1 : Int32} {G : GS} {Q : Int32 → GS → Prop} (h : wp_X10_turnOf a1 G Q) : PMet E mi_X10_turnOf 6 [.ref (ev_ad E 49), .int a1] G (qi_ Q) := by
  refine pm_of hE (by decide) (Nat.le_of_ble_eq_true rfl) ?_
  refine pw_loc (lv' := [(0, .ref (ev_ad E 49)), (1, .int a1)]) [0, 1] rfl ?_
  refine pw_aload_n dX10_turnOf_0 rfl 0 rfl ?_
  refine pw_iconst (v := (0 : Int32)) dX10_turnOf_1 (by decide) ?_
  refine pw_puti dX10_turnOf_2 fp_X10_90 ly_49 rfl ?_
  refine pw_iload_n dX10_turnOf_5 rfl 1 rfl ?_
  refine pw_if_eq (tgt := 28) dX10_turnOf_6 (by decide) (fun hc => ?_) (fun hc => ?_)
  · have h := h.1 hc
    refine pw_iconst (v := (0 : Int32)) dX10_turnOf_28 (by decide) ?_
    refine pw_istore_n (lv' := [(2, .int (0 : Int32)), (0, .ref (ev_ad E 49)), (1, .int a1)]) dX10_turnOf_29 rfl (by decide) rfl ?_
    refine pw_loc (lv' := [(0, .ref (ev_ad E 49)), (1, .int a1), (2, .int (0 : Int32))]) [1, 2, 0] rfl ?_
    obtain ⟨kf, h⟩ := h
    exact t_X10_turnOf_30 hE Q kf _ _ _ h
  · have h := h.2 hc
    refine pw_aload_n dX10_turnOf_9 rfl 0 rfl ?_
    refine pw_iload_n dX10_turnOf_10 rfl 1 rfl ?_
    refine pw_bipush (v := (10 : Int32)) dX10_turnOf_11 (by decide) ?_
    refine pw_bipush (v := (9 : Int32)) dX10_turnOf_13 (by decide) ?_
    refine pw_aload_n dX10_turnOf_15 rfl 0 rfl ?_
    refine pw_geti (v := G 49 35) dX10_turnOf_16 fa_X10_269 ly_49 rfl rfl ?_
    refine pw_iadd dX10_turnOf_19 ?_
    refine pw_callV (As := [.int a1, .int (10 : Int32), .int ((9 : Int32) + (G 49 35))]) (rest := []) (s_X10_isIn hE h) dX10_turnOf_20 ly_49 rfl (Or.inl ml_X10_101) cm_X10_isIn rfl (rm_ok (by decide)) rm_0 (Nat.le_of_ble_eq_true rfl) ?_
    rintro _ G2 ⟨r1, rfl, h⟩
    refine pw_if_ne (tgt := 28) dX10_turnOf_23 (by decide) (fun hc => ?_) (fun hc => ?_)
    · have h := h.1 hc
      refine pw_iconst (v := (0 : Int32)) dX10_turnOf_28 (by decide) ?_
      refine pw_istore_n (lv' := [(2, .int (0 : Int32)), (0, .ref (ev_ad E 49)), (1, .int a1)]) dX10_turnOf_29 rfl (by decide) rfl ?_
      refine pw_loc (lv' := [(0, .ref (ev_ad E 49)), (1, .int a1), (2, .int (0 : Int32))]) [1, 2, 0] rfl ?_
      obtain ⟨kf, h⟩ := h
      exact t_X10_turnOf_30 hE Q kf _ _ _ h
    · have h := h.2 hc
      refine pw_iconst (v := (-1 : Int32)) dX10_turnOf_26 (by decide) ?_
      exact pw_ireturn dX10_turnOf_27 rfl rfl ⟨_, rfl, h⟩
def wp_X10_tell (a1 : Int32) (G : GS) (Q : Int32 → GS → Prop) : Prop := ((¬ a1 = (-1 : Int32) → wp_X10_isIn a1 (1 : Int32) (24 : Int32) (gu_ G 49 0 (0 : Int32)) (fun r1 G2 => ((r1 = 0 → Q (-1 : Int32) G2) ∧ (¬ r1 = 0 → ((¬ (G2 49 39) = (15 : Int32) → (vp_in (G2 49 39) 15 ∧ Q ((G2 49 39) + (1 : Int32)) (gu_ (gu_ G2 70 ((G2 49 39).toNatClampNeg) a1) 49 39 ((G2 49 39) + (1 : Int32))))) ∧ ((G2 49 39) = (15 : Int32) → Q (-1 : Int32) G2)))))) ∧ (a1 = (-1 : Int32) → Q (0 : Int32) (gu_ (gu_ G 49 0 (0 : Int32)) 49 39 (0 : Int32))))
set_option maxRecDepth 100000 in
set_option maxHeartbeats 4000000 in
theorem s_X10_tell {E : EV} (hE : EI_ E) {a1 : Int32} {G : GS} {Q : Int32 → GS → Prop} (h : wp_X10_tell a1 G Q) : PMet E mi_X10_tell 2 [.ref (ev_ad E 49), .int a1] G (qi_ Q) := by
  refine pm_of hE (by decide) (Nat.le_of_ble_eq_true rfl) ?_
  refine pw_loc (lv' := [(0, .ref (ev_ad E 49)), (1, .int a1)]) [0, 1] rfl ?_
  refine pw_aload_n dX10_tell_0 rfl 0 rfl ?_
  refine pw_iconst (v := (0 : Int32)) dX10_tell_1 (by decide) ?_
  refine pw_puti dX10_tell_2 fp_X10_90 ly_49 rfl ?_
  refine pw_iload_n dX10_tell_5 rfl 1 rfl ?_
  refine pw_iconst (v := (-1 : Int32)) dX10_tell_6 (by decide) ?_
  refine pw_icmp_ne (tgt := 17) dX10_tell_7 (by decide) (fun hc => ?_) (fun hc => ?_)
  · have h := h.1 hc
    refine pw_aload_n dX10_tell_17 rfl 0 rfl ?_
    refine pw_iload_n dX10_tell_18 rfl 1 rfl ?_
    refine pw_iconst (v := (1 : Int32)) dX10_tell_19 (by decide) ?_
    refine pw_bipush (v := (24 : Int32)) dX10_tell_20 (by decide) ?_
    refine pw_callV (As := [.int a1, .int (1 : Int32), .int (24 : Int32)]) (rest := []) (s_X10_isIn hE h) dX10_tell_22 ly_49 rfl (Or.inl ml_X10_101) cm_X10_isIn rfl (rm_ok (by decide)) rm_0 (Nat.le_of_ble_eq_true rfl) ?_
    rintro _ G2 ⟨r1, rfl, h⟩
    refine pw_if_eq (tgt := 37) dX10_tell_25 (by decide) (fun hc => ?_) (fun hc => ?_)
    · have h := h.1 hc
      refine pw_iconst (v := (-1 : Int32)) dX10_tell_37 (by decide) ?_
      exact pw_ireturn dX10_tell_38 rfl rfl ⟨_, rfl, h⟩
    · have h := h.2 hc
      refine pw_aload_n dX10_tell_28 rfl 0 rfl ?_
      refine pw_geti (v := G2 49 39) dX10_tell_29 fa_X10_284 ly_49 rfl rfl ?_
      refine pw_bipush (v := (15 : Int32)) dX10_tell_32 (by decide) ?_
      refine pw_icmp_ne (tgt := 39) dX10_tell_34 (by decide) (fun hc => ?_) (fun hc => ?_)
      · have h := h.1 hc
        refine pw_aload_n dX10_tell_39 rfl 0 rfl ?_
        refine pw_getr (q := 70) dX10_tell_40 fa_X10_75 ly_49 rfl ?_
        refine pw_aload_n dX10_tell_43 rfl 0 rfl ?_
        refine pw_geti (v := G2 49 39) dX10_tell_44 fa_X10_284 ly_49 rfl rfl ?_
        refine pw_iload_n dX10_tell_47 rfl 1 rfl ?_
        obtain ⟨hv3, h⟩ := h
        refine pw_iast (z := ((G2 49 39).toNatClampNeg)) dX10_tell_48 ly_70 hv3 rfl ?_
        refine pw_aload_n dX10_tell_49 rfl 0 rfl ?_
        refine pw_aload_n dX10_tell_50 rfl 0 rfl ?_
        refine pw_geti (v := G2 49 39) dX10_tell_51 fa_X10_284 ly_49 rfl rfl ?_
        refine pw_iconst (v := (1 : Int32)) dX10_tell_54 (by decide) ?_
        refine pw_iadd dX10_tell_55 ?_
        refine pw_puti dX10_tell_56 fp_X10_284 ly_49 rfl ?_
        refine pw_aload_n dX10_tell_59 rfl 0 rfl ?_
        refine pw_geti (v := (G2 49 39) + (1 : Int32)) dX10_tell_60 fa_X10_284 ly_49 rfl rfl ?_
        exact pw_ireturn dX10_tell_63 rfl rfl ⟨_, rfl, h⟩
      · have h := h.2 hc
        refine pw_iconst (v := (-1 : Int32)) dX10_tell_37 (by decide) ?_
        exact pw_ireturn dX10_tell_38 rfl rfl ⟨_, rfl, h⟩
  · have h := h.2 hc
    refine pw_aload_n dX10_tell_10 rfl 0 rfl ?_
    refine pw_iconst (v := (0 : Int32)) dX10_tell_11 (by decide) ?_
    refine pw_puti dX10_tell_12 fp_X10_284 ly_49 rfl ?_
    refine pw_iconst (v := (0 : Int32)) dX10_tell_15 (by decide) ?_
    exact pw_ireturn dX10_tell_16 rfl rfl ⟨_, rfl, h⟩
def lp_X10_firstRow_2 (Q : Int32 → GS → Prop)  : Nat → Int32 → Int32 → GS → Prop
  | 0, _, _, _ => False
  | n + 1, x1, x2, G => ((x1 ≤ x2 → Q 0 G) ∧ (¬ x1 ≤ x2 → (vp_in x2 6 ∧ lp_X10_firstRow_2 Q n x1 (x2 + 1) (gu_ G 71 x2.toNatClampNeg x2))))
set_option maxRecDepth 100000 in
set_option maxHeartbeats 4000000 in
theorem t_X10_firstRow_2 {E : EV} (hE : EI_ E) (Q : Int32 → GS → Prop)  : ∀ (n : Nat) (x1 : Int32) (x2 : Int32) (G : GS), lp_X10_firstRow_2 Q n x1 x2 G → PW_ E mi_X10_firstRow (rm_ 1) 0 0 2 [(0, .ref (ev_ad E 49)), (1, .int x1), (2, .int x2)] [] G (qv_ Q) := by
  intro n
  induction n with
  | zero => intro x1 x2 G h; exact h.elim
  | succ n ih =>
    intro x1 x2 G h
    refine pw_iload_n dX10_firstRow_2 rfl 2 rfl ?_
    refine pw_iload_n dX10_firstRow_3 rfl 1 rfl ?_
    refine pw_icmp_ge (tgt := 20) dX10_firstRow_4 (by decide) (fun hc => ?_) (fun hc => ?_)
    · have h := h.1 hc
      exact pw_return dX10_firstRow_20 rfl ⟨rfl, h⟩
    · have h := h.2 hc
      refine pw_aload_n dX10_firstRow_7 rfl 0 rfl ?_
      refine pw_getr (q := 71) dX10_firstRow_8 fa_X10_78 ly_49 rfl ?_
      refine pw_iload_n dX10_firstRow_11 rfl 2 rfl ?_
      refine pw_iload_n dX10_firstRow_12 rfl 2 rfl ?_
      obtain ⟨hv1, h⟩ := h
      refine pw_iast (z := x2.toNatClampNeg) dX10_firstRow_13 ly_71 hv1 rfl ?_
      refine pw_iinc (k := 2) (v := x2 + 1) (lv' := [(2, .int (x2 + 1)), (0, .ref (ev_ad E 49)), (1, .int x1)]) dX10_firstRow_14 rfl rfl (by decide) rfl ?_
      refine pw_goto (tgt := 2) dX10_firstRow_17 (by decide) ?_
      refine pw_loc (lv' := [(0, .ref (ev_ad E 49)), (1, .int x1), (2, .int (x2 + 1))]) [1, 2, 0] rfl ?_
      exact ih _ _ _ h
def wp_X10_firstRow (a1 : Int32) (G : GS) (Q : Int32 → GS → Prop) : Prop := (∃ kf, lp_X10_firstRow_2 Q kf a1 (0 : Int32) G)
set_option maxRecDepth 100000 in
set_option maxHeartbeats 4000000 in
theorem s_X10_firstRow {E : EV} (hE : EI_ E) {a1 : Int32} {G : GS} {Q : Int32 → GS → Prop} (h : wp_X10_firstRow a1 G Q) : PMet E mi_X10_firstRow 1 [.ref (ev_ad E 49), .int a1] G (qv_ Q) := by
  refine pm_of hE (by decide) (Nat.le_of_ble_eq_true rfl) ?_
  refine pw_loc (lv' := [(0, .ref (ev_ad E 49)), (1, .int a1)]) [0, 1] rfl ?_
  refine pw_iconst (v := (0 : Int32)) dX10_firstRow_0 (by decide) ?_
  refine pw_istore_n (lv' := [(2, .int (0 : Int32)), (0, .ref (ev_ad E 49)), (1, .int a1)]) dX10_firstRow_1 rfl (by decide) rfl ?_
  refine pw_loc (lv' := [(0, .ref (ev_ad E 49)), (1, .int a1), (2, .int (0 : Int32))]) [1, 2, 0] rfl ?_
  obtain ⟨kf, h⟩ := h
  exact t_X10_firstRow_2 hE Q kf _ _ _ h
def lp_X10_countsWords_30 (Q : Int32 → GS → Prop) (R23 : Int32 → Int32 → GS → Prop)  : Nat → Int32 → Int32 → Int32 → GS → Prop
  | 0, _, _, _, _ => False
  | n + 1, x1, x2, x3, G => ((x2 ≤ x3 → R23 x1 (x2 + 1) G) ∧ (¬ x2 ≤ x3 → (vp_in x2 6 ∧ (vp_in x3 6 ∧ (vp_in ((G 71 x2.toNatClampNeg) - (G 71 x3.toNatClampNeg)) 61 ∧ lp_X10_countsWords_30 Q R23 n x1 x2 (x3 + 1) (gu_ G 72 (((G 71 x2.toNatClampNeg) - (G 71 x3.toNatClampNeg)).toNatClampNeg) ((G 72 (((G 71 x2.toNatClampNeg) - (G 71 x3.toNatClampNeg)).toNatClampNeg)) + (1 : Int32))))))))
set_option maxRecDepth 100000 in
set_option maxHeartbeats 4000000 in
theorem t_X10_countsWords_30 {E : EV} (hE : EI_ E) (Q : Int32 → GS → Prop) (R23 : Int32 → Int32 → GS → Prop) (hR23 : ∀ (x1 : Int32) (x2 : Int32) (G : GS), R23 x1 x2 G → PW_ E mi_X10_countsWords (rm_ 1) 0 0 23 [(0, .ref (ev_ad E 49)), (1, .int x1), (2, .int x2)] [] G (qv_ Q))  : ∀ (n : Nat) (x1 : Int32) (x2 : Int32) (x3 : Int32) (G : GS), lp_X10_countsWords_30 Q R23 n x1 x2 x3 G → PW_ E mi_X10_countsWords (rm_ 1) 0 0 30 [(0, .ref (ev_ad E 49)), (1, .int x1), (2, .int x2), (3, .int x3)] [] G (qv_ Q) := by
  intro n
  induction n with
  | zero => intro x1 x2 x3 G h; exact h.elim
  | succ n ih =>
    intro x1 x2 x3 G h
    refine pw_iload_n dX10_countsWords_30 rfl 3 rfl ?_
    refine pw_iload_n dX10_countsWords_31 rfl 2 rfl ?_
    refine pw_icmp_ge (tgt := 79) dX10_countsWords_32 (by decide) (fun hc => ?_) (fun hc => ?_)
    · have h := h.1 hc
      refine pw_iinc (k := 2) (v := x2 + 1) (lv' := [(2, .int (x2 + 1)), (0, .ref (ev_ad E 49)), (1, .int x1), (3, .int x3)]) dX10_countsWords_79 rfl rfl (by decide) rfl ?_
      refine pw_goto (tgt := 23) dX10_countsWords_82 (by decide) ?_
      refine pw_loc (lv' := [(0, .ref (ev_ad E 49)), (1, .int x1), (2, .int (x2 + 1))]) [1, 2, 0] rfl ?_
      exact hR23 _ _ _ h
    · have h := h.2 hc
      refine pw_aload_n dX10_countsWords_35 rfl 0 rfl ?_
      refine pw_getr (q := 72) dX10_countsWords_36 fa_X10_81 ly_49 rfl ?_
      refine pw_aload_n dX10_countsWords_39 rfl 0 rfl ?_
      refine pw_getr (q := 71) dX10_countsWords_40 fa_X10_78 ly_49 rfl ?_
      refine pw_iload_n dX10_countsWords_43 rfl 2 rfl ?_
      obtain ⟨hv2, h⟩ := h
      refine pw_iald (v := G 71 x2.toNatClampNeg) dX10_countsWords_44 ly_71 hv2 rfl ?_
      refine pw_aload_n dX10_countsWords_45 rfl 0 rfl ?_
      refine pw_getr (q := 71) dX10_countsWords_46 fa_X10_78 ly_49 rfl ?_
      refine pw_iload_n dX10_countsWords_49 rfl 3 rfl ?_
      obtain ⟨hv3, h⟩ := h
      refine pw_iald (v := G 71 x3.toNatClampNeg) dX10_countsWords_50 ly_71 hv3 rfl ?_
      refine pw_isub dX10_countsWords_51 ?_
      refine pw_aload_n dX10_countsWords_52 rfl 0 rfl ?_
      refine pw_getr (q := 72) dX10_countsWords_53 fa_X10_81 ly_49 rfl ?_
      refine pw_aload_n dX10_countsWords_56 rfl 0 rfl ?_
      refine pw_getr (q := 71) dX10_countsWords_57 fa_X10_78 ly_49 rfl ?_
      refine pw_iload_n dX10_countsWords_60 rfl 2 rfl ?_
      refine pw_iald (v := G 71 x2.toNatClampNeg) dX10_countsWords_61 ly_71 hv2 rfl ?_
      refine pw_aload_n dX10_countsWords_62 rfl 0 rfl ?_
      refine pw_getr (q := 71) dX10_countsWords_63 fa_X10_78 ly_49 rfl ?_
      refine pw_iload_n dX10_countsWords_66 rfl 3 rfl ?_
      refine pw_iald (v := G 71 x3.toNatClampNeg) dX10_countsWords_67 ly_71 hv3 rfl ?_
      refine pw_isub dX10_countsWords_68 ?_
      obtain ⟨hv4, h⟩ := h
      refine pw_iald (v := G 72 (((G 71 x2.toNatClampNeg) - (G 71 x3.toNatClampNeg)).toNatClampNeg)) dX10_countsWords_69 ly_72 hv4 rfl ?_
      refine pw_iconst (v := (1 : Int32)) dX10_countsWords_70 (by decide) ?_
      refine pw_iadd dX10_countsWords_71 ?_
      refine pw_iast (z := (((G 71 x2.toNatClampNeg) - (G 71 x3.toNatClampNeg)).toNatClampNeg)) dX10_countsWords_72 ly_72 hv4 rfl ?_
      refine pw_iinc (k := 3) (v := x3 + 1) (lv' := [(3, .int (x3 + 1)), (0, .ref (ev_ad E 49)), (1, .int x1), (2, .int x2)]) dX10_countsWords_73 rfl rfl (by decide) rfl ?_
      refine pw_goto (tgt := 30) dX10_countsWords_76 (by decide) ?_
      refine pw_loc (lv' := [(0, .ref (ev_ad E 49)), (1, .int x1), (2, .int x2), (3, .int (x3 + 1))]) [1, 2, 3, 0] rfl ?_
      exact ih _ _ _ _ h
def lp_X10_countsWords_23 (Q : Int32 → GS → Prop)  : Nat → Int32 → Int32 → GS → Prop
  | 0, _, _, _ => False
  | n + 1, x1, x2, G => ((x1 ≤ x2 → Q 0 G) ∧ (¬ x1 ≤ x2 → (∃ kf, lp_X10_countsWords_30 Q (fun y1 y2 G => lp_X10_countsWords_23 Q n y1 y2 G) kf x1 x2 (0 : Int32) G)))
set_option maxRecDepth 100000 in
set_option maxHeartbeats 4000000 in
theorem t_X10_countsWords_23 {E : EV} (hE : EI_ E) (Q : Int32 → GS → Prop)  : ∀ (n : Nat) (x1 : Int32) (x2 : Int32) (G : GS), lp_X10_countsWords_23 Q n x1 x2 G → PW_ E mi_X10_countsWords (rm_ 1) 0 0 23 [(0, .ref (ev_ad E 49)), (1, .int x1), (2, .int x2)] [] G (qv_ Q) := by
  intro n
  induction n with
  | zero => intro x1 x2 G h; exact h.elim
  | succ n ih =>
    intro x1 x2 G h
    refine pw_iload_n dX10_countsWords_23 rfl 2 rfl ?_
    refine pw_iload_n dX10_countsWords_24 rfl 1 rfl ?_
    refine pw_icmp_ge (tgt := 85) dX10_countsWords_25 (by decide) (fun hc => ?_) (fun hc => ?_)
    · have h := h.1 hc
      exact pw_return dX10_countsWords_85 rfl ⟨rfl, h⟩
    · have h := h.2 hc
      refine pw_iconst (v := (0 : Int32)) dX10_countsWords_28 (by decide) ?_
      refine pw_istore_n (lv' := [(3, .int (0 : Int32)), (0, .ref (ev_ad E 49)), (1, .int x1), (2, .int x2)]) dX10_countsWords_29 rfl (by decide) rfl ?_
      refine pw_loc (lv' := [(0, .ref (ev_ad E 49)), (1, .int x1), (2, .int x2), (3, .int (0 : Int32))]) [1, 2, 3, 0] rfl ?_
      obtain ⟨kf, h⟩ := h
      exact t_X10_countsWords_30 hE Q (fun y1 y2 G => lp_X10_countsWords_23 Q n y1 y2 G) ih kf _ _ _ _ h
def lp_X10_countsWords_2 (Q : Int32 → GS → Prop)  : Nat → Int32 → Int32 → GS → Prop
  | 0, _, _, _ => False
  | n + 1, x1, x2, G => (((61 : Int32) ≤ x2 → (∃ kf, lp_X10_countsWords_23 Q kf x1 (0 : Int32) G)) ∧ (¬ (61 : Int32) ≤ x2 → (vp_in x2 61 ∧ lp_X10_countsWords_2 Q n x1 (x2 + 1) (gu_ G 72 x2.toNatClampNeg (0 : Int32)))))
set_option maxRecDepth 100000 in
set_option maxHeartbeats 4000000 in
theorem t_X10_countsWords_2 {E : EV} (hE : EI_ E) (Q : Int32 → GS → Prop)  : ∀ (n : Nat) (x1 : Int32) (x2 : Int32) (G : GS), lp_X10_countsWords_2 Q n x1 x2 G → PW_ E mi_X10_countsWords (rm_ 1) 0 0 2 [(0, .ref (ev_ad E 49)), (1, .int x1), (2, .int x2)] [] G (qv_ Q) := by
  intro n
  induction n with
  | zero => intro x1 x2 G h; exact h.elim
  | succ n ih =>
    intro x1 x2 G h
    refine pw_iload_n dX10_countsWords_2 rfl 2 rfl ?_
    refine pw_bipush (v := (61 : Int32)) dX10_countsWords_3 (by decide) ?_
    refine pw_icmp_ge (tgt := 21) dX10_countsWords_5 (by decide) (fun hc => ?_) (fun hc => ?_)
    · have h := h.1 hc
      refine pw_iconst (v := (0 : Int32)) dX10_countsWords_21 (by decide) ?_
      refine pw_istore_n (lv' := [(2, .int (0 : Int32)), (0, .ref (ev_ad E 49)), (1, .int x1)]) dX10_countsWords_22 rfl (by decide) rfl ?_
      refine pw_loc (lv' := [(0, .ref (ev_ad E 49)), (1, .int x1), (2, .int (0 : Int32))]) [1, 2, 0] rfl ?_
      obtain ⟨kf, h⟩ := h
      exact t_X10_countsWords_23 hE Q kf _ _ _ h
    · have h := h.2 hc
      refine pw_aload_n dX10_countsWords_8 rfl 0 rfl ?_
      refine pw_getr (q := 72) dX10_countsWords_9 fa_X10_81 ly_49 rfl ?_
      refine pw_iload_n dX10_countsWords_12 rfl 2 rfl ?_
      refine pw_iconst (v := (0 : Int32)) dX10_countsWords_13 (by decide) ?_
      obtain ⟨hv1, h⟩ := h
      refine pw_iast (z := x2.toNatClampNeg) dX10_countsWords_14 ly_72 hv1 rfl ?_
      refine pw_iinc (k := 2) (v := x2 + 1) (lv' := [(2, .int (x2 + 1)), (0, .ref (ev_ad E 49)), (1, .int x1)]) dX10_countsWords_15 rfl rfl (by decide) rfl ?_
      refine pw_goto (tgt := 2) dX10_countsWords_18 (by decide) ?_
      refine pw_loc (lv' := [(0, .ref (ev_ad E 49)), (1, .int x1), (2, .int (x2 + 1))]) [1, 2, 0] rfl ?_
      exact ih _ _ _ h
def wp_X10_countsWords (a1 : Int32) (G : GS) (Q : Int32 → GS → Prop) : Prop := (∃ kf, lp_X10_countsWords_2 Q kf a1 (0 : Int32) G)
set_option maxRecDepth 100000 in
set_option maxHeartbeats 4000000 in
theorem s_X10_countsWords {E : EV} (hE : EI_ E) {a1 : Int32} {G : GS} {Q : Int32 → GS → Prop} (h : wp_X10_countsWords a1 G Q) : PMet E mi_X10_countsWords 1 [.ref (ev_ad E 49), .int a1] G (qv_ Q) := by
  refine pm_of hE (by decide) (Nat.le_of_ble_eq_true rfl) ?_
  refine pw_loc (lv' := [(0, .ref (ev_ad E 49)), (1, .int a1)]) [0, 1] rfl ?_
  refine pw_iconst (v := (0 : Int32)) dX10_countsWords_0 (by decide) ?_
  refine pw_istore_n (lv' := [(2, .int (0 : Int32)), (0, .ref (ev_ad E 49)), (1, .int a1)]) dX10_countsWords_1 rfl (by decide) rfl ?_
  refine pw_loc (lv' := [(0, .ref (ev_ad E 49)), (1, .int a1), (2, .int (0 : Int32))]) [1, 2, 0] rfl ?_
  obtain ⟨kf, h⟩ := h
  exact t_X10_countsWords_2 hE Q kf _ _ _ h
def lp_X10_areJustTold_63 (Q : Int32 → GS → Prop)  : Nat → Int32 → GS → Prop
  | 0, _, _ => False
  | n + 1, x2, G => (((61 : Int32) ≤ x2 → Q (1 : Int32) G) ∧ (¬ (61 : Int32) ≤ x2 → (vp_in x2 61 ∧ (((G 72 x2.toNatClampNeg) = 0 → lp_X10_areJustTold_63 Q n (x2 + 1) G) ∧ (¬ (G 72 x2.toNatClampNeg) = 0 → Q (0 : Int32) G)))))
set_option maxRecDepth 100000 in
set_option maxHeartbeats 4000000 in
theorem t_X10_areJustTold_63 {E : EV} (hE : EI_ E) (Q : Int32 → GS → Prop)  : ∀ (n : Nat) (x2 : Int32) (G : GS), lp_X10_areJustTold_63 Q n x2 G → PW_ E mi_X10_areJustTold (rm_ 2) 0 0 63 [(0, .ref (ev_ad E 49)), (2, .int x2)] [] G (qi_ Q) := by
  intro n
  induction n with
  | zero => intro x2 G h; exact h.elim
  | succ n ih =>
    intro x2 G h
    refine pw_iload_n dX10_areJustTold_63 rfl 1 rfl ?_
    refine pw_bipush (v := (61 : Int32)) dX10_areJustTold_64 (by decide) ?_
    refine pw_icmp_ge (tgt := 86) dX10_areJustTold_66 (by decide) (fun hc => ?_) (fun hc => ?_)
    · have h := h.1 hc
      refine pw_iconst (v := (1 : Int32)) dX10_areJustTold_86 (by decide) ?_
      exact pw_ireturn dX10_areJustTold_87 rfl rfl ⟨_, rfl, h⟩
    · have h := h.2 hc
      refine pw_aload_n dX10_areJustTold_69 rfl 0 rfl ?_
      refine pw_getr (q := 72) dX10_areJustTold_70 fa_X10_81 ly_49 rfl ?_
      refine pw_iload_n dX10_areJustTold_73 rfl 1 rfl ?_
      obtain ⟨hv5, h⟩ := h
      refine pw_iald (v := G 72 x2.toNatClampNeg) dX10_areJustTold_74 ly_72 hv5 rfl ?_
      refine pw_if_eq (tgt := 80) dX10_areJustTold_75 (by decide) (fun hc => ?_) (fun hc => ?_)
      · have h := h.1 hc
        refine pw_iinc (k := 1) (v := x2 + 1) (lv' := [(2, .int (x2 + 1)), (0, .ref (ev_ad E 49))]) dX10_areJustTold_80 rfl rfl (by decide) rfl ?_
        refine pw_goto (tgt := 63) dX10_areJustTold_83 (by decide) ?_
        refine pw_loc (lv' := [(0, .ref (ev_ad E 49)), (2, .int (x2 + 1))]) [1, 0] rfl ?_
        exact ih _ _ h
      · have h := h.2 hc
        refine pw_iconst (v := (0 : Int32)) dX10_areJustTold_78 (by decide) ?_
        exact pw_ireturn dX10_areJustTold_79 rfl rfl ⟨_, rfl, h⟩
def lp_X10_areJustTold_23 (Q : Int32 → GS → Prop)  : Nat → Int32 → GS → Prop
  | 0, _, _ => False
  | n + 1, x2, G => (((G 49 39) ≤ x2 → (∃ kf, lp_X10_areJustTold_63 Q kf (0 : Int32) G)) ∧ (¬ (G 49 39) ≤ x2 → (vp_in x2 15 ∧ (vp_in (G 70 x2.toNatClampNeg) 61 ∧ lp_X10_areJustTold_23 Q n (x2 + 1) (gu_ G 72 ((G 70 x2.toNatClampNeg).toNatClampNeg) ((G 72 ((G 70 x2.toNatClampNeg).toNatClampNeg)) - (1 : Int32)))))))
set_option maxRecDepth 100000 in
set_option maxHeartbeats 4000000 in
theorem t_X10_areJustTold_23 {E : EV} (hE : EI_ E) (Q : Int32 → GS → Prop)  : ∀ (n : Nat) (x2 : Int32) (G : GS), lp_X10_areJustTold_23 Q n x2 G → PW_ E mi_X10_areJustTold (rm_ 2) 0 0 23 [(0, .ref (ev_ad E 49)), (2, .int x2)] [] G (qi_ Q) := by
  intro n
  induction n with
  | zero => intro x2 G h; exact h.elim
  | succ n ih =>
    intro x2 G h
    refine pw_iload_n dX10_areJustTold_23 rfl 1 rfl ?_
    refine pw_aload_n dX10_areJustTold_24 rfl 0 rfl ?_
    refine pw_geti (v := G 49 39) dX10_areJustTold_25 fa_X10_284 ly_49 rfl rfl ?_
    refine pw_icmp_ge (tgt := 61) dX10_areJustTold_28 (by decide) (fun hc => ?_) (fun hc => ?_)
    · have h := h.1 hc
      refine pw_iconst (v := (0 : Int32)) dX10_areJustTold_61 (by decide) ?_
      refine pw_istore_n (lv' := [(2, .int (0 : Int32)), (0, .ref (ev_ad E 49))]) dX10_areJustTold_62 rfl (by decide) rfl ?_
      refine pw_loc (lv' := [(0, .ref (ev_ad E 49)), (2, .int (0 : Int32))]) [1, 0] rfl ?_
      obtain ⟨kf, h⟩ := h
      exact t_X10_areJustTold_63 hE Q kf _ _ h
    · have h := h.2 hc
      refine pw_aload_n dX10_areJustTold_31 rfl 0 rfl ?_
      refine pw_getr (q := 72) dX10_areJustTold_32 fa_X10_81 ly_49 rfl ?_
      refine pw_aload_n dX10_areJustTold_35 rfl 0 rfl ?_
      refine pw_getr (q := 70) dX10_areJustTold_36 fa_X10_75 ly_49 rfl ?_
      refine pw_iload_n dX10_areJustTold_39 rfl 1 rfl ?_
      obtain ⟨hv3, h⟩ := h
      refine pw_iald (v := G 70 x2.toNatClampNeg) dX10_areJustTold_40 ly_70 hv3 rfl ?_
      refine pw_aload_n dX10_areJustTold_41 rfl 0 rfl ?_
      refine pw_getr (q := 72) dX10_areJustTold_42 fa_X10_81 ly_49 rfl ?_
      refine pw_aload_n dX10_areJustTold_45 rfl 0 rfl ?_
      refine pw_getr (q := 70) dX10_areJustTold_46 fa_X10_75 ly_49 rfl ?_
      refine pw_iload_n dX10_areJustTold_49 rfl 1 rfl ?_
      refine pw_iald (v := G 70 x2.toNatClampNeg) dX10_areJustTold_50 ly_70 hv3 rfl ?_
      obtain ⟨hv4, h⟩ := h
      refine pw_iald (v := G 72 ((G 70 x2.toNatClampNeg).toNatClampNeg)) dX10_areJustTold_51 ly_72 hv4 rfl ?_
      refine pw_iconst (v := (1 : Int32)) dX10_areJustTold_52 (by decide) ?_
      refine pw_isub dX10_areJustTold_53 ?_
      refine pw_iast (z := ((G 70 x2.toNatClampNeg).toNatClampNeg)) dX10_areJustTold_54 ly_72 hv4 rfl ?_
      refine pw_iinc (k := 1) (v := x2 + 1) (lv' := [(2, .int (x2 + 1)), (0, .ref (ev_ad E 49))]) dX10_areJustTold_55 rfl rfl (by decide) rfl ?_
      refine pw_goto (tgt := 23) dX10_areJustTold_58 (by decide) ?_
      refine pw_loc (lv' := [(0, .ref (ev_ad E 49)), (2, .int (x2 + 1))]) [1, 0] rfl ?_
      exact ih _ _ h
def wp_X10_areJustTold (a1 : Int32) (G : GS) (Q : Int32 → GS → Prop) : Prop := ((((a1 * (a1 - (1 : Int32))) / (2 : Int32)) = (G 49 39) → wp_X10_countsWords a1 G (fun _ G2 => (∃ kf, lp_X10_areJustTold_23 Q kf (0 : Int32) G2))) ∧ (¬ ((a1 * (a1 - (1 : Int32))) / (2 : Int32)) = (G 49 39) → Q (0 : Int32) G))
set_option maxRecDepth 100000 in
set_option maxHeartbeats 4000000 in
theorem s_X10_areJustTold {E : EV} (hE : EI_ E) {a1 : Int32} {G : GS} {Q : Int32 → GS → Prop} (h : wp_X10_areJustTold a1 G Q) : PMet E mi_X10_areJustTold 2 [.ref (ev_ad E 49), .int a1] G (qi_ Q) := by
  refine pm_of hE (by decide) (Nat.le_of_ble_eq_true rfl) ?_
  refine pw_loc (lv' := [(0, .ref (ev_ad E 49)), (1, .int a1)]) [0, 1] rfl ?_
  refine pw_iload_n dX10_areJustTold_0 rfl 1 rfl ?_
  refine pw_iload_n dX10_areJustTold_1 rfl 1 rfl ?_
  refine pw_iconst (v := (1 : Int32)) dX10_areJustTold_2 (by decide) ?_
  refine pw_isub dX10_areJustTold_3 ?_
  refine pw_imul dX10_areJustTold_4 ?_
  refine pw_iconst (v := (2 : Int32)) dX10_areJustTold_5 (by decide) ?_
  refine pw_idiv dX10_areJustTold_6 (by decide) ?_
  refine pw_aload_n dX10_areJustTold_7 rfl 0 rfl ?_
  refine pw_geti (v := G 49 39) dX10_areJustTold_8 fa_X10_284 ly_49 rfl rfl ?_
  refine pw_icmp_eq (tgt := 16) dX10_areJustTold_11 (by decide) (fun hc => ?_) (fun hc => ?_)
  · have h := h.1 hc
    refine pw_aload_n dX10_areJustTold_16 rfl 0 rfl ?_
    refine pw_iload_n dX10_areJustTold_17 rfl 1 rfl ?_
    refine pw_callV (As := [.int a1]) (rest := []) (s_X10_countsWords hE h) dX10_areJustTold_18 ly_49 rfl (Or.inl ml_X10_287) cm_X10_countsWords rfl (rm_ok (by decide)) rm_0 (Nat.le_of_ble_eq_true rfl) ?_
    rintro _ G2 ⟨rfl, h⟩
    refine pw_iconst (v := (0 : Int32)) dX10_areJustTold_21 (by decide) ?_
    refine pw_istore_n (lv' := [(2, .int (0 : Int32)), (0, .ref (ev_ad E 49)), (1, .int a1)]) dX10_areJustTold_22 rfl (by decide) rfl ?_
    refine pw_loc (lv' := [(0, .ref (ev_ad E 49)), (2, .int (0 : Int32))]) [1, 0] rfl ?_
    obtain ⟨kf, h⟩ := h
    exact t_X10_areJustTold_23 hE Q kf _ _ h
  · have h := h.2 hc
    refine pw_iconst (v := (0 : Int32)) dX10_areJustTold_14 (by decide) ?_
    exact pw_ireturn dX10_areJustTold_15 rfl rfl ⟨_, rfl, h⟩
def lp_X10_nextRow_56 (Q : Int32 → GS → Prop)  : Nat → Int32 → Int32 → GS → Prop
  | 0, _, _, _ => False
  | n + 1, x1, x4, G => ((x1 ≤ x4 → Q (1 : Int32) G) ∧ (¬ x1 ≤ x4 → (vp_in (x4 - (1 : Int32)) 6 ∧ (vp_in x4 6 ∧ lp_X10_nextRow_56 Q n x1 (x4 + 1) (gu_ G 71 x4.toNatClampNeg ((G 71 ((x4 - (1 : Int32)).toNatClampNeg)) + (1 : Int32)))))))
set_option maxRecDepth 100000 in
set_option maxHeartbeats 4000000 in
theorem t_X10_nextRow_56 {E : EV} (hE : EI_ E) (Q : Int32 → GS → Prop)  : ∀ (n : Nat) (x1 : Int32) (x4 : Int32) (G : GS), lp_X10_nextRow_56 Q n x1 x4 G → PW_ E mi_X10_nextRow (rm_ 1) 0 0 56 [(0, .ref (ev_ad E 49)), (1, .int x1), (4, .int x4)] [] G (qi_ Q) := by
  intro n
  induction n with
  | zero => intro x1 x4 G h; exact h.elim
  | succ n ih =>
    intro x1 x4 G h
    refine pw_iload dX10_nextRow_56 2 rfl ?_
    refine pw_iload_n dX10_nextRow_58 rfl 1 rfl ?_
    refine pw_icmp_ge (tgt := 86) dX10_nextRow_59 (by decide) (fun hc => ?_) (fun hc => ?_)
    · have h := h.1 hc
      refine pw_iconst (v := (1 : Int32)) dX10_nextRow_86 (by decide) ?_
      exact pw_ireturn dX10_nextRow_87 rfl rfl ⟨_, rfl, h⟩
    · have h := h.2 hc
      refine pw_aload_n dX10_nextRow_62 rfl 0 rfl ?_
      refine pw_getr (q := 71) dX10_nextRow_63 fa_X10_78 ly_49 rfl ?_
      refine pw_iload dX10_nextRow_66 2 rfl ?_
      refine pw_aload_n dX10_nextRow_68 rfl 0 rfl ?_
      refine pw_getr (q := 71) dX10_nextRow_69 fa_X10_78 ly_49 rfl ?_
      refine pw_iload dX10_nextRow_72 2 rfl ?_
      refine pw_iconst (v := (1 : Int32)) dX10_nextRow_74 (by decide) ?_
      refine pw_isub dX10_nextRow_75 ?_
      obtain ⟨hv3, h⟩ := h
      refine pw_iald (v := G 71 ((x4 - (1 : Int32)).toNatClampNeg)) dX10_nextRow_76 ly_71 hv3 rfl ?_
      refine pw_iconst (v := (1 : Int32)) dX10_nextRow_77 (by decide) ?_
      refine pw_iadd dX10_nextRow_78 ?_
      obtain ⟨hv4, h⟩ := h
      refine pw_iast (z := x4.toNatClampNeg) dX10_nextRow_79 ly_71 hv4 rfl ?_
      refine pw_iinc (k := 2) (v := x4 + 1) (lv' := [(4, .int (x4 + 1)), (0, .ref (ev_ad E 49)), (1, .int x1)]) dX10_nextRow_80 rfl rfl (by decide) rfl ?_
      refine pw_goto (tgt := 56) dX10_nextRow_83 (by decide) ?_
      refine pw_loc (lv' := [(0, .ref (ev_ad E 49)), (1, .int x1), (4, .int (x4 + 1))]) [1, 2, 0] rfl ?_
      exact ih _ _ _ h
def bk_X10_nextRow_31 (Q : Int32 → GS → Prop)  (x1 : Int32) (x3 : Int32) (G : GS) : Prop := ((0 < x3 → (vp_in x3 6 ∧ (∃ kf, lp_X10_nextRow_56 Q kf x1 (x3 + (1 : Int32)) (gu_ G 71 x3.toNatClampNeg ((G 71 x3.toNatClampNeg) + (1 : Int32)))))) ∧ (¬ 0 < x3 → Q (0 : Int32) G))
set_option maxRecDepth 100000 in
set_option maxHeartbeats 4000000 in
theorem t_X10_nextRow_31 {E : EV} (hE : EI_ E) (Q : Int32 → GS → Prop)  {x1 : Int32} {x3 : Int32} {G : GS} (h : bk_X10_nextRow_31 Q x1 x3 G) : PW_ E mi_X10_nextRow (rm_ 1) 0 0 31 [(0, .ref (ev_ad E 49)), (1, .int x1), (3, .int x3)] [] G (qi_ Q) := by
  refine pw_iload_n dX10_nextRow_31 rfl 2 rfl ?_
  refine pw_if_gt (tgt := 37) dX10_nextRow_32 (by decide) (fun hc => ?_) (fun hc => ?_)
  · have h := h.1 hc
    refine pw_aload_n dX10_nextRow_37 rfl 0 rfl ?_
    refine pw_getr (q := 71) dX10_nextRow_38 fa_X10_78 ly_49 rfl ?_
    refine pw_iload_n dX10_nextRow_41 rfl 2 rfl ?_
    refine pw_aload_n dX10_nextRow_42 rfl 0 rfl ?_
    refine pw_getr (q := 71) dX10_nextRow_43 fa_X10_78 ly_49 rfl ?_
    refine pw_iload_n dX10_nextRow_46 rfl 2 rfl ?_
    obtain ⟨hv2, h⟩ := h
    refine pw_iald (v := G 71 x3.toNatClampNeg) dX10_nextRow_47 ly_71 hv2 rfl ?_
    refine pw_iconst (v := (1 : Int32)) dX10_nextRow_48 (by decide) ?_
    refine pw_iadd dX10_nextRow_49 ?_
    refine pw_iast (z := x3.toNatClampNeg) dX10_nextRow_50 ly_71 hv2 rfl ?_
    refine pw_iload_n dX10_nextRow_51 rfl 2 rfl ?_
    refine pw_iconst (v := (1 : Int32)) dX10_nextRow_52 (by decide) ?_
    refine pw_iadd dX10_nextRow_53 ?_
    refine pw_istore (lv' := [(4, .int (x3 + (1 : Int32))), (0, .ref (ev_ad E 49)), (1, .int x1), (3, .int x3)]) dX10_nextRow_54 (by decide) rfl ?_
    refine pw_loc (lv' := [(0, .ref (ev_ad E 49)), (1, .int x1), (4, .int (x3 + (1 : Int32)))]) [1, 2, 0] rfl ?_
    obtain ⟨kf, h⟩ := h
    exact t_X10_nextRow_56 hE Q kf _ _ _ h
  · have h := h.2 hc
    refine pw_iconst (v := (0 : Int32)) dX10_nextRow_35 (by decide) ?_
    exact pw_ireturn dX10_nextRow_36 rfl rfl ⟨_, rfl, h⟩
def lp_X10_nextRow_4 (Q : Int32 → GS → Prop)  : Nat → Int32 → Int32 → Int32 → GS → Prop
  | 0, _, _, _, _ => False
  | n + 1, x1, x2, x3, G => ((x3 ≤ 0 → bk_X10_nextRow_31 Q x1 x3 G) ∧ (¬ x3 ≤ 0 → (vp_in x3 6 ∧ ((¬ (G 71 x3.toNatClampNeg) = (x2 - ((x1 - (1 : Int32)) - x3)) → bk_X10_nextRow_31 Q x1 x3 G) ∧ ((G 71 x3.toNatClampNeg) = (x2 - ((x1 - (1 : Int32)) - x3)) → lp_X10_nextRow_4 Q n x1 x2 (x3 - (1 : Int32)) G)))))
set_option maxRecDepth 100000 in
set_option maxHeartbeats 4000000 in
theorem t_X10_nextRow_4 {E : EV} (hE : EI_ E) (Q : Int32 → GS → Prop)  : ∀ (n : Nat) (x1 : Int32) (x2 : Int32) (x3 : Int32) (G : GS), lp_X10_nextRow_4 Q n x1 x2 x3 G → PW_ E mi_X10_nextRow (rm_ 1) 0 0 4 [(0, .ref (ev_ad E 49)), (1, .int x1), (2, .int x2), (3, .int x3)] [] G (qi_ Q) := by
  intro n
  induction n with
  | zero => intro x1 x2 x3 G h; exact h.elim
  | succ n ih =>
    intro x1 x2 x3 G h
    refine pw_iload_n dX10_nextRow_4 rfl 3 rfl ?_
    refine pw_if_le (tgt := 31) dX10_nextRow_5 (by decide) (fun hc => ?_) (fun hc => ?_)
    · have h := h.1 hc
      refine pw_loc (lv' := [(0, .ref (ev_ad E 49)), (1, .int x1), (3, .int x3)]) [0, 1, 3] rfl ?_
      exact t_X10_nextRow_31 hE Q h
    · have h := h.2 hc
      refine pw_aload_n dX10_nextRow_8 rfl 0 rfl ?_
      refine pw_getr (q := 71) dX10_nextRow_9 fa_X10_78 ly_49 rfl ?_
      refine pw_iload_n dX10_nextRow_12 rfl 3 rfl ?_
      obtain ⟨hv1, h⟩ := h
      refine pw_iald (v := G 71 x3.toNatClampNeg) dX10_nextRow_13 ly_71 hv1 rfl ?_
      refine pw_iload_n dX10_nextRow_14 rfl 2 rfl ?_
      refine pw_iload_n dX10_nextRow_15 rfl 1 rfl ?_
      refine pw_iconst (v := (1 : Int32)) dX10_nextRow_16 (by decide) ?_
      refine pw_isub dX10_nextRow_17 ?_
      refine pw_iload_n dX10_nextRow_18 rfl 3 rfl ?_
      refine pw_isub dX10_nextRow_19 ?_
      refine pw_isub dX10_nextRow_20 ?_
      refine pw_icmp_ne (tgt := 31) dX10_nextRow_21 (by decide) (fun hc => ?_) (fun hc => ?_)
      · have h := h.1 hc
        refine pw_loc (lv' := [(0, .ref (ev_ad E 49)), (1, .int x1), (3, .int x3)]) [0, 1, 3] rfl ?_
        exact t_X10_nextRow_31 hE Q h
      · have h := h.2 hc
        refine pw_iload_n dX10_nextRow_24 rfl 3 rfl ?_
        refine pw_iconst (v := (1 : Int32)) dX10_nextRow_25 (by decide) ?_
        refine pw_isub dX10_nextRow_26 ?_
        refine pw_istore_n (lv' := [(3, .int (x3 - (1 : Int32))), (0, .ref (ev_ad E 49)), (1, .int x1), (2, .int x2)]) dX10_nextRow_27 rfl (by decide) rfl ?_
        refine pw_goto (tgt := 4) dX10_nextRow_28 (by decide) ?_
        refine pw_loc (lv' := [(0, .ref (ev_ad E 49)), (1, .int x1), (2, .int x2), (3, .int (x3 - (1 : Int32)))]) [1, 2, 3, 0] rfl ?_
        exact ih _ _ _ _ h
def wp_X10_nextRow (a1 : Int32) (a2 : Int32) (G : GS) (Q : Int32 → GS → Prop) : Prop := (∃ kf, lp_X10_nextRow_4 Q kf a1 a2 (a1 - (1 : Int32)) G)
set_option maxRecDepth 100000 in
set_option maxHeartbeats 4000000 in
theorem s_X10_nextRow {E : EV} (hE : EI_ E) {a1 : Int32} {a2 : Int32} {G : GS} {Q : Int32 → GS → Prop} (h : wp_X10_nextRow a1 a2 G Q) : PMet E mi_X10_nextRow 1 [.ref (ev_ad E 49), .int a1, .int a2] G (qi_ Q) := by
  refine pm_of hE (by decide) (Nat.le_of_ble_eq_true rfl) ?_
  refine pw_loc (lv' := [(0, .ref (ev_ad E 49)), (1, .int a1), (2, .int a2)]) [0, 1, 2] rfl ?_
  refine pw_iload_n dX10_nextRow_0 rfl 1 rfl ?_
  refine pw_iconst (v := (1 : Int32)) dX10_nextRow_1 (by decide) ?_
  refine pw_isub dX10_nextRow_2 ?_
  refine pw_istore_n (lv' := [(3, .int (a1 - (1 : Int32))), (0, .ref (ev_ad E 49)), (1, .int a1), (2, .int a2)]) dX10_nextRow_3 rfl (by decide) rfl ?_
  refine pw_loc (lv' := [(0, .ref (ev_ad E 49)), (1, .int a1), (2, .int a2), (3, .int (a1 - (1 : Int32)))]) [1, 2, 3, 0] rfl ?_
  obtain ⟨kf, h⟩ := h
  exact t_X10_nextRow_4 hE Q kf _ _ _ _ h
def lp_X10_fits_40 (Q : Int32 → GS → Prop) (R25 : Int32 → Int32 → Int32 → GS → Prop)  : Nat → Int32 → Int32 → Int32 → GS → Prop
  | 0, _, _, _, _ => False
  | n + 1, x1, x2, x4, G => ((x1 ≤ x4 → wp_X10_nextRow x1 (24 : Int32) G (fun r7 G8 => R25 x1 (x2 + (1 : Int32)) r7 G8)) ∧ (¬ x1 ≤ x4 → ((¬ x2 = 0 → wp_X10_nextRow x1 (24 : Int32) G (fun r9 G10 => R25 x1 (x2 + (1 : Int32)) r9 G10)) ∧ (x2 = 0 → (vp_in x4 6 ∧ lp_X10_fits_40 Q R25 n x1 x2 (x4 + 1) (gu_ G 73 x4.toNatClampNeg (G 71 x4.toNatClampNeg)))))))
set_option maxRecDepth 100000 in
set_option maxHeartbeats 4000000 in
theorem t_X10_fits_40 {E : EV} (hE : EI_ E) (Q : Int32 → GS → Prop) (R25 : Int32 → Int32 → Int32 → GS → Prop) (hR25 : ∀ (x1 : Int32) (x2 : Int32) (x3 : Int32) (G : GS), R25 x1 x2 x3 G → PW_ E mi_X10_fits (rm_ 3) 0 0 25 [(0, .ref (ev_ad E 49)), (1, .int x1), (2, .int x2), (3, .int x3)] [] G (qi_ Q))  : ∀ (n : Nat) (x1 : Int32) (x2 : Int32) (x4 : Int32) (G : GS), lp_X10_fits_40 Q R25 n x1 x2 x4 G → PW_ E mi_X10_fits (rm_ 3) 0 0 40 [(0, .ref (ev_ad E 49)), (1, .int x1), (2, .int x2), (4, .int x4)] [] G (qi_ Q) := by
  intro n
  induction n with
  | zero => intro x1 x2 x4 G h; exact h.elim
  | succ n ih =>
    intro x1 x2 x4 G h
    refine pw_iload dX10_fits_40 3 rfl ?_
    refine pw_iload_n dX10_fits_42 rfl 1 rfl ?_
    refine pw_icmp_ge (tgt := 70) dX10_fits_43 (by decide) (fun hc => ?_) (fun hc => ?_)
    · have h := h.1 hc
      refine pw_iload_n dX10_fits_70 rfl 2 rfl ?_
      refine pw_iconst (v := (1 : Int32)) dX10_fits_71 (by decide) ?_
      refine pw_iadd dX10_fits_72 ?_
      refine pw_istore_n (lv' := [(2, .int (x2 + (1 : Int32))), (0, .ref (ev_ad E 49)), (1, .int x1), (4, .int x4)]) dX10_fits_73 rfl (by decide) rfl ?_
      refine pw_aload_n dX10_fits_74 rfl 1 rfl ?_
      refine pw_iload_n dX10_fits_75 rfl 2 rfl ?_
      refine pw_bipush (v := (24 : Int32)) dX10_fits_76 (by decide) ?_
      refine pw_callV (As := [.int x1, .int (24 : Int32)]) (rest := []) (s_X10_nextRow hE h) dX10_fits_78 ly_49 rfl (Or.inl ml_X10_296) cm_X10_nextRow rfl (rm_ok (by decide)) rm_0 (Nat.le_of_ble_eq_true rfl) ?_
      rintro _ G8 ⟨r7, rfl, h⟩
      refine pw_istore_n (lv' := [(3, .int r7), (2, .int (x2 + (1 : Int32))), (0, .ref (ev_ad E 49)), (1, .int x1), (4, .int x4)]) dX10_fits_81 rfl (by decide) rfl ?_
      refine pw_goto (tgt := 25) dX10_fits_82 (by decide) ?_
      refine pw_loc (lv' := [(0, .ref (ev_ad E 49)), (1, .int x1), (2, .int (x2 + (1 : Int32))), (3, .int r7)]) [2, 3, 1, 0] rfl ?_
      exact hR25 _ _ _ _ h
    · have h := h.2 hc
      refine pw_iload_n dX10_fits_46 rfl 2 rfl ?_
      refine pw_if_ne (tgt := 70) dX10_fits_47 (by decide) (fun hc => ?_) (fun hc => ?_)
      · have h := h.1 hc
        refine pw_iload_n dX10_fits_70 rfl 2 rfl ?_
        refine pw_iconst (v := (1 : Int32)) dX10_fits_71 (by decide) ?_
        refine pw_iadd dX10_fits_72 ?_
        refine pw_istore_n (lv' := [(2, .int (x2 + (1 : Int32))), (0, .ref (ev_ad E 49)), (1, .int x1), (4, .int x4)]) dX10_fits_73 rfl (by decide) rfl ?_
        refine pw_aload_n dX10_fits_74 rfl 1 rfl ?_
        refine pw_iload_n dX10_fits_75 rfl 2 rfl ?_
        refine pw_bipush (v := (24 : Int32)) dX10_fits_76 (by decide) ?_
        refine pw_callV (As := [.int x1, .int (24 : Int32)]) (rest := []) (s_X10_nextRow hE h) dX10_fits_78 ly_49 rfl (Or.inl ml_X10_296) cm_X10_nextRow rfl (rm_ok (by decide)) rm_0 (Nat.le_of_ble_eq_true rfl) ?_
        rintro _ G10 ⟨r9, rfl, h⟩
        refine pw_istore_n (lv' := [(3, .int r9), (2, .int (x2 + (1 : Int32))), (0, .ref (ev_ad E 49)), (1, .int x1), (4, .int x4)]) dX10_fits_81 rfl (by decide) rfl ?_
        refine pw_goto (tgt := 25) dX10_fits_82 (by decide) ?_
        refine pw_loc (lv' := [(0, .ref (ev_ad E 49)), (1, .int x1), (2, .int (x2 + (1 : Int32))), (3, .int r9)]) [2, 3, 1, 0] rfl ?_
        exact hR25 _ _ _ _ h
      · have h := h.2 hc
        refine pw_aload_n dX10_fits_50 rfl 0 rfl ?_
        refine pw_getr (q := 73) dX10_fits_51 fa_X10_84 ly_49 rfl ?_
        refine pw_iload dX10_fits_54 3 rfl ?_
        refine pw_aload_n dX10_fits_56 rfl 0 rfl ?_
        refine pw_getr (q := 71) dX10_fits_57 fa_X10_78 ly_49 rfl ?_
        refine pw_iload dX10_fits_60 3 rfl ?_
        obtain ⟨hv11, h⟩ := h
        refine pw_iald (v := G 71 x4.toNatClampNeg) dX10_fits_62 ly_71 hv11 rfl ?_
        refine pw_iast (z := x4.toNatClampNeg) dX10_fits_63 ly_73 hv11 rfl ?_
        refine pw_iinc (k := 3) (v := x4 + 1) (lv' := [(4, .int (x4 + 1)), (0, .ref (ev_ad E 49)), (1, .int x1), (2, .int x2)]) dX10_fits_64 rfl rfl (by decide) rfl ?_
        refine pw_goto (tgt := 40) dX10_fits_67 (by decide) ?_
        refine pw_loc (lv' := [(0, .ref (ev_ad E 49)), (1, .int x1), (2, .int x2), (4, .int (x4 + 1))]) [1, 2, 3, 0] rfl ?_
        exact ih _ _ _ _ h
def lp_X10_fits_25 (Q : Int32 → GS → Prop)  : Nat → Int32 → Int32 → Int32 → GS → Prop
  | 0, _, _, _, _ => False
  | n + 1, x1, x2, x3, G => ((x3 = 0 → Q x2 G) ∧ (¬ x3 = 0 → wp_X10_areJustTold x1 G (fun r3 G4 => ((r3 = 0 → wp_X10_nextRow x1 (24 : Int32) G4 (fun r5 G6 => lp_X10_fits_25 Q n x1 x2 r5 G6)) ∧ (¬ r3 = 0 → (∃ kf, lp_X10_fits_40 Q (fun y1 y2 y3 G => lp_X10_fits_25 Q n y1 y2 y3 G) kf x1 x2 (0 : Int32) G4))))))
set_option maxRecDepth 100000 in
set_option maxHeartbeats 4000000 in
theorem t_X10_fits_25 {E : EV} (hE : EI_ E) (Q : Int32 → GS → Prop)  : ∀ (n : Nat) (x1 : Int32) (x2 : Int32) (x3 : Int32) (G : GS), lp_X10_fits_25 Q n x1 x2 x3 G → PW_ E mi_X10_fits (rm_ 3) 0 0 25 [(0, .ref (ev_ad E 49)), (1, .int x1), (2, .int x2), (3, .int x3)] [] G (qi_ Q) := by
  intro n
  induction n with
  | zero => intro x1 x2 x3 G h; exact h.elim
  | succ n ih =>
    intro x1 x2 x3 G h
    refine pw_iload_n dX10_fits_25 rfl 3 rfl ?_
    refine pw_if_eq (tgt := 85) dX10_fits_26 (by decide) (fun hc => ?_) (fun hc => ?_)
    · have h := h.1 hc
      refine pw_iload_n dX10_fits_85 rfl 2 rfl ?_
      exact pw_ireturn dX10_fits_86 rfl rfl ⟨_, rfl, h⟩
    · have h := h.2 hc
      refine pw_aload_n dX10_fits_29 rfl 0 rfl ?_
      refine pw_iload_n dX10_fits_30 rfl 1 rfl ?_
      refine pw_callV (As := [.int x1]) (rest := []) (s_X10_areJustTold hE h) dX10_fits_31 ly_49 rfl (Or.inl ml_X10_293) cm_X10_areJustTold rfl (rm_ok (by decide)) rm_0 (Nat.le_of_ble_eq_true rfl) ?_
      rintro _ G4 ⟨r3, rfl, h⟩
      refine pw_if_eq (tgt := 74) dX10_fits_34 (by decide) (fun hc => ?_) (fun hc => ?_)
      · have h := h.1 hc
        refine pw_aload_n dX10_fits_74 rfl 0 rfl ?_
        refine pw_iload_n dX10_fits_75 rfl 1 rfl ?_
        refine pw_bipush (v := (24 : Int32)) dX10_fits_76 (by decide) ?_
        refine pw_callV (As := [.int x1, .int (24 : Int32)]) (rest := []) (s_X10_nextRow hE h) dX10_fits_78 ly_49 rfl (Or.inl ml_X10_296) cm_X10_nextRow rfl (rm_ok (by decide)) rm_0 (Nat.le_of_ble_eq_true rfl) ?_
        rintro _ G6 ⟨r5, rfl, h⟩
        refine pw_istore_n (lv' := [(3, .int r5), (0, .ref (ev_ad E 49)), (1, .int x1), (2, .int x2)]) dX10_fits_81 rfl (by decide) rfl ?_
        refine pw_goto (tgt := 25) dX10_fits_82 (by decide) ?_
        refine pw_loc (lv' := [(0, .ref (ev_ad E 49)), (1, .int x1), (2, .int x2), (3, .int r5)]) [1, 2, 3, 0] rfl ?_
        exact ih _ _ _ _ h
      · have h := h.2 hc
        refine pw_iconst (v := (0 : Int32)) dX10_fits_37 (by decide) ?_
        refine pw_istore (lv' := [(4, .int (0 : Int32)), (0, .ref (ev_ad E 49)), (1, .int x1), (2, .int x2), (3, .int x3)]) dX10_fits_38 (by decide) rfl ?_
        refine pw_loc (lv' := [(0, .ref (ev_ad E 49)), (1, .int x1), (2, .int x2), (4, .int (0 : Int32))]) [1, 2, 3, 0] rfl ?_
        obtain ⟨kf, h⟩ := h
        exact t_X10_fits_40 hE Q (fun y1 y2 y3 G => lp_X10_fits_25 Q n y1 y2 y3 G) ih kf _ _ _ _ h
def wp_X10_fits (a1 : Int32) (G : GS) (Q : Int32 → GS → Prop) : Prop := ((((a1 * (a1 - (1 : Int32))) / (2 : Int32)) = (G 49 39) → wp_X10_firstRow a1 G (fun _ G2 => (∃ kf, lp_X10_fits_25 Q kf a1 (0 : Int32) (1 : Int32) G2))) ∧ (¬ ((a1 * (a1 - (1 : Int32))) / (2 : Int32)) = (G 49 39) → Q (0 : Int32) G))
set_option maxRecDepth 100000 in
set_option maxHeartbeats 4000000 in
theorem s_X10_fits {E : EV} (hE : EI_ E) {a1 : Int32} {G : GS} {Q : Int32 → GS → Prop} (h : wp_X10_fits a1 G Q) : PMet E mi_X10_fits 3 [.ref (ev_ad E 49), .int a1] G (qi_ Q) := by
  refine pm_of hE (by decide) (Nat.le_of_ble_eq_true rfl) ?_
  refine pw_loc (lv' := [(0, .ref (ev_ad E 49)), (1, .int a1)]) [0, 1] rfl ?_
  refine pw_iconst (v := (0 : Int32)) dX10_fits_0 (by decide) ?_
  refine pw_istore_n (lv' := [(2, .int (0 : Int32)), (0, .ref (ev_ad E 49)), (1, .int a1)]) dX10_fits_1 rfl (by decide) rfl ?_
  refine pw_iload_n dX10_fits_2 rfl 2 rfl ?_
  refine pw_iload_n dX10_fits_3 rfl 2 rfl ?_
  refine pw_iconst (v := (1 : Int32)) dX10_fits_4 (by decide) ?_
  refine pw_isub dX10_fits_5 ?_
  refine pw_imul dX10_fits_6 ?_
  refine pw_iconst (v := (2 : Int32)) dX10_fits_7 (by decide) ?_
  refine pw_idiv dX10_fits_8 (by decide) ?_
  refine pw_aload_n dX10_fits_9 rfl 1 rfl ?_
  refine pw_geti (v := G 49 39) dX10_fits_10 fa_X10_284 ly_49 rfl rfl ?_
  refine pw_icmp_eq (tgt := 18) dX10_fits_13 (by decide) (fun hc => ?_) (fun hc => ?_)
  · have h := h.1 hc
    refine pw_aload_n dX10_fits_18 rfl 1 rfl ?_
    refine pw_iload_n dX10_fits_19 rfl 2 rfl ?_
    refine pw_callV (As := [.int a1]) (rest := []) (s_X10_firstRow hE h) dX10_fits_20 ly_49 rfl (Or.inl ml_X10_290) cm_X10_firstRow rfl (rm_ok (by decide)) rm_0 (Nat.le_of_ble_eq_true rfl) ?_
    rintro _ G2 ⟨rfl, h⟩
    refine pw_iconst (v := (1 : Int32)) dX10_fits_23 (by decide) ?_
    refine pw_istore_n (lv' := [(3, .int (1 : Int32)), (2, .int (0 : Int32)), (0, .ref (ev_ad E 49)), (1, .int a1)]) dX10_fits_24 rfl (by decide) rfl ?_
    refine pw_loc (lv' := [(0, .ref (ev_ad E 49)), (1, .int a1), (2, .int (0 : Int32)), (3, .int (1 : Int32))]) [2, 3, 1, 0] rfl ?_
    obtain ⟨kf, h⟩ := h
    exact t_X10_fits_25 hE Q kf _ _ _ _ h
  · have h := h.2 hc
    refine pw_iconst (v := (0 : Int32)) dX10_fits_16 (by decide) ?_
    exact pw_ireturn dX10_fits_17 rfl rfl ⟨_, rfl, h⟩
