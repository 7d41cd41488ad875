def lp_X10_keepsRows_131 (Q : Int32 → GS → Prop)  : Nat → Int32 → GS → Prop
  | 0, _, _ => False
  | n + 1, x1, G => (((15 : Int32) ≤ x1 → Q 0 G) ∧ (¬ (15 : Int32) ≤ x1 → (vp_in x1 15 ∧ wp_X10_kept (G 70 x1.toNatClampNeg) G (fun r17 G18 => lp_X10_keepsRows_131 Q n (x1 + 1) (gu_ G18 70 x1.toNatClampNeg r17)))))
set_option maxRecDepth 100000 in
set_option maxHeartbeats 4000000 in
theorem t_X10_keepsRows_131 {E : EV} (hE : EI_ E) (Q : Int32 → GS → Prop)  : ∀ (n : Nat) (x1 : Int32) (G : GS), lp_X10_keepsRows_131 Q n x1 G → PW_ E mi_X10_keepsRows (rm_ 2) 0 0 131 [(0, .ref (ev_ad E 49)), (1, .int x1)] [] G (qv_ Q) := by
  intro n
  induction n with
  | zero => intro x1 G h; exact h.elim
  | succ n ih =>
    intro x1 G h
    refine pw_iload_n dX10_keepsRows_131 rfl 1 rfl ?_
    refine pw_bipush (v := (15 : Int32)) dX10_keepsRows_132 (by decide) ?_
    refine pw_icmp_ge (tgt := 159) dX10_keepsRows_134 (by decide) (fun hc => ?_) (fun hc => ?_)
    · have h := h.1 hc
      exact pw_return dX10_keepsRows_159 rfl ⟨rfl, h⟩
    · have h := h.2 hc
      refine pw_aload_n dX10_keepsRows_137 rfl 0 rfl ?_
      refine pw_getr (q := 70) dX10_keepsRows_138 fa_X10_75 ly_49 rfl ?_
      refine pw_iload_n dX10_keepsRows_141 rfl 1 rfl ?_
      refine pw_aload_n dX10_keepsRows_142 rfl 0 rfl ?_
      refine pw_aload_n dX10_keepsRows_143 rfl 0 rfl ?_
      refine pw_getr (q := 70) dX10_keepsRows_144 fa_X10_75 ly_49 rfl ?_
      refine pw_iload_n dX10_keepsRows_147 rfl 1 rfl ?_
      obtain ⟨hv16, h⟩ := h
      refine pw_iald (v := G 70 x1.toNatClampNeg) dX10_keepsRows_148 ly_70 hv16 rfl ?_
      refine pw_callV (As := [.int (G 70 x1.toNatClampNeg)]) (rest := [.int x1, .ref (ev_ad E 70)]) (s_X10_kept hE h) dX10_keepsRows_149 ly_49 rfl (Or.inl ml_X10_328) cm_X10_kept rfl (rm_ok (by decide)) rm_0 (Nat.le_of_ble_eq_true rfl) ?_
      rintro _ G18 ⟨r17, rfl, h⟩
      refine pw_iast (z := x1.toNatClampNeg) dX10_keepsRows_152 ly_70 hv16 rfl ?_
      refine pw_iinc (k := 1) (v := x1 + 1) (lv' := [(1, .int (x1 + 1)), (0, .ref (ev_ad E 49))]) dX10_keepsRows_153 rfl rfl (by decide) rfl ?_
      refine pw_goto (tgt := 131) dX10_keepsRows_156 (by decide) ?_
      refine pw_loc (lv' := [(0, .ref (ev_ad E 49)), (1, .int (x1 + 1))]) [1, 0] rfl ?_
      exact ih _ _ h
def lp_X10_keepsRows_73 (Q : Int32 → GS → Prop)  : Nat → Int32 → GS → Prop
  | 0, _, _ => False
  | n + 1, x1, G => (((8 : Int32) ≤ x1 → wp_X10_kept (G 49 39) G (fun r9 G10 => (∃ kf, lp_X10_keepsRows_131 Q kf (0 : Int32) (gu_ G10 49 39 r9)))) ∧ (¬ (8 : Int32) ≤ x1 → (vp_in x1 8 ∧ wp_X10_kept (G 67 x1.toNatClampNeg) G (fun r12 G13 => wp_X10_kept (G13 68 x1.toNatClampNeg) (gu_ G13 67 x1.toNatClampNeg r12) (fun r14 G15 => lp_X10_keepsRows_73 Q n (x1 + 1) (gu_ G15 68 x1.toNatClampNeg r14))))))
set_option maxRecDepth 100000 in
set_option maxHeartbeats 4000000 in
theorem t_X10_keepsRows_73 {E : EV} (hE : EI_ E) (Q : Int32 → GS → Prop)  : ∀ (n : Nat) (x1 : Int32) (G : GS), lp_X10_keepsRows_73 Q n x1 G → PW_ E mi_X10_keepsRows (rm_ 2) 0 0 73 [(0, .ref (ev_ad E 49)), (1, .int x1)] [] G (qv_ Q) := by
  intro n
  induction n with
  | zero => intro x1 G h; exact h.elim
  | succ n ih =>
    intro x1 G h
    refine pw_iload_n dX10_keepsRows_73 rfl 1 rfl ?_
    refine pw_bipush (v := (8 : Int32)) dX10_keepsRows_74 (by decide) ?_
    refine pw_icmp_ge (tgt := 117) dX10_keepsRows_76 (by decide) (fun hc => ?_) (fun hc => ?_)
    · have h := h.1 hc
      refine pw_aload_n dX10_keepsRows_117 rfl 0 rfl ?_
      refine pw_aload_n dX10_keepsRows_118 rfl 0 rfl ?_
      refine pw_aload_n dX10_keepsRows_119 rfl 0 rfl ?_
      refine pw_geti (v := G 49 39) dX10_keepsRows_120 fa_X10_284 ly_49 rfl rfl ?_
      refine pw_callV (As := [.int (G 49 39)]) (rest := [.ref (ev_ad E 49)]) (s_X10_kept hE h) dX10_keepsRows_123 ly_49 rfl (Or.inl ml_X10_328) cm_X10_kept rfl (rm_ok (by decide)) rm_0 (Nat.le_of_ble_eq_true rfl) ?_
      rintro _ G10 ⟨r9, rfl, h⟩
      refine pw_puti dX10_keepsRows_126 fp_X10_284 ly_49 rfl ?_
      refine pw_iconst (v := (0 : Int32)) dX10_keepsRows_129 (by decide) ?_
      refine pw_istore_n (lv' := [(1, .int (0 : Int32)), (0, .ref (ev_ad E 49))]) dX10_keepsRows_130 rfl (by decide) rfl ?_
      refine pw_loc (lv' := [(0, .ref (ev_ad E 49)), (1, .int (0 : Int32))]) [1, 0] rfl ?_
      obtain ⟨kf, h⟩ := h
      exact t_X10_keepsRows_131 hE Q kf _ _ h
    · have h := h.2 hc
      refine pw_aload_n dX10_keepsRows_79 rfl 0 rfl ?_
      refine pw_getr (q := 67) dX10_keepsRows_80 fa_X10_66 ly_49 rfl ?_
      refine pw_iload_n dX10_keepsRows_83 rfl 1 rfl ?_
      refine pw_aload_n dX10_keepsRows_84 rfl 0 rfl ?_
      refine pw_aload_n dX10_keepsRows_85 rfl 0 rfl ?_
      refine pw_getr (q := 67) dX10_keepsRows_86 fa_X10_66 ly_49 rfl ?_
      refine pw_iload_n dX10_keepsRows_89 rfl 1 rfl ?_
      obtain ⟨hv11, h⟩ := h
      refine pw_iald (v := G 67 x1.toNatClampNeg) dX10_keepsRows_90 ly_67 hv11 rfl ?_
      refine pw_callV (As := [.int (G 67 x1.toNatClampNeg)]) (rest := [.int x1, .ref (ev_ad E 67)]) (s_X10_kept hE h) dX10_keepsRows_91 ly_49 rfl (Or.inl ml_X10_328) cm_X10_kept rfl (rm_ok (by decide)) rm_0 (Nat.le_of_ble_eq_true rfl) ?_
      rintro _ G13 ⟨r12, rfl, h⟩
      refine pw_iast (z := x1.toNatClampNeg) dX10_keepsRows_94 ly_67 hv11 rfl ?_
      refine pw_aload_n dX10_keepsRows_95 rfl 0 rfl ?_
      refine pw_getr (q := 68) dX10_keepsRows_96 fa_X10_69 ly_49 rfl ?_
      refine pw_iload_n dX10_keepsRows_99 rfl 1 rfl ?_
      refine pw_aload_n dX10_keepsRows_100 rfl 0 rfl ?_
      refine pw_aload_n dX10_keepsRows_101 rfl 0 rfl ?_
      refine pw_getr (q := 68) dX10_keepsRows_102 fa_X10_69 ly_49 rfl ?_
      refine pw_iload_n dX10_keepsRows_105 rfl 1 rfl ?_
      refine pw_iald (v := G13 68 x1.toNatClampNeg) dX10_keepsRows_106 ly_68 hv11 rfl ?_
      refine pw_callV (As := [.int (G13 68 x1.toNatClampNeg)]) (rest := [.int x1, .ref (ev_ad E 68)]) (s_X10_kept hE h) dX10_keepsRows_107 ly_49 rfl (Or.inl ml_X10_328) cm_X10_kept rfl (rm_ok (by decide)) rm_0 (Nat.le_of_ble_eq_true rfl) ?_
      rintro _ G15 ⟨r14, rfl, h⟩
      refine pw_iast (z := x1.toNatClampNeg) dX10_keepsRows_110 ly_68 hv11 rfl ?_
      refine pw_iinc (k := 1) (v := x1 + 1) (lv' := [(1, .int (x1 + 1)), (0, .ref (ev_ad E 49))]) dX10_keepsRows_111 rfl rfl (by decide) rfl ?_
      refine pw_goto (tgt := 73) dX10_keepsRows_114 (by decide) ?_
      refine pw_loc (lv' := [(0, .ref (ev_ad E 49)), (1, .int (x1 + 1))]) [1, 0] rfl ?_
      exact ih _ _ h
def lp_X10_keepsRows_31 (Q : Int32 → GS → Prop)  : Nat → Int32 → GS → Prop
  | 0, _, _ => False
  | n + 1, x1, G => (((48 : Int32) ≤ x1 → wp_X10_kept (G 49 35) G (fun r4 G5 => (∃ kf, lp_X10_keepsRows_73 Q kf (0 : Int32) (gu_ G5 49 35 r4)))) ∧ (¬ (48 : Int32) ≤ x1 → (vp_in x1 48 ∧ wp_X10_kept (G 66 x1.toNatClampNeg) G (fun r7 G8 => lp_X10_keepsRows_31 Q n (x1 + 1) (gu_ G8 66 x1.toNatClampNeg r7)))))
set_option maxRecDepth 100000 in
set_option maxHeartbeats 4000000 in
theorem t_X10_keepsRows_31 {E : EV} (hE : EI_ E) (Q : Int32 → GS → Prop)  : ∀ (n : Nat) (x1 : Int32) (G : GS), lp_X10_keepsRows_31 Q n x1 G → PW_ E mi_X10_keepsRows (rm_ 2) 0 0 31 [(0, .ref (ev_ad E 49)), (1, .int x1)] [] G (qv_ Q) := by
  intro n
  induction n with
  | zero => intro x1 G h; exact h.elim
  | succ n ih =>
    intro x1 G h
    refine pw_iload_n dX10_keepsRows_31 rfl 1 rfl ?_
    refine pw_bipush (v := (48 : Int32)) dX10_keepsRows_32 (by decide) ?_
    refine pw_icmp_ge (tgt := 59) dX10_keepsRows_34 (by decide) (fun hc => ?_) (fun hc => ?_)
    · have h := h.1 hc
      refine pw_aload_n dX10_keepsRows_59 rfl 0 rfl ?_
      refine pw_aload_n dX10_keepsRows_60 rfl 0 rfl ?_
      refine pw_aload_n dX10_keepsRows_61 rfl 0 rfl ?_
      refine pw_geti (v := G 49 35) dX10_keepsRows_62 fa_X10_269 ly_49 rfl rfl ?_
      refine pw_callV (As := [.int (G 49 35)]) (rest := [.ref (ev_ad E 49)]) (s_X10_kept hE h) dX10_keepsRows_65 ly_49 rfl (Or.inl ml_X10_328) cm_X10_kept rfl (rm_ok (by decide)) rm_0 (Nat.le_of_ble_eq_true rfl) ?_
      rintro _ G5 ⟨r4, rfl, h⟩
      refine pw_puti dX10_keepsRows_68 fp_X10_269 ly_49 rfl ?_
      refine pw_iconst (v := (0 : Int32)) dX10_keepsRows_71 (by decide) ?_
      refine pw_istore_n (lv' := [(1, .int (0 : Int32)), (0, .ref (ev_ad E 49))]) dX10_keepsRows_72 rfl (by decide) rfl ?_
      refine pw_loc (lv' := [(0, .ref (ev_ad E 49)), (1, .int (0 : Int32))]) [1, 0] rfl ?_
      obtain ⟨kf, h⟩ := h
      exact t_X10_keepsRows_73 hE Q kf _ _ h
    · have h := h.2 hc
      refine pw_aload_n dX10_keepsRows_37 rfl 0 rfl ?_
      refine pw_getr (q := 66) dX10_keepsRows_38 fa_X10_63 ly_49 rfl ?_
      refine pw_iload_n dX10_keepsRows_41 rfl 1 rfl ?_
      refine pw_aload_n dX10_keepsRows_42 rfl 0 rfl ?_
      refine pw_aload_n dX10_keepsRows_43 rfl 0 rfl ?_
      refine pw_getr (q := 66) dX10_keepsRows_44 fa_X10_63 ly_49 rfl ?_
      refine pw_iload_n dX10_keepsRows_47 rfl 1 rfl ?_
      obtain ⟨hv6, h⟩ := h
      refine pw_iald (v := G 66 x1.toNatClampNeg) dX10_keepsRows_48 ly_66 hv6 rfl ?_
      refine pw_callV (As := [.int (G 66 x1.toNatClampNeg)]) (rest := [.int x1, .ref (ev_ad E 66)]) (s_X10_kept hE h) dX10_keepsRows_49 ly_49 rfl (Or.inl ml_X10_328) cm_X10_kept rfl (rm_ok (by decide)) rm_0 (Nat.le_of_ble_eq_true rfl) ?_
      rintro _ G8 ⟨r7, rfl, h⟩
      refine pw_iast (z := x1.toNatClampNeg) dX10_keepsRows_52 ly_66 hv6 rfl ?_
      refine pw_iinc (k := 1) (v := x1 + 1) (lv' := [(1, .int (x1 + 1)), (0, .ref (ev_ad E 49))]) dX10_keepsRows_53 rfl rfl (by decide) rfl ?_
      refine pw_goto (tgt := 31) dX10_keepsRows_56 (by decide) ?_
      refine pw_loc (lv' := [(0, .ref (ev_ad E 49)), (1, .int (x1 + 1))]) [1, 0] rfl ?_
      exact ih _ _ h
def lp_X10_keepsRows_2 (Q : Int32 → GS → Prop)  : Nat → Int32 → GS → Prop
  | 0, _, _ => False
  | n + 1, x1, G => (((4 : Int32) ≤ x1 → (∃ kf, lp_X10_keepsRows_31 Q kf (0 : Int32) G)) ∧ (¬ (4 : Int32) ≤ x1 → (vp_in x1 4 ∧ wp_X10_kept (G 65 x1.toNatClampNeg) G (fun r2 G3 => lp_X10_keepsRows_2 Q n (x1 + 1) (gu_ G3 65 x1.toNatClampNeg r2)))))
set_option maxRecDepth 100000 in
set_option maxHeartbeats 4000000 in
theorem t_X10_keepsRows_2 {E : EV} (hE : EI_ E) (Q : Int32 → GS → Prop)  : ∀ (n : Nat) (x1 : Int32) (G : GS), lp_X10_keepsRows_2 Q n x1 G → PW_ E mi_X10_keepsRows (rm_ 2) 0 0 2 [(0, .ref (ev_ad E 49)), (1, .int x1)] [] G (qv_ Q) := by
  intro n
  induction n with
  | zero => intro x1 G h; exact h.elim
  | succ n ih =>
    intro x1 G h
    refine pw_iload_n dX10_keepsRows_2 rfl 1 rfl ?_
    refine pw_iconst (v := (4 : Int32)) dX10_keepsRows_3 (by decide) ?_
    refine pw_icmp_ge (tgt := 29) dX10_keepsRows_4 (by decide) (fun hc => ?_) (fun hc => ?_)
    · have h := h.1 hc
      refine pw_iconst (v := (0 : Int32)) dX10_keepsRows_29 (by decide) ?_
      refine pw_istore_n (lv' := [(1, .int (0 : Int32)), (0, .ref (ev_ad E 49))]) dX10_keepsRows_30 rfl (by decide) rfl ?_
      refine pw_loc (lv' := [(0, .ref (ev_ad E 49)), (1, .int (0 : Int32))]) [1, 0] rfl ?_
      obtain ⟨kf, h⟩ := h
      exact t_X10_keepsRows_31 hE Q kf _ _ h
    · have h := h.2 hc
      refine pw_aload_n dX10_keepsRows_7 rfl 0 rfl ?_
      refine pw_getr (q := 65) dX10_keepsRows_8 fa_X10_60 ly_49 rfl ?_
      refine pw_iload_n dX10_keepsRows_11 rfl 1 rfl ?_
      refine pw_aload_n dX10_keepsRows_12 rfl 0 rfl ?_
      refine pw_aload_n dX10_keepsRows_13 rfl 0 rfl ?_
      refine pw_getr (q := 65) dX10_keepsRows_14 fa_X10_60 ly_49 rfl ?_
      refine pw_iload_n dX10_keepsRows_17 rfl 1 rfl ?_
      obtain ⟨hv1, h⟩ := h
      refine pw_iald (v := G 65 x1.toNatClampNeg) dX10_keepsRows_18 ly_65 hv1 rfl ?_
      refine pw_callV (As := [.int (G 65 x1.toNatClampNeg)]) (rest := [.int x1, .ref (ev_ad E 65)]) (s_X10_kept hE h) dX10_keepsRows_19 ly_49 rfl (Or.inl ml_X10_328) cm_X10_kept rfl (rm_ok (by decide)) rm_0 (Nat.le_of_ble_eq_true rfl) ?_
      rintro _ G3 ⟨r2, rfl, h⟩
      refine pw_iast (z := x1.toNatClampNeg) dX10_keepsRows_22 ly_65 hv1 rfl ?_
      refine pw_iinc (k := 1) (v := x1 + 1) (lv' := [(1, .int (x1 + 1)), (0, .ref (ev_ad E 49))]) dX10_keepsRows_23 rfl rfl (by decide) rfl ?_
      refine pw_goto (tgt := 2) dX10_keepsRows_26 (by decide) ?_
      refine pw_loc (lv' := [(0, .ref (ev_ad E 49)), (1, .int (x1 + 1))]) [1, 0] rfl ?_
      exact ih _ _ h
def wp_X10_keepsRows  (G : GS) (Q : Int32 → GS → Prop) : Prop := (∃ kf, lp_X10_keepsRows_2 Q kf (0 : Int32) G)
set_option maxRecDepth 100000 in
set_option maxHeartbeats 4000000 in
theorem s_X10_keepsRows {E : EV} (hE : EI_ E)  {G : GS} {Q : Int32 → GS → Prop} (h : wp_X10_keepsRows  G Q) : PMet E mi_X10_keepsRows 2 [.ref (ev_ad E 49)] G (qv_ Q) := by
  refine pm_of hE (by decide) (Nat.le_of_ble_eq_true rfl) ?_
  refine pw_loc (lv' := [(0, .ref (ev_ad E 49))]) [0] rfl ?_
  refine pw_iconst (v := (0 : Int32)) dX10_keepsRows_0 (by decide) ?_
  refine pw_istore_n (lv' := [(1, .int (0 : Int32)), (0, .ref (ev_ad E 49))]) dX10_keepsRows_1 rfl (by decide) rfl ?_
  refine pw_loc (lv' := [(0, .ref (ev_ad E 49)), (1, .int (0 : Int32))]) [1, 0] rfl ?_
  obtain ⟨kf, h⟩ := h
  exact t_X10_keepsRows_2 hE Q kf _ _ h
def lp_X10_keepsLaw_76 (Q : Int32 → GS → Prop)  : Nat → Int32 → GS → Prop
  | 0, _, _ => False
  | n + 1, x1, G => (((400 : Int32) ≤ x1 → Q 0 G) ∧ (¬ (400 : Int32) ≤ x1 → (vp_in x1 800 ∧ wp_X10_kept (G 59 x1.toNatClampNeg) G (fun r11 G12 => wp_X10_kept (G12 60 x1.toNatClampNeg) (gu_ G12 59 x1.toNatClampNeg r11) (fun r13 G14 => lp_X10_keepsLaw_76 Q n (x1 + 1) (gu_ G14 60 x1.toNatClampNeg r13))))))
set_option maxRecDepth 100000 in
set_option maxHeartbeats 4000000 in
theorem t_X10_keepsLaw_76 {E : EV} (hE : EI_ E) (Q : Int32 → GS → Prop)  : ∀ (n : Nat) (x1 : Int32) (G : GS), lp_X10_keepsLaw_76 Q n x1 G → PW_ E mi_X10_keepsLaw (rm_ 2) 0 0 76 [(0, .ref (ev_ad E 49)), (1, .int x1)] [] G (qv_ Q) := by
  intro n
  induction n with
  | zero => intro x1 G h; exact h.elim
  | succ n ih =>
    intro x1 G h
    refine pw_iload_n dX10_keepsLaw_76 rfl 1 rfl ?_
    refine pw_sipush (v := (400 : Int32)) dX10_keepsLaw_77 (by decide) ?_
    refine pw_icmp_ge (tgt := 121) dX10_keepsLaw_80 (by decide) (fun hc => ?_) (fun hc => ?_)
    · have h := h.1 hc
      exact pw_return dX10_keepsLaw_121 rfl ⟨rfl, h⟩
    · have h := h.2 hc
      refine pw_aload_n dX10_keepsLaw_83 rfl 0 rfl ?_
      refine pw_getr (q := 59) dX10_keepsLaw_84 fa_X10_37 ly_49 rfl ?_
      refine pw_iload_n dX10_keepsLaw_87 rfl 1 rfl ?_
      refine pw_aload_n dX10_keepsLaw_88 rfl 0 rfl ?_
      refine pw_aload_n dX10_keepsLaw_89 rfl 0 rfl ?_
      refine pw_getr (q := 59) dX10_keepsLaw_90 fa_X10_37 ly_49 rfl ?_
      refine pw_iload_n dX10_keepsLaw_93 rfl 1 rfl ?_
      obtain ⟨hv10, h⟩ := h
      refine pw_iald (v := G 59 x1.toNatClampNeg) dX10_keepsLaw_94 ly_59 hv10 rfl ?_
      refine pw_callV (As := [.int (G 59 x1.toNatClampNeg)]) (rest := [.int x1, .ref (ev_ad E 59)]) (s_X10_kept hE h) dX10_keepsLaw_95 ly_49 rfl (Or.inl ml_X10_328) cm_X10_kept rfl (rm_ok (by decide)) rm_0 (Nat.le_of_ble_eq_true rfl) ?_
      rintro _ G12 ⟨r11, rfl, h⟩
      refine pw_iast (z := x1.toNatClampNeg) dX10_keepsLaw_98 ly_59 hv10 rfl ?_
      refine pw_aload_n dX10_keepsLaw_99 rfl 0 rfl ?_
      refine pw_getr (q := 60) dX10_keepsLaw_100 fa_X10_40 ly_49 rfl ?_
      refine pw_iload_n dX10_keepsLaw_103 rfl 1 rfl ?_
      refine pw_aload_n dX10_keepsLaw_104 rfl 0 rfl ?_
      refine pw_aload_n dX10_keepsLaw_105 rfl 0 rfl ?_
      refine pw_getr (q := 60) dX10_keepsLaw_106 fa_X10_40 ly_49 rfl ?_
      refine pw_iload_n dX10_keepsLaw_109 rfl 1 rfl ?_
      refine pw_iald (v := G12 60 x1.toNatClampNeg) dX10_keepsLaw_110 ly_60 hv10 rfl ?_
      refine pw_callV (As := [.int (G12 60 x1.toNatClampNeg)]) (rest := [.int x1, .ref (ev_ad E 60)]) (s_X10_kept hE h) dX10_keepsLaw_111 ly_49 rfl (Or.inl ml_X10_328) cm_X10_kept rfl (rm_ok (by decide)) rm_0 (Nat.le_of_ble_eq_true rfl) ?_
      rintro _ G14 ⟨r13, rfl, h⟩
      refine pw_iast (z := x1.toNatClampNeg) dX10_keepsLaw_114 ly_60 hv10 rfl ?_
      refine pw_iinc (k := 1) (v := x1 + 1) (lv' := [(1, .int (x1 + 1)), (0, .ref (ev_ad E 49))]) dX10_keepsLaw_115 rfl rfl (by decide) rfl ?_
      refine pw_goto (tgt := 76) dX10_keepsLaw_118 (by decide) ?_
      refine pw_loc (lv' := [(0, .ref (ev_ad E 49)), (1, .int (x1 + 1))]) [1, 0] rfl ?_
      exact ih _ _ h
def lp_X10_keepsLaw_14 (Q : Int32 → GS → Prop)  : Nat → Int32 → GS → Prop
  | 0, _, _ => False
  | n + 1, x1, G => (((16 : Int32) ≤ x1 → (∃ kf, lp_X10_keepsLaw_76 Q kf (0 : Int32) G)) ∧ (¬ (16 : Int32) ≤ x1 → (vp_in x1 32 ∧ wp_X10_kept (G 56 x1.toNatClampNeg) G (fun r4 G5 => wp_X10_kept (G5 57 x1.toNatClampNeg) (gu_ G5 56 x1.toNatClampNeg r4) (fun r6 G7 => wp_X10_kept (G7 58 x1.toNatClampNeg) (gu_ G7 57 x1.toNatClampNeg r6) (fun r8 G9 => lp_X10_keepsLaw_14 Q n (x1 + 1) (gu_ G9 58 x1.toNatClampNeg r8)))))))
set_option maxRecDepth 100000 in
set_option maxHeartbeats 4000000 in
theorem t_X10_keepsLaw_14 {E : EV} (hE : EI_ E) (Q : Int32 → GS → Prop)  : ∀ (n : Nat) (x1 : Int32) (G : GS), lp_X10_keepsLaw_14 Q n x1 G → PW_ E mi_X10_keepsLaw (rm_ 2) 0 0 14 [(0, .ref (ev_ad E 49)), (1, .int x1)] [] G (qv_ Q) := by
  intro n
  induction n with
  | zero => intro x1 G h; exact h.elim
  | succ n ih =>
    intro x1 G h
    refine pw_iload_n dX10_keepsLaw_14 rfl 1 rfl ?_
    refine pw_bipush (v := (16 : Int32)) dX10_keepsLaw_15 (by decide) ?_
    refine pw_icmp_ge (tgt := 74) dX10_keepsLaw_17 (by decide) (fun hc => ?_) (fun hc => ?_)
    · have h := h.1 hc
      refine pw_iconst (v := (0 : Int32)) dX10_keepsLaw_74 (by decide) ?_
      refine pw_istore_n (lv' := [(1, .int (0 : Int32)), (0, .ref (ev_ad E 49))]) dX10_keepsLaw_75 rfl (by decide) rfl ?_
      refine pw_loc (lv' := [(0, .ref (ev_ad E 49)), (1, .int (0 : Int32))]) [1, 0] rfl ?_
      obtain ⟨kf, h⟩ := h
      exact t_X10_keepsLaw_76 hE Q kf _ _ h
    · have h := h.2 hc
      refine pw_aload_n dX10_keepsLaw_20 rfl 0 rfl ?_
      refine pw_getr (q := 56) dX10_keepsLaw_21 fa_X10_28 ly_49 rfl ?_
      refine pw_iload_n dX10_keepsLaw_24 rfl 1 rfl ?_
      refine pw_aload_n dX10_keepsLaw_25 rfl 0 rfl ?_
      refine pw_aload_n dX10_keepsLaw_26 rfl 0 rfl ?_
      refine pw_getr (q := 56) dX10_keepsLaw_27 fa_X10_28 ly_49 rfl ?_
      refine pw_iload_n dX10_keepsLaw_30 rfl 1 rfl ?_
      obtain ⟨hv3, h⟩ := h
      refine pw_iald (v := G 56 x1.toNatClampNeg) dX10_keepsLaw_31 ly_56 hv3 rfl ?_
      refine pw_callV (As := [.int (G 56 x1.toNatClampNeg)]) (rest := [.int x1, .ref (ev_ad E 56)]) (s_X10_kept hE h) dX10_keepsLaw_32 ly_49 rfl (Or.inl ml_X10_328) cm_X10_kept rfl (rm_ok (by decide)) rm_0 (Nat.le_of_ble_eq_true rfl) ?_
      rintro _ G5 ⟨r4, rfl, h⟩
      refine pw_iast (z := x1.toNatClampNeg) dX10_keepsLaw_35 ly_56 hv3 rfl ?_
      refine pw_aload_n dX10_keepsLaw_36 rfl 0 rfl ?_
      refine pw_getr (q := 57) dX10_keepsLaw_37 fa_X10_31 ly_49 rfl ?_
      refine pw_iload_n dX10_keepsLaw_40 rfl 1 rfl ?_
      refine pw_aload_n dX10_keepsLaw_41 rfl 0 rfl ?_
      refine pw_aload_n dX10_keepsLaw_42 rfl 0 rfl ?_
      refine pw_getr (q := 57) dX10_keepsLaw_43 fa_X10_31 ly_49 rfl ?_
      refine pw_iload_n dX10_keepsLaw_46 rfl 1 rfl ?_
      refine pw_iald (v := G5 57 x1.toNatClampNeg) dX10_keepsLaw_47 ly_57 hv3 rfl ?_
      refine pw_callV (As := [.int (G5 57 x1.toNatClampNeg)]) (rest := [.int x1, .ref (ev_ad E 57)]) (s_X10_kept hE h) dX10_keepsLaw_48 ly_49 rfl (Or.inl ml_X10_328) cm_X10_kept rfl (rm_ok (by decide)) rm_0 (Nat.le_of_ble_eq_true rfl) ?_
      rintro _ G7 ⟨r6, rfl, h⟩
      refine pw_iast (z := x1.toNatClampNeg) dX10_keepsLaw_51 ly_57 hv3 rfl ?_
      refine pw_aload_n dX10_keepsLaw_52 rfl 0 rfl ?_
      refine pw_getr (q := 58) dX10_keepsLaw_53 fa_X10_34 ly_49 rfl ?_
      refine pw_iload_n dX10_keepsLaw_56 rfl 1 rfl ?_
      refine pw_aload_n dX10_keepsLaw_57 rfl 0 rfl ?_
      refine pw_aload_n dX10_keepsLaw_58 rfl 0 rfl ?_
      refine pw_getr (q := 58) dX10_keepsLaw_59 fa_X10_34 ly_49 rfl ?_
      refine pw_iload_n dX10_keepsLaw_62 rfl 1 rfl ?_
      refine pw_iald (v := G7 58 x1.toNatClampNeg) dX10_keepsLaw_63 ly_58 hv3 rfl ?_
      refine pw_callV (As := [.int (G7 58 x1.toNatClampNeg)]) (rest := [.int x1, .ref (ev_ad E 58)]) (s_X10_kept hE h) dX10_keepsLaw_64 ly_49 rfl (Or.inl ml_X10_328) cm_X10_kept rfl (rm_ok (by decide)) rm_0 (Nat.le_of_ble_eq_true rfl) ?_
      rintro _ G9 ⟨r8, rfl, h⟩
      refine pw_iast (z := x1.toNatClampNeg) dX10_keepsLaw_67 ly_58 hv3 rfl ?_
      refine pw_iinc (k := 1) (v := x1 + 1) (lv' := [(1, .int (x1 + 1)), (0, .ref (ev_ad E 49))]) dX10_keepsLaw_68 rfl rfl (by decide) rfl ?_
      refine pw_goto (tgt := 14) dX10_keepsLaw_71 (by decide) ?_
      refine pw_loc (lv' := [(0, .ref (ev_ad E 49)), (1, .int (x1 + 1))]) [1, 0] rfl ?_
      exact ih _ _ h
def wp_X10_keepsLaw  (G : GS) (Q : Int32 → GS → Prop) : Prop := wp_X10_kept (G 49 16) G (fun r1 G2 => (∃ kf, lp_X10_keepsLaw_14 Q kf (0 : Int32) (gu_ G2 49 16 r1)))
set_option maxRecDepth 100000 in
set_option maxHeartbeats 4000000 in
theorem s_X10_keepsLaw {E : EV} (hE : EI_ E)  {G : GS} {Q : Int32 → GS → Prop} (h : wp_X10_keepsLaw  G Q) : PMet E mi_X10_keepsLaw 2 [.ref (ev_ad E 49)] G (qv_ Q) := by
  refine pm_of hE (by decide) (Nat.le_of_ble_eq_true rfl) ?_
  refine pw_loc (lv' := [(0, .ref (ev_ad E 49))]) [0] rfl ?_
  refine pw_aload_n dX10_keepsLaw_0 rfl 0 rfl ?_
  refine pw_aload_n dX10_keepsLaw_1 rfl 0 rfl ?_
  refine pw_aload_n dX10_keepsLaw_2 rfl 0 rfl ?_
  refine pw_geti (v := G 49 16) dX10_keepsLaw_3 fa_X10_216 ly_49 rfl rfl ?_
  refine pw_callV (As := [.int (G 49 16)]) (rest := [.ref (ev_ad E 49)]) (s_X10_kept hE h) dX10_keepsLaw_6 ly_49 rfl (Or.inl ml_X10_328) cm_X10_kept rfl (rm_ok (by decide)) rm_0 (Nat.le_of_ble_eq_true rfl) ?_
  rintro _ G2 ⟨r1, rfl, h⟩
  refine pw_puti dX10_keepsLaw_9 fp_X10_216 ly_49 rfl ?_
  refine pw_iconst (v := (0 : Int32)) dX10_keepsLaw_12 (by decide) ?_
  refine pw_istore_n (lv' := [(1, .int (0 : Int32)), (0, .ref (ev_ad E 49))]) dX10_keepsLaw_13 rfl (by decide) rfl ?_
  refine pw_loc (lv' := [(0, .ref (ev_ad E 49)), (1, .int (0 : Int32))]) [1, 0] rfl ?_
  obtain ⟨kf, h⟩ := h
  exact t_X10_keepsLaw_14 hE Q kf _ _ h
def lp_X10_image_131 (Q : Int32 → GS → Prop)  : Nat → Int32 → Int32 → GS → Prop
  | 0, _, _, _ => False
  | n + 1, x1, x2, G => (((500 : Int32) ≤ x2 → wp_X10_keepsRows G (fun _ G16 => wp_X10_keepsLaw G16 (fun _ G18 => ((¬ x1 = 0 → Q (1 : Int32) G18) ∧ (x1 = 0 → Q (1 : Int32) (gu_ G18 49 3 (0 : Int32))))))) ∧ (¬ (500 : Int32) ≤ x2 → (vp_in x2 500 ∧ wp_X10_kept (G 53 x2.toNatClampNeg) G (fun r20 G21 => lp_X10_image_131 Q n x1 (x2 + 1) (gu_ G21 53 x2.toNatClampNeg r20)))))
set_option maxRecDepth 100000 in
set_option maxHeartbeats 4000000 in
theorem t_X10_image_131 {E : EV} (hE : EI_ E) (Q : Int32 → GS → Prop)  : ∀ (n : Nat) (x1 : Int32) (x2 : Int32) (G : GS), lp_X10_image_131 Q n x1 x2 G → PW_ E mi_X10_image (rm_ 3) 0 0 131 [(0, .ref (ev_ad E 49)), (1, .int x1), (2, .int x2)] [] G (qi_ Q) := by
  intro n
  induction n with
  | zero => intro x1 x2 G h; exact h.elim
  | succ n ih =>
    intro x1 x2 G h
    refine pw_iload_n dX10_image_131 rfl 2 rfl ?_
    refine pw_sipush (v := (500 : Int32)) dX10_image_132 (by decide) ?_
    refine pw_icmp_ge (tgt := 160) dX10_image_135 (by decide) (fun hc => ?_) (fun hc => ?_)
    · have h := h.1 hc
      refine pw_aload_n dX10_image_160 rfl 0 rfl ?_
      refine pw_callV (As := []) (rest := []) (s_X10_keepsRows hE h) dX10_image_161 ly_49 rfl (Or.inl ml_X10_334) cm_X10_keepsRows rfl (rm_ok (by decide)) rm_0 (Nat.le_of_ble_eq_true rfl) ?_
      rintro _ G16 ⟨rfl, h⟩
      refine pw_aload_n dX10_image_164 rfl 0 rfl ?_
      refine pw_callV (As := []) (rest := []) (s_X10_keepsLaw hE h) dX10_image_165 ly_49 rfl (Or.inl ml_X10_337) cm_X10_keepsLaw rfl (rm_ok (by decide)) rm_0 (Nat.le_of_ble_eq_true rfl) ?_
      rintro _ G18 ⟨rfl, h⟩
      refine pw_iload_n dX10_image_168 rfl 1 rfl ?_
      refine pw_if_ne (tgt := 177) dX10_image_169 (by decide) (fun hc => ?_) (fun hc => ?_)
      · have h := h.1 hc
        refine pw_iconst (v := (1 : Int32)) dX10_image_177 (by decide) ?_
        exact pw_ireturn dX10_image_178 rfl rfl ⟨_, rfl, h⟩
      · have h := h.2 hc
        refine pw_aload_n dX10_image_172 rfl 0 rfl ?_
        refine pw_iconst (v := (0 : Int32)) dX10_image_173 (by decide) ?_
        refine pw_puti dX10_image_174 fp_X10_93 ly_49 rfl ?_
        refine pw_iconst (v := (1 : Int32)) dX10_image_177 (by decide) ?_
        exact pw_ireturn dX10_image_178 rfl rfl ⟨_, rfl, h⟩
    · have h := h.2 hc
      refine pw_aload_n dX10_image_138 rfl 0 rfl ?_
      refine pw_getr (q := 53) dX10_image_139 fa_X10_19 ly_49 rfl ?_
      refine pw_iload_n dX10_image_142 rfl 2 rfl ?_
      refine pw_aload_n dX10_image_143 rfl 0 rfl ?_
      refine pw_aload_n dX10_image_144 rfl 0 rfl ?_
      refine pw_getr (q := 53) dX10_image_145 fa_X10_19 ly_49 rfl ?_
      refine pw_iload_n dX10_image_148 rfl 2 rfl ?_
      obtain ⟨hv19, h⟩ := h
      refine pw_iald (v := G 53 x2.toNatClampNeg) dX10_image_149 ly_53 hv19 rfl ?_
      refine pw_callV (As := [.int (G 53 x2.toNatClampNeg)]) (rest := [.int x2, .ref (ev_ad E 53)]) (s_X10_kept hE h) dX10_image_150 ly_49 rfl (Or.inl ml_X10_328) cm_X10_kept rfl (rm_ok (by decide)) rm_0 (Nat.le_of_ble_eq_true rfl) ?_
      rintro _ G21 ⟨r20, rfl, h⟩
      refine pw_iast (z := x2.toNatClampNeg) dX10_image_153 ly_53 hv19 rfl ?_
      refine pw_iinc (k := 2) (v := x2 + 1) (lv' := [(2, .int (x2 + 1)), (0, .ref (ev_ad E 49)), (1, .int x1)]) dX10_image_154 rfl rfl (by decide) rfl ?_
      refine pw_goto (tgt := 131) dX10_image_157 (by decide) ?_
      refine pw_loc (lv' := [(0, .ref (ev_ad E 49)), (1, .int x1), (2, .int (x2 + 1))]) [1, 2, 0] rfl ?_
      exact ih _ _ _ h
def lp_X10_image_89 (Q : Int32 → GS → Prop)  : Nat → Int32 → Int32 → GS → Prop
  | 0, _, _, _ => False
  | n + 1, x1, x2, G => (((10 : Int32) ≤ x2 → wp_X10_kept (G 49 7) G (fun r10 G11 => (∃ kf, lp_X10_image_131 Q kf x1 (0 : Int32) (gu_ G11 49 7 r10)))) ∧ (¬ (10 : Int32) ≤ x2 → (vp_in x2 10 ∧ wp_X10_kept (G 52 x2.toNatClampNeg) G (fun r13 G14 => lp_X10_image_89 Q n x1 (x2 + 1) (gu_ G14 52 x2.toNatClampNeg r13)))))
set_option maxRecDepth 100000 in
set_option maxHeartbeats 4000000 in
theorem t_X10_image_89 {E : EV} (hE : EI_ E) (Q : Int32 → GS → Prop)  : ∀ (n : Nat) (x1 : Int32) (x2 : Int32) (G : GS), lp_X10_image_89 Q n x1 x2 G → PW_ E mi_X10_image (rm_ 3) 0 0 89 [(0, .ref (ev_ad E 49)), (1, .int x1), (2, .int x2)] [] G (qi_ Q) := by
  intro n
  induction n with
  | zero => intro x1 x2 G h; exact h.elim
  | succ n ih =>
    intro x1 x2 G h
    refine pw_iload_n dX10_image_89 rfl 2 rfl ?_
    refine pw_bipush (v := (10 : Int32)) dX10_image_90 (by decide) ?_
    refine pw_icmp_ge (tgt := 117) dX10_image_92 (by decide) (fun hc => ?_) (fun hc => ?_)
    · have h := h.1 hc
      refine pw_aload_n dX10_image_117 rfl 0 rfl ?_
      refine pw_aload_n dX10_image_118 rfl 0 rfl ?_
      refine pw_aload_n dX10_image_119 rfl 0 rfl ?_
      refine pw_geti (v := G 49 7) dX10_image_120 fa_X10_119 ly_49 rfl rfl ?_
      refine pw_callV (As := [.int (G 49 7)]) (rest := [.ref (ev_ad E 49)]) (s_X10_kept hE h) dX10_image_123 ly_49 rfl (Or.inl ml_X10_328) cm_X10_kept rfl (rm_ok (by decide)) rm_0 (Nat.le_of_ble_eq_true rfl) ?_
      rintro _ G11 ⟨r10, rfl, h⟩
      refine pw_puti dX10_image_126 fp_X10_119 ly_49 rfl ?_
      refine pw_iconst (v := (0 : Int32)) dX10_image_129 (by decide) ?_
      refine pw_istore_n (lv' := [(2, .int (0 : Int32)), (0, .ref (ev_ad E 49)), (1, .int x1)]) dX10_image_130 rfl (by decide) rfl ?_
      refine pw_loc (lv' := [(0, .ref (ev_ad E 49)), (1, .int x1), (2, .int (0 : Int32))]) [1, 2, 0] rfl ?_
      obtain ⟨kf, h⟩ := h
      exact t_X10_image_131 hE Q kf _ _ _ h
    · have h := h.2 hc
      refine pw_aload_n dX10_image_95 rfl 0 rfl ?_
      refine pw_getr (q := 52) dX10_image_96 fa_X10_16 ly_49 rfl ?_
      refine pw_iload_n dX10_image_99 rfl 2 rfl ?_
      refine pw_aload_n dX10_image_100 rfl 0 rfl ?_
      refine pw_aload_n dX10_image_101 rfl 0 rfl ?_
      refine pw_getr (q := 52) dX10_image_102 fa_X10_16 ly_49 rfl ?_
      refine pw_iload_n dX10_image_105 rfl 2 rfl ?_
      obtain ⟨hv12, h⟩ := h
      refine pw_iald (v := G 52 x2.toNatClampNeg) dX10_image_106 ly_52 hv12 rfl ?_
      refine pw_callV (As := [.int (G 52 x2.toNatClampNeg)]) (rest := [.int x2, .ref (ev_ad E 52)]) (s_X10_kept hE h) dX10_image_107 ly_49 rfl (Or.inl ml_X10_328) cm_X10_kept rfl (rm_ok (by decide)) rm_0 (Nat.le_of_ble_eq_true rfl) ?_
      rintro _ G14 ⟨r13, rfl, h⟩
      refine pw_iast (z := x2.toNatClampNeg) dX10_image_110 ly_52 hv12 rfl ?_
      refine pw_iinc (k := 2) (v := x2 + 1) (lv' := [(2, .int (x2 + 1)), (0, .ref (ev_ad E 49)), (1, .int x1)]) dX10_image_111 rfl rfl (by decide) rfl ?_
      refine pw_goto (tgt := 89) dX10_image_114 (by decide) ?_
      refine pw_loc (lv' := [(0, .ref (ev_ad E 49)), (1, .int x1), (2, .int (x2 + 1))]) [1, 2, 0] rfl ?_
      exact ih _ _ _ h
def lp_X10_image_35 (Q : Int32 → GS → Prop)  : Nat → Int32 → Int32 → GS → Prop
  | 0, _, _, _ => False
  | n + 1, x1, x2, G => (((13 : Int32) ≤ x2 → wp_X10_kept (G 49 4) G (fun r3 G4 => wp_X10_kept (G4 49 5) (gu_ G4 49 4 r3) (fun r5 G6 => (∃ kf, lp_X10_image_89 Q kf x1 (0 : Int32) (gu_ G6 49 5 r5))))) ∧ (¬ (13 : Int32) ≤ x2 → (vp_in x2 13 ∧ wp_X10_kept (G 50 x2.toNatClampNeg) G (fun r8 G9 => lp_X10_image_35 Q n x1 (x2 + 1) (gu_ G9 50 x2.toNatClampNeg r8)))))
set_option maxRecDepth 100000 in
set_option maxHeartbeats 4000000 in
theorem t_X10_image_35 {E : EV} (hE : EI_ E) (Q : Int32 → GS → Prop)  : ∀ (n : Nat) (x1 : Int32) (x2 : Int32) (G : GS), lp_X10_image_35 Q n x1 x2 G → PW_ E mi_X10_image (rm_ 3) 0 0 35 [(0, .ref (ev_ad E 49)), (1, .int x1), (2, .int x2)] [] G (qi_ Q) := by
  intro n
  induction n with
  | zero => intro x1 x2 G h; exact h.elim
  | succ n ih =>
    intro x1 x2 G h
    refine pw_iload_n dX10_image_35 rfl 2 rfl ?_
    refine pw_bipush (v := (13 : Int32)) dX10_image_36 (by decide) ?_
    refine pw_icmp_ge (tgt := 63) dX10_image_38 (by decide) (fun hc => ?_) (fun hc => ?_)
    · have h := h.1 hc
      refine pw_aload_n dX10_image_63 rfl 0 rfl ?_
      refine pw_aload_n dX10_image_64 rfl 0 rfl ?_
      refine pw_aload_n dX10_image_65 rfl 0 rfl ?_
      refine pw_geti (v := G 49 4) dX10_image_66 fa_X10_98 ly_49 rfl rfl ?_
      refine pw_callV (As := [.int (G 49 4)]) (rest := [.ref (ev_ad E 49)]) (s_X10_kept hE h) dX10_image_69 ly_49 rfl (Or.inl ml_X10_328) cm_X10_kept rfl (rm_ok (by decide)) rm_0 (Nat.le_of_ble_eq_true rfl) ?_
      rintro _ G4 ⟨r3, rfl, h⟩
      refine pw_puti dX10_image_72 fp_X10_98 ly_49 rfl ?_
      refine pw_aload_n dX10_image_75 rfl 0 rfl ?_
      refine pw_aload_n dX10_image_76 rfl 0 rfl ?_
      refine pw_aload_n dX10_image_77 rfl 0 rfl ?_
      refine pw_geti (v := G4 49 5) dX10_image_78 fa_X10_116 ly_49 rfl rfl ?_
      refine pw_callV (As := [.int (G4 49 5)]) (rest := [.ref (ev_ad E 49)]) (s_X10_kept hE h) dX10_image_81 ly_49 rfl (Or.inl ml_X10_328) cm_X10_kept rfl (rm_ok (by decide)) rm_0 (Nat.le_of_ble_eq_true rfl) ?_
      rintro _ G6 ⟨r5, rfl, h⟩
      refine pw_puti dX10_image_84 fp_X10_116 ly_49 rfl ?_
      refine pw_iconst (v := (0 : Int32)) dX10_image_87 (by decide) ?_
      refine pw_istore_n (lv' := [(2, .int (0 : Int32)), (0, .ref (ev_ad E 49)), (1, .int x1)]) dX10_image_88 rfl (by decide) rfl ?_
      refine pw_loc (lv' := [(0, .ref (ev_ad E 49)), (1, .int x1), (2, .int (0 : Int32))]) [1, 2, 0] rfl ?_
      obtain ⟨kf, h⟩ := h
      exact t_X10_image_89 hE Q kf _ _ _ h
    · have h := h.2 hc
      refine pw_aload_n dX10_image_41 rfl 0 rfl ?_
      refine pw_getr (q := 50) dX10_image_42 fa_X10_7 ly_49 rfl ?_
      refine pw_iload_n dX10_image_45 rfl 2 rfl ?_
      refine pw_aload_n dX10_image_46 rfl 0 rfl ?_
      refine pw_aload_n dX10_image_47 rfl 0 rfl ?_
      refine pw_getr (q := 50) dX10_image_48 fa_X10_7 ly_49 rfl ?_
      refine pw_iload_n dX10_image_51 rfl 2 rfl ?_
      obtain ⟨hv7, h⟩ := h
      refine pw_iald (v := G 50 x2.toNatClampNeg) dX10_image_52 ly_50 hv7 rfl ?_
      refine pw_callV (As := [.int (G 50 x2.toNatClampNeg)]) (rest := [.int x2, .ref (ev_ad E 50)]) (s_X10_kept hE h) dX10_image_53 ly_49 rfl (Or.inl ml_X10_328) cm_X10_kept rfl (rm_ok (by decide)) rm_0 (Nat.le_of_ble_eq_true rfl) ?_
      rintro _ G9 ⟨r8, rfl, h⟩
      refine pw_iast (z := x2.toNatClampNeg) dX10_image_56 ly_50 hv7 rfl ?_
      refine pw_iinc (k := 2) (v := x2 + 1) (lv' := [(2, .int (x2 + 1)), (0, .ref (ev_ad E 49)), (1, .int x1)]) dX10_image_57 rfl rfl (by decide) rfl ?_
      refine pw_goto (tgt := 35) dX10_image_60 (by decide) ?_
      refine pw_loc (lv' := [(0, .ref (ev_ad E 49)), (1, .int x1), (2, .int (x2 + 1))]) [1, 2, 0] rfl ?_
      exact ih _ _ _ h
def wp_X10_image (a1 : Int32) (G : GS) (Q : Int32 → GS → Prop) : Prop := ((¬ a1 = 0 → (bz_ a1 ∧ (∃ kf, lp_X10_image_35 Q kf a1 (0 : Int32) (gu_ (gu_ (gu_ (gu_ G 49 0 (0 : Int32)) 49 44 a1) 49 45 (1 : Int32)) 49 46 (0 : Int32))))) ∧ (a1 = 0 → ((¬ (G 49 45) = 0 → (bz_ a1 ∧ (∃ kf, lp_X10_image_35 Q kf a1 (0 : Int32) (gu_ (gu_ (gu_ (gu_ G 49 0 (0 : Int32)) 49 44 a1) 49 45 (1 : Int32)) 49 46 (0 : Int32))))) ∧ ((G 49 45) = 0 → Q (0 : Int32) (gu_ G 49 0 (0 : Int32))))))
set_option maxRecDepth 100000 in
set_option maxHeartbeats 4000000 in
theorem s_X10_image {E : EV} (hE : EI_ E) {a1 : Int32} {G : GS} {Q : Int32 → GS → Prop} (h : wp_X10_image a1 G Q) : PMet E mi_X10_image 3 [.ref (ev_ad E 49), .int a1] G (qi_ Q) := by
  refine pm_of hE (by decide) (Nat.le_of_ble_eq_true rfl) ?_
  refine pw_loc (lv' := [(0, .ref (ev_ad E 49)), (1, .int a1)]) [0, 1] rfl ?_
  refine pw_aload_n dX10_image_0 rfl 0 rfl ?_
  refine pw_iconst (v := (0 : Int32)) dX10_image_1 (by decide) ?_
  refine pw_puti dX10_image_2 fp_X10_90 ly_49 rfl ?_
  refine pw_iload_n dX10_image_5 rfl 1 rfl ?_
  refine pw_if_ne (tgt := 18) dX10_image_6 (by decide) (fun hc => ?_) (fun hc => ?_)
  · have h := h.1 hc
    refine pw_aload_n dX10_image_18 rfl 0 rfl ?_
    refine pw_iload_n dX10_image_19 rfl 1 rfl ?_
    obtain ⟨hv1, h⟩ := h
    refine pw_putz dX10_image_20 fp_X10_324 ly_49 rfl hv1 ?_
    refine pw_aload_n dX10_image_23 rfl 0 rfl ?_
    refine pw_iconst (v := (1 : Int32)) dX10_image_24 (by decide) ?_
    refine pw_putz dX10_image_25 fp_X10_331 ly_49 rfl (Or.inr rfl) ?_
    refine pw_aload_n dX10_image_28 rfl 0 rfl ?_
    refine pw_iconst (v := (0 : Int32)) dX10_image_29 (by decide) ?_
    refine pw_puti dX10_image_30 fp_X10_321 ly_49 rfl ?_
    refine pw_iconst (v := (0 : Int32)) dX10_image_33 (by decide) ?_
    refine pw_istore_n (lv' := [(2, .int (0 : Int32)), (0, .ref (ev_ad E 49)), (1, .int a1)]) dX10_image_34 rfl (by decide) rfl ?_
    refine pw_loc (lv' := [(0, .ref (ev_ad E 49)), (1, .int a1), (2, .int (0 : Int32))]) [1, 2, 0] rfl ?_
    obtain ⟨kf, h⟩ := h
    exact t_X10_image_35 hE Q kf _ _ _ h
  · have h := h.2 hc
    refine pw_aload_n dX10_image_9 rfl 0 rfl ?_
    refine pw_geti (v := G 49 45) dX10_image_10 fa_X10_331 ly_49 rfl rfl ?_
    refine pw_if_ne (tgt := 18) dX10_image_13 (by decide) (fun hc => ?_) (fun hc => ?_)
    · have h := h.1 hc
      refine pw_aload_n dX10_image_18 rfl 0 rfl ?_
      refine pw_iload_n dX10_image_19 rfl 1 rfl ?_
      obtain ⟨hv2, h⟩ := h
      refine pw_putz dX10_image_20 fp_X10_324 ly_49 rfl hv2 ?_
      refine pw_aload_n dX10_image_23 rfl 0 rfl ?_
      refine pw_iconst (v := (1 : Int32)) dX10_image_24 (by decide) ?_
      refine pw_putz dX10_image_25 fp_X10_331 ly_49 rfl (Or.inr rfl) ?_
      refine pw_aload_n dX10_image_28 rfl 0 rfl ?_
      refine pw_iconst (v := (0 : Int32)) dX10_image_29 (by decide) ?_
      refine pw_puti dX10_image_30 fp_X10_321 ly_49 rfl ?_
      refine pw_iconst (v := (0 : Int32)) dX10_image_33 (by decide) ?_
      refine pw_istore_n (lv' := [(2, .int (0 : Int32)), (0, .ref (ev_ad E 49)), (1, .int a1)]) dX10_image_34 rfl (by decide) rfl ?_
      refine pw_loc (lv' := [(0, .ref (ev_ad E 49)), (1, .int a1), (2, .int (0 : Int32))]) [1, 2, 0] rfl ?_
      obtain ⟨kf, h⟩ := h
      exact t_X10_image_35 hE Q kf _ _ _ h
    · have h := h.2 hc
      refine pw_iconst (v := (0 : Int32)) dX10_image_16 (by decide) ?_
      exact pw_ireturn dX10_image_17 rfl rfl ⟨_, rfl, h⟩
def wp_X10_look (a1 : Int32) (G : GS) (Q : Int32 → GS → Prop) : Prop := ((¬ a1 = 0 → ((¬ a1 = (1 : Int32) → ((¬ a1 = (2 : Int32) → ((¬ a1 = (3 : Int32) → ((¬ a1 = (4 : Int32) → ((¬ a1 = (5 : Int32) → ((¬ a1 = (6 : Int32) → ((¬ a1 = (7 : Int32) → ((¬ a1 = (8 : Int32) → wp_X10_isIn a1 (10 : Int32) (13 : Int32) (gu_ G 49 0 (0 : Int32)) (fun r1 G2 => ((r1 = 0 → Q (-1 : Int32) G2) ∧ (¬ r1 = 0 → (vp_in (a1 - (10 : Int32)) 4 ∧ Q (G2 65 ((a1 - (10 : Int32)).toNatClampNeg)) G2))))) ∧ (a1 = (8 : Int32) → Q (G 49 39) (gu_ G 49 0 (0 : Int32))))) ∧ (a1 = (7 : Int32) → Q (G 49 35) (gu_ G 49 0 (0 : Int32))))) ∧ (a1 = (6 : Int32) → Q (G 49 3) (gu_ G 49 0 (0 : Int32))))) ∧ (a1 = (5 : Int32) → Q (G 49 16) (gu_ G 49 0 (0 : Int32))))) ∧ (a1 = (4 : Int32) → Q (G 50 12) (gu_ G 49 0 (0 : Int32))))) ∧ (a1 = (3 : Int32) → Q (G 49 7) (gu_ G 49 0 (0 : Int32))))) ∧ (a1 = (2 : Int32) → Q (G 50 10) (gu_ G 49 0 (0 : Int32))))) ∧ (a1 = (1 : Int32) → Q (G 50 11) (gu_ G 49 0 (0 : Int32))))) ∧ (a1 = 0 → Q (G 49 4) (gu_ G 49 0 (0 : Int32))))
set_option maxRecDepth 100000 in
set_option maxHeartbeats 4000000 in
theorem s_X10_look {E : EV} (hE : EI_ E) {a1 : Int32} {G : GS} {Q : Int32 → GS → Prop} (h : wp_X10_look a1 G Q) : PMet E mi_X10_look 2 [.ref (ev_ad E 49), .int a1] G (qi_ Q) := by
  refine pm_of hE (by decide) (Nat.le_of_ble_eq_true rfl) ?_
  refine pw_loc (lv' := [(0, .ref (ev_ad E 49)), (1, .int a1)]) [0, 1] rfl ?_
  refine pw_aload_n dX10_look_0 rfl 0 rfl ?_
  refine pw_iconst (v := (0 : Int32)) dX10_look_1 (by decide) ?_
  refine pw_puti dX10_look_2 fp_X10_90 ly_49 rfl ?_
  refine pw_iload_n dX10_look_5 rfl 1 rfl ?_
  refine pw_if_ne (tgt := 14) dX10_look_6 (by decide) (fun hc => ?_) (fun hc => ?_)
  · have h := h.1 hc
    refine pw_iload_n dX10_look_14 rfl 1 rfl ?_
    refine pw_iconst (v := (1 : Int32)) dX10_look_15 (by decide) ?_
    refine pw_icmp_ne (tgt := 27) dX10_look_16 (by decide) (fun hc => ?_) (fun hc => ?_)
    · have h := h.1 hc
      refine pw_iload_n dX10_look_27 rfl 1 rfl ?_
      refine pw_iconst (v := (2 : Int32)) dX10_look_28 (by decide) ?_
      refine pw_icmp_ne (tgt := 40) dX10_look_29 (by decide) (fun hc => ?_) (fun hc => ?_)
      · have h := h.1 hc
        refine pw_iload_n dX10_look_40 rfl 1 rfl ?_
        refine pw_iconst (v := (3 : Int32)) dX10_look_41 (by decide) ?_
        refine pw_icmp_ne (tgt := 50) dX10_look_42 (by decide) (fun hc => ?_) (fun hc => ?_)
        · have h := h.1 hc
          refine pw_iload_n dX10_look_50 rfl 1 rfl ?_
          refine pw_iconst (v := (4 : Int32)) dX10_look_51 (by decide) ?_
          refine pw_icmp_ne (tgt := 63) dX10_look_52 (by decide) (fun hc => ?_) (fun hc => ?_)
          · have h := h.1 hc
            refine pw_iload_n dX10_look_63 rfl 1 rfl ?_
            refine pw_iconst (v := (5 : Int32)) dX10_look_64 (by decide) ?_
            refine pw_icmp_ne (tgt := 73) dX10_look_65 (by decide) (fun hc => ?_) (fun hc => ?_)
            · have h := h.1 hc
              refine pw_iload_n dX10_look_73 rfl 1 rfl ?_
              refine pw_bipush (v := (6 : Int32)) dX10_look_74 (by decide) ?_
              refine pw_icmp_ne (tgt := 84) dX10_look_76 (by decide) (fun hc => ?_) (fun hc => ?_)
              · have h := h.1 hc
                refine pw_iload_n dX10_look_84 rfl 1 rfl ?_
                refine pw_bipush (v := (7 : Int32)) dX10_look_85 (by decide) ?_
                refine pw_icmp_ne (tgt := 95) dX10_look_87 (by decide) (fun hc => ?_) (fun hc => ?_)
                · have h := h.1 hc
                  refine pw_iload_n dX10_look_95 rfl 1 rfl ?_
                  refine pw_bipush (v := (8 : Int32)) dX10_look_96 (by decide) ?_
                  refine pw_icmp_ne (tgt := 106) dX10_look_98 (by decide) (fun hc => ?_) (fun hc => ?_)
                  · have h := h.1 hc
                    refine pw_aload_n dX10_look_106 rfl 0 rfl ?_
                    refine pw_iload_n dX10_look_107 rfl 1 rfl ?_
                    refine pw_bipush (v := (10 : Int32)) dX10_look_108 (by decide) ?_
                    refine pw_bipush (v := (13 : Int32)) dX10_look_110 (by decide) ?_
                    refine pw_callV (As := [.int a1, .int (10 : Int32), .int (13 : Int32)]) (rest := []) (s_X10_isIn hE h) dX10_look_112 ly_49 rfl (Or.inl ml_X10_101) cm_X10_isIn rfl (rm_ok (by decide)) rm_0 (Nat.le_of_ble_eq_true rfl) ?_
                    rintro _ G2 ⟨r1, rfl, h⟩
                    refine pw_if_eq (tgt := 130) dX10_look_115 (by decide) (fun hc => ?_) (fun hc => ?_)
                    · have h := h.1 hc
                      refine pw_iconst (v := (-1 : Int32)) dX10_look_130 (by decide) ?_
                      exact pw_ireturn dX10_look_131 rfl rfl ⟨_, rfl, h⟩
                    · have h := h.2 hc
                      refine pw_aload_n dX10_look_118 rfl 0 rfl ?_
                      refine pw_getr (q := 65) dX10_look_119 fa_X10_60 ly_49 rfl ?_
                      refine pw_iload_n dX10_look_122 rfl 1 rfl ?_
                      refine pw_bipush (v := (10 : Int32)) dX10_look_123 (by decide) ?_
                      refine pw_isub dX10_look_125 ?_
                      obtain ⟨hv3, h⟩ := h
                      refine pw_iald (v := G2 65 ((a1 - (10 : Int32)).toNatClampNeg)) dX10_look_126 ly_65 hv3 rfl ?_
                      refine pw_goto (tgt := 131) dX10_look_127 (by decide) ?_
                      exact pw_ireturn dX10_look_131 rfl rfl ⟨_, rfl, h⟩
                  · have h := h.2 hc
                    refine pw_aload_n dX10_look_101 rfl 0 rfl ?_
                    refine pw_geti (v := G 49 39) dX10_look_102 fa_X10_284 ly_49 rfl rfl ?_
                    exact pw_ireturn dX10_look_105 rfl rfl ⟨_, rfl, h⟩
                · have h := h.2 hc
                  refine pw_aload_n dX10_look_90 rfl 0 rfl ?_
                  refine pw_geti (v := G 49 35) dX10_look_91 fa_X10_269 ly_49 rfl rfl ?_
                  exact pw_ireturn dX10_look_94 rfl rfl ⟨_, rfl, h⟩
              · have h := h.2 hc
                refine pw_aload_n dX10_look_79 rfl 0 rfl ?_
                refine pw_geti (v := G 49 3) dX10_look_80 fa_X10_93 ly_49 rfl rfl ?_
                exact pw_ireturn dX10_look_83 rfl rfl ⟨_, rfl, h⟩
            · have h := h.2 hc
              refine pw_aload_n dX10_look_68 rfl 0 rfl ?_
              refine pw_geti (v := G 49 16) dX10_look_69 fa_X10_216 ly_49 rfl rfl ?_
              exact pw_ireturn dX10_look_72 rfl rfl ⟨_, rfl, h⟩
          · have h := h.2 hc
            refine pw_aload_n dX10_look_55 rfl 0 rfl ?_
            refine pw_getr (q := 50) dX10_look_56 fa_X10_7 ly_49 rfl ?_
            refine pw_bipush (v := (12 : Int32)) dX10_look_59 (by decide) ?_
            refine pw_iald (v := G 50 12) dX10_look_61 ly_50 (by unfold vp_in; decide) rfl ?_
            exact pw_ireturn dX10_look_62 rfl rfl ⟨_, rfl, h⟩
        · have h := h.2 hc
          refine pw_aload_n dX10_look_45 rfl 0 rfl ?_
          refine pw_geti (v := G 49 7) dX10_look_46 fa_X10_119 ly_49 rfl rfl ?_
          exact pw_ireturn dX10_look_49 rfl rfl ⟨_, rfl, h⟩
      · have h := h.2 hc
        refine pw_aload_n dX10_look_32 rfl 0 rfl ?_
        refine pw_getr (q := 50) dX10_look_33 fa_X10_7 ly_49 rfl ?_
        refine pw_bipush (v := (10 : Int32)) dX10_look_36 (by decide) ?_
        refine pw_iald (v := G 50 10) dX10_look_38 ly_50 (by unfold vp_in; decide) rfl ?_
        exact pw_ireturn dX10_look_39 rfl rfl ⟨_, rfl, h⟩
    · have h := h.2 hc
      refine pw_aload_n dX10_look_19 rfl 0 rfl ?_
      refine pw_getr (q := 50) dX10_look_20 fa_X10_7 ly_49 rfl ?_
      refine pw_bipush (v := (11 : Int32)) dX10_look_23 (by decide) ?_
      refine pw_iald (v := G 50 11) dX10_look_25 ly_50 (by unfold vp_in; decide) rfl ?_
      exact pw_ireturn dX10_look_26 rfl rfl ⟨_, rfl, h⟩
  · have h := h.2 hc
    refine pw_aload_n dX10_look_9 rfl 0 rfl ?_
    refine pw_geti (v := G 49 4) dX10_look_10 fa_X10_98 ly_49 rfl rfl ?_
    exact pw_ireturn dX10_look_13 rfl rfl ⟨_, rfl, h⟩
