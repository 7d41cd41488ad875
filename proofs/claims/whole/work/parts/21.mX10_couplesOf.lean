def lp_X10_couplesOf_44 (Q : Int32 → GS → Prop) (R29 : Int32 → Int32 → Int32 → Int32 → GS → Prop)  : Nat → Int32 → Int32 → Int32 → Int32 → Int32 → GS → Prop
  | 0, _, _, _, _, _, _ => False
  | n + 1, x1, x2, x3, x4, x5, G => (((G 49 4) ≤ x5 → R29 x1 x2 x3 (x4 + 1) G) ∧ (¬ (G 49 4) ≤ x5 → ((x4 = x1 → lp_X10_couplesOf_44 Q R29 n x1 x2 x3 x4 (x5 + 1) G) ∧ (¬ x4 = x1 → ((x5 = x1 → lp_X10_couplesOf_44 Q R29 n x1 x2 x3 x4 (x5 + 1) G) ∧ (¬ x5 = x1 → ((((x2 >>> (x4 &&& 31)) &&& (1 : Int32)) = 0 → lp_X10_couplesOf_44 Q R29 n x1 x2 x3 x4 (x5 + 1) G) ∧ (¬ ((x2 >>> (x4 &&& 31)) &&& (1 : Int32)) = 0 → ((((x2 >>> (x5 &&& 31)) &&& (1 : Int32)) = 0 → lp_X10_couplesOf_44 Q R29 n x1 x2 x3 x4 (x5 + 1) G) ∧ (¬ ((x2 >>> (x5 &&& 31)) &&& (1 : Int32)) = 0 → wp_X10_hearsNow x1 x4 x5 x2 G (fun r2 G3 => ((¬ r2 = 0 → wp_X10_humOf x4 G3 (fun r4 G5 => wp_X10_humOf x5 G5 (fun r6 G7 => wp_X10_without (r4 - r6) G7 (fun r8 G9 => (vp_in r8 61 ∧ lp_X10_couplesOf_44 Q R29 n x1 x2 (x3 + (1 : Int32)) x4 (x5 + 1) (gu_ G9 64 r8.toNatClampNeg (vp_nar .boolean (1 : Int32)))))))) ∧ (r2 = 0 → lp_X10_couplesOf_44 Q R29 n x1 x2 x3 x4 (x5 + 1) G3)))))))))))))
set_option maxRecDepth 100000 in
set_option maxHeartbeats 4000000 in
theorem t_X10_couplesOf_44 {E : EV} (hE : EI_ E) (Q : Int32 → GS → Prop) (R29 : Int32 → Int32 → Int32 → Int32 → GS → Prop) (hR29 : ∀ (x1 : Int32) (x2 : Int32) (x3 : Int32) (x4 : Int32) (G : GS), R29 x1 x2 x3 x4 G → PW_ E mi_X10_couplesOf (rm_ 5) 0 0 29 [(0, .ref (ev_ad E 49)), (1, .int x1), (2, .int x2), (3, .int x3), (4, .int x4)] [] G (qi_ Q))  : ∀ (n : Nat) (x1 : Int32) (x2 : Int32) (x3 : Int32) (x4 : Int32) (x5 : Int32) (G : GS), lp_X10_couplesOf_44 Q R29 n x1 x2 x3 x4 x5 G → PW_ E mi_X10_couplesOf (rm_ 5) 0 0 44 [(0, .ref (ev_ad E 49)), (1, .int x1), (2, .int x2), (3, .int x3), (4, .int x4), (5, .int x5)] [] G (qi_ Q) := by
  intro n
  induction n with
  | zero => intro x1 x2 x3 x4 x5 G h; exact h.elim
  | succ n ih =>
    intro x1 x2 x3 x4 x5 G h
    refine pw_iload dX10_couplesOf_44 5 rfl ?_
    refine pw_aload_n dX10_couplesOf_46 rfl 0 rfl ?_
    refine pw_geti (v := G 49 4) dX10_couplesOf_47 fa_X10_98 ly_49 rfl rfl ?_
    refine pw_icmp_ge (tgt := 132) dX10_couplesOf_50 (by decide) (fun hc => ?_) (fun hc => ?_)
    · have h := h.1 hc
      refine pw_iinc (k := 4) (v := x4 + 1) (lv' := [(4, .int (x4 + 1)), (0, .ref (ev_ad E 49)), (1, .int x1), (2, .int x2), (3, .int x3), (5, .int x5)]) dX10_couplesOf_132 rfl rfl (by decide) rfl ?_
      refine pw_goto (tgt := 29) dX10_couplesOf_135 (by decide) ?_
      refine pw_loc (lv' := [(0, .ref (ev_ad E 49)), (1, .int x1), (2, .int x2), (3, .int x3), (4, .int (x4 + 1))]) [1, 2, 3, 4, 0] rfl ?_
      exact hR29 _ _ _ _ _ h
    · have h := h.2 hc
      refine pw_iload dX10_couplesOf_53 4 rfl ?_
      refine pw_iload_n dX10_couplesOf_55 rfl 1 rfl ?_
      refine pw_icmp_eq (tgt := 126) dX10_couplesOf_56 (by decide) (fun hc => ?_) (fun hc => ?_)
      · have h := h.1 hc
        refine pw_iinc (k := 5) (v := x5 + 1) (lv' := [(5, .int (x5 + 1)), (0, .ref (ev_ad E 49)), (1, .int x1), (2, .int x2), (3, .int x3), (4, .int x4)]) dX10_couplesOf_126 rfl rfl (by decide) rfl ?_
        refine pw_goto (tgt := 44) dX10_couplesOf_129 (by decide) ?_
        refine pw_loc (lv' := [(0, .ref (ev_ad E 49)), (1, .int x1), (2, .int x2), (3, .int x3), (4, .int x4), (5, .int (x5 + 1))]) [1, 2, 3, 4, 5, 0] rfl ?_
        exact ih _ _ _ _ _ _ h
      · have h := h.2 hc
        refine pw_iload dX10_couplesOf_59 5 rfl ?_
        refine pw_iload_n dX10_couplesOf_61 rfl 1 rfl ?_
        refine pw_icmp_eq (tgt := 126) dX10_couplesOf_62 (by decide) (fun hc => ?_) (fun hc => ?_)
        · have h := h.1 hc
          refine pw_iinc (k := 5) (v := x5 + 1) (lv' := [(5, .int (x5 + 1)), (0, .ref (ev_ad E 49)), (1, .int x1), (2, .int x2), (3, .int x3), (4, .int x4)]) dX10_couplesOf_126 rfl rfl (by decide) rfl ?_
          refine pw_goto (tgt := 44) dX10_couplesOf_129 (by decide) ?_
          refine pw_loc (lv' := [(0, .ref (ev_ad E 49)), (1, .int x1), (2, .int x2), (3, .int x3), (4, .int x4), (5, .int (x5 + 1))]) [1, 2, 3, 4, 5, 0] rfl ?_
          exact ih _ _ _ _ _ _ h
        · have h := h.2 hc
          refine pw_iload_n dX10_couplesOf_65 rfl 2 rfl ?_
          refine pw_iload dX10_couplesOf_66 4 rfl ?_
          refine pw_ishr dX10_couplesOf_68 ?_
          refine pw_iconst (v := (1 : Int32)) dX10_couplesOf_69 (by decide) ?_
          refine pw_iand dX10_couplesOf_70 ?_
          refine pw_if_eq (tgt := 126) dX10_couplesOf_71 (by decide) (fun hc => ?_) (fun hc => ?_)
          · have h := h.1 hc
            refine pw_iinc (k := 5) (v := x5 + 1) (lv' := [(5, .int (x5 + 1)), (0, .ref (ev_ad E 49)), (1, .int x1), (2, .int x2), (3, .int x3), (4, .int x4)]) dX10_couplesOf_126 rfl rfl (by decide) rfl ?_
            refine pw_goto (tgt := 44) dX10_couplesOf_129 (by decide) ?_
            refine pw_loc (lv' := [(0, .ref (ev_ad E 49)), (1, .int x1), (2, .int x2), (3, .int x3), (4, .int x4), (5, .int (x5 + 1))]) [1, 2, 3, 4, 5, 0] rfl ?_
            exact ih _ _ _ _ _ _ h
          · have h := h.2 hc
            refine pw_iload_n dX10_couplesOf_74 rfl 2 rfl ?_
            refine pw_iload dX10_couplesOf_75 5 rfl ?_
            refine pw_ishr dX10_couplesOf_77 ?_
            refine pw_iconst (v := (1 : Int32)) dX10_couplesOf_78 (by decide) ?_
            refine pw_iand dX10_couplesOf_79 ?_
            refine pw_if_eq (tgt := 126) dX10_couplesOf_80 (by decide) (fun hc => ?_) (fun hc => ?_)
            · have h := h.1 hc
              refine pw_iinc (k := 5) (v := x5 + 1) (lv' := [(5, .int (x5 + 1)), (0, .ref (ev_ad E 49)), (1, .int x1), (2, .int x2), (3, .int x3), (4, .int x4)]) dX10_couplesOf_126 rfl rfl (by decide) rfl ?_
              refine pw_goto (tgt := 44) dX10_couplesOf_129 (by decide) ?_
              refine pw_loc (lv' := [(0, .ref (ev_ad E 49)), (1, .int x1), (2, .int x2), (3, .int x3), (4, .int x4), (5, .int (x5 + 1))]) [1, 2, 3, 4, 5, 0] rfl ?_
              exact ih _ _ _ _ _ _ h
            · have h := h.2 hc
              refine pw_aload_n dX10_couplesOf_83 rfl 0 rfl ?_
              refine pw_iload_n dX10_couplesOf_84 rfl 1 rfl ?_
              refine pw_iload dX10_couplesOf_85 4 rfl ?_
              refine pw_iload dX10_couplesOf_87 5 rfl ?_
              refine pw_iload_n dX10_couplesOf_89 rfl 2 rfl ?_
              refine pw_callV (As := [.int x1, .int x4, .int x5, .int x2]) (rest := []) (s_X10_hearsNow hE h) dX10_couplesOf_90 ly_49 rfl (Or.inl ml_X10_240) cm_X10_hearsNow rfl (rm_ok (by decide)) rm_0 (Nat.le_of_ble_eq_true rfl) ?_
              rintro _ G3 ⟨r2, rfl, h⟩
              refine pw_if_ne (tgt := 99) dX10_couplesOf_93 (by decide) (fun hc => ?_) (fun hc => ?_)
              · have h := h.1 hc
                refine pw_iload_n dX10_couplesOf_99 rfl 3 rfl ?_
                refine pw_iconst (v := (1 : Int32)) dX10_couplesOf_100 (by decide) ?_
                refine pw_iadd dX10_couplesOf_101 ?_
                refine pw_istore_n (lv' := [(3, .int (x3 + (1 : Int32))), (0, .ref (ev_ad E 49)), (1, .int x1), (2, .int x2), (4, .int x4), (5, .int x5)]) dX10_couplesOf_102 rfl (by decide) rfl ?_
                refine pw_aload_n dX10_couplesOf_103 rfl 1 rfl ?_
                refine pw_getr (q := 64) dX10_couplesOf_104 fa_X10_56 ly_49 rfl ?_
                refine pw_aload_n dX10_couplesOf_107 rfl 1 rfl ?_
                refine pw_aload_n dX10_couplesOf_108 rfl 1 rfl ?_
                refine pw_iload dX10_couplesOf_109 4 rfl ?_
                refine pw_callV (As := [.int x4]) (rest := [.ref (ev_ad E 49), .ref (ev_ad E 64)]) (s_X10_humOf hE h) dX10_couplesOf_111 ly_49 rfl (Or.inl ml_X10_109) cm_X10_humOf rfl (rm_ok (by decide)) rm_0 (Nat.le_of_ble_eq_true rfl) ?_
                rintro _ G5 ⟨r4, rfl, h⟩
                refine pw_aload_n dX10_couplesOf_114 rfl 1 rfl ?_
                refine pw_iload dX10_couplesOf_115 5 rfl ?_
                refine pw_callV (As := [.int x5]) (rest := [.int r4, .ref (ev_ad E 49), .ref (ev_ad E 64)]) (s_X10_humOf hE h) dX10_couplesOf_117 ly_49 rfl (Or.inl ml_X10_109) cm_X10_humOf rfl (rm_ok (by decide)) rm_0 (Nat.le_of_ble_eq_true rfl) ?_
                rintro _ G7 ⟨r6, rfl, h⟩
                refine pw_isub dX10_couplesOf_120 ?_
                refine pw_callV (As := [.int (r4 - r6)]) (rest := [.ref (ev_ad E 64)]) (s_X10_without hE h) dX10_couplesOf_121 ly_49 rfl (Or.inl ml_X10_223) cm_X10_without rfl (rm_ok (by decide)) rm_0 (Nat.le_of_ble_eq_true rfl) ?_
                rintro _ G9 ⟨r8, rfl, h⟩
                refine pw_iconst (v := (1 : Int32)) dX10_couplesOf_124 (by decide) ?_
                obtain ⟨hv10, h⟩ := h
                refine pw_zast (z := r8.toNatClampNeg) dX10_couplesOf_125 ly_64 hv10 rfl ?_
                refine pw_iinc (k := 5) (v := x5 + 1) (lv' := [(5, .int (x5 + 1)), (3, .int (x3 + (1 : Int32))), (0, .ref (ev_ad E 49)), (1, .int x1), (2, .int x2), (4, .int x4)]) dX10_couplesOf_126 rfl rfl (by decide) rfl ?_
                refine pw_goto (tgt := 44) dX10_couplesOf_129 (by decide) ?_
                refine pw_loc (lv' := [(0, .ref (ev_ad E 49)), (1, .int x1), (2, .int x2), (3, .int (x3 + (1 : Int32))), (4, .int x4), (5, .int (x5 + 1))]) [2, 3, 4, 1, 5, 0] rfl ?_
                exact ih _ _ _ _ _ _ h
              · have h := h.2 hc
                refine pw_goto (tgt := 126) dX10_couplesOf_96 (by decide) ?_
                refine pw_iinc (k := 5) (v := x5 + 1) (lv' := [(5, .int (x5 + 1)), (0, .ref (ev_ad E 49)), (1, .int x1), (2, .int x2), (3, .int x3), (4, .int x4)]) dX10_couplesOf_126 rfl rfl (by decide) rfl ?_
                refine pw_goto (tgt := 44) dX10_couplesOf_129 (by decide) ?_
                refine pw_loc (lv' := [(0, .ref (ev_ad E 49)), (1, .int x1), (2, .int x2), (3, .int x3), (4, .int x4), (5, .int (x5 + 1))]) [1, 2, 3, 4, 5, 0] rfl ?_
                exact ih _ _ _ _ _ _ h
def lp_X10_couplesOf_29 (Q : Int32 → GS → Prop)  : Nat → Int32 → Int32 → Int32 → Int32 → GS → Prop
  | 0, _, _, _, _, _ => False
  | n + 1, x1, x2, x3, x4, G => (((G 49 4) ≤ x4 → Q x3 G) ∧ (¬ (G 49 4) ≤ x4 → (∃ kf, lp_X10_couplesOf_44 Q (fun y1 y2 y3 y4 G => lp_X10_couplesOf_29 Q n y1 y2 y3 y4 G) kf x1 x2 x3 x4 (x4 + (1 : Int32)) G)))
set_option maxRecDepth 100000 in
set_option maxHeartbeats 4000000 in
theorem t_X10_couplesOf_29 {E : EV} (hE : EI_ E) (Q : Int32 → GS → Prop)  : ∀ (n : Nat) (x1 : Int32) (x2 : Int32) (x3 : Int32) (x4 : Int32) (G : GS), lp_X10_couplesOf_29 Q n x1 x2 x3 x4 G → PW_ E mi_X10_couplesOf (rm_ 5) 0 0 29 [(0, .ref (ev_ad E 49)), (1, .int x1), (2, .int x2), (3, .int x3), (4, .int x4)] [] G (qi_ Q) := by
  intro n
  induction n with
  | zero => intro x1 x2 x3 x4 G h; exact h.elim
  | succ n ih =>
    intro x1 x2 x3 x4 G h
    refine pw_iload dX10_couplesOf_29 4 rfl ?_
    refine pw_aload_n dX10_couplesOf_31 rfl 0 rfl ?_
    refine pw_geti (v := G 49 4) dX10_couplesOf_32 fa_X10_98 ly_49 rfl rfl ?_
    refine pw_icmp_ge (tgt := 138) dX10_couplesOf_35 (by decide) (fun hc => ?_) (fun hc => ?_)
    · have h := h.1 hc
      refine pw_iload_n dX10_couplesOf_138 rfl 3 rfl ?_
      exact pw_ireturn dX10_couplesOf_139 rfl rfl ⟨_, rfl, h⟩
    · have h := h.2 hc
      refine pw_iload dX10_couplesOf_38 4 rfl ?_
      refine pw_iconst (v := (1 : Int32)) dX10_couplesOf_40 (by decide) ?_
      refine pw_iadd dX10_couplesOf_41 ?_
      refine pw_istore (lv' := [(5, .int (x4 + (1 : Int32))), (0, .ref (ev_ad E 49)), (1, .int x1), (2, .int x2), (3, .int x3), (4, .int x4)]) dX10_couplesOf_42 (by decide) rfl ?_
      refine pw_loc (lv' := [(0, .ref (ev_ad E 49)), (1, .int x1), (2, .int x2), (3, .int x3), (4, .int x4), (5, .int (x4 + (1 : Int32)))]) [1, 2, 3, 4, 5, 0] rfl ?_
      obtain ⟨kf, h⟩ := h
      exact t_X10_couplesOf_44 hE Q (fun y1 y2 y3 y4 G => lp_X10_couplesOf_29 Q n y1 y2 y3 y4 G) ih kf _ _ _ _ _ _ h
def lp_X10_couplesOf_5 (Q : Int32 → GS → Prop)  : Nat → Int32 → Int32 → Int32 → Int32 → GS → Prop
  | 0, _, _, _, _, _ => False
  | n + 1, x1, x2, x3, x4, G => (((61 : Int32) ≤ x4 → (∃ kf, lp_X10_couplesOf_29 Q kf x1 x2 x3 (0 : Int32) G)) ∧ (¬ (61 : Int32) ≤ x4 → (vp_in x4 61 ∧ lp_X10_couplesOf_5 Q n x1 x2 x3 (x4 + 1) (gu_ G 64 x4.toNatClampNeg (vp_nar .boolean (0 : Int32))))))
set_option maxRecDepth 100000 in
set_option maxHeartbeats 4000000 in
theorem t_X10_couplesOf_5 {E : EV} (hE : EI_ E) (Q : Int32 → GS → Prop)  : ∀ (n : Nat) (x1 : Int32) (x2 : Int32) (x3 : Int32) (x4 : Int32) (G : GS), lp_X10_couplesOf_5 Q n x1 x2 x3 x4 G → PW_ E mi_X10_couplesOf (rm_ 5) 0 0 5 [(0, .ref (ev_ad E 49)), (1, .int x1), (2, .int x2), (3, .int x3), (4, .int x4)] [] G (qi_ Q) := by
  intro n
  induction n with
  | zero => intro x1 x2 x3 x4 G h; exact h.elim
  | succ n ih =>
    intro x1 x2 x3 x4 G h
    refine pw_iload dX10_couplesOf_5 4 rfl ?_
    refine pw_bipush (v := (61 : Int32)) dX10_couplesOf_7 (by decide) ?_
    refine pw_icmp_ge (tgt := 26) dX10_couplesOf_9 (by decide) (fun hc => ?_) (fun hc => ?_)
    · have h := h.1 hc
      refine pw_iconst (v := (0 : Int32)) dX10_couplesOf_26 (by decide) ?_
      refine pw_istore (lv' := [(4, .int (0 : Int32)), (0, .ref (ev_ad E 49)), (1, .int x1), (2, .int x2), (3, .int x3)]) dX10_couplesOf_27 (by decide) rfl ?_
      refine pw_loc (lv' := [(0, .ref (ev_ad E 49)), (1, .int x1), (2, .int x2), (3, .int x3), (4, .int (0 : Int32))]) [1, 2, 3, 4, 0] rfl ?_
      obtain ⟨kf, h⟩ := h
      exact t_X10_couplesOf_29 hE Q kf _ _ _ _ _ h
    · have h := h.2 hc
      refine pw_aload_n dX10_couplesOf_12 rfl 0 rfl ?_
      refine pw_getr (q := 64) dX10_couplesOf_13 fa_X10_56 ly_49 rfl ?_
      refine pw_iload dX10_couplesOf_16 4 rfl ?_
      refine pw_iconst (v := (0 : Int32)) dX10_couplesOf_18 (by decide) ?_
      obtain ⟨hv1, h⟩ := h
      refine pw_zast (z := x4.toNatClampNeg) dX10_couplesOf_19 ly_64 hv1 rfl ?_
      refine pw_iinc (k := 4) (v := x4 + 1) (lv' := [(4, .int (x4 + 1)), (0, .ref (ev_ad E 49)), (1, .int x1), (2, .int x2), (3, .int x3)]) dX10_couplesOf_20 rfl rfl (by decide) rfl ?_
      refine pw_goto (tgt := 5) dX10_couplesOf_23 (by decide) ?_
      refine pw_loc (lv' := [(0, .ref (ev_ad E 49)), (1, .int x1), (2, .int x2), (3, .int x3), (4, .int (x4 + 1))]) [1, 2, 3, 4, 0] rfl ?_
      exact ih _ _ _ _ _ h
def wp_X10_couplesOf (a1 : Int32) (a2 : Int32) (G : GS) (Q : Int32 → GS → Prop) : Prop := (∃ kf, lp_X10_couplesOf_5 Q kf a1 a2 (0 : Int32) (0 : Int32) G)
set_option maxRecDepth 100000 in
set_option maxHeartbeats 4000000 in
theorem s_X10_couplesOf {E : EV} (hE : EI_ E) {a1 : Int32} {a2 : Int32} {G : GS} {Q : Int32 → GS → Prop} (h : wp_X10_couplesOf a1 a2 G Q) : PMet E mi_X10_couplesOf 5 [.ref (ev_ad E 49), .int a1, .int a2] G (qi_ Q) := by
  refine pm_of hE (by decide) (Nat.le_of_ble_eq_true rfl) ?_
  refine pw_loc (lv' := [(0, .ref (ev_ad E 49)), (1, .int a1), (2, .int a2)]) [0, 1, 2] rfl ?_
  refine pw_iconst (v := (0 : Int32)) dX10_couplesOf_0 (by decide) ?_
  refine pw_istore_n (lv' := [(3, .int (0 : Int32)), (0, .ref (ev_ad E 49)), (1, .int a1), (2, .int a2)]) dX10_couplesOf_1 rfl (by decide) rfl ?_
  refine pw_iconst (v := (0 : Int32)) dX10_couplesOf_2 (by decide) ?_
  refine pw_istore (lv' := [(4, .int (0 : Int32)), (3, .int (0 : Int32)), (0, .ref (ev_ad E 49)), (1, .int a1), (2, .int a2)]) dX10_couplesOf_3 (by decide) rfl ?_
  refine pw_loc (lv' := [(0, .ref (ev_ad E 49)), (1, .int a1), (2, .int a2), (3, .int (0 : Int32)), (4, .int (0 : Int32))]) [2, 3, 4, 1, 0] rfl ?_
  obtain ⟨kf, h⟩ := h
  exact t_X10_couplesOf_5 hE Q kf _ _ _ _ _ h
def lp_X10_wordsOf_14 (Q : Int32 → GS → Prop)  : Nat → Int32 → Int32 → GS → Prop
  | 0, _, _, _ => False
  | n + 1, x2, x3, G => (((61 : Int32) ≤ x3 → Q x2 G) ∧ (¬ (61 : Int32) ≤ x3 → (vp_in x3 61 ∧ (((G 64 x3.toNatClampNeg) = 0 → lp_X10_wordsOf_14 Q n x2 (x3 + 1) G) ∧ (¬ (G 64 x3.toNatClampNeg) = 0 → lp_X10_wordsOf_14 Q n (x2 + (1 : Int32)) (x3 + 1) G)))))
set_option maxRecDepth 100000 in
set_option maxHeartbeats 4000000 in
theorem t_X10_wordsOf_14 {E : EV} (hE : EI_ E) (Q : Int32 → GS → Prop)  : ∀ (n : Nat) (x2 : Int32) (x3 : Int32) (G : GS), lp_X10_wordsOf_14 Q n x2 x3 G → PW_ E mi_X10_wordsOf (rm_ 6) 0 0 14 [(0, .ref (ev_ad E 49)), (2, .int x2), (3, .int x3)] [] G (qi_ Q) := by
  intro n
  induction n with
  | zero => intro x2 x3 G h; exact h.elim
  | succ n ih =>
    intro x2 x3 G h
    refine pw_iload_n dX10_wordsOf_14 rfl 2 rfl ?_
    refine pw_bipush (v := (61 : Int32)) dX10_wordsOf_15 (by decide) ?_
    refine pw_icmp_ge (tgt := 39) dX10_wordsOf_17 (by decide) (fun hc => ?_) (fun hc => ?_)
    · have h := h.1 hc
      refine pw_iload_n dX10_wordsOf_39 rfl 1 rfl ?_
      exact pw_ireturn dX10_wordsOf_40 rfl rfl ⟨_, rfl, h⟩
    · have h := h.2 hc
      refine pw_aload_n dX10_wordsOf_20 rfl 0 rfl ?_
      refine pw_getr (q := 64) dX10_wordsOf_21 fa_X10_56 ly_49 rfl ?_
      refine pw_iload_n dX10_wordsOf_24 rfl 2 rfl ?_
      obtain ⟨hv3, h⟩ := h
      refine pw_zald (v := G 64 x3.toNatClampNeg) dX10_wordsOf_25 ly_64 hv3 rfl ?_
      refine pw_if_eq (tgt := 33) dX10_wordsOf_26 (by decide) (fun hc => ?_) (fun hc => ?_)
      · have h := h.1 hc
        refine pw_iinc (k := 2) (v := x3 + 1) (lv' := [(3, .int (x3 + 1)), (0, .ref (ev_ad E 49)), (2, .int x2)]) dX10_wordsOf_33 rfl rfl (by decide) rfl ?_
        refine pw_goto (tgt := 14) dX10_wordsOf_36 (by decide) ?_
        refine pw_loc (lv' := [(0, .ref (ev_ad E 49)), (2, .int x2), (3, .int (x3 + 1))]) [1, 2, 0] rfl ?_
        exact ih _ _ _ h
      · have h := h.2 hc
        refine pw_iload_n dX10_wordsOf_29 rfl 1 rfl ?_
        refine pw_iconst (v := (1 : Int32)) dX10_wordsOf_30 (by decide) ?_
        refine pw_iadd dX10_wordsOf_31 ?_
        refine pw_istore_n (lv' := [(2, .int (x2 + (1 : Int32))), (0, .ref (ev_ad E 49)), (3, .int x3)]) dX10_wordsOf_32 rfl (by decide) rfl ?_
        refine pw_iinc (k := 2) (v := x3 + 1) (lv' := [(3, .int (x3 + 1)), (2, .int (x2 + (1 : Int32))), (0, .ref (ev_ad E 49))]) dX10_wordsOf_33 rfl rfl (by decide) rfl ?_
        refine pw_goto (tgt := 14) dX10_wordsOf_36 (by decide) ?_
        refine pw_loc (lv' := [(0, .ref (ev_ad E 49)), (2, .int (x2 + (1 : Int32))), (3, .int (x3 + 1))]) [2, 1, 0] rfl ?_
        exact ih _ _ _ h
def wp_X10_wordsOf (a1 : Int32) (G : GS) (Q : Int32 → GS → Prop) : Prop := wp_X10_couplesOf a1 (G 49 5) G (fun r1 G2 => (∃ kf, lp_X10_wordsOf_14 Q kf (0 : Int32) (0 : Int32) G2))
set_option maxRecDepth 100000 in
set_option maxHeartbeats 4000000 in
theorem s_X10_wordsOf {E : EV} (hE : EI_ E) {a1 : Int32} {G : GS} {Q : Int32 → GS → Prop} (h : wp_X10_wordsOf a1 G Q) : PMet E mi_X10_wordsOf 6 [.ref (ev_ad E 49), .int a1] G (qi_ Q) := by
  refine pm_of hE (by decide) (Nat.le_of_ble_eq_true rfl) ?_
  refine pw_loc (lv' := [(0, .ref (ev_ad E 49)), (1, .int a1)]) [0, 1] rfl ?_
  refine pw_aload_n dX10_wordsOf_0 rfl 0 rfl ?_
  refine pw_iload_n dX10_wordsOf_1 rfl 1 rfl ?_
  refine pw_aload_n dX10_wordsOf_2 rfl 0 rfl ?_
  refine pw_geti (v := G 49 5) dX10_wordsOf_3 fa_X10_116 ly_49 rfl rfl ?_
  refine pw_callV (As := [.int a1, .int (G 49 5)]) (rest := []) (s_X10_couplesOf hE h) dX10_wordsOf_6 ly_49 rfl (Or.inl ml_X10_244) cm_X10_couplesOf rfl (rm_ok (by decide)) rm_0 (Nat.le_of_ble_eq_true rfl) ?_
  rintro _ G2 ⟨r1, rfl, h⟩
  refine pw_pop dX10_wordsOf_9 rfl ?_
  refine pw_iconst (v := (0 : Int32)) dX10_wordsOf_10 (by decide) ?_
  refine pw_istore_n (lv' := [(2, .int (0 : Int32)), (0, .ref (ev_ad E 49)), (1, .int a1)]) dX10_wordsOf_11 rfl (by decide) rfl ?_
  refine pw_iconst (v := (0 : Int32)) dX10_wordsOf_12 (by decide) ?_
  refine pw_istore_n (lv' := [(3, .int (0 : Int32)), (2, .int (0 : Int32)), (0, .ref (ev_ad E 49)), (1, .int a1)]) dX10_wordsOf_13 rfl (by decide) rfl ?_
  refine pw_loc (lv' := [(0, .ref (ev_ad E 49)), (2, .int (0 : Int32)), (3, .int (0 : Int32))]) [2, 1, 0] rfl ?_
  obtain ⟨kf, h⟩ := h
  exact t_X10_wordsOf_14 hE Q kf _ _ _ h
def wp_X10_of (a1 : Int32) (a2 : Int32) (G : GS) (Q : Int32 → GS → Prop) : Prop := wp_X10_isPerson a1 (gu_ G 49 0 (0 : Int32)) (fun r1 G2 => ((¬ r1 = 0 → ((¬ a2 = 0 → ((¬ a2 = (1 : Int32) → ((¬ a2 = (2 : Int32) → ((¬ a2 = (3 : Int32) → ((¬ a2 = (4 : Int32) → Q (-2 : Int32) G2) ∧ (a2 = (4 : Int32) → wp_X10_wordsOf a1 G2 (fun r3 G4 => Q r3 G4)))) ∧ (a2 = (3 : Int32) → wp_X10_couplesOf a1 (G2 49 5) G2 (fun r5 G6 => Q r5 G6)))) ∧ (a2 = (2 : Int32) → (vp_in a1 10 ∧ Q ((G2 52 a1.toNatClampNeg) + (5 : Int32)) G2)))) ∧ (a2 = (1 : Int32) → Q (((G2 49 5) >>> (a1 &&& 31)) &&& (1 : Int32)) G2))) ∧ (a2 = 0 → wp_X10_humOf a1 G2 (fun r8 G9 => Q r8 G9)))) ∧ (r1 = 0 → Q (-2 : Int32) G2)))
set_option maxRecDepth 100000 in
set_option maxHeartbeats 4000000 in
theorem s_X10_of {E : EV} (hE : EI_ E) {a1 : Int32} {a2 : Int32} {G : GS} {Q : Int32 → GS → Prop} (h : wp_X10_of a1 a2 G Q) : PMet E mi_X10_of 7 [.ref (ev_ad E 49), .int a1, .int a2] G (qi_ Q) := by
  refine pm_of hE (by decide) (Nat.le_of_ble_eq_true rfl) ?_
  refine pw_loc (lv' := [(0, .ref (ev_ad E 49)), (1, .int a1), (2, .int a2)]) [0, 1, 2] rfl ?_
  refine pw_aload_n dX10_of_0 rfl 0 rfl ?_
  refine pw_iconst (v := (0 : Int32)) dX10_of_1 (by decide) ?_
  refine pw_puti dX10_of_2 fp_X10_90 ly_49 rfl ?_
  refine pw_aload_n dX10_of_5 rfl 0 rfl ?_
  refine pw_iload_n dX10_of_6 rfl 1 rfl ?_
  refine pw_callV (As := [.int a1]) (rest := []) (s_X10_isPerson hE h) dX10_of_7 ly_49 rfl (Or.inl ml_X10_105) cm_X10_isPerson rfl (rm_ok (by decide)) rm_0 (Nat.le_of_ble_eq_true rfl) ?_
  rintro _ G2 ⟨r1, rfl, h⟩
  refine pw_if_ne (tgt := 16) dX10_of_10 (by decide) (fun hc => ?_) (fun hc => ?_)
  · have h := h.1 hc
    refine pw_iload_n dX10_of_16 rfl 2 rfl ?_
    refine pw_if_ne (tgt := 26) dX10_of_17 (by decide) (fun hc => ?_) (fun hc => ?_)
    · have h := h.1 hc
      refine pw_iload_n dX10_of_26 rfl 2 rfl ?_
      refine pw_iconst (v := (1 : Int32)) dX10_of_27 (by decide) ?_
      refine pw_icmp_ne (tgt := 40) dX10_of_28 (by decide) (fun hc => ?_) (fun hc => ?_)
      · have h := h.1 hc
        refine pw_iload_n dX10_of_40 rfl 2 rfl ?_
        refine pw_iconst (v := (2 : Int32)) dX10_of_41 (by decide) ?_
        refine pw_icmp_ne (tgt := 54) dX10_of_42 (by decide) (fun hc => ?_) (fun hc => ?_)
        · have h := h.1 hc
          refine pw_iload_n dX10_of_54 rfl 2 rfl ?_
          refine pw_iconst (v := (3 : Int32)) dX10_of_55 (by decide) ?_
          refine pw_icmp_ne (tgt := 71) dX10_of_56 (by decide) (fun hc => ?_) (fun hc => ?_)
          · have h := h.1 hc
            refine pw_iload_n dX10_of_71 rfl 2 rfl ?_
            refine pw_iconst (v := (4 : Int32)) dX10_of_72 (by decide) ?_
            refine pw_icmp_ne (tgt := 84) dX10_of_73 (by decide) (fun hc => ?_) (fun hc => ?_)
            · have h := h.1 hc
              refine pw_bipush (v := (-2 : Int32)) dX10_of_84 (by decide) ?_
              exact pw_ireturn dX10_of_86 rfl rfl ⟨_, rfl, h⟩
            · have h := h.2 hc
              refine pw_aload_n dX10_of_76 rfl 0 rfl ?_
              refine pw_iload_n dX10_of_77 rfl 1 rfl ?_
              refine pw_callV (As := [.int a1]) (rest := []) (s_X10_wordsOf hE h) dX10_of_78 ly_49 rfl (Or.inl ml_X10_247) cm_X10_wordsOf rfl (rm_ok (by decide)) rm_0 (Nat.le_of_ble_eq_true rfl) ?_
              rintro _ G4 ⟨r3, rfl, h⟩
              refine pw_goto (tgt := 86) dX10_of_81 (by decide) ?_
              exact pw_ireturn dX10_of_86 rfl rfl ⟨_, rfl, h⟩
          · have h := h.2 hc
            refine pw_aload_n dX10_of_59 rfl 0 rfl ?_
            refine pw_iload_n dX10_of_60 rfl 1 rfl ?_
            refine pw_aload_n dX10_of_61 rfl 0 rfl ?_
            refine pw_geti (v := G2 49 5) dX10_of_62 fa_X10_116 ly_49 rfl rfl ?_
            refine pw_callV (As := [.int a1, .int (G2 49 5)]) (rest := []) (s_X10_couplesOf hE h) dX10_of_65 ly_49 rfl (Or.inl ml_X10_244) cm_X10_couplesOf rfl (rm_ok (by decide)) rm_0 (Nat.le_of_ble_eq_true rfl) ?_
            rintro _ G6 ⟨r5, rfl, h⟩
            refine pw_goto (tgt := 86) dX10_of_68 (by decide) ?_
            exact pw_ireturn dX10_of_86 rfl rfl ⟨_, rfl, h⟩
        · have h := h.2 hc
          refine pw_aload_n dX10_of_45 rfl 0 rfl ?_
          refine pw_getr (q := 52) dX10_of_46 fa_X10_16 ly_49 rfl ?_
          refine pw_iload_n dX10_of_49 rfl 1 rfl ?_
          obtain ⟨hv7, h⟩ := h
          refine pw_iald (v := G2 52 a1.toNatClampNeg) dX10_of_50 ly_52 hv7 rfl ?_
          refine pw_iconst (v := (5 : Int32)) dX10_of_51 (by decide) ?_
          refine pw_iadd dX10_of_52 ?_
          exact pw_ireturn dX10_of_53 rfl rfl ⟨_, rfl, h⟩
      · have h := h.2 hc
        refine pw_aload_n dX10_of_31 rfl 0 rfl ?_
        refine pw_geti (v := G2 49 5) dX10_of_32 fa_X10_116 ly_49 rfl rfl ?_
        refine pw_iload_n dX10_of_35 rfl 1 rfl ?_
        refine pw_ishr dX10_of_36 ?_
        refine pw_iconst (v := (1 : Int32)) dX10_of_37 (by decide) ?_
        refine pw_iand dX10_of_38 ?_
        exact pw_ireturn dX10_of_39 rfl rfl ⟨_, rfl, h⟩
    · have h := h.2 hc
      refine pw_aload_n dX10_of_20 rfl 0 rfl ?_
      refine pw_iload_n dX10_of_21 rfl 1 rfl ?_
      refine pw_callV (As := [.int a1]) (rest := []) (s_X10_humOf hE h) dX10_of_22 ly_49 rfl (Or.inl ml_X10_109) cm_X10_humOf rfl (rm_ok (by decide)) rm_0 (Nat.le_of_ble_eq_true rfl) ?_
      rintro _ G9 ⟨r8, rfl, h⟩
      exact pw_ireturn dX10_of_25 rfl rfl ⟨_, rfl, h⟩
  · have h := h.2 hc
    refine pw_bipush (v := (-2 : Int32)) dX10_of_13 (by decide) ?_
    exact pw_ireturn dX10_of_15 rfl rfl ⟨_, rfl, h⟩
def wp_X10_areThree (a1 : Int32) (a2 : Int32) (a3 : Int32) (G : GS) (Q : Int32 → GS → Prop) : Prop := wp_X10_isPerson a1 G (fun r1 G2 => ((r1 = 0 → Q (0 : Int32) G2) ∧ (¬ r1 = 0 → wp_X10_isPerson a2 G2 (fun r3 G4 => ((r3 = 0 → Q (0 : Int32) G4) ∧ (¬ r3 = 0 → wp_X10_isPerson a3 G4 (fun r5 G6 => ((r5 = 0 → Q (0 : Int32) G6) ∧ (¬ r5 = 0 → ((a1 = a2 → Q (0 : Int32) G6) ∧ (¬ a1 = a2 → ((a1 = a3 → Q (0 : Int32) G6) ∧ (¬ a1 = a3 → ((a2 = a3 → Q (0 : Int32) G6) ∧ (¬ a2 = a3 → Q (1 : Int32) G6)))))))))))))))
set_option maxRecDepth 100000 in
set_option maxHeartbeats 4000000 in
theorem s_X10_areThree {E : EV} (hE : EI_ E) {a1 : Int32} {a2 : Int32} {a3 : Int32} {G : GS} {Q : Int32 → GS → Prop} (h : wp_X10_areThree a1 a2 a3 G Q) : PMet E mi_X10_areThree 2 [.ref (ev_ad E 49), .int a1, .int a2, .int a3] G (qi_ Q) := by
  refine pm_of hE (by decide) (Nat.le_of_ble_eq_true rfl) ?_
  refine pw_loc (lv' := [(0, .ref (ev_ad E 49)), (1, .int a1), (2, .int a2), (3, .int a3)]) [0, 1, 2, 3] rfl ?_
  refine pw_aload_n dX10_areThree_0 rfl 0 rfl ?_
  refine pw_iload_n dX10_areThree_1 rfl 1 rfl ?_
  refine pw_callV (As := [.int a1]) (rest := []) (s_X10_isPerson hE h) dX10_areThree_2 ly_49 rfl (Or.inl ml_X10_105) cm_X10_isPerson rfl (rm_ok (by decide)) rm_0 (Nat.le_of_ble_eq_true rfl) ?_
  rintro _ G2 ⟨r1, rfl, h⟩
  refine pw_if_eq (tgt := 43) dX10_areThree_5 (by decide) (fun hc => ?_) (fun hc => ?_)
  · have h := h.1 hc
    refine pw_iconst (v := (0 : Int32)) dX10_areThree_43 (by decide) ?_
    exact pw_ireturn dX10_areThree_44 rfl rfl ⟨_, rfl, h⟩
  · have h := h.2 hc
    refine pw_aload_n dX10_areThree_8 rfl 0 rfl ?_
    refine pw_iload_n dX10_areThree_9 rfl 2 rfl ?_
    refine pw_callV (As := [.int a2]) (rest := []) (s_X10_isPerson hE h) dX10_areThree_10 ly_49 rfl (Or.inl ml_X10_105) cm_X10_isPerson rfl (rm_ok (by decide)) rm_0 (Nat.le_of_ble_eq_true rfl) ?_
    rintro _ G4 ⟨r3, rfl, h⟩
    refine pw_if_eq (tgt := 43) dX10_areThree_13 (by decide) (fun hc => ?_) (fun hc => ?_)
    · have h := h.1 hc
      refine pw_iconst (v := (0 : Int32)) dX10_areThree_43 (by decide) ?_
      exact pw_ireturn dX10_areThree_44 rfl rfl ⟨_, rfl, h⟩
    · have h := h.2 hc
      refine pw_aload_n dX10_areThree_16 rfl 0 rfl ?_
      refine pw_iload_n dX10_areThree_17 rfl 3 rfl ?_
      refine pw_callV (As := [.int a3]) (rest := []) (s_X10_isPerson hE h) dX10_areThree_18 ly_49 rfl (Or.inl ml_X10_105) cm_X10_isPerson rfl (rm_ok (by decide)) rm_0 (Nat.le_of_ble_eq_true rfl) ?_
      rintro _ G6 ⟨r5, rfl, h⟩
      refine pw_if_eq (tgt := 43) dX10_areThree_21 (by decide) (fun hc => ?_) (fun hc => ?_)
      · have h := h.1 hc
        refine pw_iconst (v := (0 : Int32)) dX10_areThree_43 (by decide) ?_
        exact pw_ireturn dX10_areThree_44 rfl rfl ⟨_, rfl, h⟩
      · have h := h.2 hc
        refine pw_iload_n dX10_areThree_24 rfl 1 rfl ?_
        refine pw_iload_n dX10_areThree_25 rfl 2 rfl ?_
        refine pw_icmp_eq (tgt := 43) dX10_areThree_26 (by decide) (fun hc => ?_) (fun hc => ?_)
        · have h := h.1 hc
          refine pw_iconst (v := (0 : Int32)) dX10_areThree_43 (by decide) ?_
          exact pw_ireturn dX10_areThree_44 rfl rfl ⟨_, rfl, h⟩
        · have h := h.2 hc
          refine pw_iload_n dX10_areThree_29 rfl 1 rfl ?_
          refine pw_iload_n dX10_areThree_30 rfl 3 rfl ?_
          refine pw_icmp_eq (tgt := 43) dX10_areThree_31 (by decide) (fun hc => ?_) (fun hc => ?_)
          · have h := h.1 hc
            refine pw_iconst (v := (0 : Int32)) dX10_areThree_43 (by decide) ?_
            exact pw_ireturn dX10_areThree_44 rfl rfl ⟨_, rfl, h⟩
          · have h := h.2 hc
            refine pw_iload_n dX10_areThree_34 rfl 2 rfl ?_
            refine pw_iload_n dX10_areThree_35 rfl 3 rfl ?_
            refine pw_icmp_eq (tgt := 43) dX10_areThree_36 (by decide) (fun hc => ?_) (fun hc => ?_)
            · have h := h.1 hc
              refine pw_iconst (v := (0 : Int32)) dX10_areThree_43 (by decide) ?_
              exact pw_ireturn dX10_areThree_44 rfl rfl ⟨_, rfl, h⟩
            · have h := h.2 hc
              refine pw_iconst (v := (1 : Int32)) dX10_areThree_39 (by decide) ?_
              refine pw_goto (tgt := 44) dX10_areThree_40 (by decide) ?_
              exact pw_ireturn dX10_areThree_44 rfl rfl ⟨_, rfl, h⟩
def wp_X10_hears (a1 : Int32) (a2 : Int32) (a3 : Int32) (G : GS) (Q : Int32 → GS → Prop) : Prop := wp_X10_areThree a1 a2 a3 (gu_ G 49 0 (0 : Int32)) (fun r1 G2 => ((r1 = 0 → Q (-1 : Int32) G2) ∧ (¬ r1 = 0 → wp_X10_humOf a2 G2 (fun r3 G4 => ((r3 = (-1 : Int32) → Q (-1 : Int32) G4) ∧ (¬ r3 = (-1 : Int32) → wp_X10_humOf a3 G4 (fun r5 G6 => ((¬ r5 = (-1 : Int32) → wp_X10_hearsNow a1 a2 a3 (G6 49 5) G6 (fun r7 G8 => ((r7 = 0 → Q (0 : Int32) G8) ∧ (¬ r7 = 0 → Q (1 : Int32) G8)))) ∧ (r5 = (-1 : Int32) → Q (-1 : Int32) G6)))))))))
set_option maxRecDepth 100000 in
set_option maxHeartbeats 4000000 in
theorem s_X10_hears {E : EV} (hE : EI_ E) {a1 : Int32} {a2 : Int32} {a3 : Int32} {G : GS} {Q : Int32 → GS → Prop} (h : wp_X10_hears a1 a2 a3 G Q) : PMet E mi_X10_hears 5 [.ref (ev_ad E 49), .int a1, .int a2, .int a3] G (qi_ Q) := by
  refine pm_of hE (by decide) (Nat.le_of_ble_eq_true rfl) ?_
  refine pw_loc (lv' := [(0, .ref (ev_ad E 49)), (1, .int a1), (2, .int a2), (3, .int a3)]) [0, 1, 2, 3] rfl ?_
  refine pw_aload_n dX10_hears_0 rfl 0 rfl ?_
  refine pw_iconst (v := (0 : Int32)) dX10_hears_1 (by decide) ?_
  refine pw_puti dX10_hears_2 fp_X10_90 ly_49 rfl ?_
  refine pw_aload_n dX10_hears_5 rfl 0 rfl ?_
  refine pw_iload_n dX10_hears_6 rfl 1 rfl ?_
  refine pw_iload_n dX10_hears_7 rfl 2 rfl ?_
  refine pw_iload_n dX10_hears_8 rfl 3 rfl ?_
  refine pw_callV (As := [.int a1, .int a2, .int a3]) (rest := []) (s_X10_areThree hE h) dX10_hears_9 ly_49 rfl (Or.inl ml_X10_237) cm_X10_areThree rfl (rm_ok (by decide)) rm_0 (Nat.le_of_ble_eq_true rfl) ?_
  rintro _ G2 ⟨r1, rfl, h⟩
  refine pw_if_eq (tgt := 33) dX10_hears_12 (by decide) (fun hc => ?_) (fun hc => ?_)
  · have h := h.1 hc
    refine pw_iconst (v := (-1 : Int32)) dX10_hears_33 (by decide) ?_
    exact pw_ireturn dX10_hears_34 rfl rfl ⟨_, rfl, h⟩
  · have h := h.2 hc
    refine pw_aload_n dX10_hears_15 rfl 0 rfl ?_
    refine pw_iload_n dX10_hears_16 rfl 2 rfl ?_
    refine pw_callV (As := [.int a2]) (rest := []) (s_X10_humOf hE h) dX10_hears_17 ly_49 rfl (Or.inl ml_X10_109) cm_X10_humOf rfl (rm_ok (by decide)) rm_0 (Nat.le_of_ble_eq_true rfl) ?_
    rintro _ G4 ⟨r3, rfl, h⟩
    refine pw_iconst (v := (-1 : Int32)) dX10_hears_20 (by decide) ?_
    refine pw_icmp_eq (tgt := 33) dX10_hears_21 (by decide) (fun hc => ?_) (fun hc => ?_)
    · have h := h.1 hc
      refine pw_iconst (v := (-1 : Int32)) dX10_hears_33 (by decide) ?_
      exact pw_ireturn dX10_hears_34 rfl rfl ⟨_, rfl, h⟩
    · have h := h.2 hc
      refine pw_aload_n dX10_hears_24 rfl 0 rfl ?_
      refine pw_iload_n dX10_hears_25 rfl 3 rfl ?_
      refine pw_callV (As := [.int a3]) (rest := []) (s_X10_humOf hE h) dX10_hears_26 ly_49 rfl (Or.inl ml_X10_109) cm_X10_humOf rfl (rm_ok (by decide)) rm_0 (Nat.le_of_ble_eq_true rfl) ?_
      rintro _ G6 ⟨r5, rfl, h⟩
      refine pw_iconst (v := (-1 : Int32)) dX10_hears_29 (by decide) ?_
      refine pw_icmp_ne (tgt := 35) dX10_hears_30 (by decide) (fun hc => ?_) (fun hc => ?_)
      · have h := h.1 hc
        refine pw_aload_n dX10_hears_35 rfl 0 rfl ?_
        refine pw_iload_n dX10_hears_36 rfl 1 rfl ?_
        refine pw_iload_n dX10_hears_37 rfl 2 rfl ?_
        refine pw_iload_n dX10_hears_38 rfl 3 rfl ?_
        refine pw_aload_n dX10_hears_39 rfl 0 rfl ?_
        refine pw_geti (v := G6 49 5) dX10_hears_40 fa_X10_116 ly_49 rfl rfl ?_
        refine pw_callV (As := [.int a1, .int a2, .int a3, .int (G6 49 5)]) (rest := []) (s_X10_hearsNow hE h) dX10_hears_43 ly_49 rfl (Or.inl ml_X10_240) cm_X10_hearsNow rfl (rm_ok (by decide)) rm_0 (Nat.le_of_ble_eq_true rfl) ?_
        rintro _ G8 ⟨r7, rfl, h⟩
        refine pw_if_eq (tgt := 53) dX10_hears_46 (by decide) (fun hc => ?_) (fun hc => ?_)
        · have h := h.1 hc
          refine pw_iconst (v := (0 : Int32)) dX10_hears_53 (by decide) ?_
          exact pw_ireturn dX10_hears_54 rfl rfl ⟨_, rfl, h⟩
        · have h := h.2 hc
          refine pw_iconst (v := (1 : Int32)) dX10_hears_49 (by decide) ?_
          refine pw_goto (tgt := 54) dX10_hears_50 (by decide) ?_
          exact pw_ireturn dX10_hears_54 rfl rfl ⟨_, rfl, h⟩
      · have h := h.2 hc
        refine pw_iconst (v := (-1 : Int32)) dX10_hears_33 (by decide) ?_
        exact pw_ireturn dX10_hears_34 rfl rfl ⟨_, rfl, h⟩
def wp_X10_deaf (a1 : Int32) (a2 : Int32) (G : GS) (Q : Int32 → GS → Prop) : Prop := wp_X10_isPerson a1 (gu_ G 49 0 (0 : Int32)) (fun r1 G2 => ((r1 = 0 → Q (-1000 : Int32) G2) ∧ (¬ r1 = 0 → wp_X10_isPerson a2 G2 (fun r3 G4 => ((r3 = 0 → Q (-1000 : Int32) G4) ∧ (¬ r3 = 0 → ((¬ a1 = a2 → wp_X10_couplesOf a1 (G4 49 5) G4 (fun r5 G6 => wp_X10_couplesOf a1 ((G6 49 5) &&& (((1 : Int32) <<< (a2 &&& 31)) ^^^ (-1 : Int32))) G6 (fun r7 G8 => Q (r5 - r7) G8))) ∧ (a1 = a2 → Q (-1000 : Int32) G4))))))))
set_option maxRecDepth 100000 in
set_option maxHeartbeats 4000000 in
theorem s_X10_deaf {E : EV} (hE : EI_ E) {a1 : Int32} {a2 : Int32} {G : GS} {Q : Int32 → GS → Prop} (h : wp_X10_deaf a1 a2 G Q) : PMet E mi_X10_deaf 6 [.ref (ev_ad E 49), .int a1, .int a2] G (qi_ Q) := by
  refine pm_of hE (by decide) (Nat.le_of_ble_eq_true rfl) ?_
  refine pw_loc (lv' := [(0, .ref (ev_ad E 49)), (1, .int a1), (2, .int a2)]) [0, 1, 2] rfl ?_
  refine pw_aload_n dX10_deaf_0 rfl 0 rfl ?_
  refine pw_iconst (v := (0 : Int32)) dX10_deaf_1 (by decide) ?_
  refine pw_puti dX10_deaf_2 fp_X10_90 ly_49 rfl ?_
  refine pw_aload_n dX10_deaf_5 rfl 0 rfl ?_
  refine pw_iload_n dX10_deaf_6 rfl 1 rfl ?_
  refine pw_callV (As := [.int a1]) (rest := []) (s_X10_isPerson hE h) dX10_deaf_7 ly_49 rfl (Or.inl ml_X10_105) cm_X10_isPerson rfl (rm_ok (by decide)) rm_0 (Nat.le_of_ble_eq_true rfl) ?_
  rintro _ G2 ⟨r1, rfl, h⟩
  refine pw_if_eq (tgt := 26) dX10_deaf_10 (by decide) (fun hc => ?_) (fun hc => ?_)
  · have h := h.1 hc
    refine pw_sipush (v := (-1000 : Int32)) dX10_deaf_26 (by decide) ?_
    exact pw_ireturn dX10_deaf_29 rfl rfl ⟨_, rfl, h⟩
  · have h := h.2 hc
    refine pw_aload_n dX10_deaf_13 rfl 0 rfl ?_
    refine pw_iload_n dX10_deaf_14 rfl 2 rfl ?_
    refine pw_callV (As := [.int a2]) (rest := []) (s_X10_isPerson hE h) dX10_deaf_15 ly_49 rfl (Or.inl ml_X10_105) cm_X10_isPerson rfl (rm_ok (by decide)) rm_0 (Nat.le_of_ble_eq_true rfl) ?_
    rintro _ G4 ⟨r3, rfl, h⟩
    refine pw_if_eq (tgt := 26) dX10_deaf_18 (by decide) (fun hc => ?_) (fun hc => ?_)
    · have h := h.1 hc
      refine pw_sipush (v := (-1000 : Int32)) dX10_deaf_26 (by decide) ?_
      exact pw_ireturn dX10_deaf_29 rfl rfl ⟨_, rfl, h⟩
    · have h := h.2 hc
      refine pw_iload_n dX10_deaf_21 rfl 1 rfl ?_
      refine pw_iload_n dX10_deaf_22 rfl 2 rfl ?_
      refine pw_icmp_ne (tgt := 30) dX10_deaf_23 (by decide) (fun hc => ?_) (fun hc => ?_)
      · have h := h.1 hc
        refine pw_aload_n dX10_deaf_30 rfl 0 rfl ?_
        refine pw_iload_n dX10_deaf_31 rfl 1 rfl ?_
        refine pw_aload_n dX10_deaf_32 rfl 0 rfl ?_
        refine pw_geti (v := G4 49 5) dX10_deaf_33 fa_X10_116 ly_49 rfl rfl ?_
        refine pw_callV (As := [.int a1, .int (G4 49 5)]) (rest := []) (s_X10_couplesOf hE h) dX10_deaf_36 ly_49 rfl (Or.inl ml_X10_244) cm_X10_couplesOf rfl (rm_ok (by decide)) rm_0 (Nat.le_of_ble_eq_true rfl) ?_
        rintro _ G6 ⟨r5, rfl, h⟩
        refine pw_aload_n dX10_deaf_39 rfl 0 rfl ?_
        refine pw_iload_n dX10_deaf_40 rfl 1 rfl ?_
        refine pw_aload_n dX10_deaf_41 rfl 0 rfl ?_
        refine pw_geti (v := G6 49 5) dX10_deaf_42 fa_X10_116 ly_49 rfl rfl ?_
        refine pw_iconst (v := (1 : Int32)) dX10_deaf_45 (by decide) ?_
        refine pw_iload_n dX10_deaf_46 rfl 2 rfl ?_
        refine pw_ishl dX10_deaf_47 ?_
        refine pw_iconst (v := (-1 : Int32)) dX10_deaf_48 (by decide) ?_
        refine pw_ixor dX10_deaf_49 ?_
        refine pw_iand dX10_deaf_50 ?_
        refine pw_callV (As := [.int a1, .int ((G6 49 5) &&& (((1 : Int32) <<< (a2 &&& 31)) ^^^ (-1 : Int32)))]) (rest := [.int r5]) (s_X10_couplesOf hE h) dX10_deaf_51 ly_49 rfl (Or.inl ml_X10_244) cm_X10_couplesOf rfl (rm_ok (by decide)) rm_0 (Nat.le_of_ble_eq_true rfl) ?_
        rintro _ G8 ⟨r7, rfl, h⟩
        refine pw_isub dX10_deaf_54 ?_
        exact pw_ireturn dX10_deaf_55 rfl rfl ⟨_, rfl, h⟩
      · have h := h.2 hc
        refine pw_sipush (v := (-1000 : Int32)) dX10_deaf_26 (by decide) ?_
        exact pw_ireturn dX10_deaf_29 rfl rfl ⟨_, rfl, h⟩
def wp_X10_book (a1 : Int32) (a2 : Int32) (G : GS) (Q : Int32 → GS → Prop) : Prop := wp_X10_isIn a1 (0 : Int32) ((G 50 10) - (1 : Int32)) (gu_ G 49 0 (0 : Int32)) (fun r1 G2 => ((r1 = 0 → Q (-1 : Int32) G2) ∧ (¬ r1 = 0 → wp_X10_isIn a2 (0 : Int32) (4 : Int32) G2 (fun r3 G4 => ((r3 = 0 → Q (-1 : Int32) G4) ∧ (¬ r3 = 0 → (vp_in (((5 : Int32) * a1) + a2) 500 ∧ Q (G4 53 ((((5 : Int32) * a1) + a2).toNatClampNeg)) G4)))))))
set_option maxRecDepth 100000 in
set_option maxHeartbeats 4000000 in
theorem s_X10_book {E : EV} (hE : EI_ E) {a1 : Int32} {a2 : Int32} {G : GS} {Q : Int32 → GS → Prop} (h : wp_X10_book a1 a2 G Q) : PMet E mi_X10_book 2 [.ref (ev_ad E 49), .int a1, .int a2] G (qi_ Q) := by
  refine pm_of hE (by decide) (Nat.le_of_ble_eq_true rfl) ?_
  refine pw_loc (lv' := [(0, .ref (ev_ad E 49)), (1, .int a1), (2, .int a2)]) [0, 1, 2] rfl ?_
  refine pw_aload_n dX10_book_0 rfl 0 rfl ?_
  refine pw_iconst (v := (0 : Int32)) dX10_book_1 (by decide) ?_
  refine pw_puti dX10_book_2 fp_X10_90 ly_49 rfl ?_
  refine pw_aload_n dX10_book_5 rfl 0 rfl ?_
  refine pw_iload_n dX10_book_6 rfl 1 rfl ?_
  refine pw_iconst (v := (0 : Int32)) dX10_book_7 (by decide) ?_
  refine pw_aload_n dX10_book_8 rfl 0 rfl ?_
  refine pw_getr (q := 50) dX10_book_9 fa_X10_7 ly_49 rfl ?_
  refine pw_bipush (v := (10 : Int32)) dX10_book_12 (by decide) ?_
  refine pw_iald (v := G 50 10) dX10_book_14 ly_50 (by unfold vp_in; decide) rfl ?_
  refine pw_iconst (v := (1 : Int32)) dX10_book_15 (by decide) ?_
  refine pw_isub dX10_book_16 ?_
  refine pw_callV (As := [.int a1, .int (0 : Int32), .int ((G 50 10) - (1 : Int32))]) (rest := []) (s_X10_isIn hE h) dX10_book_17 ly_49 rfl (Or.inl ml_X10_101) cm_X10_isIn rfl (rm_ok (by decide)) rm_0 (Nat.le_of_ble_eq_true rfl) ?_
  rintro _ G2 ⟨r1, rfl, h⟩
  refine pw_if_eq (tgt := 46) dX10_book_20 (by decide) (fun hc => ?_) (fun hc => ?_)
  · have h := h.1 hc
    refine pw_iconst (v := (-1 : Int32)) dX10_book_46 (by decide) ?_
    exact pw_ireturn dX10_book_47 rfl rfl ⟨_, rfl, h⟩
  · have h := h.2 hc
    refine pw_aload_n dX10_book_23 rfl 0 rfl ?_
    refine pw_iload_n dX10_book_24 rfl 2 rfl ?_
    refine pw_iconst (v := (0 : Int32)) dX10_book_25 (by decide) ?_
    refine pw_iconst (v := (4 : Int32)) dX10_book_26 (by decide) ?_
    refine pw_callV (As := [.int a2, .int (0 : Int32), .int (4 : Int32)]) (rest := []) (s_X10_isIn hE h) dX10_book_27 ly_49 rfl (Or.inl ml_X10_101) cm_X10_isIn rfl (rm_ok (by decide)) rm_0 (Nat.le_of_ble_eq_true rfl) ?_
    rintro _ G4 ⟨r3, rfl, h⟩
    refine pw_if_eq (tgt := 46) dX10_book_30 (by decide) (fun hc => ?_) (fun hc => ?_)
    · have h := h.1 hc
      refine pw_iconst (v := (-1 : Int32)) dX10_book_46 (by decide) ?_
      exact pw_ireturn dX10_book_47 rfl rfl ⟨_, rfl, h⟩
    · have h := h.2 hc
      refine pw_aload_n dX10_book_33 rfl 0 rfl ?_
      refine pw_getr (q := 53) dX10_book_34 fa_X10_19 ly_49 rfl ?_
      refine pw_iconst (v := (5 : Int32)) dX10_book_37 (by decide) ?_
      refine pw_iload_n dX10_book_38 rfl 1 rfl ?_
      refine pw_imul dX10_book_39 ?_
      refine pw_iload_n dX10_book_40 rfl 2 rfl ?_
      refine pw_iadd dX10_book_41 ?_
      obtain ⟨hv5, h⟩ := h
      refine pw_iald (v := G4 53 ((((5 : Int32) * a1) + a2).toNatClampNeg)) dX10_book_42 ly_53 hv5 rfl ?_
      refine pw_goto (tgt := 47) dX10_book_43 (by decide) ?_
      exact pw_ireturn dX10_book_47 rfl rfl ⟨_, rfl, h⟩
def wp_X10_isTune (a1 : Int32) (G : GS) (Q : Int32 → GS → Prop) : Prop := ((a1 < 0 → Q (0 : Int32) G) ∧ (¬ a1 < 0 → (((4 : Int32) ≤ a1 → Q (0 : Int32) G) ∧ (¬ (4 : Int32) ≤ a1 → Q (1 : Int32) G))))
set_option maxRecDepth 100000 in
set_option maxHeartbeats 4000000 in
theorem s_X10_isTune {E : EV} (hE : EI_ E) {a1 : Int32} {G : GS} {Q : Int32 → GS → Prop} (h : wp_X10_isTune a1 G Q) : PMet E mi_X10_isTune 1 [.ref (ev_ad E 49), .int a1] G (qi_ Q) := by
  refine pm_of hE (by decide) (Nat.le_of_ble_eq_true rfl) ?_
  refine pw_loc (lv' := [(0, .ref (ev_ad E 49)), (1, .int a1)]) [0, 1] rfl ?_
  refine pw_iload_n dX10_isTune_0 rfl 1 rfl ?_
  refine pw_if_lt (tgt := 13) dX10_isTune_1 (by decide) (fun hc => ?_) (fun hc => ?_)
  · have h := h.1 hc
    refine pw_iconst (v := (0 : Int32)) dX10_isTune_13 (by decide) ?_
    exact pw_ireturn dX10_isTune_14 rfl rfl ⟨_, rfl, h⟩
  · have h := h.2 hc
    refine pw_iload_n dX10_isTune_4 rfl 1 rfl ?_
    refine pw_iconst (v := (4 : Int32)) dX10_isTune_5 (by decide) ?_
    refine pw_icmp_ge (tgt := 13) dX10_isTune_6 (by decide) (fun hc => ?_) (fun hc => ?_)
    · have h := h.1 hc
      refine pw_iconst (v := (0 : Int32)) dX10_isTune_13 (by decide) ?_
      exact pw_ireturn dX10_isTune_14 rfl rfl ⟨_, rfl, h⟩
    · have h := h.2 hc
      refine pw_iconst (v := (1 : Int32)) dX10_isTune_9 (by decide) ?_
      refine pw_goto (tgt := 14) dX10_isTune_10 (by decide) ?_
      exact pw_ireturn dX10_isTune_14 rfl rfl ⟨_, rfl, h⟩
def wp_X10_tune (a1 : Int32) (a2 : Int32) (G : GS) (Q : Int32 → GS → Prop) : Prop := wp_X10_isTune a1 (gu_ G 49 0 (0 : Int32)) (fun r1 G2 => ((r1 = 0 → Q (-1 : Int32) G2) ∧ (¬ r1 = 0 → wp_X10_isIn a2 (-1 : Int32) (60 : Int32) G2 (fun r3 G4 => ((¬ r3 = 0 → ((¬ a2 = (-1 : Int32) → (vp_in a1 4 ∧ ((¬ (G4 65 a1.toNatClampNeg) = (12 : Int32) → (vp_in (((12 : Int32) * a1) + (G4 65 a1.toNatClampNeg)) 48 ∧ Q ((G4 65 a1.toNatClampNeg) + (1 : Int32)) (gu_ (gu_ G4 66 ((((12 : Int32) * a1) + (G4 65 a1.toNatClampNeg)).toNatClampNeg) a2) 65 a1.toNatClampNeg ((G4 65 a1.toNatClampNeg) + (1 : Int32))))) ∧ ((G4 65 a1.toNatClampNeg) = (12 : Int32) → Q (-1 : Int32) G4)))) ∧ (a2 = (-1 : Int32) → (vp_in a1 4 ∧ Q (0 : Int32) (gu_ G4 65 a1.toNatClampNeg (0 : Int32)))))) ∧ (r3 = 0 → Q (-1 : Int32) G4))))))
set_option maxRecDepth 100000 in
set_option maxHeartbeats 4000000 in
theorem s_X10_tune {E : EV} (hE : EI_ E) {a1 : Int32} {a2 : Int32} {G : GS} {Q : Int32 → GS → Prop} (h : wp_X10_tune a1 a2 G Q) : PMet E mi_X10_tune 2 [.ref (ev_ad E 49), .int a1, .int a2] G (qi_ Q) := by
  refine pm_of hE (by decide) (Nat.le_of_ble_eq_true rfl) ?_
  refine pw_loc (lv' := [(0, .ref (ev_ad E 49)), (1, .int a1), (2, .int a2)]) [0, 1, 2] rfl ?_
  refine pw_aload_n dX10_tune_0 rfl 0 rfl ?_
  refine pw_iconst (v := (0 : Int32)) dX10_tune_1 (by decide) ?_
  refine pw_puti dX10_tune_2 fp_X10_90 ly_49 rfl ?_
  refine pw_aload_n dX10_tune_5 rfl 0 rfl ?_
  refine pw_iload_n dX10_tune_6 rfl 1 rfl ?_
  refine pw_callV (As := [.int a1]) (rest := []) (s_X10_isTune hE h) dX10_tune_7 ly_49 rfl (Or.inl ml_X10_263) cm_X10_isTune rfl (rm_ok (by decide)) rm_0 (Nat.le_of_ble_eq_true rfl) ?_
  rintro _ G2 ⟨r1, rfl, h⟩
  refine pw_if_eq (tgt := 24) dX10_tune_10 (by decide) (fun hc => ?_) (fun hc => ?_)
  · have h := h.1 hc
    refine pw_iconst (v := (-1 : Int32)) dX10_tune_24 (by decide) ?_
    exact pw_ireturn dX10_tune_25 rfl rfl ⟨_, rfl, h⟩
  · have h := h.2 hc
    refine pw_aload_n dX10_tune_13 rfl 0 rfl ?_
    refine pw_iload_n dX10_tune_14 rfl 2 rfl ?_
    refine pw_iconst (v := (-1 : Int32)) dX10_tune_15 (by decide) ?_
    refine pw_bipush (v := (60 : Int32)) dX10_tune_16 (by decide) ?_
    refine pw_callV (As := [.int a2, .int (-1 : Int32), .int (60 : Int32)]) (rest := []) (s_X10_isIn hE h) dX10_tune_18 ly_49 rfl (Or.inl ml_X10_101) cm_X10_isIn rfl (rm_ok (by decide)) rm_0 (Nat.le_of_ble_eq_true rfl) ?_
    rintro _ G4 ⟨r3, rfl, h⟩
    refine pw_if_ne (tgt := 26) dX10_tune_21 (by decide) (fun hc => ?_) (fun hc => ?_)
    · have h := h.1 hc
      refine pw_iload_n dX10_tune_26 rfl 2 rfl ?_
      refine pw_iconst (v := (-1 : Int32)) dX10_tune_27 (by decide) ?_
      refine pw_icmp_ne (tgt := 40) dX10_tune_28 (by decide) (fun hc => ?_) (fun hc => ?_)
      · have h := h.1 hc
        refine pw_aload_n dX10_tune_40 rfl 0 rfl ?_
        refine pw_getr (q := 65) dX10_tune_41 fa_X10_60 ly_49 rfl ?_
        refine pw_iload_n dX10_tune_44 rfl 1 rfl ?_
        obtain ⟨hv5, h⟩ := h
        refine pw_iald (v := G4 65 a1.toNatClampNeg) dX10_tune_45 ly_65 hv5 rfl ?_
        refine pw_bipush (v := (12 : Int32)) dX10_tune_46 (by decide) ?_
        refine pw_icmp_ne (tgt := 53) dX10_tune_48 (by decide) (fun hc => ?_) (fun hc => ?_)
        · have h := h.1 hc
          refine pw_aload_n dX10_tune_53 rfl 0 rfl ?_
          refine pw_getr (q := 66) dX10_tune_54 fa_X10_63 ly_49 rfl ?_
          refine pw_bipush (v := (12 : Int32)) dX10_tune_57 (by decide) ?_
          refine pw_iload_n dX10_tune_59 rfl 1 rfl ?_
          refine pw_imul dX10_tune_60 ?_
          refine pw_aload_n dX10_tune_61 rfl 0 rfl ?_
          refine pw_getr (q := 65) dX10_tune_62 fa_X10_60 ly_49 rfl ?_
          refine pw_iload_n dX10_tune_65 rfl 1 rfl ?_
          refine pw_iald (v := G4 65 a1.toNatClampNeg) dX10_tune_66 ly_65 hv5 rfl ?_
          refine pw_iadd dX10_tune_67 ?_
          refine pw_iload_n dX10_tune_68 rfl 2 rfl ?_
          obtain ⟨hv6, h⟩ := h
          refine pw_iast (z := ((((12 : Int32) * a1) + (G4 65 a1.toNatClampNeg)).toNatClampNeg)) dX10_tune_69 ly_66 hv6 rfl ?_
          refine pw_aload_n dX10_tune_70 rfl 0 rfl ?_
          refine pw_getr (q := 65) dX10_tune_71 fa_X10_60 ly_49 rfl ?_
          refine pw_iload_n dX10_tune_74 rfl 1 rfl ?_
          refine pw_aload_n dX10_tune_75 rfl 0 rfl ?_
          refine pw_getr (q := 65) dX10_tune_76 fa_X10_60 ly_49 rfl ?_
          refine pw_iload_n dX10_tune_79 rfl 1 rfl ?_
          refine pw_iald (v := G4 65 a1.toNatClampNeg) dX10_tune_80 ly_65 hv5 rfl ?_
          refine pw_iconst (v := (1 : Int32)) dX10_tune_81 (by decide) ?_
          refine pw_iadd dX10_tune_82 ?_
          refine pw_iast (z := a1.toNatClampNeg) dX10_tune_83 ly_65 hv5 rfl ?_
          refine pw_aload_n dX10_tune_84 rfl 0 rfl ?_
          refine pw_getr (q := 65) dX10_tune_85 fa_X10_60 ly_49 rfl ?_
          refine pw_iload_n dX10_tune_88 rfl 1 rfl ?_
          refine pw_iald (v := (G4 65 a1.toNatClampNeg) + (1 : Int32)) dX10_tune_89 ly_65 hv5 (by simp [gu_, gf_, upd]) ?_
          exact pw_ireturn dX10_tune_90 rfl rfl ⟨_, rfl, h⟩
        · have h := h.2 hc
          refine pw_iconst (v := (-1 : Int32)) dX10_tune_51 (by decide) ?_
          exact pw_ireturn dX10_tune_52 rfl rfl ⟨_, rfl, h⟩
      · have h := h.2 hc
        refine pw_aload_n dX10_tune_31 rfl 0 rfl ?_
        refine pw_getr (q := 65) dX10_tune_32 fa_X10_60 ly_49 rfl ?_
        refine pw_iload_n dX10_tune_35 rfl 1 rfl ?_
        refine pw_iconst (v := (0 : Int32)) dX10_tune_36 (by decide) ?_
        obtain ⟨hv7, h⟩ := h
        refine pw_iast (z := a1.toNatClampNeg) dX10_tune_37 ly_65 hv7 rfl ?_
        refine pw_iconst (v := (0 : Int32)) dX10_tune_38 (by decide) ?_
        exact pw_ireturn dX10_tune_39 rfl rfl ⟨_, rfl, h⟩
    · have h := h.2 hc
      refine pw_iconst (v := (-1 : Int32)) dX10_tune_24 (by decide) ?_
      exact pw_ireturn dX10_tune_25 rfl rfl ⟨_, rfl, h⟩
def lp_X10_hasSteps_3 (Q : Int32 → GS → Prop)  : Nat → Int32 → Int32 → Int32 → Int32 → GS → Prop
  | 0, _, _, _, _, _ => False
  | n + 1, x1, x2, x3, x4, G => (vp_in x1 4 ∧ (((G 65 x1.toNatClampNeg) ≤ x4 → Q (1 : Int32) G) ∧ (¬ (G 65 x1.toNatClampNeg) ≤ x4 → (vp_in (((12 : Int32) * x1) + x4) 48 ∧ (vp_in ((((12 : Int32) * x1) + x4) - (1 : Int32)) 48 ∧ (vp_in (((12 : Int32) * x2) + x4) 48 ∧ (vp_in ((((12 : Int32) * x2) + x4) - (1 : Int32)) 48 ∧ ((((G 66 ((((12 : Int32) * x1) + x4).toNatClampNeg)) - (G 66 (((((12 : Int32) * x1) + x4) - (1 : Int32)).toNatClampNeg))) = (x3 * ((G 66 ((((12 : Int32) * x2) + x4).toNatClampNeg)) - (G 66 (((((12 : Int32) * x2) + x4) - (1 : Int32)).toNatClampNeg)))) → lp_X10_hasSteps_3 Q n x1 x2 x3 (x4 + 1) G) ∧ (¬ ((G 66 ((((12 : Int32) * x1) + x4).toNatClampNeg)) - (G 66 (((((12 : Int32) * x1) + x4) - (1 : Int32)).toNatClampNeg))) = (x3 * ((G 66 ((((12 : Int32) * x2) + x4).toNatClampNeg)) - (G 66 (((((12 : Int32) * x2) + x4) - (1 : Int32)).toNatClampNeg)))) → Q (0 : Int32) G)))))))))
set_option maxRecDepth 100000 in
set_option maxHeartbeats 4000000 in
theorem t_X10_hasSteps_3 {E : EV} (hE : EI_ E) (Q : Int32 → GS → Prop)  : ∀ (n : Nat) (x1 : Int32) (x2 : Int32) (x3 : Int32) (x4 : Int32) (G : GS), lp_X10_hasSteps_3 Q n x1 x2 x3 x4 G → PW_ E mi_X10_hasSteps (rm_ 1) 0 0 3 [(0, .ref (ev_ad E 49)), (1, .int x1), (2, .int x2), (3, .int x3), (4, .int x4)] [] G (qi_ Q) := by
  intro n
  induction n with
  | zero => intro x1 x2 x3 x4 G h; exact h.elim
  | succ n ih =>
    intro x1 x2 x3 x4 G h
    refine pw_iload dX10_hasSteps_3 4 rfl ?_
    refine pw_aload_n dX10_hasSteps_5 rfl 0 rfl ?_
    refine pw_getr (q := 65) dX10_hasSteps_6 fa_X10_60 ly_49 rfl ?_
    refine pw_iload_n dX10_hasSteps_9 rfl 1 rfl ?_
    obtain ⟨hv1, h⟩ := h
    refine pw_iald (v := G 65 x1.toNatClampNeg) dX10_hasSteps_10 ly_65 hv1 rfl ?_
    refine pw_icmp_ge (tgt := 81) dX10_hasSteps_11 (by decide) (fun hc => ?_) (fun hc => ?_)
    · have h := h.1 hc
      refine pw_iconst (v := (1 : Int32)) dX10_hasSteps_81 (by decide) ?_
      exact pw_ireturn dX10_hasSteps_82 rfl rfl ⟨_, rfl, h⟩
    · have h := h.2 hc
      refine pw_aload_n dX10_hasSteps_14 rfl 0 rfl ?_
      refine pw_getr (q := 66) dX10_hasSteps_15 fa_X10_63 ly_49 rfl ?_
      refine pw_bipush (v := (12 : Int32)) dX10_hasSteps_18 (by decide) ?_
      refine pw_iload_n dX10_hasSteps_20 rfl 1 rfl ?_
      refine pw_imul dX10_hasSteps_21 ?_
      refine pw_iload dX10_hasSteps_22 4 rfl ?_
      refine pw_iadd dX10_hasSteps_24 ?_
      obtain ⟨hv2, h⟩ := h
      refine pw_iald (v := G 66 ((((12 : Int32) * x1) + x4).toNatClampNeg)) dX10_hasSteps_25 ly_66 hv2 rfl ?_
      refine pw_aload_n dX10_hasSteps_26 rfl 0 rfl ?_
      refine pw_getr (q := 66) dX10_hasSteps_27 fa_X10_63 ly_49 rfl ?_
      refine pw_bipush (v := (12 : Int32)) dX10_hasSteps_30 (by decide) ?_
      refine pw_iload_n dX10_hasSteps_32 rfl 1 rfl ?_
      refine pw_imul dX10_hasSteps_33 ?_
      refine pw_iload dX10_hasSteps_34 4 rfl ?_
      refine pw_iadd dX10_hasSteps_36 ?_
      refine pw_iconst (v := (1 : Int32)) dX10_hasSteps_37 (by decide) ?_
      refine pw_isub dX10_hasSteps_38 ?_
      obtain ⟨hv3, h⟩ := h
      refine pw_iald (v := G 66 (((((12 : Int32) * x1) + x4) - (1 : Int32)).toNatClampNeg)) dX10_hasSteps_39 ly_66 hv3 rfl ?_
      refine pw_isub dX10_hasSteps_40 ?_
      refine pw_iload_n dX10_hasSteps_41 rfl 3 rfl ?_
      refine pw_aload_n dX10_hasSteps_42 rfl 0 rfl ?_
      refine pw_getr (q := 66) dX10_hasSteps_43 fa_X10_63 ly_49 rfl ?_
      refine pw_bipush (v := (12 : Int32)) dX10_hasSteps_46 (by decide) ?_
      refine pw_iload_n dX10_hasSteps_48 rfl 2 rfl ?_
      refine pw_imul dX10_hasSteps_49 ?_
      refine pw_iload dX10_hasSteps_50 4 rfl ?_
      refine pw_iadd dX10_hasSteps_52 ?_
      obtain ⟨hv4, h⟩ := h
      refine pw_iald (v := G 66 ((((12 : Int32) * x2) + x4).toNatClampNeg)) dX10_hasSteps_53 ly_66 hv4 rfl ?_
      refine pw_aload_n dX10_hasSteps_54 rfl 0 rfl ?_
      refine pw_getr (q := 66) dX10_hasSteps_55 fa_X10_63 ly_49 rfl ?_
      refine pw_bipush (v := (12 : Int32)) dX10_hasSteps_58 (by decide) ?_
      refine pw_iload_n dX10_hasSteps_60 rfl 2 rfl ?_
      refine pw_imul dX10_hasSteps_61 ?_
      refine pw_iload dX10_hasSteps_62 4 rfl ?_
      refine pw_iadd dX10_hasSteps_64 ?_
      refine pw_iconst (v := (1 : Int32)) dX10_hasSteps_65 (by decide) ?_
      refine pw_isub dX10_hasSteps_66 ?_
      obtain ⟨hv5, h⟩ := h
      refine pw_iald (v := G 66 (((((12 : Int32) * x2) + x4) - (1 : Int32)).toNatClampNeg)) dX10_hasSteps_67 ly_66 hv5 rfl ?_
      refine pw_isub dX10_hasSteps_68 ?_
      refine pw_imul dX10_hasSteps_69 ?_
      refine pw_icmp_eq (tgt := 75) dX10_hasSteps_70 (by decide) (fun hc => ?_) (fun hc => ?_)
      · have h := h.1 hc
        refine pw_iinc (k := 4) (v := x4 + 1) (lv' := [(4, .int (x4 + 1)), (0, .ref (ev_ad E 49)), (1, .int x1), (2, .int x2), (3, .int x3)]) dX10_hasSteps_75 rfl rfl (by decide) rfl ?_
        refine pw_goto (tgt := 3) dX10_hasSteps_78 (by decide) ?_
        refine pw_loc (lv' := [(0, .ref (ev_ad E 49)), (1, .int x1), (2, .int x2), (3, .int x3), (4, .int (x4 + 1))]) [1, 2, 3, 4, 0] rfl ?_
        exact ih _ _ _ _ _ h
      · have h := h.2 hc
        refine pw_iconst (v := (0 : Int32)) dX10_hasSteps_73 (by decide) ?_
        exact pw_ireturn dX10_hasSteps_74 rfl rfl ⟨_, rfl, h⟩
def wp_X10_hasSteps (a1 : Int32) (a2 : Int32) (a3 : Int32) (G : GS) (Q : Int32 → GS → Prop) : Prop := (∃ kf, lp_X10_hasSteps_3 Q kf a1 a2 a3 (1 : Int32) G)
set_option maxRecDepth 100000 in
set_option maxHeartbeats 4000000 in
theorem s_X10_hasSteps {E : EV} (hE : EI_ E) {a1 : Int32} {a2 : Int32} {a3 : Int32} {G : GS} {Q : Int32 → GS → Prop} (h : wp_X10_hasSteps a1 a2 a3 G Q) : PMet E mi_X10_hasSteps 1 [.ref (ev_ad E 49), .int a1, .int a2, .int a3] G (qi_ Q) := by
  refine pm_of hE (by decide) (Nat.le_of_ble_eq_true rfl) ?_
  refine pw_loc (lv' := [(0, .ref (ev_ad E 49)), (1, .int a1), (2, .int a2), (3, .int a3)]) [0, 1, 2, 3] rfl ?_
  refine pw_iconst (v := (1 : Int32)) dX10_hasSteps_0 (by decide) ?_
  refine pw_istore (lv' := [(4, .int (1 : Int32)), (0, .ref (ev_ad E 49)), (1, .int a1), (2, .int a2), (3, .int a3)]) dX10_hasSteps_1 (by decide) rfl ?_
  refine pw_loc (lv' := [(0, .ref (ev_ad E 49)), (1, .int a1), (2, .int a2), (3, .int a3), (4, .int (1 : Int32))]) [1, 2, 3, 4, 0] rfl ?_
  obtain ⟨kf, h⟩ := h
  exact t_X10_hasSteps_3 hE Q kf _ _ _ _ _ h
def wp_X10_same (a1 : Int32) (a2 : Int32) (G : GS) (Q : Int32 → GS → Prop) : Prop := wp_X10_isTune a1 (gu_ G 49 0 (0 : Int32)) (fun r1 G2 => ((r1 = 0 → Q (-1 : Int32) G2) ∧ (¬ r1 = 0 → wp_X10_isTune a2 G2 (fun r3 G4 => ((¬ r3 = 0 → (vp_in a1 4 ∧ (((G4 65 a1.toNatClampNeg) = 0 → Q (0 : Int32) G4) ∧ (¬ (G4 65 a1.toNatClampNeg) = 0 → (vp_in a2 4 ∧ (((G4 65 a1.toNatClampNeg) = (G4 65 a2.toNatClampNeg) → wp_X10_hasSteps a1 a2 (1 : Int32) G4 (fun r7 G8 => ((r7 = 0 → wp_X10_hasSteps a1 a2 (-1 : Int32) G8 (fun r9 G10 => ((r9 = 0 → Q (0 : Int32) G10) ∧ (¬ r9 = 0 → Q (1 : Int32) G10)))) ∧ (¬ r7 = 0 → (vp_in ((12 : Int32) * a1) 48 ∧ (vp_in ((12 : Int32) * a2) 48 ∧ ((¬ (G8 66 (((12 : Int32) * a1).toNatClampNeg)) = (G8 66 (((12 : Int32) * a2).toNatClampNeg)) → Q (2 : Int32) G8) ∧ ((G8 66 (((12 : Int32) * a1).toNatClampNeg)) = (G8 66 (((12 : Int32) * a2).toNatClampNeg)) → Q (3 : Int32) G8)))))))) ∧ (¬ (G4 65 a1.toNatClampNeg) = (G4 65 a2.toNatClampNeg) → Q (0 : Int32) G4))))))) ∧ (r3 = 0 → Q (-1 : Int32) G4))))))
set_option maxRecDepth 100000 in
set_option maxHeartbeats 4000000 in
theorem s_X10_same {E : EV} (hE : EI_ E) {a1 : Int32} {a2 : Int32} {G : GS} {Q : Int32 → GS → Prop} (h : wp_X10_same a1 a2 G Q) : PMet E mi_X10_same 2 [.ref (ev_ad E 49), .int a1, .int a2] G (qi_ Q) := by
  refine pm_of hE (by decide) (Nat.le_of_ble_eq_true rfl) ?_
  refine pw_loc (lv' := [(0, .ref (ev_ad E 49)), (1, .int a1), (2, .int a2)]) [0, 1, 2] rfl ?_
  refine pw_aload_n dX10_same_0 rfl 0 rfl ?_
  refine pw_iconst (v := (0 : Int32)) dX10_same_1 (by decide) ?_
  refine pw_puti dX10_same_2 fp_X10_90 ly_49 rfl ?_
  refine pw_aload_n dX10_same_5 rfl 0 rfl ?_
  refine pw_iload_n dX10_same_6 rfl 1 rfl ?_
  refine pw_callV (As := [.int a1]) (rest := []) (s_X10_isTune hE h) dX10_same_7 ly_49 rfl (Or.inl ml_X10_263) cm_X10_isTune rfl (rm_ok (by decide)) rm_0 (Nat.le_of_ble_eq_true rfl) ?_
  rintro _ G2 ⟨r1, rfl, h⟩
  refine pw_if_eq (tgt := 21) dX10_same_10 (by decide) (fun hc => ?_) (fun hc => ?_)
  · have h := h.1 hc
    refine pw_iconst (v := (-1 : Int32)) dX10_same_21 (by decide) ?_
    exact pw_ireturn dX10_same_22 rfl rfl ⟨_, rfl, h⟩
  · have h := h.2 hc
    refine pw_aload_n dX10_same_13 rfl 0 rfl ?_
    refine pw_iload_n dX10_same_14 rfl 2 rfl ?_
    refine pw_callV (As := [.int a2]) (rest := []) (s_X10_isTune hE h) dX10_same_15 ly_49 rfl (Or.inl ml_X10_263) cm_X10_isTune rfl (rm_ok (by decide)) rm_0 (Nat.le_of_ble_eq_true rfl) ?_
    rintro _ G4 ⟨r3, rfl, h⟩
    refine pw_if_ne (tgt := 23) dX10_same_18 (by decide) (fun hc => ?_) (fun hc => ?_)
    · have h := h.1 hc
      refine pw_aload_n dX10_same_23 rfl 0 rfl ?_
      refine pw_getr (q := 65) dX10_same_24 fa_X10_60 ly_49 rfl ?_
      refine pw_iload_n dX10_same_27 rfl 1 rfl ?_
      obtain ⟨hv5, h⟩ := h
      refine pw_iald (v := G4 65 a1.toNatClampNeg) dX10_same_28 ly_65 hv5 rfl ?_
      refine pw_if_eq (tgt := 47) dX10_same_29 (by decide) (fun hc => ?_) (fun hc => ?_)
      · have h := h.1 hc
        refine pw_iconst (v := (0 : Int32)) dX10_same_47 (by decide) ?_
        exact pw_ireturn dX10_same_48 rfl rfl ⟨_, rfl, h⟩
      · have h := h.2 hc
        refine pw_aload_n dX10_same_32 rfl 0 rfl ?_
        refine pw_getr (q := 65) dX10_same_33 fa_X10_60 ly_49 rfl ?_
        refine pw_iload_n dX10_same_36 rfl 1 rfl ?_
        refine pw_iald (v := G4 65 a1.toNatClampNeg) dX10_same_37 ly_65 hv5 rfl ?_
        refine pw_aload_n dX10_same_38 rfl 0 rfl ?_
        refine pw_getr (q := 65) dX10_same_39 fa_X10_60 ly_49 rfl ?_
        refine pw_iload_n dX10_same_42 rfl 2 rfl ?_
        obtain ⟨hv6, h⟩ := h
        refine pw_iald (v := G4 65 a2.toNatClampNeg) dX10_same_43 ly_65 hv6 rfl ?_
        refine pw_icmp_eq (tgt := 49) dX10_same_44 (by decide) (fun hc => ?_) (fun hc => ?_)
        · have h := h.1 hc
          refine pw_aload_n dX10_same_49 rfl 0 rfl ?_
          refine pw_iload_n dX10_same_50 rfl 1 rfl ?_
          refine pw_iload_n dX10_same_51 rfl 2 rfl ?_
          refine pw_iconst (v := (1 : Int32)) dX10_same_52 (by decide) ?_
          refine pw_callV (As := [.int a1, .int a2, .int (1 : Int32)]) (rest := []) (s_X10_hasSteps hE h) dX10_same_53 ly_49 rfl (Or.inl ml_X10_266) cm_X10_hasSteps rfl (rm_ok (by decide)) rm_0 (Nat.le_of_ble_eq_true rfl) ?_
          rintro _ G8 ⟨r7, rfl, h⟩
          refine pw_if_eq (tgt := 86) dX10_same_56 (by decide) (fun hc => ?_) (fun hc => ?_)
          · have h := h.1 hc
            refine pw_aload_n dX10_same_86 rfl 0 rfl ?_
            refine pw_iload_n dX10_same_87 rfl 1 rfl ?_
            refine pw_iload_n dX10_same_88 rfl 2 rfl ?_
            refine pw_iconst (v := (-1 : Int32)) dX10_same_89 (by decide) ?_
            refine pw_callV (As := [.int a1, .int a2, .int (-1 : Int32)]) (rest := []) (s_X10_hasSteps hE h) dX10_same_90 ly_49 rfl (Or.inl ml_X10_266) cm_X10_hasSteps rfl (rm_ok (by decide)) rm_0 (Nat.le_of_ble_eq_true rfl) ?_
            rintro _ G10 ⟨r9, rfl, h⟩
            refine pw_if_eq (tgt := 100) dX10_same_93 (by decide) (fun hc => ?_) (fun hc => ?_)
            · have h := h.1 hc
              refine pw_iconst (v := (0 : Int32)) dX10_same_100 (by decide) ?_
              exact pw_ireturn dX10_same_101 rfl rfl ⟨_, rfl, h⟩
            · have h := h.2 hc
              refine pw_iconst (v := (1 : Int32)) dX10_same_96 (by decide) ?_
              refine pw_goto (tgt := 101) dX10_same_97 (by decide) ?_
              exact pw_ireturn dX10_same_101 rfl rfl ⟨_, rfl, h⟩
          · have h := h.2 hc
            refine pw_aload_n dX10_same_59 rfl 0 rfl ?_
            refine pw_getr (q := 66) dX10_same_60 fa_X10_63 ly_49 rfl ?_
            refine pw_bipush (v := (12 : Int32)) dX10_same_63 (by decide) ?_
            refine pw_iload_n dX10_same_65 rfl 1 rfl ?_
            refine pw_imul dX10_same_66 ?_
            obtain ⟨hv11, h⟩ := h
            refine pw_iald (v := G8 66 (((12 : Int32) * a1).toNatClampNeg)) dX10_same_67 ly_66 hv11 rfl ?_
            refine pw_aload_n dX10_same_68 rfl 0 rfl ?_
            refine pw_getr (q := 66) dX10_same_69 fa_X10_63 ly_49 rfl ?_
            refine pw_bipush (v := (12 : Int32)) dX10_same_72 (by decide) ?_
            refine pw_iload_n dX10_same_74 rfl 2 rfl ?_
            refine pw_imul dX10_same_75 ?_
            obtain ⟨hv12, h⟩ := h
            refine pw_iald (v := G8 66 (((12 : Int32) * a2).toNatClampNeg)) dX10_same_76 ly_66 hv12 rfl ?_
            refine pw_icmp_ne (tgt := 84) dX10_same_77 (by decide) (fun hc => ?_) (fun hc => ?_)
            · have h := h.1 hc
              refine pw_iconst (v := (2 : Int32)) dX10_same_84 (by decide) ?_
              exact pw_ireturn dX10_same_85 rfl rfl ⟨_, rfl, h⟩
            · have h := h.2 hc
              refine pw_iconst (v := (3 : Int32)) dX10_same_80 (by decide) ?_
              refine pw_goto (tgt := 85) dX10_same_81 (by decide) ?_
              exact pw_ireturn dX10_same_85 rfl rfl ⟨_, rfl, h⟩
        · have h := h.2 hc
          refine pw_iconst (v := (0 : Int32)) dX10_same_47 (by decide) ?_
          exact pw_ireturn dX10_same_48 rfl rfl ⟨_, rfl, h⟩
    · have h := h.2 hc
      refine pw_iconst (v := (-1 : Int32)) dX10_same_21 (by decide) ?_
      exact pw_ireturn dX10_same_22 rfl rfl ⟨_, rfl, h⟩
def wp_X10_pair (a1 : Int32) (a2 : Int32) (G : GS) (Q : Int32 → GS → Prop) : Prop := ((¬ a1 = (-1 : Int32) → wp_X10_isPerson a1 (gu_ G 49 0 (0 : Int32)) (fun r1 G2 => ((r1 = 0 → Q (-1 : Int32) G2) ∧ (¬ r1 = 0 → wp_X10_isPerson a2 G2 (fun r3 G4 => ((r3 = 0 → Q (-1 : Int32) G4) ∧ (¬ r3 = 0 → ((a1 = a2 → Q (-1 : Int32) G4) ∧ (¬ a1 = a2 → ((¬ (G4 49 35) = (8 : Int32) → (vp_in (G4 49 35) 8 ∧ Q ((G4 49 35) + (1 : Int32)) (gu_ (gu_ (gu_ G4 67 ((G4 49 35).toNatClampNeg) a1) 68 ((G4 49 35).toNatClampNeg) a2) 49 35 ((G4 49 35) + (1 : Int32))))) ∧ ((G4 49 35) = (8 : Int32) → Q (-1 : Int32) G4))))))))))) ∧ (a1 = (-1 : Int32) → Q (0 : Int32) (gu_ (gu_ G 49 0 (0 : Int32)) 49 35 (0 : Int32))))
set_option maxRecDepth 100000 in
set_option maxHeartbeats 4000000 in
theorem s_X10_pair {E : EV} (hE : EI_ E) {a1 : Int32} {a2 : Int32} {G : GS} {Q : Int32 → GS → Prop} (h : wp_X10_pair a1 a2 G Q) : PMet E mi_X10_pair 2 [.ref (ev_ad E 49), .int a1, .int a2] G (qi_ Q) := by
  refine pm_of hE (by decide) (Nat.le_of_ble_eq_true rfl) ?_
  refine pw_loc (lv' := [(0, .ref (ev_ad E 49)), (1, .int a1), (2, .int a2)]) [0, 1, 2] rfl ?_
  refine pw_aload_n dX10_pair_0 rfl 0 rfl ?_
  refine pw_iconst (v := (0 : Int32)) dX10_pair_1 (by decide) ?_
  refine pw_puti dX10_pair_2 fp_X10_90 ly_49 rfl ?_
  refine pw_iload_n dX10_pair_5 rfl 1 rfl ?_
  refine pw_iconst (v := (-1 : Int32)) dX10_pair_6 (by decide) ?_
  refine pw_icmp_ne (tgt := 17) dX10_pair_7 (by decide) (fun hc => ?_) (fun hc => ?_)
  · have h := h.1 hc
    refine pw_aload_n dX10_pair_17 rfl 0 rfl ?_
    refine pw_iload_n dX10_pair_18 rfl 1 rfl ?_
    refine pw_callV (As := [.int a1]) (rest := []) (s_X10_isPerson hE h) dX10_pair_19 ly_49 rfl (Or.inl ml_X10_105) cm_X10_isPerson rfl (rm_ok (by decide)) rm_0 (Nat.le_of_ble_eq_true rfl) ?_
    rintro _ G2 ⟨r1, rfl, h⟩
    refine pw_if_eq (tgt := 47) dX10_pair_22 (by decide) (fun hc => ?_) (fun hc => ?_)
    · have h := h.1 hc
      refine pw_iconst (v := (-1 : Int32)) dX10_pair_47 (by decide) ?_
      exact pw_ireturn dX10_pair_48 rfl rfl ⟨_, rfl, h⟩
    · have h := h.2 hc
      refine pw_aload_n dX10_pair_25 rfl 0 rfl ?_
      refine pw_iload_n dX10_pair_26 rfl 2 rfl ?_
      refine pw_callV (As := [.int a2]) (rest := []) (s_X10_isPerson hE h) dX10_pair_27 ly_49 rfl (Or.inl ml_X10_105) cm_X10_isPerson rfl (rm_ok (by decide)) rm_0 (Nat.le_of_ble_eq_true rfl) ?_
      rintro _ G4 ⟨r3, rfl, h⟩
      refine pw_if_eq (tgt := 47) dX10_pair_30 (by decide) (fun hc => ?_) (fun hc => ?_)
      · have h := h.1 hc
        refine pw_iconst (v := (-1 : Int32)) dX10_pair_47 (by decide) ?_
        exact pw_ireturn dX10_pair_48 rfl rfl ⟨_, rfl, h⟩
      · have h := h.2 hc
        refine pw_iload_n dX10_pair_33 rfl 1 rfl ?_
        refine pw_iload_n dX10_pair_34 rfl 2 rfl ?_
        refine pw_icmp_eq (tgt := 47) dX10_pair_35 (by decide) (fun hc => ?_) (fun hc => ?_)
        · have h := h.1 hc
          refine pw_iconst (v := (-1 : Int32)) dX10_pair_47 (by decide) ?_
          exact pw_ireturn dX10_pair_48 rfl rfl ⟨_, rfl, h⟩
        · have h := h.2 hc
          refine pw_aload_n dX10_pair_38 rfl 0 rfl ?_
          refine pw_geti (v := G4 49 35) dX10_pair_39 fa_X10_269 ly_49 rfl rfl ?_
          refine pw_bipush (v := (8 : Int32)) dX10_pair_42 (by decide) ?_
          refine pw_icmp_ne (tgt := 49) dX10_pair_44 (by decide) (fun hc => ?_) (fun hc => ?_)
          · have h := h.1 hc
            refine pw_aload_n dX10_pair_49 rfl 0 rfl ?_
            refine pw_getr (q := 67) dX10_pair_50 fa_X10_66 ly_49 rfl ?_
            refine pw_aload_n dX10_pair_53 rfl 0 rfl ?_
            refine pw_geti (v := G4 49 35) dX10_pair_54 fa_X10_269 ly_49 rfl rfl ?_
            refine pw_iload_n dX10_pair_57 rfl 1 rfl ?_
            obtain ⟨hv5, h⟩ := h
            refine pw_iast (z := ((G4 49 35).toNatClampNeg)) dX10_pair_58 ly_67 hv5 rfl ?_
            refine pw_aload_n dX10_pair_59 rfl 0 rfl ?_
            refine pw_getr (q := 68) dX10_pair_60 fa_X10_69 ly_49 rfl ?_
            refine pw_aload_n dX10_pair_63 rfl 0 rfl ?_
            refine pw_geti (v := G4 49 35) dX10_pair_64 fa_X10_269 ly_49 rfl rfl ?_
            refine pw_iload_n dX10_pair_67 rfl 2 rfl ?_
            refine pw_iast (z := ((G4 49 35).toNatClampNeg)) dX10_pair_68 ly_68 hv5 rfl ?_
            refine pw_aload_n dX10_pair_69 rfl 0 rfl ?_
            refine pw_aload_n dX10_pair_70 rfl 0 rfl ?_
            refine pw_geti (v := G4 49 35) dX10_pair_71 fa_X10_269 ly_49 rfl rfl ?_
            refine pw_iconst (v := (1 : Int32)) dX10_pair_74 (by decide) ?_
            refine pw_iadd dX10_pair_75 ?_
            refine pw_puti dX10_pair_76 fp_X10_269 ly_49 rfl ?_
            refine pw_aload_n dX10_pair_79 rfl 0 rfl ?_
            refine pw_geti (v := (G4 49 35) + (1 : Int32)) dX10_pair_80 fa_X10_269 ly_49 rfl rfl ?_
            exact pw_ireturn dX10_pair_83 rfl rfl ⟨_, rfl, h⟩
          · have h := h.2 hc
            refine pw_iconst (v := (-1 : Int32)) dX10_pair_47 (by decide) ?_
            exact pw_ireturn dX10_pair_48 rfl rfl ⟨_, rfl, h⟩
  · have h := h.2 hc
    refine pw_aload_n dX10_pair_10 rfl 0 rfl ?_
    refine pw_iconst (v := (0 : Int32)) dX10_pair_11 (by decide) ?_
    refine pw_puti dX10_pair_12 fp_X10_269 ly_49 rfl ?_
    refine pw_iconst (v := (0 : Int32)) dX10_pair_15 (by decide) ?_
    exact pw_ireturn dX10_pair_16 rfl rfl ⟨_, rfl, h⟩
def wp_X10_areWithHums (a1 : Int32) (G : GS) (Q : Int32 → GS → Prop) : Prop := (vp_in a1 8 ∧ wp_X10_humOf (G 67 a1.toNatClampNeg) G (fun r2 G3 => ((r2 = (-1 : Int32) → Q (0 : Int32) G3) ∧ (¬ r2 = (-1 : Int32) → wp_X10_humOf (G3 68 a1.toNatClampNeg) G3 (fun r4 G5 => ((r4 = (-1 : Int32) → Q (0 : Int32) G5) ∧ (¬ r4 = (-1 : Int32) → Q (1 : Int32) G5)))))))
set_option maxRecDepth 100000 in
set_option maxHeartbeats 4000000 in
theorem s_X10_areWithHums {E : EV} (hE : EI_ E) {a1 : Int32} {G : GS} {Q : Int32 → GS → Prop} (h : wp_X10_areWithHums a1 G Q) : PMet E mi_X10_areWithHums 2 [.ref (ev_ad E 49), .int a1] G (qi_ Q) := by
  refine pm_of hE (by decide) (Nat.le_of_ble_eq_true rfl) ?_
  refine pw_loc (lv' := [(0, .ref (ev_ad E 49)), (1, .int a1)]) [0, 1] rfl ?_
  refine pw_aload_n dX10_areWithHums_0 rfl 0 rfl ?_
  refine pw_aload_n dX10_areWithHums_1 rfl 0 rfl ?_
  refine pw_getr (q := 67) dX10_areWithHums_2 fa_X10_66 ly_49 rfl ?_
  refine pw_iload_n dX10_areWithHums_5 rfl 1 rfl ?_
  obtain ⟨hv1, h⟩ := h
  refine pw_iald (v := G 67 a1.toNatClampNeg) dX10_areWithHums_6 ly_67 hv1 rfl ?_
  refine pw_callV (As := [.int (G 67 a1.toNatClampNeg)]) (rest := []) (s_X10_humOf hE h) dX10_areWithHums_7 ly_49 rfl (Or.inl ml_X10_109) cm_X10_humOf rfl (rm_ok (by decide)) rm_0 (Nat.le_of_ble_eq_true rfl) ?_
  rintro _ G3 ⟨r2, rfl, h⟩
  refine pw_iconst (v := (-1 : Int32)) dX10_areWithHums_10 (by decide) ?_
  refine pw_icmp_eq (tgt := 32) dX10_areWithHums_11 (by decide) (fun hc => ?_) (fun hc => ?_)
  · have h := h.1 hc
    refine pw_iconst (v := (0 : Int32)) dX10_areWithHums_32 (by decide) ?_
    exact pw_ireturn dX10_areWithHums_33 rfl rfl ⟨_, rfl, h⟩
  · have h := h.2 hc
    refine pw_aload_n dX10_areWithHums_14 rfl 0 rfl ?_
    refine pw_aload_n dX10_areWithHums_15 rfl 0 rfl ?_
    refine pw_getr (q := 68) dX10_areWithHums_16 fa_X10_69 ly_49 rfl ?_
    refine pw_iload_n dX10_areWithHums_19 rfl 1 rfl ?_
    refine pw_iald (v := G3 68 a1.toNatClampNeg) dX10_areWithHums_20 ly_68 hv1 rfl ?_
    refine pw_callV (As := [.int (G3 68 a1.toNatClampNeg)]) (rest := []) (s_X10_humOf hE h) dX10_areWithHums_21 ly_49 rfl (Or.inl ml_X10_109) cm_X10_humOf rfl (rm_ok (by decide)) rm_0 (Nat.le_of_ble_eq_true rfl) ?_
    rintro _ G5 ⟨r4, rfl, h⟩
    refine pw_iconst (v := (-1 : Int32)) dX10_areWithHums_24 (by decide) ?_
    refine pw_icmp_eq (tgt := 32) dX10_areWithHums_25 (by decide) (fun hc => ?_) (fun hc => ?_)
    · have h := h.1 hc
      refine pw_iconst (v := (0 : Int32)) dX10_areWithHums_32 (by decide) ?_
      exact pw_ireturn dX10_areWithHums_33 rfl rfl ⟨_, rfl, h⟩
    · have h := h.2 hc
      refine pw_iconst (v := (1 : Int32)) dX10_areWithHums_28 (by decide) ?_
      refine pw_goto (tgt := 33) dX10_areWithHums_29 (by decide) ?_
      exact pw_ireturn dX10_areWithHums_33 rfl rfl ⟨_, rfl, h⟩
