def lp_X6_readLaw_44 (Q : Int32 → GS → Prop)  : Nat → Int32 → GS → Prop
  | 0, _, _ => False
  | n + 1, x2, G => (((400 : Int32) < x2 → Q (0 : Int32) G) ∧ (¬ (400 : Int32) < x2 → wp_X6_step G (fun _ G4 => ((¬ (G4 33 5) = 0 → wp_X6_accept G4 (fun r5 G6 => ((¬ r5 = 0 → lp_X6_readLaw_44 Q n (x2 + 1) G6) ∧ (r5 = 0 → Q (0 : Int32) G6)))) ∧ ((G4 33 5) = 0 → ((¬ (G4 33 9) = 0 → wp_X6_accept G4 (fun r7 G8 => ((¬ r7 = 0 → lp_X6_readLaw_44 Q n (x2 + 1) G8) ∧ (r7 = 0 → Q (0 : Int32) G8)))) ∧ ((G4 33 9) = 0 → Q (1 : Int32) G4)))))))
set_option maxRecDepth 100000 in
set_option maxHeartbeats 4000000 in
theorem t_X6_readLaw_44 {E : EV} (hE : EI_ E) (Q : Int32 → GS → Prop)  : ∀ (n : Nat) (x2 : Int32) (G : GS), lp_X6_readLaw_44 Q n x2 G → PW_ E mi_X6_readLaw (rm_ 9) 0 0 44 [(0, .ref (ev_ad E 33)), (2, .int x2)] [] G (qi_ Q) := by
  intro n
  induction n with
  | zero => intro x2 G h; exact h.elim
  | succ n ih =>
    intro x2 G h
    refine pw_iload_n dX6_readLaw_44 rfl 1 rfl ?_
    refine pw_sipush (v := (400 : Int32)) dX6_readLaw_45 (by decide) ?_
    refine pw_icmp_gt (tgt := 86) dX6_readLaw_48 (by decide) (fun hc => ?_) (fun hc => ?_)
    · have h := h.1 hc
      refine pw_iconst (v := (0 : Int32)) dX6_readLaw_86 (by decide) ?_
      exact pw_ireturn dX6_readLaw_87 rfl rfl ⟨_, rfl, h⟩
    · have h := h.2 hc
      refine pw_aload_n dX6_readLaw_51 rfl 0 rfl ?_
      refine pw_callV (As := []) (rest := []) (s_X6_step hE h) dX6_readLaw_52 ly_33 rfl (Or.inl ml_X6_51) cm_X6_step rfl (rm_ok (by decide)) rm_0 (Nat.le_of_ble_eq_true rfl) ?_
      rintro _ G4 ⟨rfl, h⟩
      refine pw_aload_n dX6_readLaw_55 rfl 0 rfl ?_
      refine pw_geti (v := G4 33 5) dX6_readLaw_56 fa_X6_54 ly_33 rfl rfl ?_
      refine pw_if_ne (tgt := 71) dX6_readLaw_59 (by decide) (fun hc => ?_) (fun hc => ?_)
      · have h := h.1 hc
        refine pw_aload_n dX6_readLaw_71 rfl 0 rfl ?_
        refine pw_callV (As := []) (rest := []) (s_X6_accept hE h) dX6_readLaw_72 ly_33 rfl (Or.inl ml_X6_57) cm_X6_accept rfl (rm_ok (by decide)) rm_0 (Nat.le_of_ble_eq_true rfl) ?_
        rintro _ G6 ⟨r5, rfl, h⟩
        refine pw_if_ne (tgt := 80) dX6_readLaw_75 (by decide) (fun hc => ?_) (fun hc => ?_)
        · have h := h.1 hc
          refine pw_iinc (k := 1) (v := x2 + 1) (lv' := [(2, .int (x2 + 1)), (0, .ref (ev_ad E 33))]) dX6_readLaw_80 rfl rfl (by decide) rfl ?_
          refine pw_goto (tgt := 44) dX6_readLaw_83 (by decide) ?_
          refine pw_loc (lv' := [(0, .ref (ev_ad E 33)), (2, .int (x2 + 1))]) [1, 0] rfl ?_
          exact ih _ _ h
        · have h := h.2 hc
          refine pw_iconst (v := (0 : Int32)) dX6_readLaw_78 (by decide) ?_
          exact pw_ireturn dX6_readLaw_79 rfl rfl ⟨_, rfl, h⟩
      · have h := h.2 hc
        refine pw_aload_n dX6_readLaw_62 rfl 0 rfl ?_
        refine pw_geti (v := G4 33 9) dX6_readLaw_63 fa_X6_39 ly_33 rfl rfl ?_
        refine pw_if_ne (tgt := 71) dX6_readLaw_66 (by decide) (fun hc => ?_) (fun hc => ?_)
        · have h := h.1 hc
          refine pw_aload_n dX6_readLaw_71 rfl 0 rfl ?_
          refine pw_callV (As := []) (rest := []) (s_X6_accept hE h) dX6_readLaw_72 ly_33 rfl (Or.inl ml_X6_57) cm_X6_accept rfl (rm_ok (by decide)) rm_0 (Nat.le_of_ble_eq_true rfl) ?_
          rintro _ G8 ⟨r7, rfl, h⟩
          refine pw_if_ne (tgt := 80) dX6_readLaw_75 (by decide) (fun hc => ?_) (fun hc => ?_)
          · have h := h.1 hc
            refine pw_iinc (k := 1) (v := x2 + 1) (lv' := [(2, .int (x2 + 1)), (0, .ref (ev_ad E 33))]) dX6_readLaw_80 rfl rfl (by decide) rfl ?_
            refine pw_goto (tgt := 44) dX6_readLaw_83 (by decide) ?_
            refine pw_loc (lv' := [(0, .ref (ev_ad E 33)), (2, .int (x2 + 1))]) [1, 0] rfl ?_
            exact ih _ _ h
          · have h := h.2 hc
            refine pw_iconst (v := (0 : Int32)) dX6_readLaw_78 (by decide) ?_
            exact pw_ireturn dX6_readLaw_79 rfl rfl ⟨_, rfl, h⟩
        · have h := h.2 hc
          refine pw_iconst (v := (1 : Int32)) dX6_readLaw_69 (by decide) ?_
          exact pw_ireturn dX6_readLaw_70 rfl rfl ⟨_, rfl, h⟩
def wp_X6_readLaw (a1 : Int32) (G : GS) (Q : Int32 → GS → Prop) : Prop := wp_X4_empty (gu_ (gu_ (gu_ (gu_ (gu_ (gu_ (gu_ G 33 4 a1) 33 8 (0 : Int32)) 33 1 (0 : Int32)) 33 2 (-1 : Int32)) 33 9 (0 : Int32)) 33 13 (0 : Int32)) 33 14 (0 : Int32)) (fun _ G2 => (∃ kf, lp_X6_readLaw_44 Q kf (0 : Int32) G2))
set_option maxRecDepth 100000 in
set_option maxHeartbeats 4000000 in
theorem s_X6_readLaw {E : EV} (hE : EI_ E) {a1 : Int32} {G : GS} {Q : Int32 → GS → Prop} (h : wp_X6_readLaw a1 G Q) : PMet E mi_X6_readLaw 9 [.ref (ev_ad E 33), .int a1] G (qi_ Q) := by
  refine pm_of hE (by decide) (Nat.le_of_ble_eq_true rfl) ?_
  refine pw_loc (lv' := [(0, .ref (ev_ad E 33)), (1, .int a1)]) [0, 1] rfl ?_
  refine pw_aload_n dX6_readLaw_0 rfl 0 rfl ?_
  refine pw_iload_n dX6_readLaw_1 rfl 1 rfl ?_
  refine pw_puti dX6_readLaw_2 fp_X6_30 ly_33 rfl ?_
  refine pw_aload_n dX6_readLaw_5 rfl 0 rfl ?_
  refine pw_iconst (v := (0 : Int32)) dX6_readLaw_6 (by decide) ?_
  refine pw_puti dX6_readLaw_7 fp_X6_33 ly_33 rfl ?_
  refine pw_aload_n dX6_readLaw_10 rfl 0 rfl ?_
  refine pw_iconst (v := (0 : Int32)) dX6_readLaw_11 (by decide) ?_
  refine pw_puti dX6_readLaw_12 fp_X6_36 ly_33 rfl ?_
  refine pw_aload_n dX6_readLaw_15 rfl 0 rfl ?_
  refine pw_iconst (v := (-1 : Int32)) dX6_readLaw_16 (by decide) ?_
  refine pw_puti dX6_readLaw_17 fp_X6_26 ly_33 rfl ?_
  refine pw_aload_n dX6_readLaw_20 rfl 0 rfl ?_
  refine pw_iconst (v := (0 : Int32)) dX6_readLaw_21 (by decide) ?_
  refine pw_puti dX6_readLaw_22 fp_X6_39 ly_33 rfl ?_
  refine pw_aload_n dX6_readLaw_25 rfl 0 rfl ?_
  refine pw_iconst (v := (0 : Int32)) dX6_readLaw_26 (by decide) ?_
  refine pw_puti dX6_readLaw_27 fp_X6_42 ly_33 rfl ?_
  refine pw_aload_n dX6_readLaw_30 rfl 0 rfl ?_
  refine pw_iconst (v := (0 : Int32)) dX6_readLaw_31 (by decide) ?_
  refine pw_puti dX6_readLaw_32 fp_X6_45 ly_33 rfl ?_
  refine pw_aload_n dX6_readLaw_35 rfl 0 rfl ?_
  refine pw_getr (q := 34) dX6_readLaw_36 fa_X6_18 ly_33 rfl ?_
  refine pw_callV (As := []) (rest := []) (s_X4_empty hE h) dX6_readLaw_39 ly_34 rfl (Or.inr mn_X6_48) cm_X4_empty rfl (rm_ok (by decide)) rm_0 (Nat.le_of_ble_eq_true rfl) ?_
  rintro _ G2 ⟨rfl, h⟩
  refine pw_iconst (v := (0 : Int32)) dX6_readLaw_42 (by decide) ?_
  refine pw_istore_n (lv' := [(2, .int (0 : Int32)), (0, .ref (ev_ad E 33)), (1, .int a1)]) dX6_readLaw_43 rfl (by decide) rfl ?_
  refine pw_loc (lv' := [(0, .ref (ev_ad E 33)), (2, .int (0 : Int32))]) [1, 0] rfl ?_
  obtain ⟨kf, h⟩ := h
  exact t_X6_readLaw_44 hE Q kf _ _ h
def wp_X4_copyFrom_9_34  (G : GS) (Q : Int32 → GS → Prop) : Prop := (cp_ (0 : Int32) (0 : Int32) (G 34 3) 400 400 ∧ Q 0 (gf_ (gu_ (gf_ (gu_ (gu_ G 9 0 (G 34 0)) 9 1 (G 34 1)) 10 (va_cpy (G 35) (G 10) 0 0 16)) 9 3 (G 34 3)) 11 (va_cpy (G 36) (G 11) 0 0 ((G 34 3).toNatClampNeg))))
set_option maxRecDepth 100000 in
set_option maxHeartbeats 4000000 in
theorem s_X4_copyFrom_9_34 {E : EV} (hE : EI_ E)  {G : GS} {Q : Int32 → GS → Prop} (h : wp_X4_copyFrom_9_34  G Q) : PMet E mi_X4_copyFrom 1 [.ref (ev_ad E 9), .ref (ev_ad E 34)] G (qv_ Q) := by
  refine pm_of hE (by decide) (Nat.le_of_ble_eq_true rfl) ?_
  refine pw_loc (lv' := [(0, .ref (ev_ad E 9)), (1, .ref (ev_ad E 34))]) [0, 1] rfl ?_
  refine pw_aload_n dX4_copyFrom_0 rfl 0 rfl ?_
  refine pw_aload_n dX4_copyFrom_1 rfl 1 rfl ?_
  refine pw_geti (v := G 34 0) dX4_copyFrom_2 fa_X4_18 ly_34 rfl rfl ?_
  refine pw_puti dX4_copyFrom_5 fp_X4_18 ly_9 rfl ?_
  refine pw_aload_n dX4_copyFrom_8 rfl 0 rfl ?_
  refine pw_aload_n dX4_copyFrom_9 rfl 1 rfl ?_
  refine pw_geti (v := G 34 1) dX4_copyFrom_10 fa_X4_22 ly_34 rfl rfl ?_
  refine pw_puti dX4_copyFrom_13 fp_X4_22 ly_9 rfl ?_
  refine pw_aload_n dX4_copyFrom_16 rfl 1 rfl ?_
  refine pw_getr (q := 35) dX4_copyFrom_17 fa_X4_9 ly_34 rfl ?_
  refine pw_iconst (v := (0 : Int32)) dX4_copyFrom_20 (by decide) ?_
  refine pw_aload_n dX4_copyFrom_21 rfl 0 rfl ?_
  refine pw_getr (q := 10) dX4_copyFrom_22 fa_X4_9 ly_9 rfl ?_
  refine pw_iconst (v := (0 : Int32)) dX4_copyFrom_25 (by decide) ?_
  refine pw_bipush (v := (16 : Int32)) dX4_copyFrom_26 (by decide) ?_
  refine pw_copy dX4_copyFrom_28 jc_X4_25 ly_35 ly_10 (by unfold cp_; decide) (rm_ok1 (by decide)) rfl ?_
  refine pw_nmG (G2 := (gf_ (gu_ (gu_ G 9 0 (G 34 0)) 9 1 (G 34 1)) 10 (va_cpy (G 35) (G 10) 0 0 16))) rfl ?_
  refine pw_aload_n dX4_copyFrom_31 rfl 0 rfl ?_
  refine pw_aload_n dX4_copyFrom_32 rfl 1 rfl ?_
  refine pw_geti (v := G 34 3) dX4_copyFrom_33 fa_X4_31 ly_34 rfl rfl ?_
  refine pw_puti dX4_copyFrom_36 fp_X4_31 ly_9 rfl ?_
  refine pw_aload_n dX4_copyFrom_39 rfl 1 rfl ?_
  refine pw_getr (q := 36) dX4_copyFrom_40 fa_X4_15 ly_34 rfl ?_
  refine pw_iconst (v := (0 : Int32)) dX4_copyFrom_43 (by decide) ?_
  refine pw_aload_n dX4_copyFrom_44 rfl 0 rfl ?_
  refine pw_getr (q := 11) dX4_copyFrom_45 fa_X4_15 ly_9 rfl ?_
  refine pw_iconst (v := (0 : Int32)) dX4_copyFrom_48 (by decide) ?_
  refine pw_aload_n dX4_copyFrom_49 rfl 0 rfl ?_
  refine pw_geti (v := G 34 3) dX4_copyFrom_50 fa_X4_31 ly_9 rfl rfl ?_
  obtain ⟨hv1, h⟩ := h
  refine pw_copy dX4_copyFrom_53 jc_X4_25 ly_36 ly_11 hv1 (rm_ok1 (by decide)) rfl ?_
  refine pw_nmG (G2 := (gf_ (gu_ (gf_ (gu_ (gu_ G 9 0 (G 34 0)) 9 1 (G 34 1)) 10 (va_cpy (G 35) (G 10) 0 0 16)) 9 3 (G 34 3)) 11 (va_cpy (G 36) (G 11) 0 0 ((G 34 3).toNatClampNeg)))) rfl ?_
  exact pw_return dX4_copyFrom_56 rfl ⟨rfl, h⟩
def wp_X9_text  (G : GS) (Q : Int32 → GS → Prop) : Prop := wp_X6_readLaw (G 0 5) G (fun r1 G2 => ((¬ r1 = 0 → wp_X4_copyFrom_9_34 (gu_ (gu_ (gu_ G2 0 7 (G2 33 1)) 0 8 (G2 33 2)) 0 5 (0 : Int32)) (fun _ G4 => Q (G4 9 0) G4)) ∧ (r1 = 0 → Q (-1 : Int32) (gu_ (gu_ (gu_ G2 0 7 (G2 33 1)) 0 8 (G2 33 2)) 0 5 (0 : Int32)))))
set_option maxRecDepth 100000 in
set_option maxHeartbeats 4000000 in
theorem s_X9_text {E : EV} (hE : EI_ E)  {G : GS} {Q : Int32 → GS → Prop} (h : wp_X9_text  G Q) : PMet E mi_X9_text 10 [.ref (ev_ad E 0)] G (qi_ Q) := by
  refine pm_of hE (by decide) (Nat.le_of_ble_eq_true rfl) ?_
  refine pw_loc (lv' := [(0, .ref (ev_ad E 0))]) [0] rfl ?_
  refine pw_aload_n dX9_text_0 rfl 0 rfl ?_
  refine pw_getr (q := 33) dX9_text_1 fa_X9_43 ly_0 rfl ?_
  refine pw_aload_n dX9_text_4 rfl 0 rfl ?_
  refine pw_geti (v := G 0 5) dX9_text_5 fa_X9_34 ly_0 rfl rfl ?_
  refine pw_callV (As := [.int (G 0 5)]) (rest := []) (s_X6_readLaw hE h) dX9_text_8 ly_33 rfl (Or.inr mn_X9_114) cm_X6_readLaw rfl (rm_ok (by decide)) rm_0 (Nat.le_of_ble_eq_true rfl) ?_
  rintro _ G2 ⟨r1, rfl, h⟩
  refine pw_istore_n (lv' := [(1, .int r1), (0, .ref (ev_ad E 0))]) dX9_text_11 rfl (by decide) rfl ?_
  refine pw_aload_n dX9_text_12 rfl 1 rfl ?_
  refine pw_aload_n dX9_text_13 rfl 1 rfl ?_
  refine pw_getr (q := 33) dX9_text_14 fa_X9_43 ly_0 rfl ?_
  refine pw_geti (v := G2 33 1) dX9_text_17 fa_X9_117 ly_33 rfl rfl ?_
  refine pw_puti dX9_text_20 fp_X9_47 ly_0 rfl ?_
  refine pw_aload_n dX9_text_23 rfl 1 rfl ?_
  refine pw_aload_n dX9_text_24 rfl 1 rfl ?_
  refine pw_getr (q := 33) dX9_text_25 fa_X9_43 ly_0 rfl ?_
  refine pw_geti (v := G2 33 2) dX9_text_28 fa_X9_120 ly_33 rfl rfl ?_
  refine pw_puti dX9_text_31 fp_X9_50 ly_0 rfl ?_
  refine pw_aload_n dX9_text_34 rfl 1 rfl ?_
  refine pw_iconst (v := (0 : Int32)) dX9_text_35 (by decide) ?_
  refine pw_puti dX9_text_36 fp_X9_34 ly_0 rfl ?_
  refine pw_iload_n dX9_text_39 rfl 0 rfl ?_
  refine pw_if_ne (tgt := 45) dX9_text_40 (by decide) (fun hc => ?_) (fun hc => ?_)
  · have h := h.1 hc
    refine pw_aload_n dX9_text_45 rfl 1 rfl ?_
    refine pw_getr (q := 1) dX9_text_46 fa_X9_10 ly_0 rfl ?_
    refine pw_getr (q := 9) dX9_text_49 fa_X9_123 ly_1 rfl ?_
    refine pw_aload_n dX9_text_52 rfl 1 rfl ?_
    refine pw_getr (q := 33) dX9_text_53 fa_X9_43 ly_0 rfl ?_
    refine pw_getr (q := 34) dX9_text_56 fa_X9_127 ly_33 rfl ?_
    refine pw_callV (As := [.ref (ev_ad E 34)]) (rest := []) (s_X4_copyFrom_9_34 hE h) dX9_text_59 ly_9 rfl (Or.inr mn_X9_130) cm_X4_copyFrom rfl (rm_ok (by decide)) rm_0 (Nat.le_of_ble_eq_true rfl) ?_
    rintro _ G4 ⟨rfl, h⟩
    refine pw_aload_n dX9_text_62 rfl 1 rfl ?_
    refine pw_getr (q := 1) dX9_text_63 fa_X9_10 ly_0 rfl ?_
    refine pw_getr (q := 9) dX9_text_66 fa_X9_123 ly_1 rfl ?_
    refine pw_geti (v := G4 9 0) dX9_text_69 fa_X9_136 ly_9 rfl rfl ?_
    exact pw_ireturn dX9_text_72 rfl rfl ⟨_, rfl, h⟩
  · have h := h.2 hc
    refine pw_iconst (v := (-1 : Int32)) dX9_text_43 (by decide) ?_
    exact pw_ireturn dX9_text_44 rfl rfl ⟨_, rfl, h⟩
def wp_X9_fault (a1 : Int32) (G : GS) (Q : Int32 → GS → Prop) : Prop := ((¬ a1 = 0 → ((¬ a1 = (1 : Int32) → Q (-1 : Int32) G) ∧ (a1 = (1 : Int32) → Q (G 0 8) G))) ∧ (a1 = 0 → Q (G 0 7) G))
set_option maxRecDepth 100000 in
set_option maxHeartbeats 4000000 in
theorem s_X9_fault {E : EV} (hE : EI_ E) {a1 : Int32} {G : GS} {Q : Int32 → GS → Prop} (h : wp_X9_fault a1 G Q) : PMet E mi_X9_fault 1 [.ref (ev_ad E 0), .int a1] G (qi_ Q) := by
  refine pm_of hE (by decide) (Nat.le_of_ble_eq_true rfl) ?_
  refine pw_loc (lv' := [(0, .ref (ev_ad E 0)), (1, .int a1)]) [0, 1] rfl ?_
  refine pw_iload_n dX9_fault_0 rfl 1 rfl ?_
  refine pw_if_ne (tgt := 9) dX9_fault_1 (by decide) (fun hc => ?_) (fun hc => ?_)
  · have h := h.1 hc
    refine pw_iload_n dX9_fault_9 rfl 1 rfl ?_
    refine pw_iconst (v := (1 : Int32)) dX9_fault_10 (by decide) ?_
    refine pw_icmp_ne (tgt := 21) dX9_fault_11 (by decide) (fun hc => ?_) (fun hc => ?_)
    · have h := h.1 hc
      refine pw_iconst (v := (-1 : Int32)) dX9_fault_21 (by decide) ?_
      exact pw_ireturn dX9_fault_22 rfl rfl ⟨_, rfl, h⟩
    · have h := h.2 hc
      refine pw_aload_n dX9_fault_14 rfl 0 rfl ?_
      refine pw_geti (v := G 0 8) dX9_fault_15 fa_X9_50 ly_0 rfl rfl ?_
      refine pw_goto (tgt := 22) dX9_fault_18 (by decide) ?_
      exact pw_ireturn dX9_fault_22 rfl rfl ⟨_, rfl, h⟩
  · have h := h.2 hc
    refine pw_aload_n dX9_fault_4 rfl 0 rfl ?_
    refine pw_geti (v := G 0 7) dX9_fault_5 fa_X9_47 ly_0 rfl rfl ?_
    exact pw_ireturn dX9_fault_8 rfl rfl ⟨_, rfl, h⟩
def wp_X5_keep  (G : GS) (Q : Int32 → GS → Prop) : Prop := (cp_ (0 : Int32) ((G 27 0) * (10 : Int32)) (10 : Int32) 10 80 ∧ (vp_in (G 27 0) 8 ∧ Q 0 (gu_ (gu_ (gu_ (gu_ (gu_ (gf_ G 28 (va_cpy (G 2) (G 28) 0 (((G 27 0) * (10 : Int32)).toNatClampNeg) 10)) 29 ((G 27 0).toNatClampNeg) (G 1 0)) 30 ((G 27 0).toNatClampNeg) (G 1 6)) 31 ((G 27 0).toNatClampNeg) (G 12 0)) 27 0 (((G 27 0) + (1 : Int32)) - ((G 27 0) + (1 : Int32)) / (8 : Int32) * (8 : Int32))) 27 1 (if (8 : Int32) < ((G 27 1) + (1 : Int32)) then (8 : Int32) else (G 27 1) + (1 : Int32)))))
set_option maxRecDepth 100000 in
set_option maxHeartbeats 4000000 in
theorem s_X5_keep {E : EV} (hE : EI_ E)  {G : GS} {Q : Int32 → GS → Prop} (h : wp_X5_keep  G Q) : PMet E mi_X5_keep 1 [.ref (ev_ad E 27), .ref (ev_ad E 1)] G (qv_ Q) := by
  refine pm_of hE (by decide) (Nat.le_of_ble_eq_true rfl) ?_
  refine pw_loc (lv' := [(0, .ref (ev_ad E 27)), (1, .ref (ev_ad E 1))]) [0, 1] rfl ?_
  refine pw_aload_n dX5_keep_0 rfl 1 rfl ?_
  refine pw_getr (q := 2) dX5_keep_1 fa_X5_28 ly_1 rfl ?_
  refine pw_iconst (v := (0 : Int32)) dX5_keep_4 (by decide) ?_
  refine pw_aload_n dX5_keep_5 rfl 0 rfl ?_
  refine pw_getr (q := 28) dX5_keep_6 fa_X5_9 ly_27 rfl ?_
  refine pw_aload_n dX5_keep_9 rfl 0 rfl ?_
  refine pw_geti (v := G 27 0) dX5_keep_10 fa_X5_31 ly_27 rfl rfl ?_
  refine pw_bipush (v := (10 : Int32)) dX5_keep_13 (by decide) ?_
  refine pw_imul dX5_keep_15 ?_
  refine pw_bipush (v := (10 : Int32)) dX5_keep_16 (by decide) ?_
  obtain ⟨hv1, h⟩ := h
  refine pw_copy dX5_keep_18 jc_X5_34 ly_2 ly_28 hv1 (rm_ok1 (by decide)) rfl ?_
  refine pw_nmG (G2 := (gf_ G 28 (va_cpy (G 2) (G 28) 0 (((G 27 0) * (10 : Int32)).toNatClampNeg) 10))) rfl ?_
  refine pw_aload_n dX5_keep_21 rfl 0 rfl ?_
  refine pw_getr (q := 29) dX5_keep_22 fa_X5_15 ly_27 rfl ?_
  refine pw_aload_n dX5_keep_25 rfl 0 rfl ?_
  refine pw_geti (v := G 27 0) dX5_keep_26 fa_X5_31 ly_27 rfl rfl ?_
  refine pw_aload_n dX5_keep_29 rfl 1 rfl ?_
  refine pw_geti (v := G 1 0) dX5_keep_30 fa_X5_40 ly_1 rfl rfl ?_
  obtain ⟨hv2, h⟩ := h
  refine pw_iast (z := ((G 27 0).toNatClampNeg)) dX5_keep_33 ly_29 hv2 rfl ?_
  refine pw_aload_n dX5_keep_34 rfl 0 rfl ?_
  refine pw_getr (q := 30) dX5_keep_35 fa_X5_18 ly_27 rfl ?_
  refine pw_aload_n dX5_keep_38 rfl 0 rfl ?_
  refine pw_geti (v := G 27 0) dX5_keep_39 fa_X5_31 ly_27 rfl rfl ?_
  refine pw_aload_n dX5_keep_42 rfl 1 rfl ?_
  refine pw_geti (v := G 1 6) dX5_keep_43 fa_X5_42 ly_1 rfl rfl ?_
  refine pw_iast (z := ((G 27 0).toNatClampNeg)) dX5_keep_46 ly_30 hv2 rfl ?_
  refine pw_aload_n dX5_keep_47 rfl 0 rfl ?_
  refine pw_getr (q := 31) dX5_keep_48 fa_X5_21 ly_27 rfl ?_
  refine pw_aload_n dX5_keep_51 rfl 0 rfl ?_
  refine pw_geti (v := G 27 0) dX5_keep_52 fa_X5_31 ly_27 rfl rfl ?_
  refine pw_aload_n dX5_keep_55 rfl 1 rfl ?_
  refine pw_getr (q := 12) dX5_keep_56 fa_X5_45 ly_1 rfl ?_
  refine pw_geti (v := G 12 0) dX5_keep_59 fa_X5_49 ly_12 rfl rfl ?_
  refine pw_iast (z := ((G 27 0).toNatClampNeg)) dX5_keep_62 ly_31 hv2 rfl ?_
  refine pw_aload_n dX5_keep_63 rfl 0 rfl ?_
  refine pw_aload_n dX5_keep_64 rfl 0 rfl ?_
  refine pw_geti (v := G 27 0) dX5_keep_65 fa_X5_31 ly_27 rfl rfl ?_
  refine pw_iconst (v := (1 : Int32)) dX5_keep_68 (by decide) ?_
  refine pw_iadd dX5_keep_69 ?_
  refine pw_bipush (v := (8 : Int32)) dX5_keep_70 (by decide) ?_
  refine pw_irem dX5_keep_72 (by decide) ?_
  refine pw_puti dX5_keep_73 fp_X5_31 ly_27 rfl ?_
  refine pw_aload_n dX5_keep_76 rfl 0 rfl ?_
  refine pw_aload_n dX5_keep_77 rfl 0 rfl ?_
  refine pw_geti (v := G 27 1) dX5_keep_78 fa_X5_24 ly_27 rfl rfl ?_
  refine pw_iconst (v := (1 : Int32)) dX5_keep_81 (by decide) ?_
  refine pw_iadd dX5_keep_82 ?_
  refine pw_bipush (v := (8 : Int32)) dX5_keep_83 (by decide) ?_
  refine pw_mmin dX5_keep_85 jm_X5_54 (rm_ok1 (by decide)) rm_0 (Nat.le_of_ble_eq_true rfl) ?_
  refine pw_puti dX5_keep_88 fp_X5_24 ly_27 rfl ?_
  exact pw_return dX5_keep_91 rfl ⟨rfl, h⟩
def wp_J6_bitCount (a0 : Int32) (G : GS) (Q : Int32 → GS → Prop) : Prop := Q ((((((((a0 - ((ush_ a0 (1 : Int32)) &&& (1431655765 : Int32))) &&& (858993459 : Int32)) + ((ush_ (a0 - ((ush_ a0 (1 : Int32)) &&& (1431655765 : Int32))) (2 : Int32)) &&& (858993459 : Int32))) + (ush_ (((a0 - ((ush_ a0 (1 : Int32)) &&& (1431655765 : Int32))) &&& (858993459 : Int32)) + ((ush_ (a0 - ((ush_ a0 (1 : Int32)) &&& (1431655765 : Int32))) (2 : Int32)) &&& (858993459 : Int32))) (4 : Int32))) &&& (252645135 : Int32)) + (ush_ (((((a0 - ((ush_ a0 (1 : Int32)) &&& (1431655765 : Int32))) &&& (858993459 : Int32)) + ((ush_ (a0 - ((ush_ a0 (1 : Int32)) &&& (1431655765 : Int32))) (2 : Int32)) &&& (858993459 : Int32))) + (ush_ (((a0 - ((ush_ a0 (1 : Int32)) &&& (1431655765 : Int32))) &&& (858993459 : Int32)) + ((ush_ (a0 - ((ush_ a0 (1 : Int32)) &&& (1431655765 : Int32))) (2 : Int32)) &&& (858993459 : Int32))) (4 : Int32))) &&& (252645135 : Int32)) (8 : Int32))) + (ush_ ((((((a0 - ((ush_ a0 (1 : Int32)) &&& (1431655765 : Int32))) &&& (858993459 : Int32)) + ((ush_ (a0 - ((ush_ a0 (1 : Int32)) &&& (1431655765 : Int32))) (2 : Int32)) &&& (858993459 : Int32))) + (ush_ (((a0 - ((ush_ a0 (1 : Int32)) &&& (1431655765 : Int32))) &&& (858993459 : Int32)) + ((ush_ (a0 - ((ush_ a0 (1 : Int32)) &&& (1431655765 : Int32))) (2 : Int32)) &&& (858993459 : Int32))) (4 : Int32))) &&& (252645135 : Int32)) + (ush_ (((((a0 - ((ush_ a0 (1 : Int32)) &&& (1431655765 : Int32))) &&& (858993459 : Int32)) + ((ush_ (a0 - ((ush_ a0 (1 : Int32)) &&& (1431655765 : Int32))) (2 : Int32)) &&& (858993459 : Int32))) + (ush_ (((a0 - ((ush_ a0 (1 : Int32)) &&& (1431655765 : Int32))) &&& (858993459 : Int32)) + ((ush_ (a0 - ((ush_ a0 (1 : Int32)) &&& (1431655765 : Int32))) (2 : Int32)) &&& (858993459 : Int32))) (4 : Int32))) &&& (252645135 : Int32)) (8 : Int32))) (16 : Int32))) &&& (63 : Int32)) G
set_option maxRecDepth 100000 in
set_option maxHeartbeats 4000000 in
theorem s_J6_bitCount {E : EV} (hE : EI_ E) {a0 : Int32} {G : GS} {Q : Int32 → GS → Prop} (h : wp_J6_bitCount a0 G Q) : PMet E mi_J6_bitCount_0f7a4 1 [.int a0] G (qi_ Q) := by
  refine pm_of hE (by decide) (Nat.le_of_ble_eq_true rfl) ?_
  refine pw_loc (lv' := [(0, .int a0)]) [0] rfl ?_
  refine pw_iload_n dJ6_bitCount_0f7a4_0 rfl 0 rfl ?_
  refine pw_iload_n dJ6_bitCount_0f7a4_1 rfl 0 rfl ?_
  refine pw_iconst (v := (1 : Int32)) dJ6_bitCount_0f7a4_2 (by decide) ?_
  refine pw_iushr dJ6_bitCount_0f7a4_3 ?_
  refine pw_ldcw (v := (1431655765 : Int32)) dJ6_bitCount_0f7a4_4 k_J6_265 ?_
  refine pw_iand dJ6_bitCount_0f7a4_7 ?_
  refine pw_isub dJ6_bitCount_0f7a4_8 ?_
  refine pw_istore_n (lv' := [(0, .int (a0 - ((ush_ a0 (1 : Int32)) &&& (1431655765 : Int32))))]) dJ6_bitCount_0f7a4_9 rfl (by decide) rfl ?_
  refine pw_iload_n dJ6_bitCount_0f7a4_10 rfl 0 rfl ?_
  refine pw_ldcw (v := (858993459 : Int32)) dJ6_bitCount_0f7a4_11 k_J6_266 ?_
  refine pw_iand dJ6_bitCount_0f7a4_14 ?_
  refine pw_iload_n dJ6_bitCount_0f7a4_15 rfl 0 rfl ?_
  refine pw_iconst (v := (2 : Int32)) dJ6_bitCount_0f7a4_16 (by decide) ?_
  refine pw_iushr dJ6_bitCount_0f7a4_17 ?_
  refine pw_ldcw (v := (858993459 : Int32)) dJ6_bitCount_0f7a4_18 k_J6_266 ?_
  refine pw_iand dJ6_bitCount_0f7a4_21 ?_
  refine pw_iadd dJ6_bitCount_0f7a4_22 ?_
  refine pw_istore_n (lv' := [(0, .int (((a0 - ((ush_ a0 (1 : Int32)) &&& (1431655765 : Int32))) &&& (858993459 : Int32)) + ((ush_ (a0 - ((ush_ a0 (1 : Int32)) &&& (1431655765 : Int32))) (2 : Int32)) &&& (858993459 : Int32))))]) dJ6_bitCount_0f7a4_23 rfl (by decide) rfl ?_
  refine pw_iload_n dJ6_bitCount_0f7a4_24 rfl 0 rfl ?_
  refine pw_iload_n dJ6_bitCount_0f7a4_25 rfl 0 rfl ?_
  refine pw_iconst (v := (4 : Int32)) dJ6_bitCount_0f7a4_26 (by decide) ?_
  refine pw_iushr dJ6_bitCount_0f7a4_27 ?_
  refine pw_iadd dJ6_bitCount_0f7a4_28 ?_
  refine pw_ldcw (v := (252645135 : Int32)) dJ6_bitCount_0f7a4_29 k_J6_267 ?_
  refine pw_iand dJ6_bitCount_0f7a4_32 ?_
  refine pw_istore_n (lv' := [(0, .int (((((a0 - ((ush_ a0 (1 : Int32)) &&& (1431655765 : Int32))) &&& (858993459 : Int32)) + ((ush_ (a0 - ((ush_ a0 (1 : Int32)) &&& (1431655765 : Int32))) (2 : Int32)) &&& (858993459 : Int32))) + (ush_ (((a0 - ((ush_ a0 (1 : Int32)) &&& (1431655765 : Int32))) &&& (858993459 : Int32)) + ((ush_ (a0 - ((ush_ a0 (1 : Int32)) &&& (1431655765 : Int32))) (2 : Int32)) &&& (858993459 : Int32))) (4 : Int32))) &&& (252645135 : Int32)))]) dJ6_bitCount_0f7a4_33 rfl (by decide) rfl ?_
  refine pw_iload_n dJ6_bitCount_0f7a4_34 rfl 0 rfl ?_
  refine pw_iload_n dJ6_bitCount_0f7a4_35 rfl 0 rfl ?_
  refine pw_bipush (v := (8 : Int32)) dJ6_bitCount_0f7a4_36 (by decide) ?_
  refine pw_iushr dJ6_bitCount_0f7a4_38 ?_
  refine pw_iadd dJ6_bitCount_0f7a4_39 ?_
  refine pw_istore_n (lv' := [(0, .int ((((((a0 - ((ush_ a0 (1 : Int32)) &&& (1431655765 : Int32))) &&& (858993459 : Int32)) + ((ush_ (a0 - ((ush_ a0 (1 : Int32)) &&& (1431655765 : Int32))) (2 : Int32)) &&& (858993459 : Int32))) + (ush_ (((a0 - ((ush_ a0 (1 : Int32)) &&& (1431655765 : Int32))) &&& (858993459 : Int32)) + ((ush_ (a0 - ((ush_ a0 (1 : Int32)) &&& (1431655765 : Int32))) (2 : Int32)) &&& (858993459 : Int32))) (4 : Int32))) &&& (252645135 : Int32)) + (ush_ (((((a0 - ((ush_ a0 (1 : Int32)) &&& (1431655765 : Int32))) &&& (858993459 : Int32)) + ((ush_ (a0 - ((ush_ a0 (1 : Int32)) &&& (1431655765 : Int32))) (2 : Int32)) &&& (858993459 : Int32))) + (ush_ (((a0 - ((ush_ a0 (1 : Int32)) &&& (1431655765 : Int32))) &&& (858993459 : Int32)) + ((ush_ (a0 - ((ush_ a0 (1 : Int32)) &&& (1431655765 : Int32))) (2 : Int32)) &&& (858993459 : Int32))) (4 : Int32))) &&& (252645135 : Int32)) (8 : Int32))))]) dJ6_bitCount_0f7a4_40 rfl (by decide) rfl ?_
  refine pw_iload_n dJ6_bitCount_0f7a4_41 rfl 0 rfl ?_
  refine pw_iload_n dJ6_bitCount_0f7a4_42 rfl 0 rfl ?_
  refine pw_bipush (v := (16 : Int32)) dJ6_bitCount_0f7a4_43 (by decide) ?_
  refine pw_iushr dJ6_bitCount_0f7a4_45 ?_
  refine pw_iadd dJ6_bitCount_0f7a4_46 ?_
  refine pw_istore_n (lv' := [(0, .int (((((((a0 - ((ush_ a0 (1 : Int32)) &&& (1431655765 : Int32))) &&& (858993459 : Int32)) + ((ush_ (a0 - ((ush_ a0 (1 : Int32)) &&& (1431655765 : Int32))) (2 : Int32)) &&& (858993459 : Int32))) + (ush_ (((a0 - ((ush_ a0 (1 : Int32)) &&& (1431655765 : Int32))) &&& (858993459 : Int32)) + ((ush_ (a0 - ((ush_ a0 (1 : Int32)) &&& (1431655765 : Int32))) (2 : Int32)) &&& (858993459 : Int32))) (4 : Int32))) &&& (252645135 : Int32)) + (ush_ (((((a0 - ((ush_ a0 (1 : Int32)) &&& (1431655765 : Int32))) &&& (858993459 : Int32)) + ((ush_ (a0 - ((ush_ a0 (1 : Int32)) &&& (1431655765 : Int32))) (2 : Int32)) &&& (858993459 : Int32))) + (ush_ (((a0 - ((ush_ a0 (1 : Int32)) &&& (1431655765 : Int32))) &&& (858993459 : Int32)) + ((ush_ (a0 - ((ush_ a0 (1 : Int32)) &&& (1431655765 : Int32))) (2 : Int32)) &&& (858993459 : Int32))) (4 : Int32))) &&& (252645135 : Int32)) (8 : Int32))) + (ush_ ((((((a0 - ((ush_ a0 (1 : Int32)) &&& (1431655765 : Int32))) &&& (858993459 : Int32)) + ((ush_ (a0 - ((ush_ a0 (1 : Int32)) &&& (1431655765 : Int32))) (2 : Int32)) &&& (858993459 : Int32))) + (ush_ (((a0 - ((ush_ a0 (1 : Int32)) &&& (1431655765 : Int32))) &&& (858993459 : Int32)) + ((ush_ (a0 - ((ush_ a0 (1 : Int32)) &&& (1431655765 : Int32))) (2 : Int32)) &&& (858993459 : Int32))) (4 : Int32))) &&& (252645135 : Int32)) + (ush_ (((((a0 - ((ush_ a0 (1 : Int32)) &&& (1431655765 : Int32))) &&& (858993459 : Int32)) + ((ush_ (a0 - ((ush_ a0 (1 : Int32)) &&& (1431655765 : Int32))) (2 : Int32)) &&& (858993459 : Int32))) + (ush_ (((a0 - ((ush_ a0 (1 : Int32)) &&& (1431655765 : Int32))) &&& (858993459 : Int32)) + ((ush_ (a0 - ((ush_ a0 (1 : Int32)) &&& (1431655765 : Int32))) (2 : Int32)) &&& (858993459 : Int32))) (4 : Int32))) &&& (252645135 : Int32)) (8 : Int32))) (16 : Int32))))]) dJ6_bitCount_0f7a4_47 rfl (by decide) rfl ?_
  refine pw_iload_n dJ6_bitCount_0f7a4_48 rfl 0 rfl ?_
  refine pw_bipush (v := (63 : Int32)) dJ6_bitCount_0f7a4_49 (by decide) ?_
  refine pw_iand dJ6_bitCount_0f7a4_51 ?_
  exact pw_ireturn dJ6_bitCount_0f7a4_52 rfl rfl ⟨_, rfl, h⟩
def wp_X2_pop  (G : GS) (Q : Int32 → GS → Prop) : Prop := ((0 < (G 38 2) → (vp_in ((G 38 2) - (1 : Int32)) 32 ∧ Q (G 39 (((G 38 2) - (1 : Int32)).toNatClampNeg)) (gu_ G 38 2 ((G 38 2) - (1 : Int32))))) ∧ (¬ 0 < (G 38 2) → Q (0 : Int32) G))
set_option maxRecDepth 100000 in
set_option maxHeartbeats 4000000 in
theorem s_X2_pop {E : EV} (hE : EI_ E)  {G : GS} {Q : Int32 → GS → Prop} (h : wp_X2_pop  G Q) : PMet E mi_X2_pop 1 [.ref (ev_ad E 38)] G (qi_ Q) := by
  refine pm_of hE (by decide) (Nat.le_of_ble_eq_true rfl) ?_
  refine pw_loc (lv' := [(0, .ref (ev_ad E 38))]) [0] rfl ?_
  refine pw_aload_n dX2_pop_0 rfl 0 rfl ?_
  refine pw_geti (v := G 38 2) dX2_pop_1 fa_X2_106 ly_38 rfl rfl ?_
  refine pw_if_gt (tgt := 9) dX2_pop_4 (by decide) (fun hc => ?_) (fun hc => ?_)
  · have h := h.1 hc
    refine pw_aload_n dX2_pop_9 rfl 0 rfl ?_
    refine pw_dup dX2_pop_10 rfl ?_
    refine pw_geti (v := G 38 2) dX2_pop_11 fa_X2_106 ly_38 rfl rfl ?_
    refine pw_iconst (v := (1 : Int32)) dX2_pop_14 (by decide) ?_
    refine pw_isub dX2_pop_15 ?_
    refine pw_puti dX2_pop_16 fp_X2_106 ly_38 rfl ?_
    refine pw_aload_n dX2_pop_19 rfl 0 rfl ?_
    refine pw_getr (q := 39) dX2_pop_20 fa_X2_15 ly_38 rfl ?_
    refine pw_aload_n dX2_pop_23 rfl 0 rfl ?_
    refine pw_geti (v := (G 38 2) - (1 : Int32)) dX2_pop_24 fa_X2_106 ly_38 rfl rfl ?_
    obtain ⟨hv1, h⟩ := h
    refine pw_iald (v := G 39 (((G 38 2) - (1 : Int32)).toNatClampNeg)) dX2_pop_27 ly_39 hv1 rfl ?_
    exact pw_ireturn dX2_pop_28 rfl rfl ⟨_, rfl, h⟩
  · have h := h.2 hc
    refine pw_iconst (v := (0 : Int32)) dX2_pop_7 (by decide) ?_
    exact pw_ireturn dX2_pop_8 rfl rfl ⟨_, rfl, h⟩
def wp_X2_joined (a0 : Int32) (a1 : Int32) (a2 : Int32) (G : GS) (Q : Int32 → GS → Prop) : Prop := ((a0 = 42 → Q (a1 * a2) G) ∧ (a0 = 43 → Q (a1 + a2) G) ∧ (a0 = 45 → Q (a1 - a2) G) ∧ (a0 = 47 → ((¬ a2 = 0 → ((¬ a2 = 0) ∧ Q (a1 / a2) G)) ∧ (a2 = 0 → Q (0 : Int32) G))) ∧ (a0 = 60 → ((a2 ≤ a1 → Q (0 : Int32) G) ∧ (¬ a2 ≤ a1 → Q (1 : Int32) G))) ∧ (a0 = 61 → ((¬ a1 = a2 → Q (0 : Int32) G) ∧ (a1 = a2 → Q (1 : Int32) G))) ∧ (a0 = 62 → ((a1 ≤ a2 → Q (0 : Int32) G) ∧ (¬ a1 ≤ a2 → Q (1 : Int32) G))) ∧ (a0 = 203 → Q (a1 ||| a2) G) ∧ (a0 = 204 → Q (a1 &&& a2) G) ∧ (¬ a0 = 42 → ¬ a0 = 43 → ¬ a0 = 45 → ¬ a0 = 47 → ¬ a0 = 60 → ¬ a0 = 61 → ¬ a0 = 62 → ¬ a0 = 203 → ¬ a0 = 204 → Q (0 : Int32) G))
set_option maxRecDepth 100000 in
set_option maxHeartbeats 4000000 in
theorem s_X2_joined {E : EV} (hE : EI_ E) {a0 : Int32} {a1 : Int32} {a2 : Int32} {G : GS} {Q : Int32 → GS → Prop} (h : wp_X2_joined a0 a1 a2 G Q) : PMet E mi_X2_joined 1 [.int a0, .int a1, .int a2] G (qi_ Q) := by
  refine pm_of hE (by decide) (Nat.le_of_ble_eq_true rfl) ?_
  refine pw_loc (lv' := [(0, .int a0), (1, .int a1), (2, .int a2)]) [0, 1, 2] rfl ?_
  refine pw_iload_n dX2_joined_0 rfl 0 rfl ?_
  by_cases hs0 : a0 = (42 : Int32)
  · have h := h.1 hs0
    refine pw_lsw (tgt := 92) (off := 91) dX2_joined_1 (by decide +kernel) (by rw [hs0]; decide +kernel) (by decide) ?_
    refine pw_iload_n dX2_joined_92 rfl 1 rfl ?_
    refine pw_iload_n dX2_joined_93 rfl 2 rfl ?_
    refine pw_imul dX2_joined_94 ?_
    exact pw_ireturn dX2_joined_95 rfl rfl ⟨_, rfl, h⟩
  by_cases hs1 : a0 = (43 : Int32)
  · have h := h.2.1 hs1
    refine pw_lsw (tgt := 84) (off := 83) dX2_joined_1 (by decide +kernel) (by rw [hs1]; decide +kernel) (by decide) ?_
    refine pw_iload_n dX2_joined_84 rfl 1 rfl ?_
    refine pw_iload_n dX2_joined_85 rfl 2 rfl ?_
    refine pw_iadd dX2_joined_86 ?_
    exact pw_ireturn dX2_joined_87 rfl rfl ⟨_, rfl, h⟩
  by_cases hs2 : a0 = (45 : Int32)
  · have h := h.2.2.1 hs2
    refine pw_lsw (tgt := 88) (off := 87) dX2_joined_1 (by decide +kernel) (by rw [hs2]; decide +kernel) (by decide) ?_
    refine pw_iload_n dX2_joined_88 rfl 1 rfl ?_
    refine pw_iload_n dX2_joined_89 rfl 2 rfl ?_
    refine pw_isub dX2_joined_90 ?_
    exact pw_ireturn dX2_joined_91 rfl rfl ⟨_, rfl, h⟩
  by_cases hs3 : a0 = (47 : Int32)
  · have h := h.2.2.2.1 hs3
    refine pw_lsw (tgt := 96) (off := 95) dX2_joined_1 (by decide +kernel) (by rw [hs3]; decide +kernel) (by decide) ?_
    refine pw_iload_n dX2_joined_96 rfl 2 rfl ?_
    refine pw_if_ne (tgt := 104) dX2_joined_97 (by decide) (fun hc => ?_) (fun hc => ?_)
    · have h := h.1 hc
      refine pw_iload_n dX2_joined_104 rfl 1 rfl ?_
      refine pw_iload_n dX2_joined_105 rfl 2 rfl ?_
      obtain ⟨hv1, h⟩ := h
      refine pw_idiv dX2_joined_106 hv1 ?_
      exact pw_ireturn dX2_joined_107 rfl rfl ⟨_, rfl, h⟩
    · have h := h.2 hc
      refine pw_iconst (v := (0 : Int32)) dX2_joined_100 (by decide) ?_
      refine pw_goto (tgt := 107) dX2_joined_101 (by decide) ?_
      exact pw_ireturn dX2_joined_107 rfl rfl ⟨_, rfl, h⟩
  by_cases hs4 : a0 = (60 : Int32)
  · have h := h.2.2.2.2.1 hs4
    refine pw_lsw (tgt := 108) (off := 107) dX2_joined_1 (by decide +kernel) (by rw [hs4]; decide +kernel) (by decide) ?_
    refine pw_iload_n dX2_joined_108 rfl 1 rfl ?_
    refine pw_iload_n dX2_joined_109 rfl 2 rfl ?_
    refine pw_icmp_ge (tgt := 117) dX2_joined_110 (by decide) (fun hc => ?_) (fun hc => ?_)
    · have h := h.1 hc
      refine pw_iconst (v := (0 : Int32)) dX2_joined_117 (by decide) ?_
      exact pw_ireturn dX2_joined_118 rfl rfl ⟨_, rfl, h⟩
    · have h := h.2 hc
      refine pw_iconst (v := (1 : Int32)) dX2_joined_113 (by decide) ?_
      refine pw_goto (tgt := 118) dX2_joined_114 (by decide) ?_
      exact pw_ireturn dX2_joined_118 rfl rfl ⟨_, rfl, h⟩
  by_cases hs5 : a0 = (61 : Int32)
  · have h := h.2.2.2.2.2.1 hs5
    refine pw_lsw (tgt := 119) (off := 118) dX2_joined_1 (by decide +kernel) (by rw [hs5]; decide +kernel) (by decide) ?_
    refine pw_iload_n dX2_joined_119 rfl 1 rfl ?_
    refine pw_iload_n dX2_joined_120 rfl 2 rfl ?_
    refine pw_icmp_ne (tgt := 128) dX2_joined_121 (by decide) (fun hc => ?_) (fun hc => ?_)
    · have h := h.1 hc
      refine pw_iconst (v := (0 : Int32)) dX2_joined_128 (by decide) ?_
      exact pw_ireturn dX2_joined_129 rfl rfl ⟨_, rfl, h⟩
    · have h := h.2 hc
      refine pw_iconst (v := (1 : Int32)) dX2_joined_124 (by decide) ?_
      refine pw_goto (tgt := 129) dX2_joined_125 (by decide) ?_
      exact pw_ireturn dX2_joined_129 rfl rfl ⟨_, rfl, h⟩
  by_cases hs6 : a0 = (62 : Int32)
  · have h := h.2.2.2.2.2.2.1 hs6
    refine pw_lsw (tgt := 130) (off := 129) dX2_joined_1 (by decide +kernel) (by rw [hs6]; decide +kernel) (by decide) ?_
    refine pw_iload_n dX2_joined_130 rfl 1 rfl ?_
    refine pw_iload_n dX2_joined_131 rfl 2 rfl ?_
    refine pw_icmp_le (tgt := 139) dX2_joined_132 (by decide) (fun hc => ?_) (fun hc => ?_)
    · have h := h.1 hc
      refine pw_iconst (v := (0 : Int32)) dX2_joined_139 (by decide) ?_
      exact pw_ireturn dX2_joined_140 rfl rfl ⟨_, rfl, h⟩
    · have h := h.2 hc
      refine pw_iconst (v := (1 : Int32)) dX2_joined_135 (by decide) ?_
      refine pw_goto (tgt := 140) dX2_joined_136 (by decide) ?_
      exact pw_ireturn dX2_joined_140 rfl rfl ⟨_, rfl, h⟩
  by_cases hs7 : a0 = (203 : Int32)
  · have h := h.2.2.2.2.2.2.2.1 hs7
    refine pw_lsw (tgt := 145) (off := 144) dX2_joined_1 (by decide +kernel) (by rw [hs7]; decide +kernel) (by decide) ?_
    refine pw_iload_n dX2_joined_145 rfl 1 rfl ?_
    refine pw_iload_n dX2_joined_146 rfl 2 rfl ?_
    refine pw_ior dX2_joined_147 ?_
    exact pw_ireturn dX2_joined_148 rfl rfl ⟨_, rfl, h⟩
  by_cases hs8 : a0 = (204 : Int32)
  · have h := h.2.2.2.2.2.2.2.2.1 hs8
    refine pw_lsw (tgt := 141) (off := 140) dX2_joined_1 (by decide +kernel) (by rw [hs8]; decide +kernel) (by decide) ?_
    refine pw_iload_n dX2_joined_141 rfl 1 rfl ?_
    refine pw_iload_n dX2_joined_142 rfl 2 rfl ?_
    refine pw_iand dX2_joined_143 ?_
    exact pw_ireturn dX2_joined_144 rfl rfl ⟨_, rfl, h⟩
  have h := h.2.2.2.2.2.2.2.2.2 hs0 hs1 hs2 hs3 hs4 hs5 hs6 hs7 hs8
  refine pw_lsw (tgt := 149) (off := 148) dX2_joined_1 (by decide +kernel) (by rw [lv_osw hs0 (by decide)]; rw [lv_osw hs1 (by decide)]; rw [lv_osw hs2 (by decide)]; rw [lv_osw hs3 (by decide)]; rw [lv_osw hs4 (by decide)]; rw [lv_osw hs5 (by decide)]; rw [lv_osw hs6 (by decide)]; rw [lv_osw hs7 (by decide)]; rw [lv_osw hs8 (by decide)];  rfl) (by decide) ?_
  refine pw_iconst (v := (0 : Int32)) dX2_joined_149 (by decide) ?_
  exact pw_ireturn dX2_joined_150 rfl rfl ⟨_, rfl, h⟩
def wp_X2_push (a1 : Int32) (G : GS) (Q : Int32 → GS → Prop) : Prop := (((32 : Int32) ≤ (G 38 2) → Q 0 G) ∧ (¬ (32 : Int32) ≤ (G 38 2) → (vp_in (G 38 2) 32 ∧ Q 0 (gu_ (gu_ G 39 ((G 38 2).toNatClampNeg) a1) 38 2 ((G 38 2) + (1 : Int32))))))
set_option maxRecDepth 100000 in
set_option maxHeartbeats 4000000 in
theorem s_X2_push {E : EV} (hE : EI_ E) {a1 : Int32} {G : GS} {Q : Int32 → GS → Prop} (h : wp_X2_push a1 G Q) : PMet E mi_X2_push 1 [.ref (ev_ad E 38), .int a1] G (qv_ Q) := by
  refine pm_of hE (by decide) (Nat.le_of_ble_eq_true rfl) ?_
  refine pw_loc (lv' := [(0, .ref (ev_ad E 38)), (1, .int a1)]) [0, 1] rfl ?_
  refine pw_aload_n dX2_push_0 rfl 0 rfl ?_
  refine pw_geti (v := G 38 2) dX2_push_1 fa_X2_106 ly_38 rfl rfl ?_
  refine pw_bipush (v := (32 : Int32)) dX2_push_4 (by decide) ?_
  refine pw_icmp_ge (tgt := 29) dX2_push_6 (by decide) (fun hc => ?_) (fun hc => ?_)
  · have h := h.1 hc
    exact pw_return dX2_push_29 rfl ⟨rfl, h⟩
  · have h := h.2 hc
    refine pw_aload_n dX2_push_9 rfl 0 rfl ?_
    refine pw_getr (q := 39) dX2_push_10 fa_X2_15 ly_38 rfl ?_
    refine pw_aload_n dX2_push_13 rfl 0 rfl ?_
    refine pw_geti (v := G 38 2) dX2_push_14 fa_X2_106 ly_38 rfl rfl ?_
    refine pw_iload_n dX2_push_17 rfl 1 rfl ?_
    obtain ⟨hv1, h⟩ := h
    refine pw_iast (z := ((G 38 2).toNatClampNeg)) dX2_push_18 ly_39 hv1 rfl ?_
    refine pw_aload_n dX2_push_19 rfl 0 rfl ?_
    refine pw_dup dX2_push_20 rfl ?_
    refine pw_geti (v := G 38 2) dX2_push_21 fa_X2_106 ly_38 rfl rfl ?_
    refine pw_iconst (v := (1 : Int32)) dX2_push_24 (by decide) ?_
    refine pw_iadd dX2_push_25 ?_
    refine pw_puti dX2_push_26 fp_X2_106 ly_38 rfl ?_
    exact pw_return dX2_push_29 rfl ⟨rfl, h⟩
def wp_X2_valueOf (a1 : Int32) (G : GS) (Q : Int32 → GS → Prop) : Prop := ((a1 = 206 → Q (G 38 3) G) ∧ (a1 = 207 → Q (G 38 4) G) ∧ (a1 = 208 → Q ((G 38 4) - (G 38 3)) G) ∧ (a1 = 209 → Q (G 38 5) G) ∧ (a1 = 210 → Q (if (if 0 ≤ (G 38 4) - (G 38 5) then ((G 38 4) - (G 38 5)) else 0 - ((G 38 4) - (G 38 5))) < (if 0 ≤ (G 38 3) - (G 38 5) then ((G 38 3) - (G 38 5)) else 0 - ((G 38 3) - (G 38 5))) then if 0 ≤ (G 38 4) - (G 38 5) then ((G 38 4) - (G 38 5)) else 0 - ((G 38 4) - (G 38 5)) else if 0 ≤ (G 38 3) - (G 38 5) then ((G 38 3) - (G 38 5)) else 0 - ((G 38 3) - (G 38 5))) G) ∧ (a1 = 211 → Q (G 38 6) G) ∧ (a1 = 212 → Q (G 38 7) G) ∧ (a1 = 213 → Q (G 1 6) G) ∧ (a1 = 214 → Q (G 38 8) G) ∧ (¬ a1 = 206 → ¬ a1 = 207 → ¬ a1 = 208 → ¬ a1 = 209 → ¬ a1 = 210 → ¬ a1 = 211 → ¬ a1 = 212 → ¬ a1 = 213 → ¬ a1 = 214 → Q (0 : Int32) G))
set_option maxRecDepth 100000 in
set_option maxHeartbeats 4000000 in
theorem s_X2_valueOf {E : EV} (hE : EI_ E) {a1 : Int32} {G : GS} {Q : Int32 → GS → Prop} (h : wp_X2_valueOf a1 G Q) : PMet E mi_X2_valueOf 1 [.ref (ev_ad E 38), .int a1] G (qi_ Q) := by
  refine pm_of hE (by decide) (Nat.le_of_ble_eq_true rfl) ?_
  refine pw_loc (lv' := [(0, .ref (ev_ad E 38)), (1, .int a1)]) [0, 1] rfl ?_
  refine pw_iload_n dX2_valueOf_0 rfl 1 rfl ?_
  by_cases hs0 : a1 = (206 : Int32)
  · have h := h.1 hs0
    refine pw_tswIn (tgt := 52) (off := 51) (206 : Int32) dX2_valueOf_1 hs0 (by decide) (by decide) (by decide +kernel) (by decide) ?_
    refine pw_aload_n dX2_valueOf_52 rfl 0 rfl ?_
    refine pw_geti (v := G 38 3) dX2_valueOf_53 fa_X2_58 ly_38 rfl rfl ?_
    exact pw_ireturn dX2_valueOf_56 rfl rfl ⟨_, rfl, h⟩
  by_cases hs1 : a1 = (207 : Int32)
  · have h := h.2.1 hs1
    refine pw_tswIn (tgt := 57) (off := 56) (207 : Int32) dX2_valueOf_1 hs1 (by decide) (by decide) (by decide +kernel) (by decide) ?_
    refine pw_aload_n dX2_valueOf_57 rfl 0 rfl ?_
    refine pw_geti (v := G 38 4) dX2_valueOf_58 fa_X2_64 ly_38 rfl rfl ?_
    exact pw_ireturn dX2_valueOf_61 rfl rfl ⟨_, rfl, h⟩
  by_cases hs2 : a1 = (208 : Int32)
  · have h := h.2.2.1 hs2
    refine pw_tswIn (tgt := 62) (off := 61) (208 : Int32) dX2_valueOf_1 hs2 (by decide) (by decide) (by decide +kernel) (by decide) ?_
    refine pw_aload_n dX2_valueOf_62 rfl 0 rfl ?_
    refine pw_geti (v := G 38 4) dX2_valueOf_63 fa_X2_64 ly_38 rfl rfl ?_
    refine pw_aload_n dX2_valueOf_66 rfl 0 rfl ?_
    refine pw_geti (v := G 38 3) dX2_valueOf_67 fa_X2_58 ly_38 rfl rfl ?_
    refine pw_isub dX2_valueOf_70 ?_
    exact pw_ireturn dX2_valueOf_71 rfl rfl ⟨_, rfl, h⟩
  by_cases hs3 : a1 = (209 : Int32)
  · have h := h.2.2.2.1 hs3
    refine pw_tswIn (tgt := 72) (off := 71) (209 : Int32) dX2_valueOf_1 hs3 (by decide) (by decide) (by decide +kernel) (by decide) ?_
    refine pw_aload_n dX2_valueOf_72 rfl 0 rfl ?_
    refine pw_geti (v := G 38 5) dX2_valueOf_73 fa_X2_67 ly_38 rfl rfl ?_
    exact pw_ireturn dX2_valueOf_76 rfl rfl ⟨_, rfl, h⟩
  by_cases hs4 : a1 = (210 : Int32)
  · have h := h.2.2.2.2.1 hs4
    refine pw_tswIn (tgt := 77) (off := 76) (210 : Int32) dX2_valueOf_1 hs4 (by decide) (by decide) (by decide +kernel) (by decide) ?_
    refine pw_aload_n dX2_valueOf_77 rfl 0 rfl ?_
    refine pw_geti (v := G 38 3) dX2_valueOf_78 fa_X2_58 ly_38 rfl rfl ?_
    refine pw_aload_n dX2_valueOf_81 rfl 0 rfl ?_
    refine pw_geti (v := G 38 5) dX2_valueOf_82 fa_X2_67 ly_38 rfl rfl ?_
    refine pw_isub dX2_valueOf_85 ?_
    refine pw_mabs dX2_valueOf_86 jm_X2_127 (rm_ok1 (by decide)) rm_0 (Nat.le_of_ble_eq_true rfl) ?_
    refine pw_aload_n dX2_valueOf_89 rfl 0 rfl ?_
    refine pw_geti (v := G 38 4) dX2_valueOf_90 fa_X2_64 ly_38 rfl rfl ?_
    refine pw_aload_n dX2_valueOf_93 rfl 0 rfl ?_
    refine pw_geti (v := G 38 5) dX2_valueOf_94 fa_X2_67 ly_38 rfl rfl ?_
    refine pw_isub dX2_valueOf_97 ?_
    refine pw_mabs dX2_valueOf_98 jm_X2_127 (rm_ok1 (by decide)) rm_0 (Nat.le_of_ble_eq_true rfl) ?_
    refine pw_mmin dX2_valueOf_101 jm_X2_53 (rm_ok1 (by decide)) rm_0 (Nat.le_of_ble_eq_true rfl) ?_
    exact pw_ireturn dX2_valueOf_104 rfl rfl ⟨_, rfl, h⟩
  by_cases hs5 : a1 = (211 : Int32)
  · have h := h.2.2.2.2.2.1 hs5
    refine pw_tswIn (tgt := 105) (off := 104) (211 : Int32) dX2_valueOf_1 hs5 (by decide) (by decide) (by decide +kernel) (by decide) ?_
    refine pw_aload_n dX2_valueOf_105 rfl 0 rfl ?_
    refine pw_geti (v := G 38 6) dX2_valueOf_106 fa_X2_73 ly_38 rfl rfl ?_
    exact pw_ireturn dX2_valueOf_109 rfl rfl ⟨_, rfl, h⟩
  by_cases hs6 : a1 = (212 : Int32)
  · have h := h.2.2.2.2.2.2.1 hs6
    refine pw_tswIn (tgt := 110) (off := 109) (212 : Int32) dX2_valueOf_1 hs6 (by decide) (by decide) (by decide +kernel) (by decide) ?_
    refine pw_aload_n dX2_valueOf_110 rfl 0 rfl ?_
    refine pw_geti (v := G 38 7) dX2_valueOf_111 fa_X2_81 ly_38 rfl rfl ?_
    exact pw_ireturn dX2_valueOf_114 rfl rfl ⟨_, rfl, h⟩
  by_cases hs7 : a1 = (213 : Int32)
  · have h := h.2.2.2.2.2.2.2.1 hs7
    refine pw_tswIn (tgt := 115) (off := 114) (213 : Int32) dX2_valueOf_1 hs7 (by decide) (by decide) (by decide +kernel) (by decide) ?_
    refine pw_aload_n dX2_valueOf_115 rfl 0 rfl ?_
    refine pw_getr (q := 1) dX2_valueOf_116 fa_X2_9 ly_38 rfl ?_
    refine pw_geti (v := G 1 6) dX2_valueOf_119 fa_X2_130 ly_1 rfl rfl ?_
    exact pw_ireturn dX2_valueOf_122 rfl rfl ⟨_, rfl, h⟩
  by_cases hs8 : a1 = (214 : Int32)
  · have h := h.2.2.2.2.2.2.2.2.1 hs8
    refine pw_tswIn (tgt := 123) (off := 122) (214 : Int32) dX2_valueOf_1 hs8 (by decide) (by decide) (by decide +kernel) (by decide) ?_
    refine pw_aload_n dX2_valueOf_123 rfl 0 rfl ?_
    refine pw_geti (v := G 38 8) dX2_valueOf_124 fa_X2_84 ly_38 rfl rfl ?_
    exact pw_ireturn dX2_valueOf_127 rfl rfl ⟨_, rfl, h⟩
  have h := h.2.2.2.2.2.2.2.2.2 hs0 hs1 hs2 hs3 hs4 hs5 hs6 hs7 hs8
  refine pw_tswOut (tgt := 128) dX2_valueOf_1 (by have := lv_neT hs0 (show (206 : Int32).toInt = 206 from by decide); have := lv_neT hs1 (show (207 : Int32).toInt = 207 from by decide); have := lv_neT hs2 (show (208 : Int32).toInt = 208 from by decide); have := lv_neT hs3 (show (209 : Int32).toInt = 209 from by decide); have := lv_neT hs4 (show (210 : Int32).toInt = 210 from by decide); have := lv_neT hs5 (show (211 : Int32).toInt = 211 from by decide); have := lv_neT hs6 (show (212 : Int32).toInt = 212 from by decide); have := lv_neT hs7 (show (213 : Int32).toInt = 213 from by decide); have := lv_neT hs8 (show (214 : Int32).toInt = 214 from by decide);  omega) (by decide) ?_
  refine pw_iconst (v := (0 : Int32)) dX2_valueOf_128 (by decide) ?_
  exact pw_ireturn dX2_valueOf_129 rfl rfl ⟨_, rfl, h⟩
def lp_X2_isSo_15 (Q : Int32 → GS → Prop)  : Nat → Int32 → Int32 → GS → Prop
  | 0, _, _, _ => False
  | n + 1, x3, x4, G => ((x3 ≤ x4 → wp_X2_pop G (fun r1 G2 => ((¬ r1 = (1 : Int32) → Q (0 : Int32) G2) ∧ (r1 = (1 : Int32) → Q (1 : Int32) G2)))) ∧ (¬ x3 ≤ x4 → (vp_in x4 400 ∧ (((G 11 x4.toNatClampNeg) < 0 → (((-206 : Int32) < (G 11 x4.toNatClampNeg) → ((¬ (G 11 x4.toNatClampNeg) = (-205 : Int32) → wp_X2_pop G (fun r4 G5 => wp_X2_pop G5 (fun r6 G7 => wp_X2_joined (-(G 11 x4.toNatClampNeg)) r6 r4 G7 (fun r8 G9 => wp_X2_push r8 G9 (fun _ G11 => lp_X2_isSo_15 Q n x3 (x4 + 1) G11))))) ∧ ((G 11 x4.toNatClampNeg) = (-205 : Int32) → wp_X2_pop G (fun r12 G13 => wp_X2_push ((1 : Int32) - r12) G13 (fun _ G15 => lp_X2_isSo_15 Q n x3 (x4 + 1) G15))))) ∧ (¬ (-206 : Int32) < (G 11 x4.toNatClampNeg) → wp_X2_valueOf (-(G 11 x4.toNatClampNeg)) G (fun r16 G17 => wp_X2_push r16 G17 (fun _ G19 => lp_X2_isSo_15 Q n x3 (x4 + 1) G19))))) ∧ (¬ (G 11 x4.toNatClampNeg) < 0 → wp_X2_push (G 11 x4.toNatClampNeg) G (fun _ G21 => lp_X2_isSo_15 Q n x3 (x4 + 1) G21))))))
set_option maxRecDepth 100000 in
set_option maxHeartbeats 4000000 in
theorem t_X2_isSo_15 {E : EV} (hE : EI_ E) (Q : Int32 → GS → Prop)  : ∀ (n : Nat) (x3 : Int32) (x4 : Int32) (G : GS), lp_X2_isSo_15 Q n x3 x4 G → PW_ E mi_X2_isSo (rm_ 2) 0 0 15 [(0, .ref (ev_ad E 38)), (1, .ref (ev_ad E 9)), (3, .int x3), (4, .int x4)] [] G (qi_ Q) := by
  intro n
  induction n with
  | zero => intro x3 x4 G h; exact h.elim
  | succ n ih =>
    intro x3 x4 G h
    refine pw_iload dX2_isSo_15 3 rfl ?_
    refine pw_iload_n dX2_isSo_17 rfl 2 rfl ?_
    refine pw_icmp_ge (tgt := 115) dX2_isSo_18 (by decide) (fun hc => ?_) (fun hc => ?_)
    · have h := h.1 hc
      refine pw_aload_n dX2_isSo_115 rfl 0 rfl ?_
      refine pw_callV (As := []) (rest := []) (s_X2_pop hE h) dX2_isSo_116 ly_38 rfl (Or.inl ml_X2_119) cm_X2_pop rfl (rm_ok (by decide)) rm_0 (Nat.le_of_ble_eq_true rfl) ?_
      rintro _ G2 ⟨r1, rfl, h⟩
      refine pw_iconst (v := (1 : Int32)) dX2_isSo_119 (by decide) ?_
      refine pw_icmp_ne (tgt := 127) dX2_isSo_120 (by decide) (fun hc => ?_) (fun hc => ?_)
      · have h := h.1 hc
        refine pw_iconst (v := (0 : Int32)) dX2_isSo_127 (by decide) ?_
        exact pw_ireturn dX2_isSo_128 rfl rfl ⟨_, rfl, h⟩
      · have h := h.2 hc
        refine pw_iconst (v := (1 : Int32)) dX2_isSo_123 (by decide) ?_
        refine pw_goto (tgt := 128) dX2_isSo_124 (by decide) ?_
        exact pw_ireturn dX2_isSo_128 rfl rfl ⟨_, rfl, h⟩
    · have h := h.2 hc
      refine pw_aload_n dX2_isSo_21 rfl 1 rfl ?_
      refine pw_getr (q := 11) dX2_isSo_22 fa_X2_109 ly_9 rfl ?_
      refine pw_iload dX2_isSo_25 3 rfl ?_
      obtain ⟨hv3, h⟩ := h
      refine pw_iald (v := G 11 x4.toNatClampNeg) dX2_isSo_27 ly_11 hv3 rfl ?_
      refine pw_istore (lv' := [(5, .int (G 11 x4.toNatClampNeg)), (0, .ref (ev_ad E 38)), (1, .ref (ev_ad E 9)), (3, .int x3), (4, .int x4)]) dX2_isSo_28 (by decide) rfl ?_
      refine pw_iload dX2_isSo_30 0 rfl ?_
      refine pw_if_lt (tgt := 44) dX2_isSo_32 (by decide) (fun hc => ?_) (fun hc => ?_)
      · have h := h.1 hc
        refine pw_iload dX2_isSo_44 0 rfl ?_
        refine pw_sipush (v := (-206 : Int32)) dX2_isSo_46 (by decide) ?_
        refine pw_icmp_gt (tgt := 66) dX2_isSo_49 (by decide) (fun hc => ?_) (fun hc => ?_)
        · have h := h.1 hc
          refine pw_iload dX2_isSo_66 0 rfl ?_
          refine pw_sipush (v := (-205 : Int32)) dX2_isSo_68 (by decide) ?_
          refine pw_icmp_ne (tgt := 87) dX2_isSo_71 (by decide) (fun hc => ?_) (fun hc => ?_)
          · have h := h.1 hc
            refine pw_aload_n dX2_isSo_87 rfl 1 rfl ?_
            refine pw_callV (As := []) (rest := []) (s_X2_pop hE h) dX2_isSo_88 ly_38 rfl (Or.inl ml_X2_119) cm_X2_pop rfl (rm_ok (by decide)) rm_0 (Nat.le_of_ble_eq_true rfl) ?_
            rintro _ G5 ⟨r4, rfl, h⟩
            refine pw_istore (lv' := [(6, .int r4), (5, .int (G 11 x4.toNatClampNeg)), (0, .ref (ev_ad E 38)), (1, .ref (ev_ad E 9)), (3, .int x3), (4, .int x4)]) dX2_isSo_91 (by decide) rfl ?_
            refine pw_aload_n dX2_isSo_93 rfl 2 rfl ?_
            refine pw_iload dX2_isSo_94 1 rfl ?_
            refine pw_ineg dX2_isSo_96 ?_
            refine pw_aload_n dX2_isSo_97 rfl 2 rfl ?_
            refine pw_callV (As := []) (rest := [.int (-(G 11 x4.toNatClampNeg)), .ref (ev_ad E 38)]) (s_X2_pop hE h) dX2_isSo_98 ly_38 rfl (Or.inl ml_X2_119) cm_X2_pop rfl (rm_ok (by decide)) rm_0 (Nat.le_of_ble_eq_true rfl) ?_
            rintro _ G7 ⟨r6, rfl, h⟩
            refine pw_iload dX2_isSo_101 0 rfl ?_
            refine pw_callS (As := [.int (-(G 11 x4.toNatClampNeg)), .int r6, .int r4]) (rest := [.ref (ev_ad E 38)]) (s_X2_joined hE h) dX2_isSo_103 ml_X2_123 cs_X2_joined rfl (rm_ok (by decide)) rm_0 (Nat.le_of_ble_eq_true rfl) ?_
            rintro _ G9 ⟨r8, rfl, h⟩
            refine pw_callV (As := [.int r8]) (rest := []) (s_X2_push hE h) dX2_isSo_106 ly_38 rfl (Or.inl ml_X2_112) cm_X2_push rfl (rm_ok (by decide)) rm_0 (Nat.le_of_ble_eq_true rfl) ?_
            rintro _ G11 ⟨rfl, h⟩
            refine pw_iinc (k := 5) (v := x4 + 1) (lv' := [(4, .int (x4 + 1)), (6, .int r4), (5, .int (G 11 x4.toNatClampNeg)), (0, .ref (ev_ad E 38)), (1, .ref (ev_ad E 9)), (3, .int x3)]) dX2_isSo_109 rfl rfl (by decide) rfl ?_
            refine pw_goto (tgt := 15) dX2_isSo_112 (by decide) ?_
            refine pw_loc (lv' := [(0, .ref (ev_ad E 38)), (1, .ref (ev_ad E 9)), (3, .int x3), (4, .int (x4 + 1))]) [3, 4, 5, 0] rfl ?_
            exact ih _ _ _ h
          · have h := h.2 hc
            refine pw_aload_n dX2_isSo_74 rfl 1 rfl ?_
            refine pw_iconst (v := (1 : Int32)) dX2_isSo_75 (by decide) ?_
            refine pw_aload_n dX2_isSo_76 rfl 1 rfl ?_
            refine pw_callV (As := []) (rest := [.int (1 : Int32), .ref (ev_ad E 38)]) (s_X2_pop hE h) dX2_isSo_77 ly_38 rfl (Or.inl ml_X2_119) cm_X2_pop rfl (rm_ok (by decide)) rm_0 (Nat.le_of_ble_eq_true rfl) ?_
            rintro _ G13 ⟨r12, rfl, h⟩
            refine pw_isub dX2_isSo_80 ?_
            refine pw_callV (As := [.int ((1 : Int32) - r12)]) (rest := []) (s_X2_push hE h) dX2_isSo_81 ly_38 rfl (Or.inl ml_X2_112) cm_X2_push rfl (rm_ok (by decide)) rm_0 (Nat.le_of_ble_eq_true rfl) ?_
            rintro _ G15 ⟨rfl, h⟩
            refine pw_goto (tgt := 109) dX2_isSo_84 (by decide) ?_
            refine pw_iinc (k := 4) (v := x4 + 1) (lv' := [(4, .int (x4 + 1)), (5, .int (G 11 x4.toNatClampNeg)), (0, .ref (ev_ad E 38)), (1, .ref (ev_ad E 9)), (3, .int x3)]) dX2_isSo_109 rfl rfl (by decide) rfl ?_
            refine pw_goto (tgt := 15) dX2_isSo_112 (by decide) ?_
            refine pw_loc (lv' := [(0, .ref (ev_ad E 38)), (1, .ref (ev_ad E 9)), (3, .int x3), (4, .int (x4 + 1))]) [2, 3, 4, 0] rfl ?_
            exact ih _ _ _ h
        · have h := h.2 hc
          refine pw_aload_n dX2_isSo_52 rfl 1 rfl ?_
          refine pw_aload_n dX2_isSo_53 rfl 1 rfl ?_
          refine pw_iload dX2_isSo_54 0 rfl ?_
          refine pw_ineg dX2_isSo_56 ?_
          refine pw_callV (As := [.int (-(G 11 x4.toNatClampNeg))]) (rest := [.ref (ev_ad E 38)]) (s_X2_valueOf hE h) dX2_isSo_57 ly_38 rfl (Or.inl ml_X2_116) cm_X2_valueOf rfl (rm_ok (by decide)) rm_0 (Nat.le_of_ble_eq_true rfl) ?_
          rintro _ G17 ⟨r16, rfl, h⟩
          refine pw_callV (As := [.int r16]) (rest := []) (s_X2_push hE h) dX2_isSo_60 ly_38 rfl (Or.inl ml_X2_112) cm_X2_push rfl (rm_ok (by decide)) rm_0 (Nat.le_of_ble_eq_true rfl) ?_
          rintro _ G19 ⟨rfl, h⟩
          refine pw_goto (tgt := 109) dX2_isSo_63 (by decide) ?_
          refine pw_iinc (k := 4) (v := x4 + 1) (lv' := [(4, .int (x4 + 1)), (5, .int (G 11 x4.toNatClampNeg)), (0, .ref (ev_ad E 38)), (1, .ref (ev_ad E 9)), (3, .int x3)]) dX2_isSo_109 rfl rfl (by decide) rfl ?_
          refine pw_goto (tgt := 15) dX2_isSo_112 (by decide) ?_
          refine pw_loc (lv' := [(0, .ref (ev_ad E 38)), (1, .ref (ev_ad E 9)), (3, .int x3), (4, .int (x4 + 1))]) [2, 3, 4, 0] rfl ?_
          exact ih _ _ _ h
      · have h := h.2 hc
        refine pw_aload_n dX2_isSo_35 rfl 1 rfl ?_
        refine pw_iload dX2_isSo_36 0 rfl ?_
        refine pw_callV (As := [.int (G 11 x4.toNatClampNeg)]) (rest := []) (s_X2_push hE h) dX2_isSo_38 ly_38 rfl (Or.inl ml_X2_112) cm_X2_push rfl (rm_ok (by decide)) rm_0 (Nat.le_of_ble_eq_true rfl) ?_
        rintro _ G21 ⟨rfl, h⟩
        refine pw_goto (tgt := 109) dX2_isSo_41 (by decide) ?_
        refine pw_iinc (k := 4) (v := x4 + 1) (lv' := [(4, .int (x4 + 1)), (5, .int (G 11 x4.toNatClampNeg)), (0, .ref (ev_ad E 38)), (1, .ref (ev_ad E 9)), (3, .int x3)]) dX2_isSo_109 rfl rfl (by decide) rfl ?_
        refine pw_goto (tgt := 15) dX2_isSo_112 (by decide) ?_
        refine pw_loc (lv' := [(0, .ref (ev_ad E 38)), (1, .ref (ev_ad E 9)), (3, .int x3), (4, .int (x4 + 1))]) [2, 3, 4, 0] rfl ?_
        exact ih _ _ _ h
def wp_X2_isSo (a2 : Int32) (a3 : Int32) (G : GS) (Q : Int32 → GS → Prop) : Prop := ((a2 < a3 → (∃ kf, lp_X2_isSo_15 Q kf a3 a2 (gu_ G 38 2 (0 : Int32)))) ∧ (¬ a2 < a3 → Q (1 : Int32) G))
set_option maxRecDepth 100000 in
set_option maxHeartbeats 4000000 in
theorem s_X2_isSo {E : EV} (hE : EI_ E) {a2 : Int32} {a3 : Int32} {G : GS} {Q : Int32 → GS → Prop} (h : wp_X2_isSo a2 a3 G Q) : PMet E mi_X2_isSo 2 [.ref (ev_ad E 38), .ref (ev_ad E 9), .int a2, .int a3] G (qi_ Q) := by
  refine pm_of hE (by decide) (Nat.le_of_ble_eq_true rfl) ?_
  refine pw_loc (lv' := [(0, .ref (ev_ad E 38)), (1, .ref (ev_ad E 9)), (2, .int a2), (3, .int a3)]) [0, 1, 2, 3] rfl ?_
  refine pw_iload_n dX2_isSo_0 rfl 2 rfl ?_
  refine pw_iload_n dX2_isSo_1 rfl 3 rfl ?_
  refine pw_icmp_lt (tgt := 7) dX2_isSo_2 (by decide) (fun hc => ?_) (fun hc => ?_)
  · have h := h.1 hc
    refine pw_aload_n dX2_isSo_7 rfl 0 rfl ?_
    refine pw_iconst (v := (0 : Int32)) dX2_isSo_8 (by decide) ?_
    refine pw_puti dX2_isSo_9 fp_X2_106 ly_38 rfl ?_
    refine pw_iload_n dX2_isSo_12 rfl 2 rfl ?_
    refine pw_istore (lv' := [(4, .int a2), (0, .ref (ev_ad E 38)), (1, .ref (ev_ad E 9)), (2, .int a2), (3, .int a3)]) dX2_isSo_13 (by decide) rfl ?_
    refine pw_loc (lv' := [(0, .ref (ev_ad E 38)), (1, .ref (ev_ad E 9)), (3, .int a3), (4, .int a2)]) [1, 2, 4, 0] rfl ?_
    obtain ⟨kf, h⟩ := h
    exact t_X2_isSo_15 hE Q kf _ _ _ h
  · have h := h.2 hc
    refine pw_iconst (v := (1 : Int32)) dX2_isSo_5 (by decide) ?_
    exact pw_ireturn dX2_isSo_6 rfl rfl ⟨_, rfl, h⟩
def lp_X2_hearsTones_115 (Q : Int32 → GS → Prop)  : Nat → Int32 → Int32 → GS → Prop
  | 0, _, _, _ => False
  | n + 1, x8, x9, G => (((G 9 0) ≤ x9 → Q (1 : Int32) G) ∧ (¬ (G 9 0) ≤ x9 → (vp_in x9 16 ∧ wp_X2_isSo x8 (G 10 x9.toNatClampNeg) G (fun r9 G10 => ((r9 = 0 → lp_X2_hearsTones_115 Q n (G10 10 x9.toNatClampNeg) (x9 + 1) G10) ∧ (¬ r9 = 0 → ((¬ (((G10 9 1) >>> (x9 &&& 31)) &&& (1 : Int32)) = (1 : Int32) → Q (0 : Int32) G10) ∧ ((((G10 9 1) >>> (x9 &&& 31)) &&& (1 : Int32)) = (1 : Int32) → Q (1 : Int32) G10))))))))
set_option maxRecDepth 100000 in
set_option maxHeartbeats 4000000 in
theorem t_X2_hearsTones_115 {E : EV} (hE : EI_ E) (Q : Int32 → GS → Prop)  : ∀ (n : Nat) (x8 : Int32) (x9 : Int32) (G : GS), lp_X2_hearsTones_115 Q n x8 x9 G → PW_ E mi_X2_hearsTones (rm_ 3) 0 0 115 [(0, .ref (ev_ad E 38)), (7, .ref (ev_ad E 9)), (8, .int x8), (9, .int x9)] [] G (qi_ Q) := by
  intro n
  induction n with
  | zero => intro x8 x9 G h; exact h.elim
  | succ n ih =>
    intro x8 x9 G h
    refine pw_iload dX2_hearsTones_115 3 rfl ?_
    refine pw_aload dX2_hearsTones_117 1 rfl ?_
    refine pw_geti (v := G 9 0) dX2_hearsTones_119 fa_X2_91 ly_9 rfl rfl ?_
    refine pw_icmp_ge (tgt := 180) dX2_hearsTones_122 (by decide) (fun hc => ?_) (fun hc => ?_)
    · have h := h.1 hc
      refine pw_iconst (v := (1 : Int32)) dX2_hearsTones_180 (by decide) ?_
      exact pw_ireturn dX2_hearsTones_181 rfl rfl ⟨_, rfl, h⟩
    · have h := h.2 hc
      refine pw_aload_n dX2_hearsTones_125 rfl 0 rfl ?_
      refine pw_aload dX2_hearsTones_126 1 rfl ?_
      refine pw_iload dX2_hearsTones_128 2 rfl ?_
      refine pw_aload dX2_hearsTones_130 1 rfl ?_
      refine pw_getr (q := 10) dX2_hearsTones_132 fa_X2_96 ly_9 rfl ?_
      refine pw_iload dX2_hearsTones_135 3 rfl ?_
      obtain ⟨hv8, h⟩ := h
      refine pw_iald (v := G 10 x9.toNatClampNeg) dX2_hearsTones_137 ly_10 hv8 rfl ?_
      refine pw_callV (As := [.ref (ev_ad E 9), .int x8, .int (G 10 x9.toNatClampNeg)]) (rest := []) (s_X2_isSo hE h) dX2_hearsTones_138 ly_38 rfl (Or.inl ml_X2_99) cm_X2_isSo rfl (rm_ok (by decide)) rm_0 (Nat.le_of_ble_eq_true rfl) ?_
      rintro _ G10 ⟨r9, rfl, h⟩
      refine pw_if_eq (tgt := 164) dX2_hearsTones_141 (by decide) (fun hc => ?_) (fun hc => ?_)
      · have h := h.1 hc
        refine pw_aload dX2_hearsTones_164 1 rfl ?_
        refine pw_getr (q := 10) dX2_hearsTones_166 fa_X2_96 ly_9 rfl ?_
        refine pw_iload dX2_hearsTones_169 3 rfl ?_
        refine pw_iald (v := G10 10 x9.toNatClampNeg) dX2_hearsTones_171 ly_10 hv8 rfl ?_
        refine pw_istore (lv' := [(8, .int (G10 10 x9.toNatClampNeg)), (0, .ref (ev_ad E 38)), (7, .ref (ev_ad E 9)), (9, .int x9)]) dX2_hearsTones_172 (by decide) rfl ?_
        refine pw_iinc (k := 3) (v := x9 + 1) (lv' := [(9, .int (x9 + 1)), (8, .int (G10 10 x9.toNatClampNeg)), (0, .ref (ev_ad E 38)), (7, .ref (ev_ad E 9))]) dX2_hearsTones_174 rfl rfl (by decide) rfl ?_
        refine pw_goto (tgt := 115) dX2_hearsTones_177 (by decide) ?_
        refine pw_loc (lv' := [(0, .ref (ev_ad E 38)), (7, .ref (ev_ad E 9)), (8, .int (G10 10 x9.toNatClampNeg)), (9, .int (x9 + 1))]) [2, 3, 1, 0] rfl ?_
        exact ih _ _ _ h
      · have h := h.2 hc
        refine pw_aload dX2_hearsTones_144 1 rfl ?_
        refine pw_geti (v := G10 9 1) dX2_hearsTones_146 fa_X2_103 ly_9 rfl rfl ?_
        refine pw_iload dX2_hearsTones_149 3 rfl ?_
        refine pw_ishr dX2_hearsTones_151 ?_
        refine pw_iconst (v := (1 : Int32)) dX2_hearsTones_152 (by decide) ?_
        refine pw_iand dX2_hearsTones_153 ?_
        refine pw_iconst (v := (1 : Int32)) dX2_hearsTones_154 (by decide) ?_
        refine pw_icmp_ne (tgt := 162) dX2_hearsTones_155 (by decide) (fun hc => ?_) (fun hc => ?_)
        · have h := h.1 hc
          refine pw_iconst (v := (0 : Int32)) dX2_hearsTones_162 (by decide) ?_
          exact pw_ireturn dX2_hearsTones_163 rfl rfl ⟨_, rfl, h⟩
        · have h := h.2 hc
          refine pw_iconst (v := (1 : Int32)) dX2_hearsTones_158 (by decide) ?_
          refine pw_goto (tgt := 163) dX2_hearsTones_159 (by decide) ?_
          exact pw_ireturn dX2_hearsTones_163 rfl rfl ⟨_, rfl, h⟩
def wp_X2_hearsTones (a1 : Int32) (a2 : Int32) (a3 : Int32) (a4 : Int32) (a5 : Int32) (a6 : Int32) (G : GS) (Q : Int32 → GS → Prop) : Prop := wp_X8_hasHum a1 G (fun r1 G2 => ((¬ r1 = 0 → (vp_in a1 10 ∧ (vp_in a3 10 ∧ (vp_in a4 10 ∧ wp_J6_bitCount (a2 &&& (((((1 : Int32) <<< (a1 &&& 31)) ||| ((1 : Int32) <<< (a3 &&& 31))) ||| ((1 : Int32) <<< (a4 &&& 31))) ^^^ (-1 : Int32))) (gu_ (gu_ (gu_ (gu_ G2 38 3 (if a6 < a5 then a6 else a5)) 38 4 (if a5 < a6 then a6 else a5)) 38 5 (G2 2 a1.toNatClampNeg)) 38 6 ((G2 3 a3.toNatClampNeg) + (G2 3 a4.toNatClampNeg))) (fun r6 G7 => (∃ kf, lp_X2_hearsTones_115 Q kf (0 : Int32) (0 : Int32) (gu_ (gu_ G7 38 7 r6) 38 8 a1))))))) ∧ (r1 = 0 → Q (0 : Int32) G2)))
set_option maxRecDepth 100000 in
set_option maxHeartbeats 4000000 in
theorem s_X2_hearsTones {E : EV} (hE : EI_ E) {a1 : Int32} {a2 : Int32} {a3 : Int32} {a4 : Int32} {a5 : Int32} {a6 : Int32} {G : GS} {Q : Int32 → GS → Prop} (h : wp_X2_hearsTones a1 a2 a3 a4 a5 a6 G Q) : PMet E mi_X2_hearsTones 3 [.ref (ev_ad E 38), .int a1, .int a2, .int a3, .int a4, .int a5, .int a6] G (qi_ Q) := by
  refine pm_of hE (by decide) (Nat.le_of_ble_eq_true rfl) ?_
  refine pw_loc (lv' := [(0, .ref (ev_ad E 38)), (1, .int a1), (2, .int a2), (3, .int a3), (4, .int a4), (5, .int a5), (6, .int a6)]) [0, 1, 2, 3, 4, 5, 6] rfl ?_
  refine pw_aload_n dX2_hearsTones_0 rfl 0 rfl ?_
  refine pw_getr (q := 1) dX2_hearsTones_1 fa_X2_9 ly_38 rfl ?_
  refine pw_iload_n dX2_hearsTones_4 rfl 1 rfl ?_
  refine pw_callV (As := [.int a1]) (rest := []) (s_X8_hasHum hE h) dX2_hearsTones_5 ly_1 rfl (Or.inr mn_X2_49) cm_X8_hasHum rfl (rm_ok (by decide)) rm_0 (Nat.le_of_ble_eq_true rfl) ?_
  rintro _ G2 ⟨r1, rfl, h⟩
  refine pw_if_ne (tgt := 13) dX2_hearsTones_8 (by decide) (fun hc => ?_) (fun hc => ?_)
  · have h := h.1 hc
    refine pw_aload_n dX2_hearsTones_13 rfl 0 rfl ?_
    refine pw_iload dX2_hearsTones_14 5 rfl ?_
    refine pw_iload dX2_hearsTones_16 6 rfl ?_
    refine pw_mmin dX2_hearsTones_18 jm_X2_53 (rm_ok1 (by decide)) rm_0 (Nat.le_of_ble_eq_true rfl) ?_
    refine pw_puti dX2_hearsTones_21 fp_X2_58 ly_38 rfl ?_
    refine pw_aload_n dX2_hearsTones_24 rfl 0 rfl ?_
    refine pw_iload dX2_hearsTones_25 5 rfl ?_
    refine pw_iload dX2_hearsTones_27 6 rfl ?_
    refine pw_mmax dX2_hearsTones_29 jm_X2_61 (rm_ok1 (by decide)) rm_0 (Nat.le_of_ble_eq_true rfl) ?_
    refine pw_puti dX2_hearsTones_32 fp_X2_64 ly_38 rfl ?_
    refine pw_aload_n dX2_hearsTones_35 rfl 0 rfl ?_
    refine pw_aload_n dX2_hearsTones_36 rfl 0 rfl ?_
    refine pw_getr (q := 1) dX2_hearsTones_37 fa_X2_9 ly_38 rfl ?_
    refine pw_getr (q := 2) dX2_hearsTones_40 fa_X2_42 ly_1 rfl ?_
    refine pw_iload_n dX2_hearsTones_43 rfl 1 rfl ?_
    obtain ⟨hv3, h⟩ := h
    refine pw_iald (v := G2 2 a1.toNatClampNeg) dX2_hearsTones_44 ly_2 hv3 rfl ?_
    refine pw_puti dX2_hearsTones_45 fp_X2_67 ly_38 rfl ?_
    refine pw_aload_n dX2_hearsTones_48 rfl 0 rfl ?_
    refine pw_aload_n dX2_hearsTones_49 rfl 0 rfl ?_
    refine pw_getr (q := 1) dX2_hearsTones_50 fa_X2_9 ly_38 rfl ?_
    refine pw_getr (q := 3) dX2_hearsTones_53 fa_X2_70 ly_1 rfl ?_
    refine pw_iload_n dX2_hearsTones_56 rfl 3 rfl ?_
    obtain ⟨hv4, h⟩ := h
    refine pw_iald (v := G2 3 a3.toNatClampNeg) dX2_hearsTones_57 ly_3 hv4 rfl ?_
    refine pw_aload_n dX2_hearsTones_58 rfl 0 rfl ?_
    refine pw_getr (q := 1) dX2_hearsTones_59 fa_X2_9 ly_38 rfl ?_
    refine pw_getr (q := 3) dX2_hearsTones_62 fa_X2_70 ly_1 rfl ?_
    refine pw_iload dX2_hearsTones_65 4 rfl ?_
    obtain ⟨hv5, h⟩ := h
    refine pw_iald (v := G2 3 a4.toNatClampNeg) dX2_hearsTones_67 ly_3 hv5 rfl ?_
    refine pw_iadd dX2_hearsTones_68 ?_
    refine pw_puti dX2_hearsTones_69 fp_X2_73 ly_38 rfl ?_
    refine pw_aload_n dX2_hearsTones_72 rfl 0 rfl ?_
    refine pw_iload_n dX2_hearsTones_73 rfl 2 rfl ?_
    refine pw_iconst (v := (1 : Int32)) dX2_hearsTones_74 (by decide) ?_
    refine pw_iload_n dX2_hearsTones_75 rfl 1 rfl ?_
    refine pw_ishl dX2_hearsTones_76 ?_
    refine pw_iconst (v := (1 : Int32)) dX2_hearsTones_77 (by decide) ?_
    refine pw_iload_n dX2_hearsTones_78 rfl 3 rfl ?_
    refine pw_ishl dX2_hearsTones_79 ?_
    refine pw_ior dX2_hearsTones_80 ?_
    refine pw_iconst (v := (1 : Int32)) dX2_hearsTones_81 (by decide) ?_
    refine pw_iload dX2_hearsTones_82 4 rfl ?_
    refine pw_ishl dX2_hearsTones_84 ?_
    refine pw_ior dX2_hearsTones_85 ?_
    refine pw_iconst (v := (-1 : Int32)) dX2_hearsTones_86 (by decide) ?_
    refine pw_ixor dX2_hearsTones_87 ?_
    refine pw_iand dX2_hearsTones_88 ?_
    refine pw_callS (As := [.int (a2 &&& (((((1 : Int32) <<< (a1 &&& 31)) ||| ((1 : Int32) <<< (a3 &&& 31))) ||| ((1 : Int32) <<< (a4 &&& 31))) ^^^ (-1 : Int32)))]) (rest := [.ref (ev_ad E 38)]) (s_J6_bitCount hE h) dX2_hearsTones_89 ml_X2_76 cs_J6_bitCount_0f7a4 rfl (rm_ok (by decide)) rm_0 (Nat.le_of_ble_eq_true rfl) ?_
    rintro _ G7 ⟨r6, rfl, h⟩
    refine pw_puti dX2_hearsTones_92 fp_X2_81 ly_38 rfl ?_
    refine pw_aload_n dX2_hearsTones_95 rfl 0 rfl ?_
    refine pw_iload_n dX2_hearsTones_96 rfl 1 rfl ?_
    refine pw_puti dX2_hearsTones_97 fp_X2_84 ly_38 rfl ?_
    refine pw_aload_n dX2_hearsTones_100 rfl 0 rfl ?_
    refine pw_getr (q := 1) dX2_hearsTones_101 fa_X2_9 ly_38 rfl ?_
    refine pw_getr (q := 9) dX2_hearsTones_104 fa_X2_87 ly_1 rfl ?_
    refine pw_astore (lv' := [(7, .ref (ev_ad E 9)), (0, .ref (ev_ad E 38)), (1, .int a1), (2, .int a2), (3, .int a3), (4, .int a4), (5, .int a5), (6, .int a6)]) dX2_hearsTones_107 (by decide) rfl ?_
    refine pw_iconst (v := (0 : Int32)) dX2_hearsTones_109 (by decide) ?_
    refine pw_istore (lv' := [(8, .int (0 : Int32)), (7, .ref (ev_ad E 9)), (0, .ref (ev_ad E 38)), (1, .int a1), (2, .int a2), (3, .int a3), (4, .int a4), (5, .int a5), (6, .int a6)]) dX2_hearsTones_110 (by decide) rfl ?_
    refine pw_iconst (v := (0 : Int32)) dX2_hearsTones_112 (by decide) ?_
    refine pw_istore (lv' := [(9, .int (0 : Int32)), (8, .int (0 : Int32)), (7, .ref (ev_ad E 9)), (0, .ref (ev_ad E 38)), (1, .int a1), (2, .int a2), (3, .int a3), (4, .int a4), (5, .int a5), (6, .int a6)]) dX2_hearsTones_113 (by decide) rfl ?_
    refine pw_loc (lv' := [(0, .ref (ev_ad E 38)), (7, .ref (ev_ad E 9)), (8, .int (0 : Int32)), (9, .int (0 : Int32))]) [3, 2, 1, 0] rfl ?_
    obtain ⟨kf, h⟩ := h
    exact t_X2_hearsTones_115 hE Q kf _ _ _ h
  · have h := h.2 hc
    refine pw_iconst (v := (0 : Int32)) dX2_hearsTones_11 (by decide) ?_
    exact pw_ireturn dX2_hearsTones_12 rfl rfl ⟨_, rfl, h⟩
def wp_X2_hearsNow (a1 : Int32) (a2 : Int32) (a3 : Int32) (a4 : Int32) (G : GS) (Q : Int32 → GS → Prop) : Prop := (vp_in a3 10 ∧ (vp_in a4 10 ∧ wp_X2_hearsTones a1 a2 a3 a4 (G 2 a3.toNatClampNeg) (G 2 a4.toNatClampNeg) G (fun r3 G4 => (bz_ r3 ∧ Q r3 G4))))
set_option maxRecDepth 100000 in
set_option maxHeartbeats 4000000 in
theorem s_X2_hearsNow {E : EV} (hE : EI_ E) {a1 : Int32} {a2 : Int32} {a3 : Int32} {a4 : Int32} {G : GS} {Q : Int32 → GS → Prop} (h : wp_X2_hearsNow a1 a2 a3 a4 G Q) : PMet E mi_X2_hearsNow 4 [.ref (ev_ad E 38), .int a1, .int a2, .int a3, .int a4] G (qi_ Q) := by
  refine pm_of hE (by decide) (Nat.le_of_ble_eq_true rfl) ?_
  refine pw_loc (lv' := [(0, .ref (ev_ad E 38)), (1, .int a1), (2, .int a2), (3, .int a3), (4, .int a4)]) [0, 1, 2, 3, 4] rfl ?_
  refine pw_aload_n dX2_hearsNow_0 rfl 0 rfl ?_
  refine pw_iload_n dX2_hearsNow_1 rfl 1 rfl ?_
  refine pw_iload_n dX2_hearsNow_2 rfl 2 rfl ?_
  refine pw_iload_n dX2_hearsNow_3 rfl 3 rfl ?_
  refine pw_iload dX2_hearsNow_4 4 rfl ?_
  refine pw_aload_n dX2_hearsNow_6 rfl 0 rfl ?_
  refine pw_getr (q := 1) dX2_hearsNow_7 fa_X2_9 ly_38 rfl ?_
  refine pw_getr (q := 2) dX2_hearsNow_10 fa_X2_42 ly_1 rfl ?_
  refine pw_iload_n dX2_hearsNow_13 rfl 3 rfl ?_
  obtain ⟨hv1, h⟩ := h
  refine pw_iald (v := G 2 a3.toNatClampNeg) dX2_hearsNow_14 ly_2 hv1 rfl ?_
  refine pw_aload_n dX2_hearsNow_15 rfl 0 rfl ?_
  refine pw_getr (q := 1) dX2_hearsNow_16 fa_X2_9 ly_38 rfl ?_
  refine pw_getr (q := 2) dX2_hearsNow_19 fa_X2_42 ly_1 rfl ?_
  refine pw_iload dX2_hearsNow_22 4 rfl ?_
  obtain ⟨hv2, h⟩ := h
  refine pw_iald (v := G 2 a4.toNatClampNeg) dX2_hearsNow_24 ly_2 hv2 rfl ?_
  refine pw_callV (As := [.int a1, .int a2, .int a3, .int a4, .int (G 2 a3.toNatClampNeg), .int (G 2 a4.toNatClampNeg)]) (rest := []) (s_X2_hearsTones hE h) dX2_hearsNow_25 ly_38 rfl (Or.inl ml_X2_45) cm_X2_hearsTones rfl (rm_ok (by decide)) rm_0 (Nat.le_of_ble_eq_true rfl) ?_
  rintro _ G4 ⟨r3, rfl, h⟩
  exact pw_ireturn dX2_hearsNow_28 rfl (bz_n h.1) ⟨_, rfl, h.2⟩
def lp_X2_hearersOf_5 (Q : Int32 → GS → Prop)  : Nat → Int32 → Int32 → Int32 → Int32 → GS → Prop
  | 0, _, _, _, _, _ => False
  | n + 1, x1, x2, x3, x4, G => (((G 1 1) ≤ x4 → Q x3 G) ∧ (¬ (G 1 1) ≤ x4 → ((x4 = x1 → lp_X2_hearersOf_5 Q n x1 x2 x3 (x4 + 1) G) ∧ (¬ x4 = x1 → ((x4 = x2 → lp_X2_hearersOf_5 Q n x1 x2 x3 (x4 + 1) G) ∧ (¬ x4 = x2 → wp_X2_hearsNow x4 (G 1 4) x1 x2 G (fun r1 G2 => ((r1 = 0 → lp_X2_hearersOf_5 Q n x1 x2 x3 (x4 + 1) G2) ∧ (¬ r1 = 0 → lp_X2_hearersOf_5 Q n x1 x2 (x3 ||| ((1 : Int32) <<< (x4 &&& 31))) (x4 + 1) G2)))))))))
set_option maxRecDepth 100000 in
set_option maxHeartbeats 4000000 in
theorem t_X2_hearersOf_5 {E : EV} (hE : EI_ E) (Q : Int32 → GS → Prop)  : ∀ (n : Nat) (x1 : Int32) (x2 : Int32) (x3 : Int32) (x4 : Int32) (G : GS), lp_X2_hearersOf_5 Q n x1 x2 x3 x4 G → PW_ E mi_X2_hearersOf (rm_ 5) 0 0 5 [(0, .ref (ev_ad E 38)), (1, .int x1), (2, .int x2), (3, .int x3), (4, .int x4)] [] G (qi_ Q) := by
  intro n
  induction n with
  | zero => intro x1 x2 x3 x4 G h; exact h.elim
  | succ n ih =>
    intro x1 x2 x3 x4 G h
    refine pw_iload dX2_hearersOf_5 4 rfl ?_
    refine pw_aload_n dX2_hearersOf_7 rfl 0 rfl ?_
    refine pw_getr (q := 1) dX2_hearersOf_8 fa_X2_9 ly_38 rfl ?_
    refine pw_geti (v := G 1 1) dX2_hearersOf_11 fa_X2_19 ly_1 rfl rfl ?_
    refine pw_icmp_ge (tgt := 60) dX2_hearersOf_14 (by decide) (fun hc => ?_) (fun hc => ?_)
    · have h := h.1 hc
      refine pw_iload_n dX2_hearersOf_60 rfl 3 rfl ?_
      exact pw_ireturn dX2_hearersOf_61 rfl rfl ⟨_, rfl, h⟩
    · have h := h.2 hc
      refine pw_iload dX2_hearersOf_17 4 rfl ?_
      refine pw_iload_n dX2_hearersOf_19 rfl 1 rfl ?_
      refine pw_icmp_eq (tgt := 54) dX2_hearersOf_20 (by decide) (fun hc => ?_) (fun hc => ?_)
      · have h := h.1 hc
        refine pw_iinc (k := 4) (v := x4 + 1) (lv' := [(4, .int (x4 + 1)), (0, .ref (ev_ad E 38)), (1, .int x1), (2, .int x2), (3, .int x3)]) dX2_hearersOf_54 rfl rfl (by decide) rfl ?_
        refine pw_goto (tgt := 5) dX2_hearersOf_57 (by decide) ?_
        refine pw_loc (lv' := [(0, .ref (ev_ad E 38)), (1, .int x1), (2, .int x2), (3, .int x3), (4, .int (x4 + 1))]) [1, 2, 3, 4, 0] rfl ?_
        exact ih _ _ _ _ _ h
      · have h := h.2 hc
        refine pw_iload dX2_hearersOf_23 4 rfl ?_
        refine pw_iload_n dX2_hearersOf_25 rfl 2 rfl ?_
        refine pw_icmp_eq (tgt := 54) dX2_hearersOf_26 (by decide) (fun hc => ?_) (fun hc => ?_)
        · have h := h.1 hc
          refine pw_iinc (k := 4) (v := x4 + 1) (lv' := [(4, .int (x4 + 1)), (0, .ref (ev_ad E 38)), (1, .int x1), (2, .int x2), (3, .int x3)]) dX2_hearersOf_54 rfl rfl (by decide) rfl ?_
          refine pw_goto (tgt := 5) dX2_hearersOf_57 (by decide) ?_
          refine pw_loc (lv' := [(0, .ref (ev_ad E 38)), (1, .int x1), (2, .int x2), (3, .int x3), (4, .int (x4 + 1))]) [1, 2, 3, 4, 0] rfl ?_
          exact ih _ _ _ _ _ h
        · have h := h.2 hc
          refine pw_aload_n dX2_hearersOf_29 rfl 0 rfl ?_
          refine pw_iload dX2_hearersOf_30 4 rfl ?_
          refine pw_aload_n dX2_hearersOf_32 rfl 0 rfl ?_
          refine pw_getr (q := 1) dX2_hearersOf_33 fa_X2_9 ly_38 rfl ?_
          refine pw_geti (v := G 1 4) dX2_hearersOf_36 fa_X2_25 ly_1 rfl rfl ?_
          refine pw_iload_n dX2_hearersOf_39 rfl 1 rfl ?_
          refine pw_iload_n dX2_hearersOf_40 rfl 2 rfl ?_
          refine pw_callV (As := [.int x4, .int (G 1 4), .int x1, .int x2]) (rest := []) (s_X2_hearsNow hE h) dX2_hearersOf_41 ly_38 rfl (Or.inl ml_X2_28) cm_X2_hearsNow rfl (rm_ok (by decide)) rm_0 (Nat.le_of_ble_eq_true rfl) ?_
          rintro _ G2 ⟨r1, rfl, h⟩
          refine pw_if_eq (tgt := 54) dX2_hearersOf_44 (by decide) (fun hc => ?_) (fun hc => ?_)
          · have h := h.1 hc
            refine pw_iinc (k := 4) (v := x4 + 1) (lv' := [(4, .int (x4 + 1)), (0, .ref (ev_ad E 38)), (1, .int x1), (2, .int x2), (3, .int x3)]) dX2_hearersOf_54 rfl rfl (by decide) rfl ?_
            refine pw_goto (tgt := 5) dX2_hearersOf_57 (by decide) ?_
            refine pw_loc (lv' := [(0, .ref (ev_ad E 38)), (1, .int x1), (2, .int x2), (3, .int x3), (4, .int (x4 + 1))]) [1, 2, 3, 4, 0] rfl ?_
            exact ih _ _ _ _ _ h
          · have h := h.2 hc
            refine pw_iload_n dX2_hearersOf_47 rfl 3 rfl ?_
            refine pw_iconst (v := (1 : Int32)) dX2_hearersOf_48 (by decide) ?_
            refine pw_iload dX2_hearersOf_49 4 rfl ?_
            refine pw_ishl dX2_hearersOf_51 ?_
            refine pw_ior dX2_hearersOf_52 ?_
            refine pw_istore_n (lv' := [(3, .int (x3 ||| ((1 : Int32) <<< (x4 &&& 31)))), (0, .ref (ev_ad E 38)), (1, .int x1), (2, .int x2), (4, .int x4)]) dX2_hearersOf_53 rfl (by decide) rfl ?_
            refine pw_iinc (k := 4) (v := x4 + 1) (lv' := [(4, .int (x4 + 1)), (3, .int (x3 ||| ((1 : Int32) <<< (x4 &&& 31)))), (0, .ref (ev_ad E 38)), (1, .int x1), (2, .int x2)]) dX2_hearersOf_54 rfl rfl (by decide) rfl ?_
            refine pw_goto (tgt := 5) dX2_hearersOf_57 (by decide) ?_
            refine pw_loc (lv' := [(0, .ref (ev_ad E 38)), (1, .int x1), (2, .int x2), (3, .int (x3 ||| ((1 : Int32) <<< (x4 &&& 31)))), (4, .int (x4 + 1))]) [2, 3, 4, 1, 0] rfl ?_
            exact ih _ _ _ _ _ h
def wp_X2_hearersOf (a1 : Int32) (a2 : Int32) (G : GS) (Q : Int32 → GS → Prop) : Prop := (∃ kf, lp_X2_hearersOf_5 Q kf a1 a2 (0 : Int32) (0 : Int32) G)
set_option maxRecDepth 100000 in
set_option maxHeartbeats 4000000 in
theorem s_X2_hearersOf {E : EV} (hE : EI_ E) {a1 : Int32} {a2 : Int32} {G : GS} {Q : Int32 → GS → Prop} (h : wp_X2_hearersOf a1 a2 G Q) : PMet E mi_X2_hearersOf 5 [.ref (ev_ad E 38), .int a1, .int a2] G (qi_ Q) := by
  refine pm_of hE (by decide) (Nat.le_of_ble_eq_true rfl) ?_
  refine pw_loc (lv' := [(0, .ref (ev_ad E 38)), (1, .int a1), (2, .int a2)]) [0, 1, 2] rfl ?_
  refine pw_iconst (v := (0 : Int32)) dX2_hearersOf_0 (by decide) ?_
  refine pw_istore_n (lv' := [(3, .int (0 : Int32)), (0, .ref (ev_ad E 38)), (1, .int a1), (2, .int a2)]) dX2_hearersOf_1 rfl (by decide) rfl ?_
  refine pw_iconst (v := (0 : Int32)) dX2_hearersOf_2 (by decide) ?_
  refine pw_istore (lv' := [(4, .int (0 : Int32)), (3, .int (0 : Int32)), (0, .ref (ev_ad E 38)), (1, .int a1), (2, .int a2)]) dX2_hearersOf_3 (by decide) rfl ?_
  refine pw_loc (lv' := [(0, .ref (ev_ad E 38)), (1, .int a1), (2, .int a2), (3, .int (0 : Int32)), (4, .int (0 : Int32))]) [2, 3, 4, 1, 0] rfl ?_
  obtain ⟨kf, h⟩ := h
  exact t_X2_hearersOf_5 hE Q kf _ _ _ _ _ h
def wp_X8_wordOf (a1 : Int32) (a2 : Int32) (G : GS) (Q : Int32 → GS → Prop) : Prop := (vp_in a1 10 ∧ (vp_in a2 10 ∧ Q (if 0 ≤ (G 2 a1.toNatClampNeg) - (G 2 a2.toNatClampNeg) then ((G 2 a1.toNatClampNeg) - (G 2 a2.toNatClampNeg)) else 0 - ((G 2 a1.toNatClampNeg) - (G 2 a2.toNatClampNeg))) G))
set_option maxRecDepth 100000 in
set_option maxHeartbeats 4000000 in
theorem s_X8_wordOf {E : EV} (hE : EI_ E) {a1 : Int32} {a2 : Int32} {G : GS} {Q : Int32 → GS → Prop} (h : wp_X8_wordOf a1 a2 G Q) : PMet E mi_X8_wordOf 1 [.ref (ev_ad E 1), .int a1, .int a2] G (qi_ Q) := by
  refine pm_of hE (by decide) (Nat.le_of_ble_eq_true rfl) ?_
  refine pw_loc (lv' := [(0, .ref (ev_ad E 1)), (1, .int a1), (2, .int a2)]) [0, 1, 2] rfl ?_
  refine pw_aload_n dX8_wordOf_0 rfl 0 rfl ?_
  refine pw_getr (q := 2) dX8_wordOf_1 fa_X8_9 ly_1 rfl ?_
  refine pw_iload_n dX8_wordOf_4 rfl 1 rfl ?_
  obtain ⟨hv1, h⟩ := h
  refine pw_iald (v := G 2 a1.toNatClampNeg) dX8_wordOf_5 ly_2 hv1 rfl ?_
  refine pw_aload_n dX8_wordOf_6 rfl 0 rfl ?_
  refine pw_getr (q := 2) dX8_wordOf_7 fa_X8_9 ly_1 rfl ?_
  refine pw_iload_n dX8_wordOf_10 rfl 2 rfl ?_
  obtain ⟨hv2, h⟩ := h
  refine pw_iald (v := G 2 a2.toNatClampNeg) dX8_wordOf_11 ly_2 hv2 rfl ?_
  refine pw_isub dX8_wordOf_12 ?_
  refine pw_mabs dX8_wordOf_13 jm_X8_92 (rm_ok1 (by decide)) rm_0 (Nat.le_of_ble_eq_true rfl) ?_
  exact pw_ireturn dX8_wordOf_16 rfl rfl ⟨_, rfl, h⟩
