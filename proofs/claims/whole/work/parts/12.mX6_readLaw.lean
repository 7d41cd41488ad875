def lp_X6_readLaw_44 (Q : Int32 → GS → Prop)  : Nat → Int32 → GS → Prop
  | 0, _, _ => False
  | n + 1, x2, G => (((400 : Int32) < x2 → Q (0 : Int32) G) ∧ (¬ (400 : Int32) < x2 → wp_X6_step G (fun _ G4 => ((¬ (G4 33 5) = 0 → wp_X6_accept G4 (fun r5 G6 => ((¬ r5 = 0 → lp_X6_readLaw_44 Q n (x2 + 1) G6) ∧ (r5 = 0 → Q (0 : Int32) G6)))) ∧ ((G4 33 5) = 0 → ((¬ (G4 33 9) = 0 → wp_X6_accept G4 (fun r7 G8 => ((¬ r7 = 0 → lp_X6_readLaw_44 Q n (x2 + 1) G8) ∧ (r7 = 0 → Q (0 : Int32) G8)))) ∧ ((G4 33 9) = 0 → Q (1 : Int32) G4)))))))
set_option maxRecDepth 100000 in
set_option maxHeartbeats 4000000 in
theorem t_X6_readLaw_44 {E : EV} (hE : EI_ E) (Q : Int32 → GS → Prop)  : ∀ (n : Nat) (x2 : Int32) (G : GS), lp_X6_readLaw_44 Q n x2 G → PW_ E mi_X6_readLaw (rm_ 9) 0 0 44 [(0, .ref (ev_ad E 33)), (2, .int x2)] [] G (qi_ Q) := by
  intro n
  induction n with
  | zero => intro x2 G h; exact h.elim
  | succ n ih =>
    intro x2 G h
    refine pw_iload_n dX6_readLaw_44 rfl 1 rfl ?_
    refine pw_sipush (v := (400 : Int32)) dX6_readLaw_45 (by decide) ?_
    refine pw_icmp_gt (tgt := 86) dX6_readLaw_48 (by decide) (fun hc => ?_) (fun hc => ?_)
    · have h := h.1 hc
      refine pw_iconst (v := (0 : Int32)) dX6_readLaw_86 (by decide) ?_
      exact pw_ireturn dX6_readLaw_87 rfl rfl ⟨_, rfl, h⟩
    · have h := h.2 hc
      refine pw_aload_n dX6_readLaw_51 rfl 0 rfl ?_
      refine pw_callV (As := []) (rest := []) (s_X6_step hE h) dX6_readLaw_52 ly_33 rfl (Or.inl ml_X6_51) cm_X6_step rfl (rm_ok (by decide)) rm_0 (Nat.le_of_ble_eq_true rfl) ?_
      rintro _ G4 ⟨rfl, h⟩
      refine pw_aload_n dX6_readLaw_55 rfl 0 rfl ?_
      refine pw_geti (v := G4 33 5) dX6_readLaw_56 fa_X6_54 ly_33 rfl rfl ?_
      refine pw_if_ne (tgt := 71) dX6_readLaw_59 (by decide) (fun hc => ?_) (fun hc => ?_)
      · have h := h.1 hc
        refine pw_aload_n dX6_readLaw_71 rfl 0 rfl ?_
        refine pw_callV (As := []) (rest := []) (s_X6_accept hE h) dX6_readLaw_72 ly_33 rfl (Or.inl ml_X6_57) cm_X6_accept rfl (rm_ok (by decide)) rm_0 (Nat.le_of_ble_eq_true rfl) ?_
        rintro _ G6 ⟨r5, rfl, h⟩
        refine pw_if_ne (tgt := 80) dX6_readLaw_75 (by decide) (fun hc => ?_) (fun hc => ?_)
        · have h := h.1 hc
          refine pw_iinc (k := 1) (v := x2 + 1) (lv' := [(2, .int (x2 + 1)), (0, .ref (ev_ad E 33))]) dX6_readLaw_80 rfl rfl (by decide) rfl ?_
          refine pw_goto (tgt := 44) dX6_readLaw_83 (by decide) ?_
          refine pw_loc (lv' := [(0, .ref (ev_ad E 33)), (2, .int (x2 + 1))]) [1, 0] rfl ?_
          exact ih _ _ h
        · have h := h.2 hc
          refine pw_iconst (v := (0 : Int32)) dX6_readLaw_78 (by decide) ?_
          exact pw_ireturn dX6_readLaw_79 rfl rfl ⟨_, rfl, h⟩
      · have h := h.2 hc
        refine pw_aload_n dX6_readLaw_62 rfl 0 rfl ?_
        refine pw_geti (v := G4 33 9) dX6_readLaw_63 fa_X6_39 ly_33 rfl rfl ?_
        refine pw_if_ne (tgt := 71) dX6_readLaw_66 (by decide) (fun hc => ?_) (fun hc => ?_)
        · have h := h.1 hc
          refine pw_aload_n dX6_readLaw_71 rfl 0 rfl ?_
          refine pw_callV (As := []) (rest := []) (s_X6_accept hE h) dX6_readLaw_72 ly_33 rfl (Or.inl ml_X6_57) cm_X6_accept rfl (rm_ok (by decide)) rm_0 (Nat.le_of_ble_eq_true rfl) ?_
          rintro _ G8 ⟨r7, rfl, h⟩
          refine pw_if_ne (tgt := 80) dX6_readLaw_75 (by decide) (fun hc => ?_) (fun hc => ?_)
          · have h := h.1 hc
            refine pw_iinc (k := 1) (v := x2 + 1) (lv' := [(2, .int (x2 + 1)), (0, .ref (ev_ad E 33))]) dX6_readLaw_80 rfl rfl (by decide) rfl ?_
            refine pw_goto (tgt := 44) dX6_readLaw_83 (by decide) ?_
            refine pw_loc (lv' := [(0, .ref (ev_ad E 33)), (2, .int (x2 + 1))]) [1, 0] rfl ?_
            exact ih _ _ h
          · have h := h.2 hc
            refine pw_iconst (v := (0 : Int32)) dX6_readLaw_78 (by decide) ?_
            exact pw_ireturn dX6_readLaw_79 rfl rfl ⟨_, rfl, h⟩
        · have h := h.2 hc
          refine pw_iconst (v := (1 : Int32)) dX6_readLaw_69 (by decide) ?_
          exact pw_ireturn dX6_readLaw_70 rfl rfl ⟨_, rfl, h⟩
def wp_X6_readLaw (a1 : Int32) (G : GS) (Q : Int32 → GS → Prop) : Prop := wp_X4_empty (gu_ (gu_ (gu_ (gu_ (gu_ (gu_ (gu_ G 33 4 a1) 33 8 (0 : Int32)) 33 2 (0 : Int32)) 33 3 (-1 : Int32)) 33 9 (0 : Int32)) 33 13 (0 : Int32)) 33 14 (0 : Int32)) (fun _ G2 => (∃ kf, lp_X6_readLaw_44 Q kf (0 : Int32) G2))
set_option maxRecDepth 100000 in
set_option maxHeartbeats 4000000 in
theorem s_X6_readLaw {E : EV} (hE : EI_ E) {a1 : Int32} {G : GS} {Q : Int32 → GS → Prop} (h : wp_X6_readLaw a1 G Q) : PMet E mi_X6_readLaw 9 [.ref (ev_ad E 33), .int a1] G (qi_ Q) := by
  refine pm_of hE (by decide) (Nat.le_of_ble_eq_true rfl) ?_
  refine pw_loc (lv' := [(0, .ref (ev_ad E 33)), (1, .int a1)]) [0, 1] rfl ?_
  refine pw_aload_n dX6_readLaw_0 rfl 0 rfl ?_
  refine pw_iload_n dX6_readLaw_1 rfl 1 rfl ?_
  refine pw_puti dX6_readLaw_2 fp_X6_30 ly_33 rfl ?_
  refine pw_aload_n dX6_readLaw_5 rfl 0 rfl ?_
  refine pw_iconst (v := (0 : Int32)) dX6_readLaw_6 (by decide) ?_
  refine pw_puti dX6_readLaw_7 fp_X6_33 ly_33 rfl ?_
  refine pw_aload_n dX6_readLaw_10 rfl 0 rfl ?_
  refine pw_iconst (v := (0 : Int32)) dX6_readLaw_11 (by decide) ?_
  refine pw_puti dX6_readLaw_12 fp_X6_36 ly_33 rfl ?_
  refine pw_aload_n dX6_readLaw_15 rfl 0 rfl ?_
  refine pw_iconst (v := (-1 : Int32)) dX6_readLaw_16 (by decide) ?_
  refine pw_puti dX6_readLaw_17 fp_X6_26 ly_33 rfl ?_
  refine pw_aload_n dX6_readLaw_20 rfl 0 rfl ?_
  refine pw_iconst (v := (0 : Int32)) dX6_readLaw_21 (by decide) ?_
  refine pw_puti dX6_readLaw_22 fp_X6_39 ly_33 rfl ?_
  refine pw_aload_n dX6_readLaw_25 rfl 0 rfl ?_
  refine pw_iconst (v := (0 : Int32)) dX6_readLaw_26 (by decide) ?_
  refine pw_puti dX6_readLaw_27 fp_X6_42 ly_33 rfl ?_
  refine pw_aload_n dX6_readLaw_30 rfl 0 rfl ?_
  refine pw_iconst (v := (0 : Int32)) dX6_readLaw_31 (by decide) ?_
  refine pw_puti dX6_readLaw_32 fp_X6_45 ly_33 rfl ?_
  refine pw_aload_n dX6_readLaw_35 rfl 0 rfl ?_
  refine pw_getr (q := 34) dX6_readLaw_36 fa_X6_18 ly_33 rfl ?_
  refine pw_callV (As := []) (rest := []) (s_X4_empty hE h) dX6_readLaw_39 ly_34 rfl (Or.inr mn_X6_48) cm_X4_empty rfl (rm_ok (by decide)) rm_0 (Nat.le_of_ble_eq_true rfl) ?_
  rintro _ G2 ⟨rfl, h⟩
  refine pw_iconst (v := (0 : Int32)) dX6_readLaw_42 (by decide) ?_
  refine pw_istore_n (lv' := [(2, .int (0 : Int32)), (0, .ref (ev_ad E 33)), (1, .int a1)]) dX6_readLaw_43 rfl (by decide) rfl ?_
  refine pw_loc (lv' := [(0, .ref (ev_ad E 33)), (2, .int (0 : Int32))]) [1, 0] rfl ?_
  obtain ⟨kf, h⟩ := h
  exact t_X6_readLaw_44 hE Q kf _ _ h
def wp_X4_copyFrom_9_34  (G : GS) (Q : Int32 → GS → Prop) : Prop := (cp_ (0 : Int32) (0 : Int32) (G 34 3) 400 400 ∧ Q 0 (gf_ (gu_ (gf_ (gu_ (gu_ G 9 0 (G 34 0)) 9 1 (G 34 1)) 10 (va_cpy (G 35) (G 10) 0 0 16)) 9 3 (G 34 3)) 11 (va_cpy (G 36) (G 11) 0 0 ((G 34 3).toNatClampNeg))))
set_option maxRecDepth 100000 in
set_option maxHeartbeats 4000000 in
theorem s_X4_copyFrom_9_34 {E : EV} (hE : EI_ E)  {G : GS} {Q : Int32 → GS → Prop} (h : wp_X4_copyFrom_9_34  G Q) : PMet E mi_X4_copyFrom 1 [.ref (ev_ad E 9), .ref (ev_ad E 34)] G (qv_ Q) := by
  refine pm_of hE (by decide) (Nat.le_of_ble_eq_true rfl) ?_
  refine pw_loc (lv' := [(0, .ref (ev_ad E 9)), (1, .ref (ev_ad E 34))]) [0, 1] rfl ?_
  refine pw_aload_n dX4_copyFrom_0 rfl 0 rfl ?_
  refine pw_aload_n dX4_copyFrom_1 rfl 1 rfl ?_
  refine pw_geti (v := G 34 0) dX4_copyFrom_2 fa_X4_18 ly_34 rfl rfl ?_
  refine pw_puti dX4_copyFrom_5 fp_X4_18 ly_9 rfl ?_
  refine pw_aload_n dX4_copyFrom_8 rfl 0 rfl ?_
  refine pw_aload_n dX4_copyFrom_9 rfl 1 rfl ?_
  refine pw_geti (v := G 34 1) dX4_copyFrom_10 fa_X4_22 ly_34 rfl rfl ?_
  refine pw_puti dX4_copyFrom_13 fp_X4_22 ly_9 rfl ?_
  refine pw_aload_n dX4_copyFrom_16 rfl 1 rfl ?_
  refine pw_getr (q := 35) dX4_copyFrom_17 fa_X4_9 ly_34 rfl ?_
  refine pw_iconst (v := (0 : Int32)) dX4_copyFrom_20 (by decide) ?_
  refine pw_aload_n dX4_copyFrom_21 rfl 0 rfl ?_
  refine pw_getr (q := 10) dX4_copyFrom_22 fa_X4_9 ly_9 rfl ?_
  refine pw_iconst (v := (0 : Int32)) dX4_copyFrom_25 (by decide) ?_
  refine pw_bipush (v := (16 : Int32)) dX4_copyFrom_26 (by decide) ?_
  refine pw_copy dX4_copyFrom_28 jc_X4_25 ly_35 ly_10 (by unfold cp_; decide) (rm_ok1 (by decide)) rfl ?_
  refine pw_nmG (G2 := (gf_ (gu_ (gu_ G 9 0 (G 34 0)) 9 1 (G 34 1)) 10 (va_cpy (G 35) (G 10) 0 0 16))) rfl ?_
  refine pw_aload_n dX4_copyFrom_31 rfl 0 rfl ?_
  refine pw_aload_n dX4_copyFrom_32 rfl 1 rfl ?_
  refine pw_geti (v := G 34 3) dX4_copyFrom_33 fa_X4_31 ly_34 rfl rfl ?_
  refine pw_puti dX4_copyFrom_36 fp_X4_31 ly_9 rfl ?_
  refine pw_aload_n dX4_copyFrom_39 rfl 1 rfl ?_
  refine pw_getr (q := 36) dX4_copyFrom_40 fa_X4_15 ly_34 rfl ?_
  refine pw_iconst (v := (0 : Int32)) dX4_copyFrom_43 (by decide) ?_
  refine pw_aload_n dX4_copyFrom_44 rfl 0 rfl ?_
  refine pw_getr (q := 11) dX4_copyFrom_45 fa_X4_15 ly_9 rfl ?_
  refine pw_iconst (v := (0 : Int32)) dX4_copyFrom_48 (by decide) ?_
  refine pw_aload_n dX4_copyFrom_49 rfl 0 rfl ?_
  refine pw_geti (v := G 34 3) dX4_copyFrom_50 fa_X4_31 ly_9 rfl rfl ?_
  obtain ⟨hv1, h⟩ := h
  refine pw_copy dX4_copyFrom_53 jc_X4_25 ly_36 ly_11 hv1 (rm_ok1 (by decide)) rfl ?_
  refine pw_nmG (G2 := (gf_ (gu_ (gf_ (gu_ (gu_ G 9 0 (G 34 0)) 9 1 (G 34 1)) 10 (va_cpy (G 35) (G 10) 0 0 16)) 9 3 (G 34 3)) 11 (va_cpy (G 36) (G 11) 0 0 ((G 34 3).toNatClampNeg)))) rfl ?_
  exact pw_return dX4_copyFrom_56 rfl ⟨rfl, h⟩
def wp_X9_text  (G : GS) (Q : Int32 → GS → Prop) : Prop := wp_X6_readLaw (G 0 5) G (fun r1 G2 => ((¬ r1 = 0 → wp_X4_copyFrom_9_34 (gu_ (gu_ (gu_ G2 0 6 (G2 33 2)) 0 7 (G2 33 3)) 0 5 (0 : Int32)) (fun _ G4 => Q (G4 9 0) G4)) ∧ (r1 = 0 → Q (-1 : Int32) (gu_ (gu_ (gu_ G2 0 6 (G2 33 2)) 0 7 (G2 33 3)) 0 5 (0 : Int32)))))
set_option maxRecDepth 100000 in
set_option maxHeartbeats 4000000 in
theorem s_X9_text {E : EV} (hE : EI_ E)  {G : GS} {Q : Int32 → GS → Prop} (h : wp_X9_text  G Q) : PMet E mi_X9_text 10 [.ref (ev_ad E 0)] G (qi_ Q) := by
  refine pm_of hE (by decide) (Nat.le_of_ble_eq_true rfl) ?_
  refine pw_loc (lv' := [(0, .ref (ev_ad E 0))]) [0] rfl ?_
  refine pw_aload_n dX9_text_0 rfl 0 rfl ?_
  refine pw_getr (q := 33) dX9_text_1 fa_X9_33 ly_0 rfl ?_
  refine pw_aload_n dX9_text_4 rfl 0 rfl ?_
  refine pw_geti (v := G 0 5) dX9_text_5 fa_X9_37 ly_0 rfl rfl ?_
  refine pw_callV (As := [.int (G 0 5)]) (rest := []) (s_X6_readLaw hE h) dX9_text_8 ly_33 rfl (Or.inr mn_X9_106) cm_X6_readLaw rfl (rm_ok (by decide)) rm_0 (Nat.le_of_ble_eq_true rfl) ?_
  rintro _ G2 ⟨r1, rfl, h⟩
  refine pw_istore_n (lv' := [(1, .int r1), (0, .ref (ev_ad E 0))]) dX9_text_11 rfl (by decide) rfl ?_
  refine pw_aload_n dX9_text_12 rfl 1 rfl ?_
  refine pw_aload_n dX9_text_13 rfl 1 rfl ?_
  refine pw_getr (q := 33) dX9_text_14 fa_X9_33 ly_0 rfl ?_
  refine pw_geti (v := G2 33 2) dX9_text_17 fa_X9_109 ly_33 rfl rfl ?_
  refine pw_puti dX9_text_20 fp_X9_41 ly_0 rfl ?_
  refine pw_aload_n dX9_text_23 rfl 1 rfl ?_
  refine pw_aload_n dX9_text_24 rfl 1 rfl ?_
  refine pw_getr (q := 33) dX9_text_25 fa_X9_33 ly_0 rfl ?_
  refine pw_geti (v := G2 33 3) dX9_text_28 fa_X9_112 ly_33 rfl rfl ?_
  refine pw_puti dX9_text_31 fp_X9_44 ly_0 rfl ?_
  refine pw_aload_n dX9_text_34 rfl 1 rfl ?_
  refine pw_iconst (v := (0 : Int32)) dX9_text_35 (by decide) ?_
  refine pw_puti dX9_text_36 fp_X9_37 ly_0 rfl ?_
  refine pw_iload_n dX9_text_39 rfl 0 rfl ?_
  refine pw_if_ne (tgt := 45) dX9_text_40 (by decide) (fun hc => ?_) (fun hc => ?_)
  · have h := h.1 hc
    refine pw_aload_n dX9_text_45 rfl 1 rfl ?_
    refine pw_getr (q := 1) dX9_text_46 fa_X9_10 ly_0 rfl ?_
    refine pw_getr (q := 9) dX9_text_49 fa_X9_115 ly_1 rfl ?_
    refine pw_aload_n dX9_text_52 rfl 1 rfl ?_
    refine pw_getr (q := 33) dX9_text_53 fa_X9_33 ly_0 rfl ?_
    refine pw_getr (q := 34) dX9_text_56 fa_X9_119 ly_33 rfl ?_
    refine pw_callV (As := [.ref (ev_ad E 34)]) (rest := []) (s_X4_copyFrom_9_34 hE h) dX9_text_59 ly_9 rfl (Or.inr mn_X9_122) cm_X4_copyFrom rfl (rm_ok (by decide)) rm_0 (Nat.le_of_ble_eq_true rfl) ?_
    rintro _ G4 ⟨rfl, h⟩
    refine pw_aload_n dX9_text_62 rfl 1 rfl ?_
    refine pw_getr (q := 1) dX9_text_63 fa_X9_10 ly_0 rfl ?_
    refine pw_getr (q := 9) dX9_text_66 fa_X9_115 ly_1 rfl ?_
    refine pw_geti (v := G4 9 0) dX9_text_69 fa_X9_128 ly_9 rfl rfl ?_
    exact pw_ireturn dX9_text_72 rfl rfl ⟨_, rfl, h⟩
  · have h := h.2 hc
    refine pw_iconst (v := (-1 : Int32)) dX9_text_43 (by decide) ?_
    exact pw_ireturn dX9_text_44 rfl rfl ⟨_, rfl, h⟩
def wp_X9_fault (a1 : Int32) (G : GS) (Q : Int32 → GS → Prop) : Prop := ((¬ a1 = 0 → ((¬ a1 = (1 : Int32) → Q (-1 : Int32) G) ∧ (a1 = (1 : Int32) → Q (G 0 7) G))) ∧ (a1 = 0 → Q (G 0 6) G))
set_option maxRecDepth 100000 in
set_option maxHeartbeats 4000000 in
theorem s_X9_fault {E : EV} (hE : EI_ E) {a1 : Int32} {G : GS} {Q : Int32 → GS → Prop} (h : wp_X9_fault a1 G Q) : PMet E mi_X9_fault 1 [.ref (ev_ad E 0), .int a1] G (qi_ Q) := by
  refine pm_of hE (by decide) (Nat.le_of_ble_eq_true rfl) ?_
  refine pw_loc (lv' := [(0, .ref (ev_ad E 0)), (1, .int a1)]) [0, 1] rfl ?_
  refine pw_iload_n dX9_fault_0 rfl 1 rfl ?_
  refine pw_if_ne (tgt := 9) dX9_fault_1 (by decide) (fun hc => ?_) (fun hc => ?_)
  · have h := h.1 hc
    refine pw_iload_n dX9_fault_9 rfl 1 rfl ?_
    refine pw_iconst (v := (1 : Int32)) dX9_fault_10 (by decide) ?_
    refine pw_icmp_ne (tgt := 21) dX9_fault_11 (by decide) (fun hc => ?_) (fun hc => ?_)
    · have h := h.1 hc
      refine pw_iconst (v := (-1 : Int32)) dX9_fault_21 (by decide) ?_
      exact pw_ireturn dX9_fault_22 rfl rfl ⟨_, rfl, h⟩
    · have h := h.2 hc
      refine pw_aload_n dX9_fault_14 rfl 0 rfl ?_
      refine pw_geti (v := G 0 7) dX9_fault_15 fa_X9_44 ly_0 rfl rfl ?_
      refine pw_goto (tgt := 22) dX9_fault_18 (by decide) ?_
      exact pw_ireturn dX9_fault_22 rfl rfl ⟨_, rfl, h⟩
  · have h := h.2 hc
    refine pw_aload_n dX9_fault_4 rfl 0 rfl ?_
    refine pw_geti (v := G 0 6) dX9_fault_5 fa_X9_41 ly_0 rfl rfl ?_
    exact pw_ireturn dX9_fault_8 rfl rfl ⟨_, rfl, h⟩
def wp_X5_keep  (G : GS) (Q : Int32 → GS → Prop) : Prop := (cp_ (0 : Int32) ((G 27 0) * (10 : Int32)) (10 : Int32) 10 80 ∧ (vp_in (G 27 0) 8 ∧ Q 0 (gu_ (gu_ (gu_ (gu_ (gu_ (gf_ G 28 (va_cpy (G 2) (G 28) 0 (((G 27 0) * (10 : Int32)).toNatClampNeg) 10)) 29 ((G 27 0).toNatClampNeg) (G 1 0)) 30 ((G 27 0).toNatClampNeg) (G 1 6)) 31 ((G 27 0).toNatClampNeg) (G 12 0)) 27 0 (((G 27 0) + (1 : Int32)) - ((G 27 0) + (1 : Int32)) / (8 : Int32) * (8 : Int32))) 27 1 (if (8 : Int32) < ((G 27 1) + (1 : Int32)) then (8 : Int32) else (G 27 1) + (1 : Int32)))))
set_option maxRecDepth 100000 in
set_option maxHeartbeats 4000000 in
theorem s_X5_keep {E : EV} (hE : EI_ E)  {G : GS} {Q : Int32 → GS → Prop} (h : wp_X5_keep  G Q) : PMet E mi_X5_keep 1 [.ref (ev_ad E 27), .ref (ev_ad E 1)] G (qv_ Q) := by
  refine pm_of hE (by decide) (Nat.le_of_ble_eq_true rfl) ?_
  refine pw_loc (lv' := [(0, .ref (ev_ad E 27)), (1, .ref (ev_ad E 1))]) [0, 1] rfl ?_
  refine pw_aload_n dX5_keep_0 rfl 1 rfl ?_
  refine pw_getr (q := 2) dX5_keep_1 fa_X5_28 ly_1 rfl ?_
  refine pw_iconst (v := (0 : Int32)) dX5_keep_4 (by decide) ?_
  refine pw_aload_n dX5_keep_5 rfl 0 rfl ?_
  refine pw_getr (q := 28) dX5_keep_6 fa_X5_9 ly_27 rfl ?_
  refine pw_aload_n dX5_keep_9 rfl 0 rfl ?_
  refine pw_geti (v := G 27 0) dX5_keep_10 fa_X5_31 ly_27 rfl rfl ?_
  refine pw_bipush (v := (10 : Int32)) dX5_keep_13 (by decide) ?_
  refine pw_imul dX5_keep_15 ?_
  refine pw_bipush (v := (10 : Int32)) dX5_keep_16 (by decide) ?_
  obtain ⟨hv1, h⟩ := h
  refine pw_copy dX5_keep_18 jc_X5_34 ly_2 ly_28 hv1 (rm_ok1 (by decide)) rfl ?_
  refine pw_nmG (G2 := (gf_ G 28 (va_cpy (G 2) (G 28) 0 (((G 27 0) * (10 : Int32)).toNatClampNeg) 10))) rfl ?_
  refine pw_aload_n dX5_keep_21 rfl 0 rfl ?_
  refine pw_getr (q := 29) dX5_keep_22 fa_X5_15 ly_27 rfl ?_
  refine pw_aload_n dX5_keep_25 rfl 0 rfl ?_
  refine pw_geti (v := G 27 0) dX5_keep_26 fa_X5_31 ly_27 rfl rfl ?_
  refine pw_aload_n dX5_keep_29 rfl 1 rfl ?_
  refine pw_geti (v := G 1 0) dX5_keep_30 fa_X5_40 ly_1 rfl rfl ?_
  obtain ⟨hv2, h⟩ := h
  refine pw_iast (z := ((G 27 0).toNatClampNeg)) dX5_keep_33 ly_29 hv2 rfl ?_
  refine pw_aload_n dX5_keep_34 rfl 0 rfl ?_
  refine pw_getr (q := 30) dX5_keep_35 fa_X5_18 ly_27 rfl ?_
  refine pw_aload_n dX5_keep_38 rfl 0 rfl ?_
  refine pw_geti (v := G 27 0) dX5_keep_39 fa_X5_31 ly_27 rfl rfl ?_
  refine pw_aload_n dX5_keep_42 rfl 1 rfl ?_
  refine pw_geti (v := G 1 6) dX5_keep_43 fa_X5_42 ly_1 rfl rfl ?_
  refine pw_iast (z := ((G 27 0).toNatClampNeg)) dX5_keep_46 ly_30 hv2 rfl ?_
  refine pw_aload_n dX5_keep_47 rfl 0 rfl ?_
  refine pw_getr (q := 31) dX5_keep_48 fa_X5_21 ly_27 rfl ?_
  refine pw_aload_n dX5_keep_51 rfl 0 rfl ?_
  refine pw_geti (v := G 27 0) dX5_keep_52 fa_X5_31 ly_27 rfl rfl ?_
  refine pw_aload_n dX5_keep_55 rfl 1 rfl ?_
  refine pw_getr (q := 12) dX5_keep_56 fa_X5_45 ly_1 rfl ?_
  refine pw_geti (v := G 12 0) dX5_keep_59 fa_X5_49 ly_12 rfl rfl ?_
  refine pw_iast (z := ((G 27 0).toNatClampNeg)) dX5_keep_62 ly_31 hv2 rfl ?_
  refine pw_aload_n dX5_keep_63 rfl 0 rfl ?_
  refine pw_aload_n dX5_keep_64 rfl 0 rfl ?_
  refine pw_geti (v := G 27 0) dX5_keep_65 fa_X5_31 ly_27 rfl rfl ?_
  refine pw_iconst (v := (1 : Int32)) dX5_keep_68 (by decide) ?_
  refine pw_iadd dX5_keep_69 ?_
  refine pw_bipush (v := (8 : Int32)) dX5_keep_70 (by decide) ?_
  refine pw_irem dX5_keep_72 (by decide) ?_
  refine pw_puti dX5_keep_73 fp_X5_31 ly_27 rfl ?_
  refine pw_aload_n dX5_keep_76 rfl 0 rfl ?_
  refine pw_aload_n dX5_keep_77 rfl 0 rfl ?_
  refine pw_geti (v := G 27 1) dX5_keep_78 fa_X5_24 ly_27 rfl rfl ?_
  refine pw_iconst (v := (1 : Int32)) dX5_keep_81 (by decide) ?_
  refine pw_iadd dX5_keep_82 ?_
  refine pw_bipush (v := (8 : Int32)) dX5_keep_83 (by decide) ?_
  refine pw_mmin dX5_keep_85 jm_X5_54 (rm_ok1 (by decide)) rm_0 (Nat.le_of_ble_eq_true rfl) ?_
  refine pw_puti dX5_keep_88 fp_X5_24 ly_27 rfl ?_
  exact pw_return dX5_keep_91 rfl ⟨rfl, h⟩
def wp_X2_attend (a2 : Int32) (a3 : Int32) (a4 : Int32) (a5 : Int32) (G : GS) (Q : Int32 → GS → Prop) : Prop := (vp_in a2 10 ∧ (vp_in a3 10 ∧ Q 0 (gu_ (gu_ (gu_ (gu_ (gu_ G 38 2 (if a5 < a4 then a5 else a4)) 38 3 (if a4 < a5 then a5 else a4)) 38 4 (((1 : Int32) <<< (a2 &&& 31)) ||| ((1 : Int32) <<< (a3 &&& 31)))) 38 5 ((G 3 a2.toNatClampNeg) + (G 3 a3.toNatClampNeg))) 38 6 (G 1 6))))
set_option maxRecDepth 100000 in
set_option maxHeartbeats 4000000 in
theorem s_X2_attend {E : EV} (hE : EI_ E) {a2 : Int32} {a3 : Int32} {a4 : Int32} {a5 : Int32} {G : GS} {Q : Int32 → GS → Prop} (h : wp_X2_attend a2 a3 a4 a5 G Q) : PMet E mi_X2_attend 1 [.ref (ev_ad E 38), .ref (ev_ad E 1), .int a2, .int a3, .int a4, .int a5] G (qv_ Q) := by
  refine pm_of hE (by decide) (Nat.le_of_ble_eq_true rfl) ?_
  refine pw_loc (lv' := [(0, .ref (ev_ad E 38)), (1, .ref (ev_ad E 1)), (2, .int a2), (3, .int a3), (4, .int a4), (5, .int a5)]) [0, 1, 2, 3, 4, 5] rfl ?_
  refine pw_aload_n dX2_attend_0 rfl 0 rfl ?_
  refine pw_iload dX2_attend_1 4 rfl ?_
  refine pw_iload dX2_attend_3 5 rfl ?_
  refine pw_mmin dX2_attend_5 jm_X2_53 (rm_ok1 (by decide)) rm_0 (Nat.le_of_ble_eq_true rfl) ?_
  refine pw_puti dX2_attend_8 fp_X2_58 ly_38 rfl ?_
  refine pw_aload_n dX2_attend_11 rfl 0 rfl ?_
  refine pw_iload dX2_attend_12 4 rfl ?_
  refine pw_iload dX2_attend_14 5 rfl ?_
  refine pw_mmax dX2_attend_16 jm_X2_61 (rm_ok1 (by decide)) rm_0 (Nat.le_of_ble_eq_true rfl) ?_
  refine pw_puti dX2_attend_19 fp_X2_64 ly_38 rfl ?_
  refine pw_aload_n dX2_attend_22 rfl 0 rfl ?_
  refine pw_iconst (v := (1 : Int32)) dX2_attend_23 (by decide) ?_
  refine pw_iload_n dX2_attend_24 rfl 2 rfl ?_
  refine pw_ishl dX2_attend_25 ?_
  refine pw_iconst (v := (1 : Int32)) dX2_attend_26 (by decide) ?_
  refine pw_iload_n dX2_attend_27 rfl 3 rfl ?_
  refine pw_ishl dX2_attend_28 ?_
  refine pw_ior dX2_attend_29 ?_
  refine pw_puti dX2_attend_30 fp_X2_67 ly_38 rfl ?_
  refine pw_aload_n dX2_attend_33 rfl 0 rfl ?_
  refine pw_aload_n dX2_attend_34 rfl 1 rfl ?_
  refine pw_getr (q := 3) dX2_attend_35 fa_X2_70 ly_1 rfl ?_
  refine pw_iload_n dX2_attend_38 rfl 2 rfl ?_
  obtain ⟨hv1, h⟩ := h
  refine pw_iald (v := G 3 a2.toNatClampNeg) dX2_attend_39 ly_3 hv1 rfl ?_
  refine pw_aload_n dX2_attend_40 rfl 1 rfl ?_
  refine pw_getr (q := 3) dX2_attend_41 fa_X2_70 ly_1 rfl ?_
  refine pw_iload_n dX2_attend_44 rfl 3 rfl ?_
  obtain ⟨hv2, h⟩ := h
  refine pw_iald (v := G 3 a3.toNatClampNeg) dX2_attend_45 ly_3 hv2 rfl ?_
  refine pw_iadd dX2_attend_46 ?_
  refine pw_puti dX2_attend_47 fp_X2_73 ly_38 rfl ?_
  refine pw_aload_n dX2_attend_50 rfl 0 rfl ?_
  refine pw_aload_n dX2_attend_51 rfl 1 rfl ?_
  refine pw_geti (v := G 1 6) dX2_attend_52 fa_X2_76 ly_1 rfl rfl ?_
  refine pw_puti dX2_attend_55 fp_X2_79 ly_38 rfl ?_
  exact pw_return dX2_attend_58 rfl ⟨rfl, h⟩
def wp_X2_isSinger (a1 : Int32) (G : GS) (Q : Int32 → GS → Prop) : Prop := ((¬ (((G 38 4) >>> (a1 &&& 31)) &&& (1 : Int32)) = (1 : Int32) → Q (0 : Int32) G) ∧ ((((G 38 4) >>> (a1 &&& 31)) &&& (1 : Int32)) = (1 : Int32) → Q (1 : Int32) G))
set_option maxRecDepth 100000 in
set_option maxHeartbeats 4000000 in
theorem s_X2_isSinger {E : EV} (hE : EI_ E) {a1 : Int32} {G : GS} {Q : Int32 → GS → Prop} (h : wp_X2_isSinger a1 G Q) : PMet E mi_X2_isSinger 1 [.ref (ev_ad E 38), .int a1] G (qi_ Q) := by
  refine pm_of hE (by decide) (Nat.le_of_ble_eq_true rfl) ?_
  refine pw_loc (lv' := [(0, .ref (ev_ad E 38)), (1, .int a1)]) [0, 1] rfl ?_
  refine pw_aload_n dX2_isSinger_0 rfl 0 rfl ?_
  refine pw_geti (v := G 38 4) dX2_isSinger_1 fa_X2_67 ly_38 rfl rfl ?_
  refine pw_iload_n dX2_isSinger_4 rfl 1 rfl ?_
  refine pw_ishr dX2_isSinger_5 ?_
  refine pw_iconst (v := (1 : Int32)) dX2_isSinger_6 (by decide) ?_
  refine pw_iand dX2_isSinger_7 ?_
  refine pw_iconst (v := (1 : Int32)) dX2_isSinger_8 (by decide) ?_
  refine pw_icmp_ne (tgt := 16) dX2_isSinger_9 (by decide) (fun hc => ?_) (fun hc => ?_)
  · have h := h.1 hc
    refine pw_iconst (v := (0 : Int32)) dX2_isSinger_16 (by decide) ?_
    exact pw_ireturn dX2_isSinger_17 rfl rfl ⟨_, rfl, h⟩
  · have h := h.2 hc
    refine pw_iconst (v := (1 : Int32)) dX2_isSinger_12 (by decide) ?_
    refine pw_goto (tgt := 17) dX2_isSinger_13 (by decide) ?_
    exact pw_ireturn dX2_isSinger_17 rfl rfl ⟨_, rfl, h⟩
def wp_J6_bitCount (a0 : Int32) (G : GS) (Q : Int32 → GS → Prop) : Prop := Q ((((((((a0 - ((ush_ a0 (1 : Int32)) &&& (1431655765 : Int32))) &&& (858993459 : Int32)) + ((ush_ (a0 - ((ush_ a0 (1 : Int32)) &&& (1431655765 : Int32))) (2 : Int32)) &&& (858993459 : Int32))) + (ush_ (((a0 - ((ush_ a0 (1 : Int32)) &&& (1431655765 : Int32))) &&& (858993459 : Int32)) + ((ush_ (a0 - ((ush_ a0 (1 : Int32)) &&& (1431655765 : Int32))) (2 : Int32)) &&& (858993459 : Int32))) (4 : Int32))) &&& (252645135 : Int32)) + (ush_ (((((a0 - ((ush_ a0 (1 : Int32)) &&& (1431655765 : Int32))) &&& (858993459 : Int32)) + ((ush_ (a0 - ((ush_ a0 (1 : Int32)) &&& (1431655765 : Int32))) (2 : Int32)) &&& (858993459 : Int32))) + (ush_ (((a0 - ((ush_ a0 (1 : Int32)) &&& (1431655765 : Int32))) &&& (858993459 : Int32)) + ((ush_ (a0 - ((ush_ a0 (1 : Int32)) &&& (1431655765 : Int32))) (2 : Int32)) &&& (858993459 : Int32))) (4 : Int32))) &&& (252645135 : Int32)) (8 : Int32))) + (ush_ ((((((a0 - ((ush_ a0 (1 : Int32)) &&& (1431655765 : Int32))) &&& (858993459 : Int32)) + ((ush_ (a0 - ((ush_ a0 (1 : Int32)) &&& (1431655765 : Int32))) (2 : Int32)) &&& (858993459 : Int32))) + (ush_ (((a0 - ((ush_ a0 (1 : Int32)) &&& (1431655765 : Int32))) &&& (858993459 : Int32)) + ((ush_ (a0 - ((ush_ a0 (1 : Int32)) &&& (1431655765 : Int32))) (2 : Int32)) &&& (858993459 : Int32))) (4 : Int32))) &&& (252645135 : Int32)) + (ush_ (((((a0 - ((ush_ a0 (1 : Int32)) &&& (1431655765 : Int32))) &&& (858993459 : Int32)) + ((ush_ (a0 - ((ush_ a0 (1 : Int32)) &&& (1431655765 : Int32))) (2 : Int32)) &&& (858993459 : Int32))) + (ush_ (((a0 - ((ush_ a0 (1 : Int32)) &&& (1431655765 : Int32))) &&& (858993459 : Int32)) + ((ush_ (a0 - ((ush_ a0 (1 : Int32)) &&& (1431655765 : Int32))) (2 : Int32)) &&& (858993459 : Int32))) (4 : Int32))) &&& (252645135 : Int32)) (8 : Int32))) (16 : Int32))) &&& (63 : Int32)) G
set_option maxRecDepth 100000 in
set_option maxHeartbeats 4000000 in
theorem s_J6_bitCount {E : EV} (hE : EI_ E) {a0 : Int32} {G : GS} {Q : Int32 → GS → Prop} (h : wp_J6_bitCount a0 G Q) : PMet E mi_J6_bitCount_0f7a4 1 [.int a0] G (qi_ Q) := by
  refine pm_of hE (by decide) (Nat.le_of_ble_eq_true rfl) ?_
  refine pw_loc (lv' := [(0, .int a0)]) [0] rfl ?_
  refine pw_iload_n dJ6_bitCount_0f7a4_0 rfl 0 rfl ?_
  refine pw_iload_n dJ6_bitCount_0f7a4_1 rfl 0 rfl ?_
  refine pw_iconst (v := (1 : Int32)) dJ6_bitCount_0f7a4_2 (by decide) ?_
  refine pw_iushr dJ6_bitCount_0f7a4_3 ?_
  refine pw_ldcw (v := (1431655765 : Int32)) dJ6_bitCount_0f7a4_4 k_J6_265 ?_
  refine pw_iand dJ6_bitCount_0f7a4_7 ?_
  refine pw_isub dJ6_bitCount_0f7a4_8 ?_
  refine pw_istore_n (lv' := [(0, .int (a0 - ((ush_ a0 (1 : Int32)) &&& (1431655765 : Int32))))]) dJ6_bitCount_0f7a4_9 rfl (by decide) rfl ?_
  refine pw_iload_n dJ6_bitCount_0f7a4_10 rfl 0 rfl ?_
  refine pw_ldcw (v := (858993459 : Int32)) dJ6_bitCount_0f7a4_11 k_J6_266 ?_
  refine pw_iand dJ6_bitCount_0f7a4_14 ?_
  refine pw_iload_n dJ6_bitCount_0f7a4_15 rfl 0 rfl ?_
  refine pw_iconst (v := (2 : Int32)) dJ6_bitCount_0f7a4_16 (by decide) ?_
  refine pw_iushr dJ6_bitCount_0f7a4_17 ?_
  refine pw_ldcw (v := (858993459 : Int32)) dJ6_bitCount_0f7a4_18 k_J6_266 ?_
  refine pw_iand dJ6_bitCount_0f7a4_21 ?_
  refine pw_iadd dJ6_bitCount_0f7a4_22 ?_
  refine pw_istore_n (lv' := [(0, .int (((a0 - ((ush_ a0 (1 : Int32)) &&& (1431655765 : Int32))) &&& (858993459 : Int32)) + ((ush_ (a0 - ((ush_ a0 (1 : Int32)) &&& (1431655765 : Int32))) (2 : Int32)) &&& (858993459 : Int32))))]) dJ6_bitCount_0f7a4_23 rfl (by decide) rfl ?_
  refine pw_iload_n dJ6_bitCount_0f7a4_24 rfl 0 rfl ?_
  refine pw_iload_n dJ6_bitCount_0f7a4_25 rfl 0 rfl ?_
  refine pw_iconst (v := (4 : Int32)) dJ6_bitCount_0f7a4_26 (by decide) ?_
  refine pw_iushr dJ6_bitCount_0f7a4_27 ?_
  refine pw_iadd dJ6_bitCount_0f7a4_28 ?_
  refine pw_ldcw (v := (252645135 : Int32)) dJ6_bitCount_0f7a4_29 k_J6_267 ?_
  refine pw_iand dJ6_bitCount_0f7a4_32 ?_
  refine pw_istore_n (lv' := [(0, .int (((((a0 - ((ush_ a0 (1 : Int32)) &&& (1431655765 : Int32))) &&& (858993459 : Int32)) + ((ush_ (a0 - ((ush_ a0 (1 : Int32)) &&& (1431655765 : Int32))) (2 : Int32)) &&& (858993459 : Int32))) + (ush_ (((a0 - ((ush_ a0 (1 : Int32)) &&& (1431655765 : Int32))) &&& (858993459 : Int32)) + ((ush_ (a0 - ((ush_ a0 (1 : Int32)) &&& (1431655765 : Int32))) (2 : Int32)) &&& (858993459 : Int32))) (4 : Int32))) &&& (252645135 : Int32)))]) dJ6_bitCount_0f7a4_33 rfl (by decide) rfl ?_
  refine pw_iload_n dJ6_bitCount_0f7a4_34 rfl 0 rfl ?_
  refine pw_iload_n dJ6_bitCount_0f7a4_35 rfl 0 rfl ?_
  refine pw_bipush (v := (8 : Int32)) dJ6_bitCount_0f7a4_36 (by decide) ?_
  refine pw_iushr dJ6_bitCount_0f7a4_38 ?_
  refine pw_iadd dJ6_bitCount_0f7a4_39 ?_
  refine pw_istore_n (lv' := [(0, .int ((((((a0 - ((ush_ a0 (1 : Int32)) &&& (1431655765 : Int32))) &&& (858993459 : Int32)) + ((ush_ (a0 - ((ush_ a0 (1 : Int32)) &&& (1431655765 : Int32))) (2 : Int32)) &&& (858993459 : Int32))) + (ush_ (((a0 - ((ush_ a0 (1 : Int32)) &&& (1431655765 : Int32))) &&& (858993459 : Int32)) + ((ush_ (a0 - ((ush_ a0 (1 : Int32)) &&& (1431655765 : Int32))) (2 : Int32)) &&& (858993459 : Int32))) (4 : Int32))) &&& (252645135 : Int32)) + (ush_ (((((a0 - ((ush_ a0 (1 : Int32)) &&& (1431655765 : Int32))) &&& (858993459 : Int32)) + ((ush_ (a0 - ((ush_ a0 (1 : Int32)) &&& (1431655765 : Int32))) (2 : Int32)) &&& (858993459 : Int32))) + (ush_ (((a0 - ((ush_ a0 (1 : Int32)) &&& (1431655765 : Int32))) &&& (858993459 : Int32)) + ((ush_ (a0 - ((ush_ a0 (1 : Int32)) &&& (1431655765 : Int32))) (2 : Int32)) &&& (858993459 : Int32))) (4 : Int32))) &&& (252645135 : Int32)) (8 : Int32))))]) dJ6_bitCount_0f7a4_40 rfl (by decide) rfl ?_
  refine pw_iload_n dJ6_bitCount_0f7a4_41 rfl 0 rfl ?_
  refine pw_iload_n dJ6_bitCount_0f7a4_42 rfl 0 rfl ?_
  refine pw_bipush (v := (16 : Int32)) dJ6_bitCount_0f7a4_43 (by decide) ?_
  refine pw_iushr dJ6_bitCount_0f7a4_45 ?_
  refine pw_iadd dJ6_bitCount_0f7a4_46 ?_
  refine pw_istore_n (lv' := [(0, .int (((((((a0 - ((ush_ a0 (1 : Int32)) &&& (1431655765 : Int32))) &&& (858993459 : Int32)) + ((ush_ (a0 - ((ush_ a0 (1 : Int32)) &&& (1431655765 : Int32))) (2 : Int32)) &&& (858993459 : Int32))) + (ush_ (((a0 - ((ush_ a0 (1 : Int32)) &&& (1431655765 : Int32))) &&& (858993459 : Int32)) + ((ush_ (a0 - ((ush_ a0 (1 : Int32)) &&& (1431655765 : Int32))) (2 : Int32)) &&& (858993459 : Int32))) (4 : Int32))) &&& (252645135 : Int32)) + (ush_ (((((a0 - ((ush_ a0 (1 : Int32)) &&& (1431655765 : Int32))) &&& (858993459 : Int32)) + ((ush_ (a0 - ((ush_ a0 (1 : Int32)) &&& (1431655765 : Int32))) (2 : Int32)) &&& (858993459 : Int32))) + (ush_ (((a0 - ((ush_ a0 (1 : Int32)) &&& (1431655765 : Int32))) &&& (858993459 : Int32)) + ((ush_ (a0 - ((ush_ a0 (1 : Int32)) &&& (1431655765 : Int32))) (2 : Int32)) &&& (858993459 : Int32))) (4 : Int32))) &&& (252645135 : Int32)) (8 : Int32))) + (ush_ ((((((a0 - ((ush_ a0 (1 : Int32)) &&& (1431655765 : Int32))) &&& (858993459 : Int32)) + ((ush_ (a0 - ((ush_ a0 (1 : Int32)) &&& (1431655765 : Int32))) (2 : Int32)) &&& (858993459 : Int32))) + (ush_ (((a0 - ((ush_ a0 (1 : Int32)) &&& (1431655765 : Int32))) &&& (858993459 : Int32)) + ((ush_ (a0 - ((ush_ a0 (1 : Int32)) &&& (1431655765 : Int32))) (2 : Int32)) &&& (858993459 : Int32))) (4 : Int32))) &&& (252645135 : Int32)) + (ush_ (((((a0 - ((ush_ a0 (1 : Int32)) &&& (1431655765 : Int32))) &&& (858993459 : Int32)) + ((ush_ (a0 - ((ush_ a0 (1 : Int32)) &&& (1431655765 : Int32))) (2 : Int32)) &&& (858993459 : Int32))) + (ush_ (((a0 - ((ush_ a0 (1 : Int32)) &&& (1431655765 : Int32))) &&& (858993459 : Int32)) + ((ush_ (a0 - ((ush_ a0 (1 : Int32)) &&& (1431655765 : Int32))) (2 : Int32)) &&& (858993459 : Int32))) (4 : Int32))) &&& (252645135 : Int32)) (8 : Int32))) (16 : Int32))))]) dJ6_bitCount_0f7a4_47 rfl (by decide) rfl ?_
  refine pw_iload_n dJ6_bitCount_0f7a4_48 rfl 0 rfl ?_
  refine pw_bipush (v := (63 : Int32)) dJ6_bitCount_0f7a4_49 (by decide) ?_
  refine pw_iand dJ6_bitCount_0f7a4_51 ?_
  exact pw_ireturn dJ6_bitCount_0f7a4_52 rfl rfl ⟨_, rfl, h⟩
def wp_X2_pop  (G : GS) (Q : Int32 → GS → Prop) : Prop := ((0 < (G 38 1) → (vp_in ((G 38 1) - (1 : Int32)) 32 ∧ Q (G 39 (((G 38 1) - (1 : Int32)).toNatClampNeg)) (gu_ G 38 1 ((G 38 1) - (1 : Int32))))) ∧ (¬ 0 < (G 38 1) → Q (0 : Int32) G))
set_option maxRecDepth 100000 in
set_option maxHeartbeats 4000000 in
theorem s_X2_pop {E : EV} (hE : EI_ E)  {G : GS} {Q : Int32 → GS → Prop} (h : wp_X2_pop  G Q) : PMet E mi_X2_pop 1 [.ref (ev_ad E 38)] G (qi_ Q) := by
  refine pm_of hE (by decide) (Nat.le_of_ble_eq_true rfl) ?_
  refine pw_loc (lv' := [(0, .ref (ev_ad E 38))]) [0] rfl ?_
  refine pw_aload_n dX2_pop_0 rfl 0 rfl ?_
  refine pw_geti (v := G 38 1) dX2_pop_1 fa_X2_118 ly_38 rfl rfl ?_
  refine pw_if_gt (tgt := 9) dX2_pop_4 (by decide) (fun hc => ?_) (fun hc => ?_)
  · have h := h.1 hc
    refine pw_aload_n dX2_pop_9 rfl 0 rfl ?_
    refine pw_dup dX2_pop_10 rfl ?_
    refine pw_geti (v := G 38 1) dX2_pop_11 fa_X2_118 ly_38 rfl rfl ?_
    refine pw_iconst (v := (1 : Int32)) dX2_pop_14 (by decide) ?_
    refine pw_isub dX2_pop_15 ?_
    refine pw_puti dX2_pop_16 fp_X2_118 ly_38 rfl ?_
    refine pw_aload_n dX2_pop_19 rfl 0 rfl ?_
    refine pw_getr (q := 39) dX2_pop_20 fa_X2_11 ly_38 rfl ?_
    refine pw_aload_n dX2_pop_23 rfl 0 rfl ?_
    refine pw_geti (v := (G 38 1) - (1 : Int32)) dX2_pop_24 fa_X2_118 ly_38 rfl rfl ?_
    obtain ⟨hv1, h⟩ := h
    refine pw_iald (v := G 39 (((G 38 1) - (1 : Int32)).toNatClampNeg)) dX2_pop_27 ly_39 hv1 rfl ?_
    exact pw_ireturn dX2_pop_28 rfl rfl ⟨_, rfl, h⟩
  · have h := h.2 hc
    refine pw_iconst (v := (0 : Int32)) dX2_pop_7 (by decide) ?_
    exact pw_ireturn dX2_pop_8 rfl rfl ⟨_, rfl, h⟩
def wp_X2_joined (a0 : Int32) (a1 : Int32) (a2 : Int32) (G : GS) (Q : Int32 → GS → Prop) : Prop := ((a0 = 42 → Q (a1 * a2) G) ∧ (a0 = 43 → Q (a1 + a2) G) ∧ (a0 = 45 → Q (a1 - a2) G) ∧ (a0 = 47 → ((¬ a2 = 0 → ((¬ a2 = 0) ∧ Q (a1 / a2) G)) ∧ (a2 = 0 → Q (0 : Int32) G))) ∧ (a0 = 60 → ((a2 ≤ a1 → Q (0 : Int32) G) ∧ (¬ a2 ≤ a1 → Q (1 : Int32) G))) ∧ (a0 = 61 → ((¬ a1 = a2 → Q (0 : Int32) G) ∧ (a1 = a2 → Q (1 : Int32) G))) ∧ (a0 = 62 → ((a1 ≤ a2 → Q (0 : Int32) G) ∧ (¬ a1 ≤ a2 → Q (1 : Int32) G))) ∧ (a0 = 203 → Q (a1 ||| a2) G) ∧ (a0 = 204 → Q (a1 &&& a2) G) ∧ (¬ a0 = 42 → ¬ a0 = 43 → ¬ a0 = 45 → ¬ a0 = 47 → ¬ a0 = 60 → ¬ a0 = 61 → ¬ a0 = 62 → ¬ a0 = 203 → ¬ a0 = 204 → Q (0 : Int32) G))
set_option maxRecDepth 100000 in
set_option maxHeartbeats 4000000 in
theorem s_X2_joined {E : EV} (hE : EI_ E) {a0 : Int32} {a1 : Int32} {a2 : Int32} {G : GS} {Q : Int32 → GS → Prop} (h : wp_X2_joined a0 a1 a2 G Q) : PMet E mi_X2_joined 1 [.int a0, .int a1, .int a2] G (qi_ Q) := by
  refine pm_of hE (by decide) (Nat.le_of_ble_eq_true rfl) ?_
  refine pw_loc (lv' := [(0, .int a0), (1, .int a1), (2, .int a2)]) [0, 1, 2] rfl ?_
  refine pw_iload_n dX2_joined_0 rfl 0 rfl ?_
  by_cases hs0 : a0 = (42 : Int32)
  · have h := h.1 hs0
    refine pw_lsw (tgt := 92) (off := 91) dX2_joined_1 (by decide +kernel) (by rw [hs0]; decide +kernel) (by decide) ?_
    refine pw_iload_n dX2_joined_92 rfl 1 rfl ?_
    refine pw_iload_n dX2_joined_93 rfl 2 rfl ?_
    refine pw_imul dX2_joined_94 ?_
    exact pw_ireturn dX2_joined_95 rfl rfl ⟨_, rfl, h⟩
  by_cases hs1 : a0 = (43 : Int32)
  · have h := h.2.1 hs1
    refine pw_lsw (tgt := 84) (off := 83) dX2_joined_1 (by decide +kernel) (by rw [hs1]; decide +kernel) (by decide) ?_
    refine pw_iload_n dX2_joined_84 rfl 1 rfl ?_
    refine pw_iload_n dX2_joined_85 rfl 2 rfl ?_
    refine pw_iadd dX2_joined_86 ?_
    exact pw_ireturn dX2_joined_87 rfl rfl ⟨_, rfl, h⟩
  by_cases hs2 : a0 = (45 : Int32)
  · have h := h.2.2.1 hs2
    refine pw_lsw (tgt := 88) (off := 87) dX2_joined_1 (by decide +kernel) (by rw [hs2]; decide +kernel) (by decide) ?_
    refine pw_iload_n dX2_joined_88 rfl 1 rfl ?_
    refine pw_iload_n dX2_joined_89 rfl 2 rfl ?_
    refine pw_isub dX2_joined_90 ?_
    exact pw_ireturn dX2_joined_91 rfl rfl ⟨_, rfl, h⟩
  by_cases hs3 : a0 = (47 : Int32)
  · have h := h.2.2.2.1 hs3
    refine pw_lsw (tgt := 96) (off := 95) dX2_joined_1 (by decide +kernel) (by rw [hs3]; decide +kernel) (by decide) ?_
    refine pw_iload_n dX2_joined_96 rfl 2 rfl ?_
    refine pw_if_ne (tgt := 104) dX2_joined_97 (by decide) (fun hc => ?_) (fun hc => ?_)
    · have h := h.1 hc
      refine pw_iload_n dX2_joined_104 rfl 1 rfl ?_
      refine pw_iload_n dX2_joined_105 rfl 2 rfl ?_
      obtain ⟨hv1, h⟩ := h
      refine pw_idiv dX2_joined_106 hv1 ?_
      exact pw_ireturn dX2_joined_107 rfl rfl ⟨_, rfl, h⟩
    · have h := h.2 hc
      refine pw_iconst (v := (0 : Int32)) dX2_joined_100 (by decide) ?_
      refine pw_goto (tgt := 107) dX2_joined_101 (by decide) ?_
      exact pw_ireturn dX2_joined_107 rfl rfl ⟨_, rfl, h⟩
  by_cases hs4 : a0 = (60 : Int32)
  · have h := h.2.2.2.2.1 hs4
    refine pw_lsw (tgt := 108) (off := 107) dX2_joined_1 (by decide +kernel) (by rw [hs4]; decide +kernel) (by decide) ?_
    refine pw_iload_n dX2_joined_108 rfl 1 rfl ?_
    refine pw_iload_n dX2_joined_109 rfl 2 rfl ?_
    refine pw_icmp_ge (tgt := 117) dX2_joined_110 (by decide) (fun hc => ?_) (fun hc => ?_)
    · have h := h.1 hc
      refine pw_iconst (v := (0 : Int32)) dX2_joined_117 (by decide) ?_
      exact pw_ireturn dX2_joined_118 rfl rfl ⟨_, rfl, h⟩
    · have h := h.2 hc
      refine pw_iconst (v := (1 : Int32)) dX2_joined_113 (by decide) ?_
      refine pw_goto (tgt := 118) dX2_joined_114 (by decide) ?_
      exact pw_ireturn dX2_joined_118 rfl rfl ⟨_, rfl, h⟩
  by_cases hs5 : a0 = (61 : Int32)
  · have h := h.2.2.2.2.2.1 hs5
    refine pw_lsw (tgt := 119) (off := 118) dX2_joined_1 (by decide +kernel) (by rw [hs5]; decide +kernel) (by decide) ?_
    refine pw_iload_n dX2_joined_119 rfl 1 rfl ?_
    refine pw_iload_n dX2_joined_120 rfl 2 rfl ?_
    refine pw_icmp_ne (tgt := 128) dX2_joined_121 (by decide) (fun hc => ?_) (fun hc => ?_)
    · have h := h.1 hc
      refine pw_iconst (v := (0 : Int32)) dX2_joined_128 (by decide) ?_
      exact pw_ireturn dX2_joined_129 rfl rfl ⟨_, rfl, h⟩
    · have h := h.2 hc
      refine pw_iconst (v := (1 : Int32)) dX2_joined_124 (by decide) ?_
      refine pw_goto (tgt := 129) dX2_joined_125 (by decide) ?_
      exact pw_ireturn dX2_joined_129 rfl rfl ⟨_, rfl, h⟩
  by_cases hs6 : a0 = (62 : Int32)
  · have h := h.2.2.2.2.2.2.1 hs6
    refine pw_lsw (tgt := 130) (off := 129) dX2_joined_1 (by decide +kernel) (by rw [hs6]; decide +kernel) (by decide) ?_
    refine pw_iload_n dX2_joined_130 rfl 1 rfl ?_
    refine pw_iload_n dX2_joined_131 rfl 2 rfl ?_
    refine pw_icmp_le (tgt := 139) dX2_joined_132 (by decide) (fun hc => ?_) (fun hc => ?_)
    · have h := h.1 hc
      refine pw_iconst (v := (0 : Int32)) dX2_joined_139 (by decide) ?_
      exact pw_ireturn dX2_joined_140 rfl rfl ⟨_, rfl, h⟩
    · have h := h.2 hc
      refine pw_iconst (v := (1 : Int32)) dX2_joined_135 (by decide) ?_
      refine pw_goto (tgt := 140) dX2_joined_136 (by decide) ?_
      exact pw_ireturn dX2_joined_140 rfl rfl ⟨_, rfl, h⟩
  by_cases hs7 : a0 = (203 : Int32)
  · have h := h.2.2.2.2.2.2.2.1 hs7
    refine pw_lsw (tgt := 145) (off := 144) dX2_joined_1 (by decide +kernel) (by rw [hs7]; decide +kernel) (by decide) ?_
    refine pw_iload_n dX2_joined_145 rfl 1 rfl ?_
    refine pw_iload_n dX2_joined_146 rfl 2 rfl ?_
    refine pw_ior dX2_joined_147 ?_
    exact pw_ireturn dX2_joined_148 rfl rfl ⟨_, rfl, h⟩
  by_cases hs8 : a0 = (204 : Int32)
  · have h := h.2.2.2.2.2.2.2.2.1 hs8
    refine pw_lsw (tgt := 141) (off := 140) dX2_joined_1 (by decide +kernel) (by rw [hs8]; decide +kernel) (by decide) ?_
    refine pw_iload_n dX2_joined_141 rfl 1 rfl ?_
    refine pw_iload_n dX2_joined_142 rfl 2 rfl ?_
    refine pw_iand dX2_joined_143 ?_
    exact pw_ireturn dX2_joined_144 rfl rfl ⟨_, rfl, h⟩
  have h := h.2.2.2.2.2.2.2.2.2 hs0 hs1 hs2 hs3 hs4 hs5 hs6 hs7 hs8
  refine pw_lsw (tgt := 149) (off := 148) dX2_joined_1 (by decide +kernel) (by rw [lv_osw hs0 (by decide)]; rw [lv_osw hs1 (by decide)]; rw [lv_osw hs2 (by decide)]; rw [lv_osw hs3 (by decide)]; rw [lv_osw hs4 (by decide)]; rw [lv_osw hs5 (by decide)]; rw [lv_osw hs6 (by decide)]; rw [lv_osw hs7 (by decide)]; rw [lv_osw hs8 (by decide)];  rfl) (by decide) ?_
  refine pw_iconst (v := (0 : Int32)) dX2_joined_149 (by decide) ?_
  exact pw_ireturn dX2_joined_150 rfl rfl ⟨_, rfl, h⟩
def wp_X2_push (a1 : Int32) (G : GS) (Q : Int32 → GS → Prop) : Prop := (((32 : Int32) ≤ (G 38 1) → Q 0 G) ∧ (¬ (32 : Int32) ≤ (G 38 1) → (vp_in (G 38 1) 32 ∧ Q 0 (gu_ (gu_ G 39 ((G 38 1).toNatClampNeg) a1) 38 1 ((G 38 1) + (1 : Int32))))))
set_option maxRecDepth 100000 in
set_option maxHeartbeats 4000000 in
theorem s_X2_push {E : EV} (hE : EI_ E) {a1 : Int32} {G : GS} {Q : Int32 → GS → Prop} (h : wp_X2_push a1 G Q) : PMet E mi_X2_push 1 [.ref (ev_ad E 38), .int a1] G (qv_ Q) := by
  refine pm_of hE (by decide) (Nat.le_of_ble_eq_true rfl) ?_
  refine pw_loc (lv' := [(0, .ref (ev_ad E 38)), (1, .int a1)]) [0, 1] rfl ?_
  refine pw_aload_n dX2_push_0 rfl 0 rfl ?_
  refine pw_geti (v := G 38 1) dX2_push_1 fa_X2_118 ly_38 rfl rfl ?_
  refine pw_bipush (v := (32 : Int32)) dX2_push_4 (by decide) ?_
  refine pw_icmp_ge (tgt := 29) dX2_push_6 (by decide) (fun hc => ?_) (fun hc => ?_)
  · have h := h.1 hc
    exact pw_return dX2_push_29 rfl ⟨rfl, h⟩
  · have h := h.2 hc
    refine pw_aload_n dX2_push_9 rfl 0 rfl ?_
    refine pw_getr (q := 39) dX2_push_10 fa_X2_11 ly_38 rfl ?_
    refine pw_aload_n dX2_push_13 rfl 0 rfl ?_
    refine pw_geti (v := G 38 1) dX2_push_14 fa_X2_118 ly_38 rfl rfl ?_
    refine pw_iload_n dX2_push_17 rfl 1 rfl ?_
    obtain ⟨hv1, h⟩ := h
    refine pw_iast (z := ((G 38 1).toNatClampNeg)) dX2_push_18 ly_39 hv1 rfl ?_
    refine pw_aload_n dX2_push_19 rfl 0 rfl ?_
    refine pw_dup dX2_push_20 rfl ?_
    refine pw_geti (v := G 38 1) dX2_push_21 fa_X2_118 ly_38 rfl rfl ?_
    refine pw_iconst (v := (1 : Int32)) dX2_push_24 (by decide) ?_
    refine pw_iadd dX2_push_25 ?_
    refine pw_puti dX2_push_26 fp_X2_118 ly_38 rfl ?_
    exact pw_return dX2_push_29 rfl ⟨rfl, h⟩
def wp_X2_valueOf (a1 : Int32) (G : GS) (Q : Int32 → GS → Prop) : Prop := ((a1 = 206 → Q (G 38 2) G) ∧ (a1 = 207 → Q (G 38 3) G) ∧ (a1 = 208 → Q ((G 38 3) - (G 38 2)) G) ∧ (a1 = 209 → Q (G 38 8) G) ∧ (a1 = 210 → Q (if (if 0 ≤ (G 38 3) - (G 38 8) then ((G 38 3) - (G 38 8)) else 0 - ((G 38 3) - (G 38 8))) < (if 0 ≤ (G 38 2) - (G 38 8) then ((G 38 2) - (G 38 8)) else 0 - ((G 38 2) - (G 38 8))) then if 0 ≤ (G 38 3) - (G 38 8) then ((G 38 3) - (G 38 8)) else 0 - ((G 38 3) - (G 38 8)) else if 0 ≤ (G 38 2) - (G 38 8) then ((G 38 2) - (G 38 8)) else 0 - ((G 38 2) - (G 38 8))) G) ∧ (a1 = 211 → Q (G 38 5) G) ∧ (a1 = 212 → Q (G 38 9) G) ∧ (a1 = 213 → Q (G 38 6) G) ∧ (a1 = 214 → Q (G 38 7) G) ∧ (¬ a1 = 206 → ¬ a1 = 207 → ¬ a1 = 208 → ¬ a1 = 209 → ¬ a1 = 210 → ¬ a1 = 211 → ¬ a1 = 212 → ¬ a1 = 213 → ¬ a1 = 214 → Q (0 : Int32) G))
set_option maxRecDepth 100000 in
set_option maxHeartbeats 4000000 in
theorem s_X2_valueOf {E : EV} (hE : EI_ E) {a1 : Int32} {G : GS} {Q : Int32 → GS → Prop} (h : wp_X2_valueOf a1 G Q) : PMet E mi_X2_valueOf 1 [.ref (ev_ad E 38), .int a1] G (qi_ Q) := by
  refine pm_of hE (by decide) (Nat.le_of_ble_eq_true rfl) ?_
  refine pw_loc (lv' := [(0, .ref (ev_ad E 38)), (1, .int a1)]) [0, 1] rfl ?_
  refine pw_iload_n dX2_valueOf_0 rfl 1 rfl ?_
  by_cases hs0 : a1 = (206 : Int32)
  · have h := h.1 hs0
    refine pw_tswIn (tgt := 52) (off := 51) (206 : Int32) dX2_valueOf_1 hs0 (by decide) (by decide) (by decide +kernel) (by decide) ?_
    refine pw_aload_n dX2_valueOf_52 rfl 0 rfl ?_
    refine pw_geti (v := G 38 2) dX2_valueOf_53 fa_X2_58 ly_38 rfl rfl ?_
    exact pw_ireturn dX2_valueOf_56 rfl rfl ⟨_, rfl, h⟩
  by_cases hs1 : a1 = (207 : Int32)
  · have h := h.2.1 hs1
    refine pw_tswIn (tgt := 57) (off := 56) (207 : Int32) dX2_valueOf_1 hs1 (by decide) (by decide) (by decide +kernel) (by decide) ?_
    refine pw_aload_n dX2_valueOf_57 rfl 0 rfl ?_
    refine pw_geti (v := G 38 3) dX2_valueOf_58 fa_X2_64 ly_38 rfl rfl ?_
    exact pw_ireturn dX2_valueOf_61 rfl rfl ⟨_, rfl, h⟩
  by_cases hs2 : a1 = (208 : Int32)
  · have h := h.2.2.1 hs2
    refine pw_tswIn (tgt := 62) (off := 61) (208 : Int32) dX2_valueOf_1 hs2 (by decide) (by decide) (by decide +kernel) (by decide) ?_
    refine pw_aload_n dX2_valueOf_62 rfl 0 rfl ?_
    refine pw_geti (v := G 38 3) dX2_valueOf_63 fa_X2_64 ly_38 rfl rfl ?_
    refine pw_aload_n dX2_valueOf_66 rfl 0 rfl ?_
    refine pw_geti (v := G 38 2) dX2_valueOf_67 fa_X2_58 ly_38 rfl rfl ?_
    refine pw_isub dX2_valueOf_70 ?_
    exact pw_ireturn dX2_valueOf_71 rfl rfl ⟨_, rfl, h⟩
  by_cases hs3 : a1 = (209 : Int32)
  · have h := h.2.2.2.1 hs3
    refine pw_tswIn (tgt := 72) (off := 71) (209 : Int32) dX2_valueOf_1 hs3 (by decide) (by decide) (by decide +kernel) (by decide) ?_
    refine pw_aload_n dX2_valueOf_72 rfl 0 rfl ?_
    refine pw_geti (v := G 38 8) dX2_valueOf_73 fa_X2_88 ly_38 rfl rfl ?_
    exact pw_ireturn dX2_valueOf_76 rfl rfl ⟨_, rfl, h⟩
  by_cases hs4 : a1 = (210 : Int32)
  · have h := h.2.2.2.2.1 hs4
    refine pw_tswIn (tgt := 77) (off := 76) (210 : Int32) dX2_valueOf_1 hs4 (by decide) (by decide) (by decide +kernel) (by decide) ?_
    refine pw_aload_n dX2_valueOf_77 rfl 0 rfl ?_
    refine pw_geti (v := G 38 2) dX2_valueOf_78 fa_X2_58 ly_38 rfl rfl ?_
    refine pw_aload_n dX2_valueOf_81 rfl 0 rfl ?_
    refine pw_geti (v := G 38 8) dX2_valueOf_82 fa_X2_88 ly_38 rfl rfl ?_
    refine pw_isub dX2_valueOf_85 ?_
    refine pw_mabs dX2_valueOf_86 jm_X2_139 (rm_ok1 (by decide)) rm_0 (Nat.le_of_ble_eq_true rfl) ?_
    refine pw_aload_n dX2_valueOf_89 rfl 0 rfl ?_
    refine pw_geti (v := G 38 3) dX2_valueOf_90 fa_X2_64 ly_38 rfl rfl ?_
    refine pw_aload_n dX2_valueOf_93 rfl 0 rfl ?_
    refine pw_geti (v := G 38 8) dX2_valueOf_94 fa_X2_88 ly_38 rfl rfl ?_
    refine pw_isub dX2_valueOf_97 ?_
    refine pw_mabs dX2_valueOf_98 jm_X2_139 (rm_ok1 (by decide)) rm_0 (Nat.le_of_ble_eq_true rfl) ?_
    refine pw_mmin dX2_valueOf_101 jm_X2_53 (rm_ok1 (by decide)) rm_0 (Nat.le_of_ble_eq_true rfl) ?_
    exact pw_ireturn dX2_valueOf_104 rfl rfl ⟨_, rfl, h⟩
  by_cases hs5 : a1 = (211 : Int32)
  · have h := h.2.2.2.2.2.1 hs5
    refine pw_tswIn (tgt := 105) (off := 104) (211 : Int32) dX2_valueOf_1 hs5 (by decide) (by decide) (by decide +kernel) (by decide) ?_
    refine pw_aload_n dX2_valueOf_105 rfl 0 rfl ?_
    refine pw_geti (v := G 38 5) dX2_valueOf_106 fa_X2_73 ly_38 rfl rfl ?_
    exact pw_ireturn dX2_valueOf_109 rfl rfl ⟨_, rfl, h⟩
  by_cases hs6 : a1 = (212 : Int32)
  · have h := h.2.2.2.2.2.2.1 hs6
    refine pw_tswIn (tgt := 110) (off := 109) (212 : Int32) dX2_valueOf_1 hs6 (by decide) (by decide) (by decide +kernel) (by decide) ?_
    refine pw_aload_n dX2_valueOf_110 rfl 0 rfl ?_
    refine pw_geti (v := G 38 9) dX2_valueOf_111 fa_X2_96 ly_38 rfl rfl ?_
    exact pw_ireturn dX2_valueOf_114 rfl rfl ⟨_, rfl, h⟩
  by_cases hs7 : a1 = (213 : Int32)
  · have h := h.2.2.2.2.2.2.2.1 hs7
    refine pw_tswIn (tgt := 115) (off := 114) (213 : Int32) dX2_valueOf_1 hs7 (by decide) (by decide) (by decide +kernel) (by decide) ?_
    refine pw_aload_n dX2_valueOf_115 rfl 0 rfl ?_
    refine pw_geti (v := G 38 6) dX2_valueOf_116 fa_X2_79 ly_38 rfl rfl ?_
    exact pw_ireturn dX2_valueOf_119 rfl rfl ⟨_, rfl, h⟩
  by_cases hs8 : a1 = (214 : Int32)
  · have h := h.2.2.2.2.2.2.2.2.1 hs8
    refine pw_tswIn (tgt := 120) (off := 119) (214 : Int32) dX2_valueOf_1 hs8 (by decide) (by decide) (by decide +kernel) (by decide) ?_
    refine pw_aload_n dX2_valueOf_120 rfl 0 rfl ?_
    refine pw_geti (v := G 38 7) dX2_valueOf_121 fa_X2_85 ly_38 rfl rfl ?_
    exact pw_ireturn dX2_valueOf_124 rfl rfl ⟨_, rfl, h⟩
  have h := h.2.2.2.2.2.2.2.2.2 hs0 hs1 hs2 hs3 hs4 hs5 hs6 hs7 hs8
  refine pw_tswOut (tgt := 125) dX2_valueOf_1 (by have := lv_neT hs0 (show (206 : Int32).toInt = 206 from by decide); have := lv_neT hs1 (show (207 : Int32).toInt = 207 from by decide); have := lv_neT hs2 (show (208 : Int32).toInt = 208 from by decide); have := lv_neT hs3 (show (209 : Int32).toInt = 209 from by decide); have := lv_neT hs4 (show (210 : Int32).toInt = 210 from by decide); have := lv_neT hs5 (show (211 : Int32).toInt = 211 from by decide); have := lv_neT hs6 (show (212 : Int32).toInt = 212 from by decide); have := lv_neT hs7 (show (213 : Int32).toInt = 213 from by decide); have := lv_neT hs8 (show (214 : Int32).toInt = 214 from by decide);  omega) (by decide) ?_
  refine pw_iconst (v := (0 : Int32)) dX2_valueOf_125 (by decide) ?_
  exact pw_ireturn dX2_valueOf_126 rfl rfl ⟨_, rfl, h⟩
def lp_X2_isSo_15 (Q : Int32 → GS → Prop)  : Nat → Int32 → Int32 → GS → Prop
  | 0, _, _, _ => False
  | n + 1, x3, x4, G => ((x3 ≤ x4 → wp_X2_pop G (fun r1 G2 => ((¬ r1 = (1 : Int32) → Q (0 : Int32) G2) ∧ (r1 = (1 : Int32) → Q (1 : Int32) G2)))) ∧ (¬ x3 ≤ x4 → (vp_in x4 400 ∧ (((G 11 x4.toNatClampNeg) < 0 → (((-206 : Int32) < (G 11 x4.toNatClampNeg) → ((¬ (G 11 x4.toNatClampNeg) = (-205 : Int32) → wp_X2_pop G (fun r4 G5 => wp_X2_pop G5 (fun r6 G7 => wp_X2_joined (-(G 11 x4.toNatClampNeg)) r6 r4 G7 (fun r8 G9 => wp_X2_push r8 G9 (fun _ G11 => lp_X2_isSo_15 Q n x3 (x4 + 1) G11))))) ∧ ((G 11 x4.toNatClampNeg) = (-205 : Int32) → wp_X2_pop G (fun r12 G13 => wp_X2_push ((1 : Int32) - r12) G13 (fun _ G15 => lp_X2_isSo_15 Q n x3 (x4 + 1) G15))))) ∧ (¬ (-206 : Int32) < (G 11 x4.toNatClampNeg) → wp_X2_valueOf (-(G 11 x4.toNatClampNeg)) G (fun r16 G17 => wp_X2_push r16 G17 (fun _ G19 => lp_X2_isSo_15 Q n x3 (x4 + 1) G19))))) ∧ (¬ (G 11 x4.toNatClampNeg) < 0 → wp_X2_push (G 11 x4.toNatClampNeg) G (fun _ G21 => lp_X2_isSo_15 Q n x3 (x4 + 1) G21))))))
set_option maxRecDepth 100000 in
set_option maxHeartbeats 4000000 in
theorem t_X2_isSo_15 {E : EV} (hE : EI_ E) (Q : Int32 → GS → Prop)  : ∀ (n : Nat) (x3 : Int32) (x4 : Int32) (G : GS), lp_X2_isSo_15 Q n x3 x4 G → PW_ E mi_X2_isSo (rm_ 2) 0 0 15 [(0, .ref (ev_ad E 38)), (1, .ref (ev_ad E 9)), (3, .int x3), (4, .int x4)] [] G (qi_ Q) := by
  intro n
  induction n with
  | zero => intro x3 x4 G h; exact h.elim
  | succ n ih =>
    intro x3 x4 G h
    refine pw_iload dX2_isSo_15 3 rfl ?_
    refine pw_iload_n dX2_isSo_17 rfl 2 rfl ?_
    refine pw_icmp_ge (tgt := 115) dX2_isSo_18 (by decide) (fun hc => ?_) (fun hc => ?_)
    · have h := h.1 hc
      refine pw_aload_n dX2_isSo_115 rfl 0 rfl ?_
      refine pw_callV (As := []) (rest := []) (s_X2_pop hE h) dX2_isSo_116 ly_38 rfl (Or.inl ml_X2_131) cm_X2_pop rfl (rm_ok (by decide)) rm_0 (Nat.le_of_ble_eq_true rfl) ?_
      rintro _ G2 ⟨r1, rfl, h⟩
      refine pw_iconst (v := (1 : Int32)) dX2_isSo_119 (by decide) ?_
      refine pw_icmp_ne (tgt := 127) dX2_isSo_120 (by decide) (fun hc => ?_) (fun hc => ?_)
      · have h := h.1 hc
        refine pw_iconst (v := (0 : Int32)) dX2_isSo_127 (by decide) ?_
        exact pw_ireturn dX2_isSo_128 rfl rfl ⟨_, rfl, h⟩
      · have h := h.2 hc
        refine pw_iconst (v := (1 : Int32)) dX2_isSo_123 (by decide) ?_
        refine pw_goto (tgt := 128) dX2_isSo_124 (by decide) ?_
        exact pw_ireturn dX2_isSo_128 rfl rfl ⟨_, rfl, h⟩
    · have h := h.2 hc
      refine pw_aload_n dX2_isSo_21 rfl 1 rfl ?_
      refine pw_getr (q := 11) dX2_isSo_22 fa_X2_121 ly_9 rfl ?_
      refine pw_iload dX2_isSo_25 3 rfl ?_
      obtain ⟨hv3, h⟩ := h
      refine pw_iald (v := G 11 x4.toNatClampNeg) dX2_isSo_27 ly_11 hv3 rfl ?_
      refine pw_istore (lv' := [(5, .int (G 11 x4.toNatClampNeg)), (0, .ref (ev_ad E 38)), (1, .ref (ev_ad E 9)), (3, .int x3), (4, .int x4)]) dX2_isSo_28 (by decide) rfl ?_
      refine pw_iload dX2_isSo_30 0 rfl ?_
      refine pw_if_lt (tgt := 44) dX2_isSo_32 (by decide) (fun hc => ?_) (fun hc => ?_)
      · have h := h.1 hc
        refine pw_iload dX2_isSo_44 0 rfl ?_
        refine pw_sipush (v := (-206 : Int32)) dX2_isSo_46 (by decide) ?_
        refine pw_icmp_gt (tgt := 66) dX2_isSo_49 (by decide) (fun hc => ?_) (fun hc => ?_)
        · have h := h.1 hc
          refine pw_iload dX2_isSo_66 0 rfl ?_
          refine pw_sipush (v := (-205 : Int32)) dX2_isSo_68 (by decide) ?_
          refine pw_icmp_ne (tgt := 87) dX2_isSo_71 (by decide) (fun hc => ?_) (fun hc => ?_)
          · have h := h.1 hc
            refine pw_aload_n dX2_isSo_87 rfl 1 rfl ?_
            refine pw_callV (As := []) (rest := []) (s_X2_pop hE h) dX2_isSo_88 ly_38 rfl (Or.inl ml_X2_131) cm_X2_pop rfl (rm_ok (by decide)) rm_0 (Nat.le_of_ble_eq_true rfl) ?_
            rintro _ G5 ⟨r4, rfl, h⟩
            refine pw_istore (lv' := [(6, .int r4), (5, .int (G 11 x4.toNatClampNeg)), (0, .ref (ev_ad E 38)), (1, .ref (ev_ad E 9)), (3, .int x3), (4, .int x4)]) dX2_isSo_91 (by decide) rfl ?_
            refine pw_aload_n dX2_isSo_93 rfl 2 rfl ?_
            refine pw_iload dX2_isSo_94 1 rfl ?_
            refine pw_ineg dX2_isSo_96 ?_
            refine pw_aload_n dX2_isSo_97 rfl 2 rfl ?_
            refine pw_callV (As := []) (rest := [.int (-(G 11 x4.toNatClampNeg)), .ref (ev_ad E 38)]) (s_X2_pop hE h) dX2_isSo_98 ly_38 rfl (Or.inl ml_X2_131) cm_X2_pop rfl (rm_ok (by decide)) rm_0 (Nat.le_of_ble_eq_true rfl) ?_
            rintro _ G7 ⟨r6, rfl, h⟩
            refine pw_iload dX2_isSo_101 0 rfl ?_
            refine pw_callS (As := [.int (-(G 11 x4.toNatClampNeg)), .int r6, .int r4]) (rest := [.ref (ev_ad E 38)]) (s_X2_joined hE h) dX2_isSo_103 ml_X2_135 cs_X2_joined rfl (rm_ok (by decide)) rm_0 (Nat.le_of_ble_eq_true rfl) ?_
            rintro _ G9 ⟨r8, rfl, h⟩
            refine pw_callV (As := [.int r8]) (rest := []) (s_X2_push hE h) dX2_isSo_106 ly_38 rfl (Or.inl ml_X2_124) cm_X2_push rfl (rm_ok (by decide)) rm_0 (Nat.le_of_ble_eq_true rfl) ?_
            rintro _ G11 ⟨rfl, h⟩
            refine pw_iinc (k := 5) (v := x4 + 1) (lv' := [(4, .int (x4 + 1)), (6, .int r4), (5, .int (G 11 x4.toNatClampNeg)), (0, .ref (ev_ad E 38)), (1, .ref (ev_ad E 9)), (3, .int x3)]) dX2_isSo_109 rfl rfl (by decide) rfl ?_
            refine pw_goto (tgt := 15) dX2_isSo_112 (by decide) ?_
            refine pw_loc (lv' := [(0, .ref (ev_ad E 38)), (1, .ref (ev_ad E 9)), (3, .int x3), (4, .int (x4 + 1))]) [3, 4, 5, 0] rfl ?_
            exact ih _ _ _ h
          · have h := h.2 hc
            refine pw_aload_n dX2_isSo_74 rfl 1 rfl ?_
            refine pw_iconst (v := (1 : Int32)) dX2_isSo_75 (by decide) ?_
            refine pw_aload_n dX2_isSo_76 rfl 1 rfl ?_
            refine pw_callV (As := []) (rest := [.int (1 : Int32), .ref (ev_ad E 38)]) (s_X2_pop hE h) dX2_isSo_77 ly_38 rfl (Or.inl ml_X2_131) cm_X2_pop rfl (rm_ok (by decide)) rm_0 (Nat.le_of_ble_eq_true rfl) ?_
            rintro _ G13 ⟨r12, rfl, h⟩
            refine pw_isub dX2_isSo_80 ?_
            refine pw_callV (As := [.int ((1 : Int32) - r12)]) (rest := []) (s_X2_push hE h) dX2_isSo_81 ly_38 rfl (Or.inl ml_X2_124) cm_X2_push rfl (rm_ok (by decide)) rm_0 (Nat.le_of_ble_eq_true rfl) ?_
            rintro _ G15 ⟨rfl, h⟩
            refine pw_goto (tgt := 109) dX2_isSo_84 (by decide) ?_
            refine pw_iinc (k := 4) (v := x4 + 1) (lv' := [(4, .int (x4 + 1)), (5, .int (G 11 x4.toNatClampNeg)), (0, .ref (ev_ad E 38)), (1, .ref (ev_ad E 9)), (3, .int x3)]) dX2_isSo_109 rfl rfl (by decide) rfl ?_
            refine pw_goto (tgt := 15) dX2_isSo_112 (by decide) ?_
            refine pw_loc (lv' := [(0, .ref (ev_ad E 38)), (1, .ref (ev_ad E 9)), (3, .int x3), (4, .int (x4 + 1))]) [2, 3, 4, 0] rfl ?_
            exact ih _ _ _ h
        · have h := h.2 hc
          refine pw_aload_n dX2_isSo_52 rfl 1 rfl ?_
          refine pw_aload_n dX2_isSo_53 rfl 1 rfl ?_
          refine pw_iload dX2_isSo_54 0 rfl ?_
          refine pw_ineg dX2_isSo_56 ?_
          refine pw_callV (As := [.int (-(G 11 x4.toNatClampNeg))]) (rest := [.ref (ev_ad E 38)]) (s_X2_valueOf hE h) dX2_isSo_57 ly_38 rfl (Or.inl ml_X2_128) cm_X2_valueOf rfl (rm_ok (by decide)) rm_0 (Nat.le_of_ble_eq_true rfl) ?_
          rintro _ G17 ⟨r16, rfl, h⟩
          refine pw_callV (As := [.int r16]) (rest := []) (s_X2_push hE h) dX2_isSo_60 ly_38 rfl (Or.inl ml_X2_124) cm_X2_push rfl (rm_ok (by decide)) rm_0 (Nat.le_of_ble_eq_true rfl) ?_
          rintro _ G19 ⟨rfl, h⟩
          refine pw_goto (tgt := 109) dX2_isSo_63 (by decide) ?_
          refine pw_iinc (k := 4) (v := x4 + 1) (lv' := [(4, .int (x4 + 1)), (5, .int (G 11 x4.toNatClampNeg)), (0, .ref (ev_ad E 38)), (1, .ref (ev_ad E 9)), (3, .int x3)]) dX2_isSo_109 rfl rfl (by decide) rfl ?_
          refine pw_goto (tgt := 15) dX2_isSo_112 (by decide) ?_
          refine pw_loc (lv' := [(0, .ref (ev_ad E 38)), (1, .ref (ev_ad E 9)), (3, .int x3), (4, .int (x4 + 1))]) [2, 3, 4, 0] rfl ?_
          exact ih _ _ _ h
      · have h := h.2 hc
        refine pw_aload_n dX2_isSo_35 rfl 1 rfl ?_
        refine pw_iload dX2_isSo_36 0 rfl ?_
        refine pw_callV (As := [.int (G 11 x4.toNatClampNeg)]) (rest := []) (s_X2_push hE h) dX2_isSo_38 ly_38 rfl (Or.inl ml_X2_124) cm_X2_push rfl (rm_ok (by decide)) rm_0 (Nat.le_of_ble_eq_true rfl) ?_
        rintro _ G21 ⟨rfl, h⟩
        refine pw_goto (tgt := 109) dX2_isSo_41 (by decide) ?_
        refine pw_iinc (k := 4) (v := x4 + 1) (lv' := [(4, .int (x4 + 1)), (5, .int (G 11 x4.toNatClampNeg)), (0, .ref (ev_ad E 38)), (1, .ref (ev_ad E 9)), (3, .int x3)]) dX2_isSo_109 rfl rfl (by decide) rfl ?_
        refine pw_goto (tgt := 15) dX2_isSo_112 (by decide) ?_
        refine pw_loc (lv' := [(0, .ref (ev_ad E 38)), (1, .ref (ev_ad E 9)), (3, .int x3), (4, .int (x4 + 1))]) [2, 3, 4, 0] rfl ?_
        exact ih _ _ _ h
def wp_X2_isSo (a2 : Int32) (a3 : Int32) (G : GS) (Q : Int32 → GS → Prop) : Prop := ((a2 < a3 → (∃ kf, lp_X2_isSo_15 Q kf a3 a2 (gu_ G 38 1 (0 : Int32)))) ∧ (¬ a2 < a3 → Q (1 : Int32) G))
set_option maxRecDepth 100000 in
set_option maxHeartbeats 4000000 in
theorem s_X2_isSo {E : EV} (hE : EI_ E) {a2 : Int32} {a3 : Int32} {G : GS} {Q : Int32 → GS → Prop} (h : wp_X2_isSo a2 a3 G Q) : PMet E mi_X2_isSo 2 [.ref (ev_ad E 38), .ref (ev_ad E 9), .int a2, .int a3] G (qi_ Q) := by
  refine pm_of hE (by decide) (Nat.le_of_ble_eq_true rfl) ?_
  refine pw_loc (lv' := [(0, .ref (ev_ad E 38)), (1, .ref (ev_ad E 9)), (2, .int a2), (3, .int a3)]) [0, 1, 2, 3] rfl ?_
  refine pw_iload_n dX2_isSo_0 rfl 2 rfl ?_
  refine pw_iload_n dX2_isSo_1 rfl 3 rfl ?_
  refine pw_icmp_lt (tgt := 7) dX2_isSo_2 (by decide) (fun hc => ?_) (fun hc => ?_)
  · have h := h.1 hc
    refine pw_aload_n dX2_isSo_7 rfl 0 rfl ?_
    refine pw_iconst (v := (0 : Int32)) dX2_isSo_8 (by decide) ?_
    refine pw_puti dX2_isSo_9 fp_X2_118 ly_38 rfl ?_
    refine pw_iload_n dX2_isSo_12 rfl 2 rfl ?_
    refine pw_istore (lv' := [(4, .int a2), (0, .ref (ev_ad E 38)), (1, .ref (ev_ad E 9)), (2, .int a2), (3, .int a3)]) dX2_isSo_13 (by decide) rfl ?_
    refine pw_loc (lv' := [(0, .ref (ev_ad E 38)), (1, .ref (ev_ad E 9)), (3, .int a3), (4, .int a2)]) [1, 2, 4, 0] rfl ?_
    obtain ⟨kf, h⟩ := h
    exact t_X2_isSo_15 hE Q kf _ _ _ h
  · have h := h.2 hc
    refine pw_iconst (v := (1 : Int32)) dX2_isSo_5 (by decide) ?_
    exact pw_ireturn dX2_isSo_6 rfl rfl ⟨_, rfl, h⟩
def lp_X2_hearsThem_56 (Q : Int32 → GS → Prop)  : Nat → Int32 → Int32 → GS → Prop
  | 0, _, _, _ => False
  | n + 1, x5, x6, G => (((G 9 0) ≤ x6 → Q (1 : Int32) G) ∧ (¬ (G 9 0) ≤ x6 → (vp_in x6 16 ∧ wp_X2_isSo x5 (G 10 x6.toNatClampNeg) G (fun r7 G8 => ((r7 = 0 → lp_X2_hearsThem_56 Q n (G8 10 x6.toNatClampNeg) (x6 + 1) G8) ∧ (¬ r7 = 0 → ((¬ (((G8 9 1) >>> (x6 &&& 31)) &&& (1 : Int32)) = (1 : Int32) → Q (0 : Int32) G8) ∧ ((((G8 9 1) >>> (x6 &&& 31)) &&& (1 : Int32)) = (1 : Int32) → Q (1 : Int32) G8))))))))
set_option maxRecDepth 100000 in
set_option maxHeartbeats 4000000 in
theorem t_X2_hearsThem_56 {E : EV} (hE : EI_ E) (Q : Int32 → GS → Prop)  : ∀ (n : Nat) (x5 : Int32) (x6 : Int32) (G : GS), lp_X2_hearsThem_56 Q n x5 x6 G → PW_ E mi_X2_hearsThem (rm_ 3) 0 0 56 [(0, .ref (ev_ad E 38)), (4, .ref (ev_ad E 9)), (5, .int x5), (6, .int x6)] [] G (qi_ Q) := by
  intro n
  induction n with
  | zero => intro x5 x6 G h; exact h.elim
  | succ n ih =>
    intro x5 x6 G h
    refine pw_iload dX2_hearsThem_56 3 rfl ?_
    refine pw_aload dX2_hearsThem_58 1 rfl ?_
    refine pw_geti (v := G 9 0) dX2_hearsThem_60 fa_X2_103 ly_9 rfl rfl ?_
    refine pw_icmp_ge (tgt := 121) dX2_hearsThem_63 (by decide) (fun hc => ?_) (fun hc => ?_)
    · have h := h.1 hc
      refine pw_iconst (v := (1 : Int32)) dX2_hearsThem_121 (by decide) ?_
      exact pw_ireturn dX2_hearsThem_122 rfl rfl ⟨_, rfl, h⟩
    · have h := h.2 hc
      refine pw_aload_n dX2_hearsThem_66 rfl 0 rfl ?_
      refine pw_aload dX2_hearsThem_67 1 rfl ?_
      refine pw_iload dX2_hearsThem_69 2 rfl ?_
      refine pw_aload dX2_hearsThem_71 1 rfl ?_
      refine pw_getr (q := 10) dX2_hearsThem_73 fa_X2_108 ly_9 rfl ?_
      refine pw_iload dX2_hearsThem_76 3 rfl ?_
      obtain ⟨hv6, h⟩ := h
      refine pw_iald (v := G 10 x6.toNatClampNeg) dX2_hearsThem_78 ly_10 hv6 rfl ?_
      refine pw_callV (As := [.ref (ev_ad E 9), .int x5, .int (G 10 x6.toNatClampNeg)]) (rest := []) (s_X2_isSo hE h) dX2_hearsThem_79 ly_38 rfl (Or.inl ml_X2_111) cm_X2_isSo rfl (rm_ok (by decide)) rm_0 (Nat.le_of_ble_eq_true rfl) ?_
      rintro _ G8 ⟨r7, rfl, h⟩
      refine pw_if_eq (tgt := 105) dX2_hearsThem_82 (by decide) (fun hc => ?_) (fun hc => ?_)
      · have h := h.1 hc
        refine pw_aload dX2_hearsThem_105 1 rfl ?_
        refine pw_getr (q := 10) dX2_hearsThem_107 fa_X2_108 ly_9 rfl ?_
        refine pw_iload dX2_hearsThem_110 3 rfl ?_
        refine pw_iald (v := G8 10 x6.toNatClampNeg) dX2_hearsThem_112 ly_10 hv6 rfl ?_
        refine pw_istore (lv' := [(5, .int (G8 10 x6.toNatClampNeg)), (0, .ref (ev_ad E 38)), (4, .ref (ev_ad E 9)), (6, .int x6)]) dX2_hearsThem_113 (by decide) rfl ?_
        refine pw_iinc (k := 3) (v := x6 + 1) (lv' := [(6, .int (x6 + 1)), (5, .int (G8 10 x6.toNatClampNeg)), (0, .ref (ev_ad E 38)), (4, .ref (ev_ad E 9))]) dX2_hearsThem_115 rfl rfl (by decide) rfl ?_
        refine pw_goto (tgt := 56) dX2_hearsThem_118 (by decide) ?_
        refine pw_loc (lv' := [(0, .ref (ev_ad E 38)), (4, .ref (ev_ad E 9)), (5, .int (G8 10 x6.toNatClampNeg)), (6, .int (x6 + 1))]) [2, 3, 1, 0] rfl ?_
        exact ih _ _ _ h
      · have h := h.2 hc
        refine pw_aload dX2_hearsThem_85 1 rfl ?_
        refine pw_geti (v := G8 9 1) dX2_hearsThem_87 fa_X2_115 ly_9 rfl rfl ?_
        refine pw_iload dX2_hearsThem_90 3 rfl ?_
        refine pw_ishr dX2_hearsThem_92 ?_
        refine pw_iconst (v := (1 : Int32)) dX2_hearsThem_93 (by decide) ?_
        refine pw_iand dX2_hearsThem_94 ?_
        refine pw_iconst (v := (1 : Int32)) dX2_hearsThem_95 (by decide) ?_
        refine pw_icmp_ne (tgt := 103) dX2_hearsThem_96 (by decide) (fun hc => ?_) (fun hc => ?_)
        · have h := h.1 hc
          refine pw_iconst (v := (0 : Int32)) dX2_hearsThem_103 (by decide) ?_
          exact pw_ireturn dX2_hearsThem_104 rfl rfl ⟨_, rfl, h⟩
        · have h := h.2 hc
          refine pw_iconst (v := (1 : Int32)) dX2_hearsThem_99 (by decide) ?_
          refine pw_goto (tgt := 104) dX2_hearsThem_100 (by decide) ?_
          exact pw_ireturn dX2_hearsThem_104 rfl rfl ⟨_, rfl, h⟩
def wp_X2_hearsThem (a2 : Int32) (a3 : Int32) (G : GS) (Q : Int32 → GS → Prop) : Prop := wp_X8_hasHum a2 G (fun r1 G2 => ((¬ r1 = 0 → (vp_in a2 10 ∧ wp_J6_bitCount (a3 &&& (((G2 38 4) ||| ((1 : Int32) <<< (a2 &&& 31))) ^^^ (-1 : Int32))) (gu_ (gu_ G2 38 7 a2) 38 8 (G2 2 a2.toNatClampNeg)) (fun r4 G5 => (∃ kf, lp_X2_hearsThem_56 Q kf (0 : Int32) (0 : Int32) (gu_ G5 38 9 r4))))) ∧ (r1 = 0 → Q (0 : Int32) G2)))
set_option maxRecDepth 100000 in
set_option maxHeartbeats 4000000 in
theorem s_X2_hearsThem {E : EV} (hE : EI_ E) {a2 : Int32} {a3 : Int32} {G : GS} {Q : Int32 → GS → Prop} (h : wp_X2_hearsThem a2 a3 G Q) : PMet E mi_X2_hearsThem 3 [.ref (ev_ad E 38), .ref (ev_ad E 1), .int a2, .int a3] G (qi_ Q) := by
  refine pm_of hE (by decide) (Nat.le_of_ble_eq_true rfl) ?_
  refine pw_loc (lv' := [(0, .ref (ev_ad E 38)), (1, .ref (ev_ad E 1)), (2, .int a2), (3, .int a3)]) [0, 1, 2, 3] rfl ?_
  refine pw_aload_n dX2_hearsThem_0 rfl 1 rfl ?_
  refine pw_iload_n dX2_hearsThem_1 rfl 2 rfl ?_
  refine pw_callV (As := [.int a2]) (rest := []) (s_X8_hasHum hE h) dX2_hearsThem_2 ly_1 rfl (Or.inr mn_X2_82) cm_X8_hasHum rfl (rm_ok (by decide)) rm_0 (Nat.le_of_ble_eq_true rfl) ?_
  rintro _ G2 ⟨r1, rfl, h⟩
  refine pw_if_ne (tgt := 10) dX2_hearsThem_5 (by decide) (fun hc => ?_) (fun hc => ?_)
  · have h := h.1 hc
    refine pw_aload_n dX2_hearsThem_10 rfl 0 rfl ?_
    refine pw_iload_n dX2_hearsThem_11 rfl 2 rfl ?_
    refine pw_puti dX2_hearsThem_12 fp_X2_85 ly_38 rfl ?_
    refine pw_aload_n dX2_hearsThem_15 rfl 0 rfl ?_
    refine pw_aload_n dX2_hearsThem_16 rfl 1 rfl ?_
    refine pw_getr (q := 2) dX2_hearsThem_17 fa_X2_15 ly_1 rfl ?_
    refine pw_iload_n dX2_hearsThem_20 rfl 2 rfl ?_
    obtain ⟨hv3, h⟩ := h
    refine pw_iald (v := G2 2 a2.toNatClampNeg) dX2_hearsThem_21 ly_2 hv3 rfl ?_
    refine pw_puti dX2_hearsThem_22 fp_X2_88 ly_38 rfl ?_
    refine pw_aload_n dX2_hearsThem_25 rfl 0 rfl ?_
    refine pw_iload_n dX2_hearsThem_26 rfl 3 rfl ?_
    refine pw_aload_n dX2_hearsThem_27 rfl 0 rfl ?_
    refine pw_geti (v := G2 38 4) dX2_hearsThem_28 fa_X2_67 ly_38 rfl rfl ?_
    refine pw_iconst (v := (1 : Int32)) dX2_hearsThem_31 (by decide) ?_
    refine pw_iload_n dX2_hearsThem_32 rfl 2 rfl ?_
    refine pw_ishl dX2_hearsThem_33 ?_
    refine pw_ior dX2_hearsThem_34 ?_
    refine pw_iconst (v := (-1 : Int32)) dX2_hearsThem_35 (by decide) ?_
    refine pw_ixor dX2_hearsThem_36 ?_
    refine pw_iand dX2_hearsThem_37 ?_
    refine pw_callS (As := [.int (a3 &&& (((G2 38 4) ||| ((1 : Int32) <<< (a2 &&& 31))) ^^^ (-1 : Int32)))]) (rest := [.ref (ev_ad E 38)]) (s_J6_bitCount hE h) dX2_hearsThem_38 ml_X2_91 cs_J6_bitCount_0f7a4 rfl (rm_ok (by decide)) rm_0 (Nat.le_of_ble_eq_true rfl) ?_
    rintro _ G5 ⟨r4, rfl, h⟩
    refine pw_puti dX2_hearsThem_41 fp_X2_96 ly_38 rfl ?_
    refine pw_aload_n dX2_hearsThem_44 rfl 1 rfl ?_
    refine pw_getr (q := 9) dX2_hearsThem_45 fa_X2_99 ly_1 rfl ?_
    refine pw_astore (lv' := [(4, .ref (ev_ad E 9)), (0, .ref (ev_ad E 38)), (1, .ref (ev_ad E 1)), (2, .int a2), (3, .int a3)]) dX2_hearsThem_48 (by decide) rfl ?_
    refine pw_iconst (v := (0 : Int32)) dX2_hearsThem_50 (by decide) ?_
    refine pw_istore (lv' := [(5, .int (0 : Int32)), (4, .ref (ev_ad E 9)), (0, .ref (ev_ad E 38)), (1, .ref (ev_ad E 1)), (2, .int a2), (3, .int a3)]) dX2_hearsThem_51 (by decide) rfl ?_
    refine pw_iconst (v := (0 : Int32)) dX2_hearsThem_53 (by decide) ?_
    refine pw_istore (lv' := [(6, .int (0 : Int32)), (5, .int (0 : Int32)), (4, .ref (ev_ad E 9)), (0, .ref (ev_ad E 38)), (1, .ref (ev_ad E 1)), (2, .int a2), (3, .int a3)]) dX2_hearsThem_54 (by decide) rfl ?_
    refine pw_loc (lv' := [(0, .ref (ev_ad E 38)), (4, .ref (ev_ad E 9)), (5, .int (0 : Int32)), (6, .int (0 : Int32))]) [3, 2, 1, 0] rfl ?_
    obtain ⟨kf, h⟩ := h
    exact t_X2_hearsThem_56 hE Q kf _ _ _ h
  · have h := h.2 hc
    refine pw_iconst (v := (0 : Int32)) dX2_hearsThem_8 (by decide) ?_
    exact pw_ireturn dX2_hearsThem_9 rfl rfl ⟨_, rfl, h⟩
def lp_X2_hearersOf_25 (Q : Int32 → GS → Prop)  : Nat → Int32 → Int32 → GS → Prop
  | 0, _, _, _ => False
  | n + 1, x4, x5, G => (((G 1 1) ≤ x5 → Q x4 G) ∧ (¬ (G 1 1) ≤ x5 → wp_X2_isSinger x5 G (fun r5 G6 => ((¬ r5 = 0 → lp_X2_hearersOf_25 Q n x4 (x5 + 1) G6) ∧ (r5 = 0 → wp_X2_hearsThem x5 (G6 1 4) G6 (fun r7 G8 => ((r7 = 0 → lp_X2_hearersOf_25 Q n x4 (x5 + 1) G8) ∧ (¬ r7 = 0 → lp_X2_hearersOf_25 Q n (x4 ||| ((1 : Int32) <<< (x5 &&& 31))) (x5 + 1) G8))))))))
set_option maxRecDepth 100000 in
set_option maxHeartbeats 4000000 in
theorem t_X2_hearersOf_25 {E : EV} (hE : EI_ E) (Q : Int32 → GS → Prop)  : ∀ (n : Nat) (x4 : Int32) (x5 : Int32) (G : GS), lp_X2_hearersOf_25 Q n x4 x5 G → PW_ E mi_X2_hearersOf (rm_ 4) 0 0 25 [(0, .ref (ev_ad E 38)), (1, .ref (ev_ad E 1)), (4, .int x4), (5, .int x5)] [] G (qi_ Q) := by
  intro n
  induction n with
  | zero => intro x4 x5 G h; exact h.elim
  | succ n ih =>
    intro x4 x5 G h
    refine pw_iload dX2_hearersOf_25 3 rfl ?_
    refine pw_aload_n dX2_hearersOf_27 rfl 1 rfl ?_
    refine pw_geti (v := G 1 1) dX2_hearersOf_28 fa_X2_24 ly_1 rfl rfl ?_
    refine pw_icmp_ge (tgt := 72) dX2_hearersOf_31 (by decide) (fun hc => ?_) (fun hc => ?_)
    · have h := h.1 hc
      refine pw_iload dX2_hearersOf_72 2 rfl ?_
      exact pw_ireturn dX2_hearersOf_74 rfl rfl ⟨_, rfl, h⟩
    · have h := h.2 hc
      refine pw_aload_n dX2_hearersOf_34 rfl 0 rfl ?_
      refine pw_iload dX2_hearersOf_35 3 rfl ?_
      refine pw_callV (As := [.int x5]) (rest := []) (s_X2_isSinger hE h) dX2_hearersOf_37 ly_38 rfl (Or.inl ml_X2_28) cm_X2_isSinger rfl (rm_ok (by decide)) rm_0 (Nat.le_of_ble_eq_true rfl) ?_
      rintro _ G6 ⟨r5, rfl, h⟩
      refine pw_if_ne (tgt := 66) dX2_hearersOf_40 (by decide) (fun hc => ?_) (fun hc => ?_)
      · have h := h.1 hc
        refine pw_iinc (k := 3) (v := x5 + 1) (lv' := [(5, .int (x5 + 1)), (0, .ref (ev_ad E 38)), (1, .ref (ev_ad E 1)), (4, .int x4)]) dX2_hearersOf_66 rfl rfl (by decide) rfl ?_
        refine pw_goto (tgt := 25) dX2_hearersOf_69 (by decide) ?_
        refine pw_loc (lv' := [(0, .ref (ev_ad E 38)), (1, .ref (ev_ad E 1)), (4, .int x4), (5, .int (x5 + 1))]) [1, 2, 3, 0] rfl ?_
        exact ih _ _ _ h
      · have h := h.2 hc
        refine pw_aload_n dX2_hearersOf_43 rfl 0 rfl ?_
        refine pw_aload_n dX2_hearersOf_44 rfl 1 rfl ?_
        refine pw_iload dX2_hearersOf_45 3 rfl ?_
        refine pw_aload_n dX2_hearersOf_47 rfl 1 rfl ?_
        refine pw_geti (v := G6 1 4) dX2_hearersOf_48 fa_X2_32 ly_1 rfl rfl ?_
        refine pw_callV (As := [.ref (ev_ad E 1), .int x5, .int (G6 1 4)]) (rest := []) (s_X2_hearsThem hE h) dX2_hearersOf_51 ly_38 rfl (Or.inl ml_X2_35) cm_X2_hearsThem rfl (rm_ok (by decide)) rm_0 (Nat.le_of_ble_eq_true rfl) ?_
        rintro _ G8 ⟨r7, rfl, h⟩
        refine pw_if_eq (tgt := 66) dX2_hearersOf_54 (by decide) (fun hc => ?_) (fun hc => ?_)
        · have h := h.1 hc
          refine pw_iinc (k := 3) (v := x5 + 1) (lv' := [(5, .int (x5 + 1)), (0, .ref (ev_ad E 38)), (1, .ref (ev_ad E 1)), (4, .int x4)]) dX2_hearersOf_66 rfl rfl (by decide) rfl ?_
          refine pw_goto (tgt := 25) dX2_hearersOf_69 (by decide) ?_
          refine pw_loc (lv' := [(0, .ref (ev_ad E 38)), (1, .ref (ev_ad E 1)), (4, .int x4), (5, .int (x5 + 1))]) [1, 2, 3, 0] rfl ?_
          exact ih _ _ _ h
        · have h := h.2 hc
          refine pw_iload dX2_hearersOf_57 2 rfl ?_
          refine pw_iconst (v := (1 : Int32)) dX2_hearersOf_59 (by decide) ?_
          refine pw_iload dX2_hearersOf_60 3 rfl ?_
          refine pw_ishl dX2_hearersOf_62 ?_
          refine pw_ior dX2_hearersOf_63 ?_
          refine pw_istore (lv' := [(4, .int (x4 ||| ((1 : Int32) <<< (x5 &&& 31)))), (0, .ref (ev_ad E 38)), (1, .ref (ev_ad E 1)), (5, .int x5)]) dX2_hearersOf_64 (by decide) rfl ?_
          refine pw_iinc (k := 3) (v := x5 + 1) (lv' := [(5, .int (x5 + 1)), (4, .int (x4 ||| ((1 : Int32) <<< (x5 &&& 31)))), (0, .ref (ev_ad E 38)), (1, .ref (ev_ad E 1))]) dX2_hearersOf_66 rfl rfl (by decide) rfl ?_
          refine pw_goto (tgt := 25) dX2_hearersOf_69 (by decide) ?_
          refine pw_loc (lv' := [(0, .ref (ev_ad E 38)), (1, .ref (ev_ad E 1)), (4, .int (x4 ||| ((1 : Int32) <<< (x5 &&& 31)))), (5, .int (x5 + 1))]) [2, 3, 1, 0] rfl ?_
          exact ih _ _ _ h
def wp_X2_hearersOf (a2 : Int32) (a3 : Int32) (G : GS) (Q : Int32 → GS → Prop) : Prop := (vp_in a2 10 ∧ (vp_in a3 10 ∧ wp_X2_attend a2 a3 (G 2 a2.toNatClampNeg) (G 2 a3.toNatClampNeg) G (fun _ G4 => (∃ kf, lp_X2_hearersOf_25 Q kf (0 : Int32) (0 : Int32) G4))))
set_option maxRecDepth 100000 in
set_option maxHeartbeats 4000000 in
theorem s_X2_hearersOf {E : EV} (hE : EI_ E) {a2 : Int32} {a3 : Int32} {G : GS} {Q : Int32 → GS → Prop} (h : wp_X2_hearersOf a2 a3 G Q) : PMet E mi_X2_hearersOf 4 [.ref (ev_ad E 38), .ref (ev_ad E 1), .int a2, .int a3] G (qi_ Q) := by
  refine pm_of hE (by decide) (Nat.le_of_ble_eq_true rfl) ?_
  refine pw_loc (lv' := [(0, .ref (ev_ad E 38)), (1, .ref (ev_ad E 1)), (2, .int a2), (3, .int a3)]) [0, 1, 2, 3] rfl ?_
  refine pw_aload_n dX2_hearersOf_0 rfl 0 rfl ?_
  refine pw_aload_n dX2_hearersOf_1 rfl 1 rfl ?_
  refine pw_iload_n dX2_hearersOf_2 rfl 2 rfl ?_
  refine pw_iload_n dX2_hearersOf_3 rfl 3 rfl ?_
  refine pw_aload_n dX2_hearersOf_4 rfl 1 rfl ?_
  refine pw_getr (q := 2) dX2_hearersOf_5 fa_X2_15 ly_1 rfl ?_
  refine pw_iload_n dX2_hearersOf_8 rfl 2 rfl ?_
  obtain ⟨hv1, h⟩ := h
  refine pw_iald (v := G 2 a2.toNatClampNeg) dX2_hearersOf_9 ly_2 hv1 rfl ?_
  refine pw_aload_n dX2_hearersOf_10 rfl 1 rfl ?_
  refine pw_getr (q := 2) dX2_hearersOf_11 fa_X2_15 ly_1 rfl ?_
  refine pw_iload_n dX2_hearersOf_14 rfl 3 rfl ?_
  obtain ⟨hv2, h⟩ := h
  refine pw_iald (v := G 2 a3.toNatClampNeg) dX2_hearersOf_15 ly_2 hv2 rfl ?_
  refine pw_callV (As := [.ref (ev_ad E 1), .int a2, .int a3, .int (G 2 a2.toNatClampNeg), .int (G 2 a3.toNatClampNeg)]) (rest := []) (s_X2_attend hE h) dX2_hearersOf_16 ly_38 rfl (Or.inl ml_X2_20) cm_X2_attend rfl (rm_ok (by decide)) rm_0 (Nat.le_of_ble_eq_true rfl) ?_
  rintro _ G4 ⟨rfl, h⟩
  refine pw_iconst (v := (0 : Int32)) dX2_hearersOf_19 (by decide) ?_
  refine pw_istore (lv' := [(4, .int (0 : Int32)), (0, .ref (ev_ad E 38)), (1, .ref (ev_ad E 1)), (2, .int a2), (3, .int a3)]) dX2_hearersOf_20 (by decide) rfl ?_
  refine pw_iconst (v := (0 : Int32)) dX2_hearersOf_22 (by decide) ?_
  refine pw_istore (lv' := [(5, .int (0 : Int32)), (4, .int (0 : Int32)), (0, .ref (ev_ad E 38)), (1, .ref (ev_ad E 1)), (2, .int a2), (3, .int a3)]) dX2_hearersOf_23 (by decide) rfl ?_
  refine pw_loc (lv' := [(0, .ref (ev_ad E 38)), (1, .ref (ev_ad E 1)), (4, .int (0 : Int32)), (5, .int (0 : Int32))]) [2, 3, 1, 0] rfl ?_
  obtain ⟨kf, h⟩ := h
  exact t_X2_hearersOf_25 hE Q kf _ _ _ h
def wp_X8_wordOf (a1 : Int32) (a2 : Int32) (G : GS) (Q : Int32 → GS → Prop) : Prop := (vp_in a1 10 ∧ (vp_in a2 10 ∧ Q (if 0 ≤ (G 2 a1.toNatClampNeg) - (G 2 a2.toNatClampNeg) then ((G 2 a1.toNatClampNeg) - (G 2 a2.toNatClampNeg)) else 0 - ((G 2 a1.toNatClampNeg) - (G 2 a2.toNatClampNeg))) G))
set_option maxRecDepth 100000 in
set_option maxHeartbeats 4000000 in
theorem s_X8_wordOf {E : EV} (hE : EI_ E) {a1 : Int32} {a2 : Int32} {G : GS} {Q : Int32 → GS → Prop} (h : wp_X8_wordOf a1 a2 G Q) : PMet E mi_X8_wordOf 1 [.ref (ev_ad E 1), .int a1, .int a2] G (qi_ Q) := by
  refine pm_of hE (by decide) (Nat.le_of_ble_eq_true rfl) ?_
  refine pw_loc (lv' := [(0, .ref (ev_ad E 1)), (1, .int a1), (2, .int a2)]) [0, 1, 2] rfl ?_
  refine pw_aload_n dX8_wordOf_0 rfl 0 rfl ?_
  refine pw_getr (q := 2) dX8_wordOf_1 fa_X8_9 ly_1 rfl ?_
  refine pw_iload_n dX8_wordOf_4 rfl 1 rfl ?_
  obtain ⟨hv1, h⟩ := h
  refine pw_iald (v := G 2 a1.toNatClampNeg) dX8_wordOf_5 ly_2 hv1 rfl ?_
  refine pw_aload_n dX8_wordOf_6 rfl 0 rfl ?_
  refine pw_getr (q := 2) dX8_wordOf_7 fa_X8_9 ly_1 rfl ?_
  refine pw_iload_n dX8_wordOf_10 rfl 2 rfl ?_
  obtain ⟨hv2, h⟩ := h
  refine pw_iald (v := G 2 a2.toNatClampNeg) dX8_wordOf_11 ly_2 hv2 rfl ?_
  refine pw_isub dX8_wordOf_12 ?_
  refine pw_mabs dX8_wordOf_13 jm_X8_92 (rm_ok1 (by decide)) rm_0 (Nat.le_of_ble_eq_true rfl) ?_
  exact pw_ireturn dX8_wordOf_16 rfl rfl ⟨_, rfl, h⟩
def wp_X0_write (a1 : Int32) (a2 : Int32) (a3 : Int32) (a4 : Int32) (a5 : Int32) (G : GS) (Q : Int32 → GS → Prop) : Prop := (((G 12 0) < (100 : Int32) → (vp_in ((G 12 0) * (5 : Int32)) 500 ∧ (vp_in (((G 12 0) * (5 : Int32)) + (1 : Int32)) 500 ∧ (vp_in (((G 12 0) * (5 : Int32)) + (2 : Int32)) 500 ∧ (vp_in (((G 12 0) * (5 : Int32)) + (3 : Int32)) 500 ∧ (vp_in (((G 12 0) * (5 : Int32)) + (4 : Int32)) 500 ∧ Q 0 (gu_ (gu_ (gu_ (gu_ (gu_ (gu_ G 13 (((G 12 0) * (5 : Int32)).toNatClampNeg) a1) 13 ((((G 12 0) * (5 : Int32)) + (1 : Int32)).toNatClampNeg) a2) 13 ((((G 12 0) * (5 : Int32)) + (2 : Int32)).toNatClampNeg) a3) 13 ((((G 12 0) * (5 : Int32)) + (3 : Int32)).toNatClampNeg) a4) 13 ((((G 12 0) * (5 : Int32)) + (4 : Int32)).toNatClampNeg) a5) 12 0 ((G 12 0) + (1 : Int32))))))))) ∧ (¬ (G 12 0) < (100 : Int32) → Q 0 G))
set_option maxRecDepth 100000 in
set_option maxHeartbeats 4000000 in
theorem s_X0_write {E : EV} (hE : EI_ E) {a1 : Int32} {a2 : Int32} {a3 : Int32} {a4 : Int32} {a5 : Int32} {G : GS} {Q : Int32 → GS → Prop} (h : wp_X0_write a1 a2 a3 a4 a5 G Q) : PMet E mi_X0_write 1 [.ref (ev_ad E 12), .int a1, .int a2, .int a3, .int a4, .int a5] G (qv_ Q) := by
  refine pm_of hE (by decide) (Nat.le_of_ble_eq_true rfl) ?_
  refine pw_loc (lv' := [(0, .ref (ev_ad E 12)), (1, .int a1), (2, .int a2), (3, .int a3), (4, .int a4), (5, .int a5)]) [0, 1, 2, 3, 4, 5] rfl ?_
  refine pw_aload_n dX0_write_0 rfl 0 rfl ?_
  refine pw_geti (v := G 12 0) dX0_write_1 fa_X0_15 ly_12 rfl rfl ?_
  refine pw_bipush (v := (100 : Int32)) dX0_write_4 (by decide) ?_
  refine pw_icmp_lt (tgt := 10) dX0_write_6 (by decide) (fun hc => ?_) (fun hc => ?_)
  · have h := h.1 hc
    refine pw_aload_n dX0_write_10 rfl 0 rfl ?_
    refine pw_geti (v := G 12 0) dX0_write_11 fa_X0_15 ly_12 rfl rfl ?_
    refine pw_iconst (v := (5 : Int32)) dX0_write_14 (by decide) ?_
    refine pw_imul dX0_write_15 ?_
    refine pw_istore (lv' := [(6, .int ((G 12 0) * (5 : Int32))), (0, .ref (ev_ad E 12)), (1, .int a1), (2, .int a2), (3, .int a3), (4, .int a4), (5, .int a5)]) dX0_write_16 (by decide) rfl ?_
    refine pw_aload_n dX0_write_18 rfl 1 rfl ?_
    refine pw_getr (q := 13) dX0_write_19 fa_X0_9 ly_12 rfl ?_
    refine pw_iload dX0_write_22 0 rfl ?_
    refine pw_iload_n dX0_write_24 rfl 2 rfl ?_
    obtain ⟨hv1, h⟩ := h
    refine pw_iast (z := (((G 12 0) * (5 : Int32)).toNatClampNeg)) dX0_write_25 ly_13 hv1 rfl ?_
    refine pw_aload_n dX0_write_26 rfl 1 rfl ?_
    refine pw_getr (q := 13) dX0_write_27 fa_X0_9 ly_12 rfl ?_
    refine pw_iload dX0_write_30 0 rfl ?_
    refine pw_iconst (v := (1 : Int32)) dX0_write_32 (by decide) ?_
    refine pw_iadd dX0_write_33 ?_
    refine pw_iload_n dX0_write_34 rfl 3 rfl ?_
    obtain ⟨hv2, h⟩ := h
    refine pw_iast (z := ((((G 12 0) * (5 : Int32)) + (1 : Int32)).toNatClampNeg)) dX0_write_35 ly_13 hv2 rfl ?_
    refine pw_aload_n dX0_write_36 rfl 1 rfl ?_
    refine pw_getr (q := 13) dX0_write_37 fa_X0_9 ly_12 rfl ?_
    refine pw_iload dX0_write_40 0 rfl ?_
    refine pw_iconst (v := (2 : Int32)) dX0_write_42 (by decide) ?_
    refine pw_iadd dX0_write_43 ?_
    refine pw_iload_n dX0_write_44 rfl 4 rfl ?_
    obtain ⟨hv3, h⟩ := h
    refine pw_iast (z := ((((G 12 0) * (5 : Int32)) + (2 : Int32)).toNatClampNeg)) dX0_write_45 ly_13 hv3 rfl ?_
    refine pw_aload_n dX0_write_46 rfl 1 rfl ?_
    refine pw_getr (q := 13) dX0_write_47 fa_X0_9 ly_12 rfl ?_
    refine pw_iload dX0_write_50 0 rfl ?_
    refine pw_iconst (v := (3 : Int32)) dX0_write_52 (by decide) ?_
    refine pw_iadd dX0_write_53 ?_
    refine pw_iload dX0_write_54 5 rfl ?_
    obtain ⟨hv4, h⟩ := h
    refine pw_iast (z := ((((G 12 0) * (5 : Int32)) + (3 : Int32)).toNatClampNeg)) dX0_write_56 ly_13 hv4 rfl ?_
    refine pw_aload_n dX0_write_57 rfl 1 rfl ?_
    refine pw_getr (q := 13) dX0_write_58 fa_X0_9 ly_12 rfl ?_
    refine pw_iload dX0_write_61 0 rfl ?_
    refine pw_iconst (v := (4 : Int32)) dX0_write_63 (by decide) ?_
    refine pw_iadd dX0_write_64 ?_
    refine pw_iload dX0_write_65 6 rfl ?_
    obtain ⟨hv5, h⟩ := h
    refine pw_iast (z := ((((G 12 0) * (5 : Int32)) + (4 : Int32)).toNatClampNeg)) dX0_write_67 ly_13 hv5 rfl ?_
    refine pw_aload_n dX0_write_68 rfl 1 rfl ?_
    refine pw_dup dX0_write_69 rfl ?_
    refine pw_geti (v := G 12 0) dX0_write_70 fa_X0_15 ly_12 rfl rfl ?_
    refine pw_iconst (v := (1 : Int32)) dX0_write_73 (by decide) ?_
    refine pw_iadd dX0_write_74 ?_
    refine pw_puti dX0_write_75 fp_X0_15 ly_12 rfl ?_
    exact pw_return dX0_write_78 rfl ⟨rfl, h⟩
  · have h := h.2 hc
    exact pw_return dX0_write_9 rfl ⟨rfl, h⟩
