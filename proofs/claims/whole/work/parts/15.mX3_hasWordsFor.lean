def lp_X3_hasWordsFor_2 (Q : Int32 → GS → Prop)  : Nat → Int32 → Int32 → Int32 → GS → Prop
  | 0, _, _, _, _ => False
  | n + 1, x1, x2, x3, G => ((x2 ≤ x3 → Q (1 : Int32) G) ∧ (¬ x2 ≤ x3 → (vp_in x3 6 ∧ (vp_in (x1 - (G 45 x3.toNatClampNeg)) 25 ∧ ((¬ (G 46 ((x1 - (G 45 x3.toNatClampNeg)).toNatClampNeg)) = 0 → lp_X3_hasWordsFor_2 Q n x1 x2 (x3 + 1) G) ∧ ((G 46 ((x1 - (G 45 x3.toNatClampNeg)).toNatClampNeg)) = 0 → Q (0 : Int32) G))))))
set_option maxRecDepth 100000 in
set_option maxHeartbeats 4000000 in
theorem t_X3_hasWordsFor_2 {E : EV} (hE : EI_ E) (Q : Int32 → GS → Prop)  : ∀ (n : Nat) (x1 : Int32) (x2 : Int32) (x3 : Int32) (G : GS), lp_X3_hasWordsFor_2 Q n x1 x2 x3 G → PW_ E mi_X3_hasWordsFor (rm_ 1) 0 0 2 [(0, .ref (ev_ad E 43)), (1, .int x1), (2, .int x2), (3, .int x3)] [] G (qi_ Q) := by
  intro n
  induction n with
  | zero => intro x1 x2 x3 G h; exact h.elim
  | succ n ih =>
    intro x1 x2 x3 G h
    refine pw_iload_n dX3_hasWordsFor_2 rfl 3 rfl ?_
    refine pw_iload_n dX3_hasWordsFor_3 rfl 2 rfl ?_
    refine pw_icmp_ge (tgt := 31) dX3_hasWordsFor_4 (by decide) (fun hc => ?_) (fun hc => ?_)
    · have h := h.1 hc
      refine pw_iconst (v := (1 : Int32)) dX3_hasWordsFor_31 (by decide) ?_
      exact pw_ireturn dX3_hasWordsFor_32 rfl rfl ⟨_, rfl, h⟩
    · have h := h.2 hc
      refine pw_aload_n dX3_hasWordsFor_7 rfl 0 rfl ?_
      refine pw_getr (q := 46) dX3_hasWordsFor_8 fa_X3_18 ly_43 rfl ?_
      refine pw_iload_n dX3_hasWordsFor_11 rfl 1 rfl ?_
      refine pw_aload_n dX3_hasWordsFor_12 rfl 0 rfl ?_
      refine pw_getr (q := 45) dX3_hasWordsFor_13 fa_X3_15 ly_43 rfl ?_
      refine pw_iload_n dX3_hasWordsFor_16 rfl 3 rfl ?_
      obtain ⟨hv1, h⟩ := h
      refine pw_iald (v := G 45 x3.toNatClampNeg) dX3_hasWordsFor_17 ly_45 hv1 rfl ?_
      refine pw_isub dX3_hasWordsFor_18 ?_
      obtain ⟨hv2, h⟩ := h
      refine pw_iald (v := G 46 ((x1 - (G 45 x3.toNatClampNeg)).toNatClampNeg)) dX3_hasWordsFor_19 ly_46 hv2 rfl ?_
      refine pw_if_ne (tgt := 25) dX3_hasWordsFor_20 (by decide) (fun hc => ?_) (fun hc => ?_)
      · have h := h.1 hc
        refine pw_iinc (k := 3) (v := x3 + 1) (lv' := [(3, .int (x3 + 1)), (0, .ref (ev_ad E 43)), (1, .int x1), (2, .int x2)]) dX3_hasWordsFor_25 rfl rfl (by decide) rfl ?_
        refine pw_goto (tgt := 2) dX3_hasWordsFor_28 (by decide) ?_
        refine pw_loc (lv' := [(0, .ref (ev_ad E 43)), (1, .int x1), (2, .int x2), (3, .int (x3 + 1))]) [1, 2, 3, 0] rfl ?_
        exact ih _ _ _ _ h
      · have h := h.2 hc
        refine pw_iconst (v := (0 : Int32)) dX3_hasWordsFor_23 (by decide) ?_
        exact pw_ireturn dX3_hasWordsFor_24 rfl rfl ⟨_, rfl, h⟩
def wp_X3_hasWordsFor (a1 : Int32) (a2 : Int32) (G : GS) (Q : Int32 → GS → Prop) : Prop := (∃ kf, lp_X3_hasWordsFor_2 Q kf a1 a2 (0 : Int32) G)
set_option maxRecDepth 100000 in
set_option maxHeartbeats 4000000 in
theorem s_X3_hasWordsFor {E : EV} (hE : EI_ E) {a1 : Int32} {a2 : Int32} {G : GS} {Q : Int32 → GS → Prop} (h : wp_X3_hasWordsFor a1 a2 G Q) : PMet E mi_X3_hasWordsFor 1 [.ref (ev_ad E 43), .int a1, .int a2] G (qi_ Q) := by
  refine pm_of hE (by decide) (Nat.le_of_ble_eq_true rfl) ?_
  refine pw_loc (lv' := [(0, .ref (ev_ad E 43)), (1, .int a1), (2, .int a2)]) [0, 1, 2] rfl ?_
  refine pw_iconst (v := (0 : Int32)) dX3_hasWordsFor_0 (by decide) ?_
  refine pw_istore_n (lv' := [(3, .int (0 : Int32)), (0, .ref (ev_ad E 43)), (1, .int a1), (2, .int a2)]) dX3_hasWordsFor_1 rfl (by decide) rfl ?_
  refine pw_loc (lv' := [(0, .ref (ev_ad E 43)), (1, .int a1), (2, .int a2), (3, .int (0 : Int32))]) [1, 2, 3, 0] rfl ?_
  obtain ⟨kf, h⟩ := h
  exact t_X3_hasWordsFor_2 hE Q kf _ _ _ _ h
def lp_X3_changeLeft_3 (Q : Int32 → GS → Prop)  : Nat → Int32 → Int32 → Int32 → Int32 → GS → Prop
  | 0, _, _, _, _, _ => False
  | n + 1, x1, x2, x3, x4, G => ((x2 ≤ x4 → Q 0 G) ∧ (¬ x2 ≤ x4 → (vp_in x4 6 ∧ (vp_in (x1 - (G 45 x4.toNatClampNeg)) 25 ∧ lp_X3_changeLeft_3 Q n x1 x2 x3 (x4 + 1) (gu_ G 46 ((x1 - (G 45 x4.toNatClampNeg)).toNatClampNeg) ((G 46 ((x1 - (G 45 x4.toNatClampNeg)).toNatClampNeg)) + x3))))))
set_option maxRecDepth 100000 in
set_option maxHeartbeats 4000000 in
theorem t_X3_changeLeft_3 {E : EV} (hE : EI_ E) (Q : Int32 → GS → Prop)  : ∀ (n : Nat) (x1 : Int32) (x2 : Int32) (x3 : Int32) (x4 : Int32) (G : GS), lp_X3_changeLeft_3 Q n x1 x2 x3 x4 G → PW_ E mi_X3_changeLeft (rm_ 1) 0 0 3 [(0, .ref (ev_ad E 43)), (1, .int x1), (2, .int x2), (3, .int x3), (4, .int x4)] [] G (qv_ Q) := by
  intro n
  induction n with
  | zero => intro x1 x2 x3 x4 G h; exact h.elim
  | succ n ih =>
    intro x1 x2 x3 x4 G h
    refine pw_iload dX3_changeLeft_3 4 rfl ?_
    refine pw_iload_n dX3_changeLeft_5 rfl 2 rfl ?_
    refine pw_icmp_ge (tgt := 33) dX3_changeLeft_6 (by decide) (fun hc => ?_) (fun hc => ?_)
    · have h := h.1 hc
      exact pw_return dX3_changeLeft_33 rfl ⟨rfl, h⟩
    · have h := h.2 hc
      refine pw_aload_n dX3_changeLeft_9 rfl 0 rfl ?_
      refine pw_getr (q := 46) dX3_changeLeft_10 fa_X3_18 ly_43 rfl ?_
      refine pw_iload_n dX3_changeLeft_13 rfl 1 rfl ?_
      refine pw_aload_n dX3_changeLeft_14 rfl 0 rfl ?_
      refine pw_getr (q := 45) dX3_changeLeft_15 fa_X3_15 ly_43 rfl ?_
      refine pw_iload dX3_changeLeft_18 4 rfl ?_
      obtain ⟨hv1, h⟩ := h
      refine pw_iald (v := G 45 x4.toNatClampNeg) dX3_changeLeft_20 ly_45 hv1 rfl ?_
      refine pw_isub dX3_changeLeft_21 ?_
      refine pw_dup2 dX3_changeLeft_22 rfl rfl ?_
      obtain ⟨hv2, h⟩ := h
      refine pw_iald (v := G 46 ((x1 - (G 45 x4.toNatClampNeg)).toNatClampNeg)) dX3_changeLeft_23 ly_46 hv2 rfl ?_
      refine pw_iload_n dX3_changeLeft_24 rfl 3 rfl ?_
      refine pw_iadd dX3_changeLeft_25 ?_
      refine pw_iast (z := ((x1 - (G 45 x4.toNatClampNeg)).toNatClampNeg)) dX3_changeLeft_26 ly_46 hv2 rfl ?_
      refine pw_iinc (k := 4) (v := x4 + 1) (lv' := [(4, .int (x4 + 1)), (0, .ref (ev_ad E 43)), (1, .int x1), (2, .int x2), (3, .int x3)]) dX3_changeLeft_27 rfl rfl (by decide) rfl ?_
      refine pw_goto (tgt := 3) dX3_changeLeft_30 (by decide) ?_
      refine pw_loc (lv' := [(0, .ref (ev_ad E 43)), (1, .int x1), (2, .int x2), (3, .int x3), (4, .int (x4 + 1))]) [1, 2, 3, 4, 0] rfl ?_
      exact ih _ _ _ _ _ h
def wp_X3_changeLeft (a1 : Int32) (a2 : Int32) (a3 : Int32) (G : GS) (Q : Int32 → GS → Prop) : Prop := (∃ kf, lp_X3_changeLeft_3 Q kf a1 a2 a3 (0 : Int32) G)
set_option maxRecDepth 100000 in
set_option maxHeartbeats 4000000 in
theorem s_X3_changeLeft {E : EV} (hE : EI_ E) {a1 : Int32} {a2 : Int32} {a3 : Int32} {G : GS} {Q : Int32 → GS → Prop} (h : wp_X3_changeLeft a1 a2 a3 G Q) : PMet E mi_X3_changeLeft 1 [.ref (ev_ad E 43), .int a1, .int a2, .int a3] G (qv_ Q) := by
  refine pm_of hE (by decide) (Nat.le_of_ble_eq_true rfl) ?_
  refine pw_loc (lv' := [(0, .ref (ev_ad E 43)), (1, .int a1), (2, .int a2), (3, .int a3)]) [0, 1, 2, 3] rfl ?_
  refine pw_iconst (v := (0 : Int32)) dX3_changeLeft_0 (by decide) ?_
  refine pw_istore (lv' := [(4, .int (0 : Int32)), (0, .ref (ev_ad E 43)), (1, .int a1), (2, .int a2), (3, .int a3)]) dX3_changeLeft_1 (by decide) rfl ?_
  refine pw_loc (lv' := [(0, .ref (ev_ad E 43)), (1, .int a1), (2, .int a2), (3, .int a3), (4, .int (0 : Int32))]) [1, 2, 3, 4, 0] rfl ?_
  obtain ⟨kf, h⟩ := h
  exact t_X3_changeLeft_3 hE Q kf _ _ _ _ _ h
def bk_X3_extend_11 (RC : Int32 → Int32 → GS → (Int32 → GS → Prop) → Prop) (Q : Int32 → GS → Prop)   (G : GS) : Prop := ((¬ (G 43 3) = 0 → Q 0 (gu_ G 43 3 ((G 43 3) + (1 : Int32)))) ∧ ((G 43 3) = 0 → Q 0 (gu_ (gf_ G 44 (va_cpy (G 45) (G 44) 0 0 6)) 43 3 ((G 43 3) + (1 : Int32)))))
set_option maxRecDepth 100000 in
set_option maxHeartbeats 4000000 in
theorem t_X3_extend_11 {E : EV} (hE : EI_ E) {dd : Nat} (hdd : 1 ≤ dd) (RC : Int32 → Int32 → GS → (Int32 → GS → Prop) → Prop) (hRC : ∀ (a1 : Int32) (a2 : Int32) (G : GS) (Q : Int32 → GS → Prop), RC a1 a2 G Q → PMet E mi_X3_extend dd [.ref (ev_ad E 43), .int a1, .int a2] G (qv_ Q)) (Q : Int32 → GS → Prop)   {G : GS} (h : bk_X3_extend_11 RC Q G) : PW_ E mi_X3_extend (rm_ (dd + 1)) 0 0 11 [(0, .ref (ev_ad E 43))] [] G (qv_ Q) := by
  refine pw_aload_n dX3_extend_11 rfl 0 rfl ?_
  refine pw_geti (v := G 43 3) dX3_extend_12 fa_X3_21 ly_43 rfl rfl ?_
  refine pw_if_ne (tgt := 33) dX3_extend_15 (by decide) (fun hc => ?_) (fun hc => ?_)
  · have h := h.1 hc
    refine pw_aload_n dX3_extend_33 rfl 0 rfl ?_
    refine pw_dup dX3_extend_34 rfl ?_
    refine pw_geti (v := G 43 3) dX3_extend_35 fa_X3_21 ly_43 rfl rfl ?_
    refine pw_iconst (v := (1 : Int32)) dX3_extend_38 (by decide) ?_
    refine pw_iadd dX3_extend_39 ?_
    refine pw_puti dX3_extend_40 fp_X3_21 ly_43 rfl ?_
    exact pw_return dX3_extend_43 rfl ⟨rfl, h⟩
  · have h := h.2 hc
    refine pw_aload_n dX3_extend_18 rfl 0 rfl ?_
    refine pw_getr (q := 45) dX3_extend_19 fa_X3_15 ly_43 rfl ?_
    refine pw_iconst (v := (0 : Int32)) dX3_extend_22 (by decide) ?_
    refine pw_aload_n dX3_extend_23 rfl 0 rfl ?_
    refine pw_getr (q := 44) dX3_extend_24 fa_X3_9 ly_43 rfl ?_
    refine pw_iconst (v := (0 : Int32)) dX3_extend_27 (by decide) ?_
    refine pw_bipush (v := (6 : Int32)) dX3_extend_28 (by decide) ?_
    refine pw_copy dX3_extend_30 jc_X3_43 ly_45 ly_44 (by unfold cp_; decide) (rm_ok1 (by omega)) rfl ?_
    refine pw_nmG (G2 := (gf_ G 44 (va_cpy (G 45) (G 44) 0 0 6))) rfl ?_
    refine pw_aload_n dX3_extend_33 rfl 0 rfl ?_
    refine pw_dup dX3_extend_34 rfl ?_
    refine pw_geti (v := G 43 3) dX3_extend_35 fa_X3_21 ly_43 rfl rfl ?_
    refine pw_iconst (v := (1 : Int32)) dX3_extend_38 (by decide) ?_
    refine pw_iadd dX3_extend_39 ?_
    refine pw_puti dX3_extend_40 fp_X3_21 ly_43 rfl ?_
    exact pw_return dX3_extend_43 rfl ⟨rfl, h⟩
def lp_X3_extend_55 (RC : Int32 → Int32 → GS → (Int32 → GS → Prop) → Prop) (Q : Int32 → GS → Prop)  : Nat → Int32 → Int32 → Int32 → GS → Prop
  | 0, _, _, _, _ => False
  | n + 1, x1, x2, x3, G => (((24 : Int32) < x3 → Q 0 G) ∧ (¬ (24 : Int32) < x3 → wp_X3_hasWordsFor x3 x1 G (fun r2 G3 => ((r2 = 0 → lp_X3_extend_55 RC Q n x1 x2 (x3 + 1) G3) ∧ (¬ r2 = 0 → (vp_in x1 6 ∧ wp_X3_changeLeft x3 x1 (-1 : Int32) (gu_ G3 45 x1.toNatClampNeg x3) (fun _ G6 => RC (x1 + (1 : Int32)) x2 G6 (fun _ G8 => wp_X3_changeLeft x3 x1 (1 : Int32) G8 (fun _ G10 => lp_X3_extend_55 RC Q n x1 x2 (x3 + 1) G10)))))))))
set_option maxRecDepth 100000 in
set_option maxHeartbeats 4000000 in
theorem t_X3_extend_55 {E : EV} (hE : EI_ E) {dd : Nat} (hdd : 1 ≤ dd) (RC : Int32 → Int32 → GS → (Int32 → GS → Prop) → Prop) (hRC : ∀ (a1 : Int32) (a2 : Int32) (G : GS) (Q : Int32 → GS → Prop), RC a1 a2 G Q → PMet E mi_X3_extend dd [.ref (ev_ad E 43), .int a1, .int a2] G (qv_ Q)) (Q : Int32 → GS → Prop)  : ∀ (n : Nat) (x1 : Int32) (x2 : Int32) (x3 : Int32) (G : GS), lp_X3_extend_55 RC Q n x1 x2 x3 G → PW_ E mi_X3_extend (rm_ (dd + 1)) 0 0 55 [(0, .ref (ev_ad E 43)), (1, .int x1), (2, .int x2), (3, .int x3)] [] G (qv_ Q) := by
  intro n
  induction n with
  | zero => intro x1 x2 x3 G h; exact h.elim
  | succ n ih =>
    intro x1 x2 x3 G h
    refine pw_iload_n dX3_extend_55 rfl 3 rfl ?_
    refine pw_bipush (v := (24 : Int32)) dX3_extend_56 (by decide) ?_
    refine pw_icmp_gt (tgt := 105) dX3_extend_58 (by decide) (fun hc => ?_) (fun hc => ?_)
    · have h := h.1 hc
      exact pw_return dX3_extend_105 rfl ⟨rfl, h⟩
    · have h := h.2 hc
      refine pw_aload_n dX3_extend_61 rfl 0 rfl ?_
      refine pw_iload_n dX3_extend_62 rfl 3 rfl ?_
      refine pw_iload_n dX3_extend_63 rfl 1 rfl ?_
      refine pw_callV (As := [.int x3, .int x1]) (rest := []) (s_X3_hasWordsFor hE h) dX3_extend_64 ly_43 rfl (Or.inl ml_X3_49) cm_X3_hasWordsFor rfl (rm_ok (by omega)) rm_0 (Nat.le_of_ble_eq_true rfl) ?_
      rintro _ G3 ⟨r2, rfl, h⟩
      refine pw_if_eq (tgt := 99) dX3_extend_67 (by decide) (fun hc => ?_) (fun hc => ?_)
      · have h := h.1 hc
        refine pw_iinc (k := 3) (v := x3 + 1) (lv' := [(3, .int (x3 + 1)), (0, .ref (ev_ad E 43)), (1, .int x1), (2, .int x2)]) dX3_extend_99 rfl rfl (by decide) rfl ?_
        refine pw_goto (tgt := 55) dX3_extend_102 (by decide) ?_
        refine pw_loc (lv' := [(0, .ref (ev_ad E 43)), (1, .int x1), (2, .int x2), (3, .int (x3 + 1))]) [1, 2, 3, 0] rfl ?_
        exact ih _ _ _ _ h
      · have h := h.2 hc
        refine pw_aload_n dX3_extend_70 rfl 0 rfl ?_
        refine pw_getr (q := 45) dX3_extend_71 fa_X3_15 ly_43 rfl ?_
        refine pw_iload_n dX3_extend_74 rfl 1 rfl ?_
        refine pw_iload_n dX3_extend_75 rfl 3 rfl ?_
        obtain ⟨hv4, h⟩ := h
        refine pw_iast (z := x1.toNatClampNeg) dX3_extend_76 ly_45 hv4 rfl ?_
        refine pw_aload_n dX3_extend_77 rfl 0 rfl ?_
        refine pw_iload_n dX3_extend_78 rfl 3 rfl ?_
        refine pw_iload_n dX3_extend_79 rfl 1 rfl ?_
        refine pw_iconst (v := (-1 : Int32)) dX3_extend_80 (by decide) ?_
        refine pw_callV (As := [.int x3, .int x1, .int (-1 : Int32)]) (rest := []) (s_X3_changeLeft hE h) dX3_extend_81 ly_43 rfl (Or.inl ml_X3_53) cm_X3_changeLeft rfl (rm_ok (by omega)) rm_0 (Nat.le_of_ble_eq_true rfl) ?_
        rintro _ G6 ⟨rfl, h⟩
        refine pw_aload_n dX3_extend_84 rfl 0 rfl ?_
        refine pw_iload_n dX3_extend_85 rfl 1 rfl ?_
        refine pw_iconst (v := (1 : Int32)) dX3_extend_86 (by decide) ?_
        refine pw_iadd dX3_extend_87 ?_
        refine pw_iload_n dX3_extend_88 rfl 2 rfl ?_
        refine pw_callV (As := [.int (x1 + (1 : Int32)), .int x2]) (rest := []) (hRC _ _ _ _ h) dX3_extend_89 ly_43 rfl (Or.inl ml_X3_39) cm_X3_extend rfl (rm_ok (by omega)) rm_0 (Nat.le_of_ble_eq_true rfl) ?_
        rintro _ G8 ⟨rfl, h⟩
        refine pw_aload_n dX3_extend_92 rfl 0 rfl ?_
        refine pw_iload_n dX3_extend_93 rfl 3 rfl ?_
        refine pw_iload_n dX3_extend_94 rfl 1 rfl ?_
        refine pw_iconst (v := (1 : Int32)) dX3_extend_95 (by decide) ?_
        refine pw_callV (As := [.int x3, .int x1, .int (1 : Int32)]) (rest := []) (s_X3_changeLeft hE h) dX3_extend_96 ly_43 rfl (Or.inl ml_X3_53) cm_X3_changeLeft rfl (rm_ok (by omega)) rm_0 (Nat.le_of_ble_eq_true rfl) ?_
        rintro _ G10 ⟨rfl, h⟩
        refine pw_iinc (k := 3) (v := x3 + 1) (lv' := [(3, .int (x3 + 1)), (0, .ref (ev_ad E 43)), (1, .int x1), (2, .int x2)]) dX3_extend_99 rfl rfl (by decide) rfl ?_
        refine pw_goto (tgt := 55) dX3_extend_102 (by decide) ?_
        refine pw_loc (lv' := [(0, .ref (ev_ad E 43)), (1, .int x1), (2, .int x2), (3, .int (x3 + 1))]) [1, 2, 3, 0] rfl ?_
        exact ih _ _ _ _ h
def be_X3_extend (RC : Int32 → Int32 → GS → (Int32 → GS → Prop) → Prop) (Q : Int32 → GS → Prop) (a1 : Int32) (a2 : Int32) (G : GS) : Prop := ((a2 ≤ a1 → bk_X3_extend_11 RC Q G) ∧ (¬ a2 ≤ a1 → ((a1 < (6 : Int32) → (vp_in (a1 - (1 : Int32)) 6 ∧ (∃ kf, lp_X3_extend_55 RC Q kf a1 a2 ((G 45 ((a1 - (1 : Int32)).toNatClampNeg)) + (1 : Int32)) G))) ∧ (¬ a1 < (6 : Int32) → bk_X3_extend_11 RC Q G))))
set_option maxRecDepth 100000 in
set_option maxHeartbeats 4000000 in
theorem te_X3_extend {E : EV} (hE : EI_ E) {dd : Nat} (hdd : 1 ≤ dd) (RC : Int32 → Int32 → GS → (Int32 → GS → Prop) → Prop) (hRC : ∀ (a1 : Int32) (a2 : Int32) (G : GS) (Q : Int32 → GS → Prop), RC a1 a2 G Q → PMet E mi_X3_extend dd [.ref (ev_ad E 43), .int a1, .int a2] G (qv_ Q)) (Q : Int32 → GS → Prop) {a1 : Int32} {a2 : Int32} {G : GS} (h : be_X3_extend RC Q a1 a2 G) : PW_ E mi_X3_extend (rm_ (dd + 1)) 0 0 0 [(0, .ref (ev_ad E 43)), (1, .int a1), (2, .int a2)] [] G (qv_ Q) := by
  refine pw_iload_n dX3_extend_0 rfl 1 rfl ?_
  refine pw_iload_n dX3_extend_1 rfl 2 rfl ?_
  refine pw_icmp_ge (tgt := 11) dX3_extend_2 (by decide) (fun hc => ?_) (fun hc => ?_)
  · have h := h.1 hc
    refine pw_loc (lv' := [(0, .ref (ev_ad E 43))]) [0] rfl ?_
    exact t_X3_extend_11 hE hdd RC hRC Q h
  · have h := h.2 hc
    refine pw_iload_n dX3_extend_5 rfl 1 rfl ?_
    refine pw_bipush (v := (6 : Int32)) dX3_extend_6 (by decide) ?_
    refine pw_icmp_lt (tgt := 44) dX3_extend_8 (by decide) (fun hc => ?_) (fun hc => ?_)
    · have h := h.1 hc
      refine pw_aload_n dX3_extend_44 rfl 0 rfl ?_
      refine pw_getr (q := 45) dX3_extend_45 fa_X3_15 ly_43 rfl ?_
      refine pw_iload_n dX3_extend_48 rfl 1 rfl ?_
      refine pw_iconst (v := (1 : Int32)) dX3_extend_49 (by decide) ?_
      refine pw_isub dX3_extend_50 ?_
      obtain ⟨hv1, h⟩ := h
      refine pw_iald (v := G 45 ((a1 - (1 : Int32)).toNatClampNeg)) dX3_extend_51 ly_45 hv1 rfl ?_
      refine pw_iconst (v := (1 : Int32)) dX3_extend_52 (by decide) ?_
      refine pw_iadd dX3_extend_53 ?_
      refine pw_istore_n (lv' := [(3, .int ((G 45 ((a1 - (1 : Int32)).toNatClampNeg)) + (1 : Int32))), (0, .ref (ev_ad E 43)), (1, .int a1), (2, .int a2)]) dX3_extend_54 rfl (by decide) rfl ?_
      refine pw_loc (lv' := [(0, .ref (ev_ad E 43)), (1, .int a1), (2, .int a2), (3, .int ((G 45 ((a1 - (1 : Int32)).toNatClampNeg)) + (1 : Int32)))]) [1, 2, 3, 0] rfl ?_
      obtain ⟨kf, h⟩ := h
      exact t_X3_extend_55 hE hdd RC hRC Q kf _ _ _ _ h
    · have h := h.2 hc
      refine pw_loc (lv' := [(0, .ref (ev_ad E 43))]) [0] rfl ?_
      exact t_X3_extend_11 hE hdd RC hRC Q h
def rc_X3_extend : Nat → Int32 → Int32 → GS → (Int32 → GS → Prop) → Prop
  | 0, _, _, _, _ => False
  | n + 1, a1, a2, G, Q => be_X3_extend (fun ba1 ba2 G Q => rc_X3_extend n ba1 ba2 G Q) Q a1 a2 G
set_option maxRecDepth 100000 in
set_option maxHeartbeats 4000000 in
theorem sr_X3_extend {E : EV} (hE : EI_ E) : ∀ (n : Nat) (a1 : Int32) (a2 : Int32) (G : GS) (Q : Int32 → GS → Prop), rc_X3_extend n a1 a2 G Q → PMet E mi_X3_extend (2 + n) [.ref (ev_ad E 43), .int a1, .int a2] G (qv_ Q) := by
  intro n
  induction n with
  | zero => intro a1 a2 G Q h; exact h.elim
  | succ n ih =>
    intro a1 a2 G Q h
    refine pm_of hE (by decide) (Nat.le_of_ble_eq_true rfl) ?_
    refine pw_loc (lv' := [(0, .ref (ev_ad E 43)), (1, .int a1), (2, .int a2)]) [0, 1, 2] rfl ?_
    exact te_X3_extend hE (dd := 2 + n) (by omega) (fun ba1 ba2 G Q => rc_X3_extend n ba1 ba2 G Q) ih Q h
def wp_X3_extend (a1 : Int32) (a2 : Int32) (G : GS) (Q : Int32 → GS → Prop) : Prop := rc_X3_extend 12 a1 a2 G Q
theorem s_X3_extend {E : EV} (hE : EI_ E) {a1 : Int32} {a2 : Int32} {G : GS} {Q : Int32 → GS → Prop} (h : wp_X3_extend a1 a2 G Q) : PMet E mi_X3_extend 14 [.ref (ev_ad E 43), .int a1, .int a2] G (qv_ Q) := sr_X3_extend hE 12 _ _ G Q h
def lp_X3_countRows_31 (Q : Int32 → GS → Prop)  : Nat → Int32 → Int32 → GS → Prop
  | 0, _, _, _ => False
  | n + 1, x1, x3, G => (((G 1 12) ≤ x3 → wp_X3_extend (1 : Int32) x1 (gu_ G 45 0 (0 : Int32)) (fun _ G4 => Q (G4 43 3) G4)) ∧ (¬ (G 1 12) ≤ x3 → (vp_in x3 15 ∧ (vp_in (G 8 x3.toNatClampNeg) 25 ∧ lp_X3_countRows_31 Q n x1 (x3 + 1) (gu_ G 46 ((G 8 x3.toNatClampNeg).toNatClampNeg) ((G 46 ((G 8 x3.toNatClampNeg).toNatClampNeg)) + (1 : Int32)))))))
set_option maxRecDepth 100000 in
set_option maxHeartbeats 4000000 in
theorem t_X3_countRows_31 {E : EV} (hE : EI_ E) (Q : Int32 → GS → Prop)  : ∀ (n : Nat) (x1 : Int32) (x3 : Int32) (G : GS), lp_X3_countRows_31 Q n x1 x3 G → PW_ E mi_X3_countRows (rm_ 15) 0 0 31 [(0, .ref (ev_ad E 43)), (1, .int x1), (2, .ref (ev_ad E 1)), (3, .int x3)] [] G (qi_ Q) := by
  intro n
  induction n with
  | zero => intro x1 x3 G h; exact h.elim
  | succ n ih =>
    intro x1 x3 G h
    refine pw_iload_n dX3_countRows_31 rfl 3 rfl ?_
    refine pw_aload_n dX3_countRows_32 rfl 2 rfl ?_
    refine pw_geti (v := G 1 12) dX3_countRows_33 fa_X3_25 ly_1 rfl rfl ?_
    refine pw_icmp_ge (tgt := 60) dX3_countRows_36 (by decide) (fun hc => ?_) (fun hc => ?_)
    · have h := h.1 hc
      refine pw_aload_n dX3_countRows_60 rfl 0 rfl ?_
      refine pw_getr (q := 45) dX3_countRows_61 fa_X3_15 ly_43 rfl ?_
      refine pw_iconst (v := (0 : Int32)) dX3_countRows_64 (by decide) ?_
      refine pw_iconst (v := (0 : Int32)) dX3_countRows_65 (by decide) ?_
      refine pw_iast (z := 0) dX3_countRows_66 ly_45 (by unfold vp_in; decide) rfl ?_
      refine pw_aload_n dX3_countRows_67 rfl 0 rfl ?_
      refine pw_iconst (v := (1 : Int32)) dX3_countRows_68 (by decide) ?_
      refine pw_iload_n dX3_countRows_69 rfl 1 rfl ?_
      refine pw_callV (As := [.int (1 : Int32), .int x1]) (rest := []) (s_X3_extend hE h) dX3_countRows_70 ly_43 rfl (Or.inl ml_X3_39) cm_X3_extend rfl (rm_ok (by decide)) rm_0 (Nat.le_of_ble_eq_true rfl) ?_
      rintro _ G4 ⟨rfl, h⟩
      refine pw_aload_n dX3_countRows_73 rfl 0 rfl ?_
      refine pw_geti (v := G4 43 3) dX3_countRows_74 fa_X3_21 ly_43 rfl rfl ?_
      exact pw_ireturn dX3_countRows_77 rfl rfl ⟨_, rfl, h⟩
    · have h := h.2 hc
      refine pw_aload_n dX3_countRows_39 rfl 0 rfl ?_
      refine pw_getr (q := 46) dX3_countRows_40 fa_X3_18 ly_43 rfl ?_
      refine pw_aload_n dX3_countRows_43 rfl 2 rfl ?_
      refine pw_getr (q := 8) dX3_countRows_44 fa_X3_36 ly_1 rfl ?_
      refine pw_iload_n dX3_countRows_47 rfl 3 rfl ?_
      obtain ⟨hv5, h⟩ := h
      refine pw_iald (v := G 8 x3.toNatClampNeg) dX3_countRows_48 ly_8 hv5 rfl ?_
      refine pw_dup2 dX3_countRows_49 rfl rfl ?_
      obtain ⟨hv6, h⟩ := h
      refine pw_iald (v := G 46 ((G 8 x3.toNatClampNeg).toNatClampNeg)) dX3_countRows_50 ly_46 hv6 rfl ?_
      refine pw_iconst (v := (1 : Int32)) dX3_countRows_51 (by decide) ?_
      refine pw_iadd dX3_countRows_52 ?_
      refine pw_iast (z := ((G 8 x3.toNatClampNeg).toNatClampNeg)) dX3_countRows_53 ly_46 hv6 rfl ?_
      refine pw_iinc (k := 3) (v := x3 + 1) (lv' := [(3, .int (x3 + 1)), (0, .ref (ev_ad E 43)), (1, .int x1), (2, .ref (ev_ad E 1))]) dX3_countRows_54 rfl rfl (by decide) rfl ?_
      refine pw_goto (tgt := 31) dX3_countRows_57 (by decide) ?_
      refine pw_loc (lv' := [(0, .ref (ev_ad E 43)), (1, .int x1), (2, .ref (ev_ad E 1)), (3, .int (x3 + 1))]) [1, 2, 3, 0] rfl ?_
      exact ih _ _ _ h
def wp_X3_countRows (a1 : Int32) (G : GS) (Q : Int32 → GS → Prop) : Prop := (((G 1 12) = ((a1 * (a1 - (1 : Int32))) / (2 : Int32)) → wp_J7_fill (0 : Int32) (gu_ G 43 3 (0 : Int32)) (fun _ G2 => (∃ kf, lp_X3_countRows_31 Q kf a1 (0 : Int32) G2))) ∧ (¬ (G 1 12) = ((a1 * (a1 - (1 : Int32))) / (2 : Int32)) → Q (0 : Int32) (gu_ G 43 3 (0 : Int32))))
set_option maxRecDepth 100000 in
set_option maxHeartbeats 4000000 in
theorem s_X3_countRows {E : EV} (hE : EI_ E) {a1 : Int32} {G : GS} {Q : Int32 → GS → Prop} (h : wp_X3_countRows a1 G Q) : PMet E mi_X3_countRows 15 [.ref (ev_ad E 43), .int a1, .ref (ev_ad E 1)] G (qi_ Q) := by
  refine pm_of hE (by decide) (Nat.le_of_ble_eq_true rfl) ?_
  refine pw_loc (lv' := [(0, .ref (ev_ad E 43)), (1, .int a1), (2, .ref (ev_ad E 1))]) [0, 1, 2] rfl ?_
  refine pw_aload_n dX3_countRows_0 rfl 0 rfl ?_
  refine pw_iconst (v := (0 : Int32)) dX3_countRows_1 (by decide) ?_
  refine pw_puti dX3_countRows_2 fp_X3_21 ly_43 rfl ?_
  refine pw_aload_n dX3_countRows_5 rfl 2 rfl ?_
  refine pw_geti (v := G 1 12) dX3_countRows_6 fa_X3_25 ly_1 rfl rfl ?_
  refine pw_iload_n dX3_countRows_9 rfl 1 rfl ?_
  refine pw_iload_n dX3_countRows_10 rfl 1 rfl ?_
  refine pw_iconst (v := (1 : Int32)) dX3_countRows_11 (by decide) ?_
  refine pw_isub dX3_countRows_12 ?_
  refine pw_imul dX3_countRows_13 ?_
  refine pw_iconst (v := (2 : Int32)) dX3_countRows_14 (by decide) ?_
  refine pw_idiv dX3_countRows_15 (by decide) ?_
  refine pw_icmp_eq (tgt := 21) dX3_countRows_16 (by decide) (fun hc => ?_) (fun hc => ?_)
  · have h := h.1 hc
    refine pw_aload_n dX3_countRows_21 rfl 0 rfl ?_
    refine pw_getr (q := 46) dX3_countRows_22 fa_X3_18 ly_43 rfl ?_
    refine pw_iconst (v := (0 : Int32)) dX3_countRows_25 (by decide) ?_
    refine pw_callS (As := [.ref (ev_ad E 46), .int (0 : Int32)]) (rest := []) (s_J7_fill hE h) dX3_countRows_26 ml_X3_30 cs_J7_fill_53178 rfl (rm_ok (by decide)) rm_0 (Nat.le_of_ble_eq_true rfl) ?_
    rintro _ G2 ⟨rfl, h⟩
    refine pw_iconst (v := (0 : Int32)) dX3_countRows_29 (by decide) ?_
    refine pw_istore_n (lv' := [(3, .int (0 : Int32)), (0, .ref (ev_ad E 43)), (1, .int a1), (2, .ref (ev_ad E 1))]) dX3_countRows_30 rfl (by decide) rfl ?_
    refine pw_loc (lv' := [(0, .ref (ev_ad E 43)), (1, .int a1), (2, .ref (ev_ad E 1)), (3, .int (0 : Int32))]) [1, 2, 3, 0] rfl ?_
    obtain ⟨kf, h⟩ := h
    exact t_X3_countRows_31 hE Q kf _ _ _ h
  · have h := h.2 hc
    refine pw_iconst (v := (0 : Int32)) dX3_countRows_19 (by decide) ?_
    exact pw_ireturn dX3_countRows_20 rfl rfl ⟨_, rfl, h⟩
def bk_X9_fit_25 (Q : Int32 → GS → Prop)  (x1 : Int32) (x2 : Int32) (G : GS) : Prop := wp_X3_countRows x1 G (fun r3 G4 => ((¬ x2 = 0 → ((¬ r3 = 0 → (vp_in (x2 - (10 : Int32)) 6 ∧ Q (G4 44 ((x2 - (10 : Int32)).toNatClampNeg)) G4)) ∧ (r3 = 0 → Q (-1 : Int32) G4))) ∧ (x2 = 0 → Q r3 G4)))
set_option maxRecDepth 100000 in
set_option maxHeartbeats 4000000 in
theorem t_X9_fit_25 {E : EV} (hE : EI_ E) (Q : Int32 → GS → Prop)  {x1 : Int32} {x2 : Int32} {G : GS} (h : bk_X9_fit_25 Q x1 x2 G) : PW_ E mi_X9_fit (rm_ 16) 0 0 25 [(0, .ref (ev_ad E 0)), (1, .int x1), (2, .int x2)] [] G (qi_ Q) := by
  refine pw_aload_n dX9_fit_25 rfl 0 rfl ?_
  refine pw_getr (q := 43) dX9_fit_26 fa_X9_64 ly_0 rfl ?_
  refine pw_iload_n dX9_fit_29 rfl 1 rfl ?_
  refine pw_aload_n dX9_fit_30 rfl 0 rfl ?_
  refine pw_getr (q := 1) dX9_fit_31 fa_X9_10 ly_0 rfl ?_
  refine pw_callV (As := [.int x1, .ref (ev_ad E 1)]) (rest := []) (s_X3_countRows hE h) dX9_fit_34 ly_43 rfl (Or.inr mn_X9_236) cm_X3_countRows rfl (rm_ok (by decide)) rm_0 (Nat.le_of_ble_eq_true rfl) ?_
  rintro _ G4 ⟨r3, rfl, h⟩
  refine pw_istore_n (lv' := [(3, .int r3), (0, .ref (ev_ad E 0)), (1, .int x1), (2, .int x2)]) dX9_fit_37 rfl (by decide) rfl ?_
  refine pw_iload_n dX9_fit_38 rfl 3 rfl ?_
  refine pw_if_ne (tgt := 44) dX9_fit_39 (by decide) (fun hc => ?_) (fun hc => ?_)
  · have h := h.1 hc
    refine pw_iload_n dX9_fit_44 rfl 0 rfl ?_
    refine pw_if_ne (tgt := 52) dX9_fit_45 (by decide) (fun hc => ?_) (fun hc => ?_)
    · have h := h.1 hc
      refine pw_aload_n dX9_fit_52 rfl 1 rfl ?_
      refine pw_getr (q := 43) dX9_fit_53 fa_X9_64 ly_0 rfl ?_
      refine pw_getr (q := 44) dX9_fit_56 fa_X9_240 ly_43 rfl ?_
      refine pw_iload_n dX9_fit_59 rfl 3 rfl ?_
      refine pw_bipush (v := (10 : Int32)) dX9_fit_60 (by decide) ?_
      refine pw_isub dX9_fit_62 ?_
      obtain ⟨hv5, h⟩ := h
      refine pw_iald (v := G4 44 ((x2 - (10 : Int32)).toNatClampNeg)) dX9_fit_63 ly_44 hv5 rfl ?_
      exact pw_ireturn dX9_fit_64 rfl rfl ⟨_, rfl, h⟩
    · have h := h.2 hc
      refine pw_iconst (v := (-1 : Int32)) dX9_fit_48 (by decide) ?_
      refine pw_goto (tgt := 64) dX9_fit_49 (by decide) ?_
      exact pw_ireturn dX9_fit_64 rfl rfl ⟨_, rfl, h⟩
  · have h := h.2 hc
    refine pw_iload_n dX9_fit_42 rfl 0 rfl ?_
    exact pw_ireturn dX9_fit_43 rfl rfl ⟨_, rfl, h⟩
def wp_X9_fit (a1 : Int32) (a2 : Int32) (G : GS) (Q : Int32 → GS → Prop) : Prop := ((a1 < (1 : Int32) → Q (-1 : Int32) G) ∧ (¬ a1 < (1 : Int32) → (((6 : Int32) < a1 → Q (-1 : Int32) G) ∧ (¬ (6 : Int32) < a1 → ((a2 = 0 → bk_X9_fit_25 Q a1 a2 G) ∧ (¬ a2 = 0 → wp_X9_isInRow a2 a1 G (fun r1 G2 => ((¬ r1 = 0 → bk_X9_fit_25 Q a1 a2 G2) ∧ (r1 = 0 → Q (-1 : Int32) G2)))))))))
set_option maxRecDepth 100000 in
set_option maxHeartbeats 4000000 in
theorem s_X9_fit {E : EV} (hE : EI_ E) {a1 : Int32} {a2 : Int32} {G : GS} {Q : Int32 → GS → Prop} (h : wp_X9_fit a1 a2 G Q) : PMet E mi_X9_fit 16 [.ref (ev_ad E 0), .int a1, .int a2] G (qi_ Q) := by
  refine pm_of hE (by decide) (Nat.le_of_ble_eq_true rfl) ?_
  refine pw_loc (lv' := [(0, .ref (ev_ad E 0)), (1, .int a1), (2, .int a2)]) [0, 1, 2] rfl ?_
  refine pw_iload_n dX9_fit_0 rfl 1 rfl ?_
  refine pw_iconst (v := (1 : Int32)) dX9_fit_1 (by decide) ?_
  refine pw_icmp_lt (tgt := 23) dX9_fit_2 (by decide) (fun hc => ?_) (fun hc => ?_)
  · have h := h.1 hc
    refine pw_iconst (v := (-1 : Int32)) dX9_fit_23 (by decide) ?_
    exact pw_ireturn dX9_fit_24 rfl rfl ⟨_, rfl, h⟩
  · have h := h.2 hc
    refine pw_iload_n dX9_fit_5 rfl 1 rfl ?_
    refine pw_bipush (v := (6 : Int32)) dX9_fit_6 (by decide) ?_
    refine pw_icmp_gt (tgt := 23) dX9_fit_8 (by decide) (fun hc => ?_) (fun hc => ?_)
    · have h := h.1 hc
      refine pw_iconst (v := (-1 : Int32)) dX9_fit_23 (by decide) ?_
      exact pw_ireturn dX9_fit_24 rfl rfl ⟨_, rfl, h⟩
    · have h := h.2 hc
      refine pw_iload_n dX9_fit_11 rfl 2 rfl ?_
      refine pw_if_eq (tgt := 25) dX9_fit_12 (by decide) (fun hc => ?_) (fun hc => ?_)
      · have h := h.1 hc
        refine pw_loc (lv' := [(0, .ref (ev_ad E 0)), (1, .int a1), (2, .int a2)]) [0, 1, 2] rfl ?_
        exact t_X9_fit_25 hE Q h
      · have h := h.2 hc
        refine pw_iload_n dX9_fit_15 rfl 2 rfl ?_
        refine pw_iload_n dX9_fit_16 rfl 1 rfl ?_
        refine pw_callS (As := [.int a2, .int a1]) (rest := []) (s_X9_isInRow hE h) dX9_fit_17 ml_X9_223 cs_X9_isInRow rfl (rm_ok (by decide)) rm_0 (Nat.le_of_ble_eq_true rfl) ?_
        rintro _ G2 ⟨r1, rfl, h⟩
        refine pw_if_ne (tgt := 25) dX9_fit_20 (by decide) (fun hc => ?_) (fun hc => ?_)
        · have h := h.1 hc
          refine pw_loc (lv' := [(0, .ref (ev_ad E 0)), (1, .int a1), (2, .int a2)]) [0, 1, 2] rfl ?_
          exact t_X9_fit_25 hE Q h
        · have h := h.2 hc
          refine pw_iconst (v := (-1 : Int32)) dX9_fit_23 (by decide) ?_
          exact pw_ireturn dX9_fit_24 rfl rfl ⟨_, rfl, h⟩
def lp_X8_toldSet_4 (Q : Int32 → GS → Prop)  : Nat → Int32 → Int32 → GS → Prop
  | 0, _, _, _ => False
  | n + 1, x1, x2, G => (((G 1 12) ≤ x2 → Q x1 G) ∧ (¬ (G 1 12) ≤ x2 → (vp_in x2 15 ∧ lp_X8_toldSet_4 Q n (x1 ||| ((1 : Int32) <<< ((G 8 x2.toNatClampNeg) &&& 31))) (x2 + 1) G)))
set_option maxRecDepth 100000 in
set_option maxHeartbeats 4000000 in
theorem t_X8_toldSet_4 {E : EV} (hE : EI_ E) (Q : Int32 → GS → Prop)  : ∀ (n : Nat) (x1 : Int32) (x2 : Int32) (G : GS), lp_X8_toldSet_4 Q n x1 x2 G → PW_ E mi_X8_toldSet (rm_ 1) 0 0 4 [(0, .ref (ev_ad E 1)), (1, .int x1), (2, .int x2)] [] G (qi_ Q) := by
  intro n
  induction n with
  | zero => intro x1 x2 G h; exact h.elim
  | succ n ih =>
    intro x1 x2 G h
    refine pw_iload_n dX8_toldSet_4 rfl 2 rfl ?_
    refine pw_aload_n dX8_toldSet_5 rfl 0 rfl ?_
    refine pw_geti (v := G 1 12) dX8_toldSet_6 fa_X8_78 ly_1 rfl rfl ?_
    refine pw_icmp_ge (tgt := 29) dX8_toldSet_9 (by decide) (fun hc => ?_) (fun hc => ?_)
    · have h := h.1 hc
      refine pw_iload_n dX8_toldSet_29 rfl 1 rfl ?_
      exact pw_ireturn dX8_toldSet_30 rfl rfl ⟨_, rfl, h⟩
    · have h := h.2 hc
      refine pw_iload_n dX8_toldSet_12 rfl 1 rfl ?_
      refine pw_iconst (v := (1 : Int32)) dX8_toldSet_13 (by decide) ?_
      refine pw_aload_n dX8_toldSet_14 rfl 0 rfl ?_
      refine pw_getr (q := 8) dX8_toldSet_15 fa_X8_36 ly_1 rfl ?_
      refine pw_iload_n dX8_toldSet_18 rfl 2 rfl ?_
      obtain ⟨hv1, h⟩ := h
      refine pw_iald (v := G 8 x2.toNatClampNeg) dX8_toldSet_19 ly_8 hv1 rfl ?_
      refine pw_ishl dX8_toldSet_20 ?_
      refine pw_ior dX8_toldSet_21 ?_
      refine pw_istore_n (lv' := [(1, .int (x1 ||| ((1 : Int32) <<< ((G 8 x2.toNatClampNeg) &&& 31)))), (0, .ref (ev_ad E 1)), (2, .int x2)]) dX8_toldSet_22 rfl (by decide) rfl ?_
      refine pw_iinc (k := 2) (v := x2 + 1) (lv' := [(2, .int (x2 + 1)), (1, .int (x1 ||| ((1 : Int32) <<< ((G 8 x2.toNatClampNeg) &&& 31)))), (0, .ref (ev_ad E 1))]) dX8_toldSet_23 rfl rfl (by decide) rfl ?_
      refine pw_goto (tgt := 4) dX8_toldSet_26 (by decide) ?_
      refine pw_loc (lv' := [(0, .ref (ev_ad E 1)), (1, .int (x1 ||| ((1 : Int32) <<< ((G 8 x2.toNatClampNeg) &&& 31)))), (2, .int (x2 + 1))]) [2, 1, 0] rfl ?_
      exact ih _ _ _ h
def wp_X8_toldSet  (G : GS) (Q : Int32 → GS → Prop) : Prop := (∃ kf, lp_X8_toldSet_4 Q kf (0 : Int32) (0 : Int32) G)
set_option maxRecDepth 100000 in
set_option maxHeartbeats 4000000 in
theorem s_X8_toldSet {E : EV} (hE : EI_ E)  {G : GS} {Q : Int32 → GS → Prop} (h : wp_X8_toldSet  G Q) : PMet E mi_X8_toldSet 1 [.ref (ev_ad E 1)] G (qi_ Q) := by
  refine pm_of hE (by decide) (Nat.le_of_ble_eq_true rfl) ?_
  refine pw_loc (lv' := [(0, .ref (ev_ad E 1))]) [0] rfl ?_
  refine pw_iconst (v := (0 : Int32)) dX8_toldSet_0 (by decide) ?_
  refine pw_istore_n (lv' := [(1, .int (0 : Int32)), (0, .ref (ev_ad E 1))]) dX8_toldSet_1 rfl (by decide) rfl ?_
  refine pw_iconst (v := (0 : Int32)) dX8_toldSet_2 (by decide) ?_
  refine pw_istore_n (lv' := [(2, .int (0 : Int32)), (1, .int (0 : Int32)), (0, .ref (ev_ad E 1))]) dX8_toldSet_3 rfl (by decide) rfl ?_
  refine pw_loc (lv' := [(0, .ref (ev_ad E 1)), (1, .int (0 : Int32)), (2, .int (0 : Int32))]) [2, 1, 0] rfl ?_
  obtain ⟨kf, h⟩ := h
  exact t_X8_toldSet_4 hE Q kf _ _ _ h
def lp_X1_extend_60 (RC : Int32 → Int32 → Int32 → Int32 → GS → (Int32 → GS → Prop) → Prop) (Q : Int32 → GS → Prop)  : Nat → Int32 → Int32 → Int32 → Int32 → Int32 → GS → Prop
  | 0, _, _, _, _, _, _ => False
  | n + 1, x1, x2, x3, x4, x6, G => (((24 : Int32) < x6 → Q (0 : Int32) G) ∧ (¬ (24 : Int32) < x6 → (vp_in x1 5 ∧ RC (x1 + (1 : Int32)) x2 (x3 ||| ((1 : Int32) <<< (((24 : Int32) - x6) &&& 31))) (x4 &&& ((ush_ x3 ((24 : Int32) - x6)) ^^^ (-1 : Int32))) (gu_ G 48 x1.toNatClampNeg x6) (fun r5 G6 => ((r5 = 0 → lp_X1_extend_60 RC Q n x1 x2 x3 x4 (x6 + 1) G6) ∧ (¬ r5 = 0 → Q (1 : Int32) G6))))))
set_option maxRecDepth 100000 in
set_option maxHeartbeats 4000000 in
theorem t_X1_extend_60 {E : EV} (hE : EI_ E) {dd : Nat} (hdd : 1 ≤ dd) (RC : Int32 → Int32 → Int32 → Int32 → GS → (Int32 → GS → Prop) → Prop) (hRC : ∀ (a1 : Int32) (a2 : Int32) (a3 : Int32) (a4 : Int32) (G : GS) (Q : Int32 → GS → Prop), RC a1 a2 a3 a4 G Q → PMet E mi_X1_extend dd [.ref (ev_ad E 47), .int a1, .int a2, .int a3, .int a4] G (qi_ Q)) (Q : Int32 → GS → Prop)  : ∀ (n : Nat) (x1 : Int32) (x2 : Int32) (x3 : Int32) (x4 : Int32) (x6 : Int32) (G : GS), lp_X1_extend_60 RC Q n x1 x2 x3 x4 x6 G → PW_ E mi_X1_extend (rm_ (dd + 1)) 0 0 60 [(0, .ref (ev_ad E 47)), (1, .int x1), (2, .int x2), (3, .int x3), (4, .int x4), (6, .int x6)] [] G (qi_ Q) := by
  intro n
  induction n with
  | zero => intro x1 x2 x3 x4 x6 G h; exact h.elim
  | succ n ih =>
    intro x1 x2 x3 x4 x6 G h
    refine pw_iload dX1_extend_60 5 rfl ?_
    refine pw_bipush (v := (24 : Int32)) dX1_extend_62 (by decide) ?_
    refine pw_icmp_gt (tgt := 116) dX1_extend_64 (by decide) (fun hc => ?_) (fun hc => ?_)
    · have h := h.1 hc
      refine pw_iconst (v := (0 : Int32)) dX1_extend_116 (by decide) ?_
      exact pw_ireturn dX1_extend_117 rfl rfl ⟨_, rfl, h⟩
    · have h := h.2 hc
      refine pw_aload_n dX1_extend_67 rfl 0 rfl ?_
      refine pw_getr (q := 48) dX1_extend_68 fa_X1_9 ly_47 rfl ?_
      refine pw_iload_n dX1_extend_71 rfl 1 rfl ?_
      refine pw_iload dX1_extend_72 5 rfl ?_
      obtain ⟨hv4, h⟩ := h
      refine pw_iast (z := x1.toNatClampNeg) dX1_extend_74 ly_48 hv4 rfl ?_
      refine pw_bipush (v := (24 : Int32)) dX1_extend_75 (by decide) ?_
      refine pw_iload dX1_extend_77 5 rfl ?_
      refine pw_isub dX1_extend_79 ?_
      refine pw_istore (lv' := [(7, .int ((24 : Int32) - x6)), (0, .ref (ev_ad E 47)), (1, .int x1), (2, .int x2), (3, .int x3), (4, .int x4), (6, .int x6)]) dX1_extend_80 (by decide) rfl ?_
      refine pw_aload_n dX1_extend_82 rfl 1 rfl ?_
      refine pw_iload_n dX1_extend_83 rfl 2 rfl ?_
      refine pw_iconst (v := (1 : Int32)) dX1_extend_84 (by decide) ?_
      refine pw_iadd dX1_extend_85 ?_
      refine pw_iload_n dX1_extend_86 rfl 3 rfl ?_
      refine pw_iload_n dX1_extend_87 rfl 4 rfl ?_
      refine pw_iconst (v := (1 : Int32)) dX1_extend_88 (by decide) ?_
      refine pw_iload dX1_extend_89 0 rfl ?_
      refine pw_ishl dX1_extend_91 ?_
      refine pw_ior dX1_extend_92 ?_
      refine pw_iload dX1_extend_93 5 rfl ?_
      refine pw_iload_n dX1_extend_95 rfl 4 rfl ?_
      refine pw_iload dX1_extend_96 0 rfl ?_
      refine pw_iushr dX1_extend_98 ?_
      refine pw_iconst (v := (-1 : Int32)) dX1_extend_99 (by decide) ?_
      refine pw_ixor dX1_extend_100 ?_
      refine pw_iand dX1_extend_101 ?_
      refine pw_callV (As := [.int (x1 + (1 : Int32)), .int x2, .int (x3 ||| ((1 : Int32) <<< (((24 : Int32) - x6) &&& 31))), .int (x4 &&& ((ush_ x3 ((24 : Int32) - x6)) ^^^ (-1 : Int32)))]) (rest := []) (hRC _ _ _ _ _ _ h) dX1_extend_102 ly_47 rfl (Or.inl ml_X1_16) cm_X1_extend rfl (rm_ok (by omega)) rm_0 (Nat.le_of_ble_eq_true rfl) ?_
      rintro _ G6 ⟨r5, rfl, h⟩
      refine pw_if_eq (tgt := 110) dX1_extend_105 (by decide) (fun hc => ?_) (fun hc => ?_)
      · have h := h.1 hc
        refine pw_iinc (k := 6) (v := x6 + 1) (lv' := [(6, .int (x6 + 1)), (7, .int ((24 : Int32) - x6)), (0, .ref (ev_ad E 47)), (1, .int x1), (2, .int x2), (3, .int x3), (4, .int x4)]) dX1_extend_110 rfl rfl (by decide) rfl ?_
        refine pw_goto (tgt := 60) dX1_extend_113 (by decide) ?_
        refine pw_loc (lv' := [(0, .ref (ev_ad E 47)), (1, .int x1), (2, .int x2), (3, .int x3), (4, .int x4), (6, .int (x6 + 1))]) [2, 3, 4, 5, 6, 0] rfl ?_
        exact ih _ _ _ _ _ _ h
      · have h := h.2 hc
        refine pw_iconst (v := (1 : Int32)) dX1_extend_108 (by decide) ?_
        exact pw_ireturn dX1_extend_109 rfl rfl ⟨_, rfl, h⟩
def be_X1_extend (RC : Int32 → Int32 → Int32 → Int32 → GS → (Int32 → GS → Prop) → Prop) (Q : Int32 → GS → Prop) (a1 : Int32) (a2 : Int32) (a3 : Int32) (a4 : Int32) (G : GS) : Prop := ((a2 ≤ a1 → ((¬ a4 = 0 → Q (0 : Int32) G) ∧ (a4 = 0 → Q (1 : Int32) G))) ∧ (¬ a2 ≤ a1 → ((a1 < (5 : Int32) → wp_J6_bitCount a4 G (fun r1 G2 => ((r1 ≤ (((a2 * (a2 - (1 : Int32))) - (a1 * (a1 - (1 : Int32)))) / (2 : Int32)) → (vp_in (a1 - (1 : Int32)) 5 ∧ (∃ kf, lp_X1_extend_60 RC Q kf a1 a2 a3 a4 ((G2 48 ((a1 - (1 : Int32)).toNatClampNeg)) + (1 : Int32)) G2))) ∧ (¬ r1 ≤ (((a2 * (a2 - (1 : Int32))) - (a1 * (a1 - (1 : Int32)))) / (2 : Int32)) → Q (0 : Int32) G2)))) ∧ (¬ a1 < (5 : Int32) → ((¬ a4 = 0 → Q (0 : Int32) G) ∧ (a4 = 0 → Q (1 : Int32) G))))))
set_option maxRecDepth 100000 in
set_option maxHeartbeats 4000000 in
theorem te_X1_extend {E : EV} (hE : EI_ E) {dd : Nat} (hdd : 1 ≤ dd) (RC : Int32 → Int32 → Int32 → Int32 → GS → (Int32 → GS → Prop) → Prop) (hRC : ∀ (a1 : Int32) (a2 : Int32) (a3 : Int32) (a4 : Int32) (G : GS) (Q : Int32 → GS → Prop), RC a1 a2 a3 a4 G Q → PMet E mi_X1_extend dd [.ref (ev_ad E 47), .int a1, .int a2, .int a3, .int a4] G (qi_ Q)) (Q : Int32 → GS → Prop) {a1 : Int32} {a2 : Int32} {a3 : Int32} {a4 : Int32} {G : GS} (h : be_X1_extend RC Q a1 a2 a3 a4 G) : PW_ E mi_X1_extend (rm_ (dd + 1)) 0 0 0 [(0, .ref (ev_ad E 47)), (1, .int a1), (2, .int a2), (3, .int a3), (4, .int a4)] [] G (qi_ Q) := by
  refine pw_iload_n dX1_extend_0 rfl 1 rfl ?_
  refine pw_iload_n dX1_extend_1 rfl 2 rfl ?_
  refine pw_icmp_ge (tgt := 10) dX1_extend_2 (by decide) (fun hc => ?_) (fun hc => ?_)
  · have h := h.1 hc
    refine pw_iload dX1_extend_10 4 rfl ?_
    refine pw_if_ne (tgt := 19) dX1_extend_12 (by decide) (fun hc => ?_) (fun hc => ?_)
    · have h := h.1 hc
      refine pw_iconst (v := (0 : Int32)) dX1_extend_19 (by decide) ?_
      exact pw_ireturn dX1_extend_20 rfl rfl ⟨_, rfl, h⟩
    · have h := h.2 hc
      refine pw_iconst (v := (1 : Int32)) dX1_extend_15 (by decide) ?_
      refine pw_goto (tgt := 20) dX1_extend_16 (by decide) ?_
      exact pw_ireturn dX1_extend_20 rfl rfl ⟨_, rfl, h⟩
  · have h := h.2 hc
    refine pw_iload_n dX1_extend_5 rfl 1 rfl ?_
    refine pw_iconst (v := (5 : Int32)) dX1_extend_6 (by decide) ?_
    refine pw_icmp_lt (tgt := 21) dX1_extend_7 (by decide) (fun hc => ?_) (fun hc => ?_)
    · have h := h.1 hc
      refine pw_iload_n dX1_extend_21 rfl 2 rfl ?_
      refine pw_iload_n dX1_extend_22 rfl 2 rfl ?_
      refine pw_iconst (v := (1 : Int32)) dX1_extend_23 (by decide) ?_
      refine pw_isub dX1_extend_24 ?_
      refine pw_imul dX1_extend_25 ?_
      refine pw_iload_n dX1_extend_26 rfl 1 rfl ?_
      refine pw_iload_n dX1_extend_27 rfl 1 rfl ?_
      refine pw_iconst (v := (1 : Int32)) dX1_extend_28 (by decide) ?_
      refine pw_isub dX1_extend_29 ?_
      refine pw_imul dX1_extend_30 ?_
      refine pw_isub dX1_extend_31 ?_
      refine pw_iconst (v := (2 : Int32)) dX1_extend_32 (by decide) ?_
      refine pw_idiv dX1_extend_33 (by decide) ?_
      refine pw_istore (lv' := [(5, .int (((a2 * (a2 - (1 : Int32))) - (a1 * (a1 - (1 : Int32)))) / (2 : Int32))), (0, .ref (ev_ad E 47)), (1, .int a1), (2, .int a2), (3, .int a3), (4, .int a4)]) dX1_extend_34 (by decide) rfl ?_
      refine pw_iload dX1_extend_36 5 rfl ?_
      refine pw_callS (As := [.int a4]) (rest := []) (s_J6_bitCount hE h) dX1_extend_38 ml_X1_20 cs_J6_bitCount_0f7a4 rfl (rm_ok (by omega)) rm_0 (Nat.le_of_ble_eq_true rfl) ?_
      rintro _ G2 ⟨r1, rfl, h⟩
      refine pw_iload dX1_extend_41 0 rfl ?_
      refine pw_icmp_le (tgt := 48) dX1_extend_43 (by decide) (fun hc => ?_) (fun hc => ?_)
      · have h := h.1 hc
        refine pw_aload_n dX1_extend_48 rfl 1 rfl ?_
        refine pw_getr (q := 48) dX1_extend_49 fa_X1_9 ly_47 rfl ?_
        refine pw_iload_n dX1_extend_52 rfl 2 rfl ?_
        refine pw_iconst (v := (1 : Int32)) dX1_extend_53 (by decide) ?_
        refine pw_isub dX1_extend_54 ?_
        obtain ⟨hv3, h⟩ := h
        refine pw_iald (v := G2 48 ((a1 - (1 : Int32)).toNatClampNeg)) dX1_extend_55 ly_48 hv3 rfl ?_
        refine pw_iconst (v := (1 : Int32)) dX1_extend_56 (by decide) ?_
        refine pw_iadd dX1_extend_57 ?_
        refine pw_istore (lv' := [(6, .int ((G2 48 ((a1 - (1 : Int32)).toNatClampNeg)) + (1 : Int32))), (5, .int (((a2 * (a2 - (1 : Int32))) - (a1 * (a1 - (1 : Int32)))) / (2 : Int32))), (0, .ref (ev_ad E 47)), (1, .int a1), (2, .int a2), (3, .int a3), (4, .int a4)]) dX1_extend_58 (by decide) rfl ?_
        refine pw_loc (lv' := [(0, .ref (ev_ad E 47)), (1, .int a1), (2, .int a2), (3, .int a3), (4, .int a4), (6, .int ((G2 48 ((a1 - (1 : Int32)).toNatClampNeg)) + (1 : Int32)))]) [2, 3, 4, 5, 6, 0] rfl ?_
        obtain ⟨kf, h⟩ := h
        exact t_X1_extend_60 hE hdd RC hRC Q kf _ _ _ _ _ _ h
      · have h := h.2 hc
        refine pw_iconst (v := (0 : Int32)) dX1_extend_46 (by decide) ?_
        exact pw_ireturn dX1_extend_47 rfl rfl ⟨_, rfl, h⟩
    · have h := h.2 hc
      refine pw_iload dX1_extend_10 4 rfl ?_
      refine pw_if_ne (tgt := 19) dX1_extend_12 (by decide) (fun hc => ?_) (fun hc => ?_)
      · have h := h.1 hc
        refine pw_iconst (v := (0 : Int32)) dX1_extend_19 (by decide) ?_
        exact pw_ireturn dX1_extend_20 rfl rfl ⟨_, rfl, h⟩
      · have h := h.2 hc
        refine pw_iconst (v := (1 : Int32)) dX1_extend_15 (by decide) ?_
        refine pw_goto (tgt := 20) dX1_extend_16 (by decide) ?_
        exact pw_ireturn dX1_extend_20 rfl rfl ⟨_, rfl, h⟩
def rc_X1_extend : Nat → Int32 → Int32 → Int32 → Int32 → GS → (Int32 → GS → Prop) → Prop
  | 0, _, _, _, _, _, _ => False
  | n + 1, a1, a2, a3, a4, G, Q => be_X1_extend (fun ba1 ba2 ba3 ba4 G Q => rc_X1_extend n ba1 ba2 ba3 ba4 G Q) Q a1 a2 a3 a4 G
set_option maxRecDepth 100000 in
set_option maxHeartbeats 4000000 in
theorem sr_X1_extend {E : EV} (hE : EI_ E) : ∀ (n : Nat) (a1 : Int32) (a2 : Int32) (a3 : Int32) (a4 : Int32) (G : GS) (Q : Int32 → GS → Prop), rc_X1_extend n a1 a2 a3 a4 G Q → PMet E mi_X1_extend (2 + n) [.ref (ev_ad E 47), .int a1, .int a2, .int a3, .int a4] G (qi_ Q) := by
  intro n
  induction n with
  | zero => intro a1 a2 a3 a4 G Q h; exact h.elim
  | succ n ih =>
    intro a1 a2 a3 a4 G Q h
    refine pm_of hE (by decide) (Nat.le_of_ble_eq_true rfl) ?_
    refine pw_loc (lv' := [(0, .ref (ev_ad E 47)), (1, .int a1), (2, .int a2), (3, .int a3), (4, .int a4)]) [0, 1, 2, 3, 4] rfl ?_
    exact te_X1_extend hE (dd := 2 + n) (by omega) (fun ba1 ba2 ba3 ba4 G Q => rc_X1_extend n ba1 ba2 ba3 ba4 G Q) ih Q h
def wp_X1_extend (a1 : Int32) (a2 : Int32) (a3 : Int32) (a4 : Int32) (G : GS) (Q : Int32 → GS → Prop) : Prop := rc_X1_extend 12 a1 a2 a3 a4 G Q
theorem s_X1_extend {E : EV} (hE : EI_ E) {a1 : Int32} {a2 : Int32} {a3 : Int32} {a4 : Int32} {G : GS} {Q : Int32 → GS → Prop} (h : wp_X1_extend a1 a2 a3 a4 G Q) : PMet E mi_X1_extend 14 [.ref (ev_ad E 47), .int a1, .int a2, .int a3, .int a4] G (qi_ Q) := sr_X1_extend hE 12 _ _ _ _ G Q h
def lp_X1_leastSize_9 (Q : Int32 → GS → Prop)  : Nat → Int32 → Int32 → GS → Prop
  | 0, _, _, _ => False
  | n + 1, x1, x2, G => (((5 : Int32) < x2 → Q (-1 : Int32) G) ∧ (¬ (5 : Int32) < x2 → wp_X1_extend (1 : Int32) x2 (16777216 : Int32) x1 G (fun r1 G2 => ((r1 = 0 → lp_X1_leastSize_9 Q n x1 (x2 + 1) G2) ∧ (¬ r1 = 0 → Q x2 G2)))))
set_option maxRecDepth 100000 in
set_option maxHeartbeats 4000000 in
theorem t_X1_leastSize_9 {E : EV} (hE : EI_ E) (Q : Int32 → GS → Prop)  : ∀ (n : Nat) (x1 : Int32) (x2 : Int32) (G : GS), lp_X1_leastSize_9 Q n x1 x2 G → PW_ E mi_X1_leastSize (rm_ 15) 0 0 9 [(0, .ref (ev_ad E 47)), (1, .int x1), (2, .int x2)] [] G (qi_ Q) := by
  intro n
  induction n with
  | zero => intro x1 x2 G h; exact h.elim
  | succ n ih =>
    intro x1 x2 G h
    refine pw_iload_n dX1_leastSize_9 rfl 2 rfl ?_
    refine pw_iconst (v := (5 : Int32)) dX1_leastSize_10 (by decide) ?_
    refine pw_icmp_gt (tgt := 34) dX1_leastSize_11 (by decide) (fun hc => ?_) (fun hc => ?_)
    · have h := h.1 hc
      refine pw_iconst (v := (-1 : Int32)) dX1_leastSize_34 (by decide) ?_
      exact pw_ireturn dX1_leastSize_35 rfl rfl ⟨_, rfl, h⟩
    · have h := h.2 hc
      refine pw_aload_n dX1_leastSize_14 rfl 0 rfl ?_
      refine pw_iconst (v := (1 : Int32)) dX1_leastSize_15 (by decide) ?_
      refine pw_iload_n dX1_leastSize_16 rfl 2 rfl ?_
      refine pw_ldc (v := (16777216 : Int32)) dX1_leastSize_17 k_X1_15 ?_
      refine pw_iload_n dX1_leastSize_19 rfl 1 rfl ?_
      refine pw_callV (As := [.int (1 : Int32), .int x2, .int (16777216 : Int32), .int x1]) (rest := []) (s_X1_extend hE h) dX1_leastSize_20 ly_47 rfl (Or.inl ml_X1_16) cm_X1_extend rfl (rm_ok (by decide)) rm_0 (Nat.le_of_ble_eq_true rfl) ?_
      rintro _ G2 ⟨r1, rfl, h⟩
      refine pw_if_eq (tgt := 28) dX1_leastSize_23 (by decide) (fun hc => ?_) (fun hc => ?_)
      · have h := h.1 hc
        refine pw_iinc (k := 2) (v := x2 + 1) (lv' := [(2, .int (x2 + 1)), (0, .ref (ev_ad E 47)), (1, .int x1)]) dX1_leastSize_28 rfl rfl (by decide) rfl ?_
        refine pw_goto (tgt := 9) dX1_leastSize_31 (by decide) ?_
        refine pw_loc (lv' := [(0, .ref (ev_ad E 47)), (1, .int x1), (2, .int (x2 + 1))]) [1, 2, 0] rfl ?_
        exact ih _ _ _ h
      · have h := h.2 hc
        refine pw_iload_n dX1_leastSize_26 rfl 2 rfl ?_
        exact pw_ireturn dX1_leastSize_27 rfl rfl ⟨_, rfl, h⟩
def wp_X1_leastSize (a1 : Int32) (G : GS) (Q : Int32 → GS → Prop) : Prop := (∃ kf, lp_X1_leastSize_9 Q kf a1 (1 : Int32) (gu_ G 48 0 (0 : Int32)))
set_option maxRecDepth 100000 in
set_option maxHeartbeats 4000000 in
theorem s_X1_leastSize {E : EV} (hE : EI_ E) {a1 : Int32} {G : GS} {Q : Int32 → GS → Prop} (h : wp_X1_leastSize a1 G Q) : PMet E mi_X1_leastSize 15 [.ref (ev_ad E 47), .int a1] G (qi_ Q) := by
  refine pm_of hE (by decide) (Nat.le_of_ble_eq_true rfl) ?_
  refine pw_loc (lv' := [(0, .ref (ev_ad E 47)), (1, .int a1)]) [0, 1] rfl ?_
  refine pw_aload_n dX1_leastSize_0 rfl 0 rfl ?_
  refine pw_getr (q := 48) dX1_leastSize_1 fa_X1_9 ly_47 rfl ?_
  refine pw_iconst (v := (0 : Int32)) dX1_leastSize_4 (by decide) ?_
  refine pw_iconst (v := (0 : Int32)) dX1_leastSize_5 (by decide) ?_
  refine pw_iast (z := 0) dX1_leastSize_6 ly_48 (by unfold vp_in; decide) rfl ?_
  refine pw_iconst (v := (1 : Int32)) dX1_leastSize_7 (by decide) ?_
  refine pw_istore_n (lv' := [(2, .int (1 : Int32)), (0, .ref (ev_ad E 47)), (1, .int a1)]) dX1_leastSize_8 rfl (by decide) rfl ?_
  refine pw_loc (lv' := [(0, .ref (ev_ad E 47)), (1, .int a1), (2, .int (1 : Int32))]) [1, 2, 0] rfl ?_
  obtain ⟨kf, h⟩ := h
  exact t_X1_leastSize_9 hE Q kf _ _ _ h
def bk_X9_fewest_14 (Q : Int32 → GS → Prop)  (x1 : Int32) (G : GS) : Prop := wp_X8_toldSet G (fun r3 G4 => wp_X1_leastSize r3 G4 (fun r5 G6 => ((¬ x1 = 0 → wp_X9_isInRow x1 r5 G6 (fun r7 G8 => ((r7 = 0 → Q (-1 : Int32) G8) ∧ (¬ r7 = 0 → (vp_in (x1 - (10 : Int32)) 5 ∧ Q (G8 48 ((x1 - (10 : Int32)).toNatClampNeg)) G8))))) ∧ (x1 = 0 → Q r5 G6))))
set_option maxRecDepth 100000 in
set_option maxHeartbeats 4000000 in
theorem t_X9_fewest_14 {E : EV} (hE : EI_ E) (Q : Int32 → GS → Prop)  {x1 : Int32} {G : GS} (h : bk_X9_fewest_14 Q x1 G) : PW_ E mi_X9_fewest (rm_ 16) 0 0 14 [(0, .ref (ev_ad E 0)), (1, .int x1)] [] G (qi_ Q) := by
  refine pw_aload_n dX9_fewest_14 rfl 0 rfl ?_
  refine pw_getr (q := 47) dX9_fewest_15 fa_X9_71 ly_0 rfl ?_
  refine pw_aload_n dX9_fewest_18 rfl 0 rfl ?_
  refine pw_getr (q := 1) dX9_fewest_19 fa_X9_10 ly_0 rfl ?_
  refine pw_callV (As := []) (rest := [.ref (ev_ad E 47)]) (s_X8_toldSet hE h) dX9_fewest_22 ly_1 rfl (Or.inr mn_X9_243) cm_X8_toldSet rfl (rm_ok (by decide)) rm_0 (Nat.le_of_ble_eq_true rfl) ?_
  rintro _ G4 ⟨r3, rfl, h⟩
  refine pw_callV (As := [.int r3]) (rest := []) (s_X1_leastSize hE h) dX9_fewest_25 ly_47 rfl (Or.inr mn_X9_246) cm_X1_leastSize rfl (rm_ok (by decide)) rm_0 (Nat.le_of_ble_eq_true rfl) ?_
  rintro _ G6 ⟨r5, rfl, h⟩
  refine pw_istore_n (lv' := [(2, .int r5), (0, .ref (ev_ad E 0)), (1, .int x1)]) dX9_fewest_28 rfl (by decide) rfl ?_
  refine pw_iload_n dX9_fewest_29 rfl 2 rfl ?_
  refine pw_if_ne (tgt := 35) dX9_fewest_30 (by decide) (fun hc => ?_) (fun hc => ?_)
  · have h := h.1 hc
    refine pw_iload_n dX9_fewest_35 rfl 2 rfl ?_
    refine pw_iload_n dX9_fewest_36 rfl 0 rfl ?_
    refine pw_callS (As := [.int x1, .int r5]) (rest := []) (s_X9_isInRow hE h) dX9_fewest_37 ml_X9_223 cs_X9_isInRow rfl (rm_ok (by decide)) rm_0 (Nat.le_of_ble_eq_true rfl) ?_
    rintro _ G8 ⟨r7, rfl, h⟩
    refine pw_if_eq (tgt := 58) dX9_fewest_40 (by decide) (fun hc => ?_) (fun hc => ?_)
    · have h := h.1 hc
      refine pw_iconst (v := (-1 : Int32)) dX9_fewest_58 (by decide) ?_
      exact pw_ireturn dX9_fewest_59 rfl rfl ⟨_, rfl, h⟩
    · have h := h.2 hc
      refine pw_aload_n dX9_fewest_43 rfl 1 rfl ?_
      refine pw_getr (q := 47) dX9_fewest_44 fa_X9_71 ly_0 rfl ?_
      refine pw_getr (q := 48) dX9_fewest_47 fa_X9_250 ly_47 rfl ?_
      refine pw_iload_n dX9_fewest_50 rfl 2 rfl ?_
      refine pw_bipush (v := (10 : Int32)) dX9_fewest_51 (by decide) ?_
      refine pw_isub dX9_fewest_53 ?_
      obtain ⟨hv9, h⟩ := h
      refine pw_iald (v := G8 48 ((x1 - (10 : Int32)).toNatClampNeg)) dX9_fewest_54 ly_48 hv9 rfl ?_
      refine pw_goto (tgt := 59) dX9_fewest_55 (by decide) ?_
      exact pw_ireturn dX9_fewest_59 rfl rfl ⟨_, rfl, h⟩
  · have h := h.2 hc
    refine pw_iload_n dX9_fewest_33 rfl 0 rfl ?_
    exact pw_ireturn dX9_fewest_34 rfl rfl ⟨_, rfl, h⟩
def wp_X9_fewest (a1 : Int32) (G : GS) (Q : Int32 → GS → Prop) : Prop := ((a1 = 0 → bk_X9_fewest_14 Q a1 G) ∧ (¬ a1 = 0 → wp_X9_isInRow a1 (5 : Int32) G (fun r1 G2 => ((¬ r1 = 0 → bk_X9_fewest_14 Q a1 G2) ∧ (r1 = 0 → Q (-1 : Int32) G2)))))
set_option maxRecDepth 100000 in
set_option maxHeartbeats 4000000 in
theorem s_X9_fewest {E : EV} (hE : EI_ E) {a1 : Int32} {G : GS} {Q : Int32 → GS → Prop} (h : wp_X9_fewest a1 G Q) : PMet E mi_X9_fewest 16 [.ref (ev_ad E 0), .int a1] G (qi_ Q) := by
  refine pm_of hE (by decide) (Nat.le_of_ble_eq_true rfl) ?_
  refine pw_loc (lv' := [(0, .ref (ev_ad E 0)), (1, .int a1)]) [0, 1] rfl ?_
  refine pw_iload_n dX9_fewest_0 rfl 1 rfl ?_
  refine pw_if_eq (tgt := 14) dX9_fewest_1 (by decide) (fun hc => ?_) (fun hc => ?_)
  · have h := h.1 hc
    refine pw_loc (lv' := [(0, .ref (ev_ad E 0)), (1, .int a1)]) [0, 1] rfl ?_
    exact t_X9_fewest_14 hE Q h
  · have h := h.2 hc
    refine pw_iload_n dX9_fewest_4 rfl 1 rfl ?_
    refine pw_iconst (v := (5 : Int32)) dX9_fewest_5 (by decide) ?_
    refine pw_callS (As := [.int a1, .int (5 : Int32)]) (rest := []) (s_X9_isInRow hE h) dX9_fewest_6 ml_X9_223 cs_X9_isInRow rfl (rm_ok (by decide)) rm_0 (Nat.le_of_ble_eq_true rfl) ?_
    rintro _ G2 ⟨r1, rfl, h⟩
    refine pw_if_ne (tgt := 14) dX9_fewest_9 (by decide) (fun hc => ?_) (fun hc => ?_)
    · have h := h.1 hc
      refine pw_loc (lv' := [(0, .ref (ev_ad E 0)), (1, .int a1)]) [0, 1] rfl ?_
      exact t_X9_fewest_14 hE Q h
    · have h := h.2 hc
      refine pw_iconst (v := (-1 : Int32)) dX9_fewest_12 (by decide) ?_
      exact pw_ireturn dX9_fewest_13 rfl rfl ⟨_, rfl, h⟩
def wp_X9_ruler (a1 : Int32) (a2 : Int32) (G : GS) (Q : Int32 → GS → Prop) : Prop := ((a1 < (1 : Int32) → Q (-1 : Int32) G) ∧ (¬ a1 < (1 : Int32) → ((a1 ≤ (6 : Int32) → ((¬ a2 = 0 → wp_X9_isInRow a2 a1 G (fun r1 G2 => ((r1 = 0 → Q (-1 : Int32) G2) ∧ (¬ r1 = 0 → (vp_in ((((a1 * (a1 - (1 : Int32))) / (2 : Int32)) + a2) - (10 : Int32)) 21 ∧ Q (ru_.getD ((((a1 * (a1 - (1 : Int32))) / (2 : Int32)) + a2) - (10 : Int32)).toNatClampNeg 0) G2))))) ∧ (a2 = 0 → (vp_in ((((a1 * (a1 - (1 : Int32))) / (2 : Int32)) + a1) - (1 : Int32)) 21 ∧ Q (ru_.getD ((((a1 * (a1 - (1 : Int32))) / (2 : Int32)) + a1) - (1 : Int32)).toNatClampNeg 0) G)))) ∧ (¬ a1 ≤ (6 : Int32) → Q (-1 : Int32) G))))
set_option maxRecDepth 100000 in
set_option maxHeartbeats 4000000 in
theorem s_X9_ruler {E : EV} (hE : EI_ E) {a1 : Int32} {a2 : Int32} {G : GS} {Q : Int32 → GS → Prop} (h : wp_X9_ruler a1 a2 G Q) : PMet E mi_X9_ruler 2 [.ref (ev_ad E 0), .int a1, .int a2] G (qi_ Q) := by
  refine pm_of hE (by decide) (Nat.le_of_ble_eq_true rfl) ?_
  refine pw_loc (lv' := [(0, .ref (ev_ad E 0)), (1, .int a1), (2, .int a2)]) [0, 1, 2] rfl ?_
  refine pw_iload_n dX9_ruler_0 rfl 1 rfl ?_
  refine pw_iconst (v := (1 : Int32)) dX9_ruler_1 (by decide) ?_
  refine pw_icmp_lt (tgt := 11) dX9_ruler_2 (by decide) (fun hc => ?_) (fun hc => ?_)
  · have h := h.1 hc
    refine pw_iconst (v := (-1 : Int32)) dX9_ruler_11 (by decide) ?_
    exact pw_ireturn dX9_ruler_12 rfl rfl ⟨_, rfl, h⟩
  · have h := h.2 hc
    refine pw_iload_n dX9_ruler_5 rfl 1 rfl ?_
    refine pw_bipush (v := (6 : Int32)) dX9_ruler_6 (by decide) ?_
    refine pw_icmp_le (tgt := 13) dX9_ruler_8 (by decide) (fun hc => ?_) (fun hc => ?_)
    · have h := h.1 hc
      refine pw_iload_n dX9_ruler_13 rfl 1 rfl ?_
      refine pw_iload_n dX9_ruler_14 rfl 1 rfl ?_
      refine pw_iconst (v := (1 : Int32)) dX9_ruler_15 (by decide) ?_
      refine pw_isub dX9_ruler_16 ?_
      refine pw_imul dX9_ruler_17 ?_
      refine pw_iconst (v := (2 : Int32)) dX9_ruler_18 (by decide) ?_
      refine pw_idiv dX9_ruler_19 (by decide) ?_
      refine pw_istore_n (lv' := [(3, .int ((a1 * (a1 - (1 : Int32))) / (2 : Int32))), (0, .ref (ev_ad E 0)), (1, .int a1), (2, .int a2)]) dX9_ruler_20 rfl (by decide) rfl ?_
      refine pw_iload_n dX9_ruler_21 rfl 3 rfl ?_
      refine pw_if_ne (tgt := 35) dX9_ruler_22 (by decide) (fun hc => ?_) (fun hc => ?_)
      · have h := h.1 hc
        refine pw_iload_n dX9_ruler_35 rfl 3 rfl ?_
        refine pw_iload_n dX9_ruler_36 rfl 2 rfl ?_
        refine pw_callS (As := [.int a2, .int a1]) (rest := []) (s_X9_isInRow hE h) dX9_ruler_37 ml_X9_223 cs_X9_isInRow rfl (rm_ok (by decide)) rm_0 (Nat.le_of_ble_eq_true rfl) ?_
        rintro _ G2 ⟨r1, rfl, h⟩
        refine pw_if_eq (tgt := 56) dX9_ruler_40 (by decide) (fun hc => ?_) (fun hc => ?_)
        · have h := h.1 hc
          refine pw_iconst (v := (-1 : Int32)) dX9_ruler_56 (by decide) ?_
          exact pw_ireturn dX9_ruler_57 rfl rfl ⟨_, rfl, h⟩
        · have h := h.2 hc
          refine pw_getru dX9_ruler_43 fl_X9_253 ?_
          refine pw_iload_n dX9_ruler_46 rfl 0 rfl ?_
          refine pw_iload_n dX9_ruler_47 rfl 3 rfl ?_
          refine pw_iadd dX9_ruler_48 ?_
          refine pw_bipush (v := (10 : Int32)) dX9_ruler_49 (by decide) ?_
          refine pw_isub dX9_ruler_51 ?_
          obtain ⟨hv3, h⟩ := h
          refine pw_ruld dX9_ruler_52 hv3 ?_
          refine pw_goto (tgt := 57) dX9_ruler_53 (by decide) ?_
          exact pw_ireturn dX9_ruler_57 rfl rfl ⟨_, rfl, h⟩
      · have h := h.2 hc
        refine pw_getru dX9_ruler_25 fl_X9_253 ?_
        refine pw_iload_n dX9_ruler_28 rfl 0 rfl ?_
        refine pw_iload_n dX9_ruler_29 rfl 2 rfl ?_
        refine pw_iadd dX9_ruler_30 ?_
        refine pw_iconst (v := (1 : Int32)) dX9_ruler_31 (by decide) ?_
        refine pw_isub dX9_ruler_32 ?_
        obtain ⟨hv4, h⟩ := h
        refine pw_ruld dX9_ruler_33 hv4 ?_
        exact pw_ireturn dX9_ruler_34 rfl rfl ⟨_, rfl, h⟩
    · have h := h.2 hc
      refine pw_iconst (v := (-1 : Int32)) dX9_ruler_11 (by decide) ?_
      exact pw_ireturn dX9_ruler_12 rfl rfl ⟨_, rfl, h⟩
def lp_X2_onlyOneHears_17 (Q : Int32 → GS → Prop)  : Nat → Int32 → Int32 → GS → Prop
  | 0, _, _, _ => False
  | n + 1, x2, x3, G => (((G 1 1) ≤ x3 → Q (1 : Int32) G) ∧ (¬ (G 1 1) ≤ x3 → ((x3 = x2 → lp_X2_onlyOneHears_17 Q n x2 (x3 + 1) G) ∧ (¬ x3 = x2 → wp_X2_isSinger x3 G (fun r3 G4 => ((¬ r3 = 0 → lp_X2_onlyOneHears_17 Q n x2 (x3 + 1) G4) ∧ (r3 = 0 → wp_X2_hearsThem x3 (G4 1 4) G4 (fun r5 G6 => ((r5 = 0 → lp_X2_onlyOneHears_17 Q n x2 (x3 + 1) G6) ∧ (¬ r5 = 0 → Q (0 : Int32) G6))))))))))
set_option maxRecDepth 100000 in
set_option maxHeartbeats 4000000 in
theorem t_X2_onlyOneHears_17 {E : EV} (hE : EI_ E) (Q : Int32 → GS → Prop)  : ∀ (n : Nat) (x2 : Int32) (x3 : Int32) (G : GS), lp_X2_onlyOneHears_17 Q n x2 x3 G → PW_ E mi_X2_onlyOneHears (rm_ 4) 0 0 17 [(0, .ref (ev_ad E 38)), (1, .ref (ev_ad E 1)), (2, .int x2), (3, .int x3)] [] G (qi_ Q) := by
  intro n
  induction n with
  | zero => intro x2 x3 G h; exact h.elim
  | succ n ih =>
    intro x2 x3 G h
    refine pw_iload_n dX2_onlyOneHears_17 rfl 3 rfl ?_
    refine pw_aload_n dX2_onlyOneHears_18 rfl 1 rfl ?_
    refine pw_geti (v := G 1 1) dX2_onlyOneHears_19 fa_X2_24 ly_1 rfl rfl ?_
    refine pw_icmp_ge (tgt := 59) dX2_onlyOneHears_22 (by decide) (fun hc => ?_) (fun hc => ?_)
    · have h := h.1 hc
      refine pw_iconst (v := (1 : Int32)) dX2_onlyOneHears_59 (by decide) ?_
      exact pw_ireturn dX2_onlyOneHears_60 rfl rfl ⟨_, rfl, h⟩
    · have h := h.2 hc
      refine pw_iload_n dX2_onlyOneHears_25 rfl 3 rfl ?_
      refine pw_iload_n dX2_onlyOneHears_26 rfl 2 rfl ?_
      refine pw_icmp_eq (tgt := 53) dX2_onlyOneHears_27 (by decide) (fun hc => ?_) (fun hc => ?_)
      · have h := h.1 hc
        refine pw_iinc (k := 3) (v := x3 + 1) (lv' := [(3, .int (x3 + 1)), (0, .ref (ev_ad E 38)), (1, .ref (ev_ad E 1)), (2, .int x2)]) dX2_onlyOneHears_53 rfl rfl (by decide) rfl ?_
        refine pw_goto (tgt := 17) dX2_onlyOneHears_56 (by decide) ?_
        refine pw_loc (lv' := [(0, .ref (ev_ad E 38)), (1, .ref (ev_ad E 1)), (2, .int x2), (3, .int (x3 + 1))]) [1, 2, 3, 0] rfl ?_
        exact ih _ _ _ h
      · have h := h.2 hc
        refine pw_aload_n dX2_onlyOneHears_30 rfl 0 rfl ?_
        refine pw_iload_n dX2_onlyOneHears_31 rfl 3 rfl ?_
        refine pw_callV (As := [.int x3]) (rest := []) (s_X2_isSinger hE h) dX2_onlyOneHears_32 ly_38 rfl (Or.inl ml_X2_28) cm_X2_isSinger rfl (rm_ok (by decide)) rm_0 (Nat.le_of_ble_eq_true rfl) ?_
        rintro _ G4 ⟨r3, rfl, h⟩
        refine pw_if_ne (tgt := 53) dX2_onlyOneHears_35 (by decide) (fun hc => ?_) (fun hc => ?_)
        · have h := h.1 hc
          refine pw_iinc (k := 3) (v := x3 + 1) (lv' := [(3, .int (x3 + 1)), (0, .ref (ev_ad E 38)), (1, .ref (ev_ad E 1)), (2, .int x2)]) dX2_onlyOneHears_53 rfl rfl (by decide) rfl ?_
          refine pw_goto (tgt := 17) dX2_onlyOneHears_56 (by decide) ?_
          refine pw_loc (lv' := [(0, .ref (ev_ad E 38)), (1, .ref (ev_ad E 1)), (2, .int x2), (3, .int (x3 + 1))]) [1, 2, 3, 0] rfl ?_
          exact ih _ _ _ h
        · have h := h.2 hc
          refine pw_aload_n dX2_onlyOneHears_38 rfl 0 rfl ?_
          refine pw_aload_n dX2_onlyOneHears_39 rfl 1 rfl ?_
          refine pw_iload_n dX2_onlyOneHears_40 rfl 3 rfl ?_
          refine pw_aload_n dX2_onlyOneHears_41 rfl 1 rfl ?_
          refine pw_geti (v := G4 1 4) dX2_onlyOneHears_42 fa_X2_32 ly_1 rfl rfl ?_
          refine pw_callV (As := [.ref (ev_ad E 1), .int x3, .int (G4 1 4)]) (rest := []) (s_X2_hearsThem hE h) dX2_onlyOneHears_45 ly_38 rfl (Or.inl ml_X2_35) cm_X2_hearsThem rfl (rm_ok (by decide)) rm_0 (Nat.le_of_ble_eq_true rfl) ?_
          rintro _ G6 ⟨r5, rfl, h⟩
          refine pw_if_eq (tgt := 53) dX2_onlyOneHears_48 (by decide) (fun hc => ?_) (fun hc => ?_)
          · have h := h.1 hc
            refine pw_iinc (k := 3) (v := x3 + 1) (lv' := [(3, .int (x3 + 1)), (0, .ref (ev_ad E 38)), (1, .ref (ev_ad E 1)), (2, .int x2)]) dX2_onlyOneHears_53 rfl rfl (by decide) rfl ?_
            refine pw_goto (tgt := 17) dX2_onlyOneHears_56 (by decide) ?_
            refine pw_loc (lv' := [(0, .ref (ev_ad E 38)), (1, .ref (ev_ad E 1)), (2, .int x2), (3, .int (x3 + 1))]) [1, 2, 3, 0] rfl ?_
            exact ih _ _ _ h
          · have h := h.2 hc
            refine pw_iconst (v := (0 : Int32)) dX2_onlyOneHears_51 (by decide) ?_
            exact pw_ireturn dX2_onlyOneHears_52 rfl rfl ⟨_, rfl, h⟩
def wp_X2_onlyOneHears (a2 : Int32) (G : GS) (Q : Int32 → GS → Prop) : Prop := wp_X2_hearsThem a2 (G 1 4) G (fun r1 G2 => ((¬ r1 = 0 → (∃ kf, lp_X2_onlyOneHears_17 Q kf a2 (0 : Int32) G2)) ∧ (r1 = 0 → Q (0 : Int32) G2)))
set_option maxRecDepth 100000 in
set_option maxHeartbeats 4000000 in
theorem s_X2_onlyOneHears {E : EV} (hE : EI_ E) {a2 : Int32} {G : GS} {Q : Int32 → GS → Prop} (h : wp_X2_onlyOneHears a2 G Q) : PMet E mi_X2_onlyOneHears 4 [.ref (ev_ad E 38), .ref (ev_ad E 1), .int a2] G (qi_ Q) := by
  refine pm_of hE (by decide) (Nat.le_of_ble_eq_true rfl) ?_
  refine pw_loc (lv' := [(0, .ref (ev_ad E 38)), (1, .ref (ev_ad E 1)), (2, .int a2)]) [0, 1, 2] rfl ?_
  refine pw_aload_n dX2_onlyOneHears_0 rfl 0 rfl ?_
  refine pw_aload_n dX2_onlyOneHears_1 rfl 1 rfl ?_
  refine pw_iload_n dX2_onlyOneHears_2 rfl 2 rfl ?_
  refine pw_aload_n dX2_onlyOneHears_3 rfl 1 rfl ?_
  refine pw_geti (v := G 1 4) dX2_onlyOneHears_4 fa_X2_32 ly_1 rfl rfl ?_
  refine pw_callV (As := [.ref (ev_ad E 1), .int a2, .int (G 1 4)]) (rest := []) (s_X2_hearsThem hE h) dX2_onlyOneHears_7 ly_38 rfl (Or.inl ml_X2_35) cm_X2_hearsThem rfl (rm_ok (by decide)) rm_0 (Nat.le_of_ble_eq_true rfl) ?_
  rintro _ G2 ⟨r1, rfl, h⟩
  refine pw_if_ne (tgt := 15) dX2_onlyOneHears_10 (by decide) (fun hc => ?_) (fun hc => ?_)
  · have h := h.1 hc
    refine pw_iconst (v := (0 : Int32)) dX2_onlyOneHears_15 (by decide) ?_
    refine pw_istore_n (lv' := [(3, .int (0 : Int32)), (0, .ref (ev_ad E 38)), (1, .ref (ev_ad E 1)), (2, .int a2)]) dX2_onlyOneHears_16 rfl (by decide) rfl ?_
    refine pw_loc (lv' := [(0, .ref (ev_ad E 38)), (1, .ref (ev_ad E 1)), (2, .int a2), (3, .int (0 : Int32))]) [1, 2, 3, 0] rfl ?_
    obtain ⟨kf, h⟩ := h
    exact t_X2_onlyOneHears_17 hE Q kf _ _ _ h
  · have h := h.2 hc
    refine pw_iconst (v := (0 : Int32)) dX2_onlyOneHears_13 (by decide) ?_
    exact pw_ireturn dX2_onlyOneHears_14 rfl rfl ⟨_, rfl, h⟩
def lp_X9_alone_59 (Q : Int32 → GS → Prop)  : Nat → Int32 → Int32 → Int32 → Int32 → Int32 → Int32 → Int32 → Int32 → GS → Prop
  | 0, _, _, _, _, _, _, _, _, _ => False
  | n + 1, x1, x2, x3, x4, x5, x6, x7, x8, G => ((x8 < 0 → ((¬ x5 = 0 → Q x7 G) ∧ (x5 = 0 → Q x6 G))) ∧ (¬ x8 < 0 → wp_X2_attend x2 x3 x8 (x8 + x4) G (fun _ G6 => wp_X2_onlyOneHears x1 G6 (fun r7 G8 => ((r7 = 0 → lp_X9_alone_59 Q n x1 x2 x3 x4 x5 x6 x7 (x8 + (-1)) G8) ∧ (¬ r7 = 0 → lp_X9_alone_59 Q n x1 x2 x3 x4 x5 (x6 + 1) x8 (x8 + (-1)) G8))))))
set_option maxRecDepth 100000 in
set_option maxHeartbeats 4000000 in
theorem t_X9_alone_59 {E : EV} (hE : EI_ E) (Q : Int32 → GS → Prop)  : ∀ (n : Nat) (x1 : Int32) (x2 : Int32) (x3 : Int32) (x4 : Int32) (x5 : Int32) (x6 : Int32) (x7 : Int32) (x8 : Int32) (G : GS), lp_X9_alone_59 Q n x1 x2 x3 x4 x5 x6 x7 x8 G → PW_ E mi_X9_alone (rm_ 5) 0 0 59 [(0, .ref (ev_ad E 0)), (1, .int x1), (2, .int x2), (3, .int x3), (4, .int x4), (5, .int x5), (6, .int x6), (7, .int x7), (8, .int x8)] [] G (qi_ Q) := by
  intro n
  induction n with
  | zero => intro x1 x2 x3 x4 x5 x6 x7 x8 G h; exact h.elim
  | succ n ih =>
    intro x1 x2 x3 x4 x5 x6 x7 x8 G h
    refine pw_iload dX9_alone_59 8 rfl ?_
    refine pw_if_lt (tgt := 112) dX9_alone_61 (by decide) (fun hc => ?_) (fun hc => ?_)
    · have h := h.1 hc
      refine pw_iload dX9_alone_112 5 rfl ?_
      refine pw_if_ne (tgt := 122) dX9_alone_114 (by decide) (fun hc => ?_) (fun hc => ?_)
      · have h := h.1 hc
        refine pw_iload dX9_alone_122 7 rfl ?_
        exact pw_ireturn dX9_alone_124 rfl rfl ⟨_, rfl, h⟩
      · have h := h.2 hc
        refine pw_iload dX9_alone_117 6 rfl ?_
        refine pw_goto (tgt := 124) dX9_alone_119 (by decide) ?_
        exact pw_ireturn dX9_alone_124 rfl rfl ⟨_, rfl, h⟩
    · have h := h.2 hc
      refine pw_aload_n dX9_alone_64 rfl 0 rfl ?_
      refine pw_getr (q := 38) dX9_alone_65 fa_X9_50 ly_0 rfl ?_
      refine pw_aload_n dX9_alone_68 rfl 0 rfl ?_
      refine pw_getr (q := 1) dX9_alone_69 fa_X9_10 ly_0 rfl ?_
      refine pw_iload_n dX9_alone_72 rfl 2 rfl ?_
      refine pw_iload_n dX9_alone_73 rfl 3 rfl ?_
      refine pw_iload dX9_alone_74 8 rfl ?_
      refine pw_iload dX9_alone_76 8 rfl ?_
      refine pw_iload dX9_alone_78 4 rfl ?_
      refine pw_iadd dX9_alone_80 ?_
      refine pw_callV (As := [.ref (ev_ad E 1), .int x2, .int x3, .int x8, .int (x8 + x4)]) (rest := []) (s_X2_attend hE h) dX9_alone_81 ly_38 rfl (Or.inr mn_X9_256) cm_X2_attend rfl (rm_ok (by decide)) rm_0 (Nat.le_of_ble_eq_true rfl) ?_
      rintro _ G6 ⟨rfl, h⟩
      refine pw_aload_n dX9_alone_84 rfl 0 rfl ?_
      refine pw_getr (q := 38) dX9_alone_85 fa_X9_50 ly_0 rfl ?_
      refine pw_aload_n dX9_alone_88 rfl 0 rfl ?_
      refine pw_getr (q := 1) dX9_alone_89 fa_X9_10 ly_0 rfl ?_
      refine pw_iload_n dX9_alone_92 rfl 1 rfl ?_
      refine pw_callV (As := [.ref (ev_ad E 1), .int x1]) (rest := []) (s_X2_onlyOneHears hE h) dX9_alone_93 ly_38 rfl (Or.inr mn_X9_260) cm_X2_onlyOneHears rfl (rm_ok (by decide)) rm_0 (Nat.le_of_ble_eq_true rfl) ?_
      rintro _ G8 ⟨r7, rfl, h⟩
      refine pw_if_eq (tgt := 106) dX9_alone_96 (by decide) (fun hc => ?_) (fun hc => ?_)
      · have h := h.1 hc
        refine pw_iinc (k := 8) (v := x8 + (-1)) (lv' := [(8, .int (x8 + (-1))), (0, .ref (ev_ad E 0)), (1, .int x1), (2, .int x2), (3, .int x3), (4, .int x4), (5, .int x5), (6, .int x6), (7, .int x7)]) dX9_alone_106 rfl rfl (by decide) rfl ?_
        refine pw_goto (tgt := 59) dX9_alone_109 (by decide) ?_
        refine pw_loc (lv' := [(0, .ref (ev_ad E 0)), (1, .int x1), (2, .int x2), (3, .int x3), (4, .int x4), (5, .int x5), (6, .int x6), (7, .int x7), (8, .int (x8 + (-1)))]) [1, 2, 3, 4, 5, 6, 7, 8, 0] rfl ?_
        exact ih _ _ _ _ _ _ _ _ _ h
      · have h := h.2 hc
        refine pw_iinc (k := 6) (v := x6 + 1) (lv' := [(6, .int (x6 + 1)), (0, .ref (ev_ad E 0)), (1, .int x1), (2, .int x2), (3, .int x3), (4, .int x4), (5, .int x5), (7, .int x7), (8, .int x8)]) dX9_alone_99 rfl rfl (by decide) rfl ?_
        refine pw_iload dX9_alone_102 8 rfl ?_
        refine pw_istore (lv' := [(7, .int x8), (6, .int (x6 + 1)), (0, .ref (ev_ad E 0)), (1, .int x1), (2, .int x2), (3, .int x3), (4, .int x4), (5, .int x5), (8, .int x8)]) dX9_alone_104 (by decide) rfl ?_
        refine pw_iinc (k := 8) (v := x8 + (-1)) (lv' := [(8, .int (x8 + (-1))), (7, .int x8), (6, .int (x6 + 1)), (0, .ref (ev_ad E 0)), (1, .int x1), (2, .int x2), (3, .int x3), (4, .int x4), (5, .int x5)]) dX9_alone_106 rfl rfl (by decide) rfl ?_
        refine pw_goto (tgt := 59) dX9_alone_109 (by decide) ?_
        refine pw_loc (lv' := [(0, .ref (ev_ad E 0)), (1, .int x1), (2, .int x2), (3, .int x3), (4, .int x4), (5, .int x5), (6, .int (x6 + 1)), (7, .int x8), (8, .int (x8 + (-1)))]) [3, 4, 5, 6, 7, 8, 2, 1, 0] rfl ?_
        exact ih _ _ _ _ _ _ _ _ _ h
def wp_X9_alone (a1 : Int32) (a2 : Int32) (a3 : Int32) (a4 : Int32) (a5 : Int32) (G : GS) (Q : Int32 → GS → Prop) : Prop := wp_X9_areThree a1 a2 a3 G (fun r1 G2 => ((r1 = 0 → Q (-1 : Int32) G2) ∧ (¬ r1 = 0 → wp_X8_hasHum a1 G2 (fun r3 G4 => ((r3 = 0 → Q (-1 : Int32) G4) ∧ (¬ r3 = 0 → ((a4 < 0 → Q (-1 : Int32) G4) ∧ (¬ a4 < 0 → (((60 : Int32) < a4 → Q (-1 : Int32) G4) ∧ (¬ (60 : Int32) < a4 → ((a5 < 0 → Q (-1 : Int32) G4) ∧ (¬ a5 < 0 → ((a5 ≤ (1 : Int32) → (∃ kf, lp_X9_alone_59 Q kf a1 a2 a3 a4 a5 (0 : Int32) (-1 : Int32) ((60 : Int32) - a4) G4)) ∧ (¬ a5 ≤ (1 : Int32) → Q (-1 : Int32) G4))))))))))))))
set_option maxRecDepth 100000 in
set_option maxHeartbeats 4000000 in
theorem s_X9_alone {E : EV} (hE : EI_ E) {a1 : Int32} {a2 : Int32} {a3 : Int32} {a4 : Int32} {a5 : Int32} {G : GS} {Q : Int32 → GS → Prop} (h : wp_X9_alone a1 a2 a3 a4 a5 G Q) : PMet E mi_X9_alone 5 [.ref (ev_ad E 0), .int a1, .int a2, .int a3, .int a4, .int a5] G (qi_ Q) := by
  refine pm_of hE (by decide) (Nat.le_of_ble_eq_true rfl) ?_
  refine pw_loc (lv' := [(0, .ref (ev_ad E 0)), (1, .int a1), (2, .int a2), (3, .int a3), (4, .int a4), (5, .int a5)]) [0, 1, 2, 3, 4, 5] rfl ?_
  refine pw_aload_n dX9_alone_0 rfl 0 rfl ?_
  refine pw_iload_n dX9_alone_1 rfl 1 rfl ?_
  refine pw_iload_n dX9_alone_2 rfl 2 rfl ?_
  refine pw_iload_n dX9_alone_3 rfl 3 rfl ?_
  refine pw_callV (As := [.int a1, .int a2, .int a3]) (rest := []) (s_X9_areThree hE h) dX9_alone_4 ly_0 rfl (Or.inl ml_X9_184) cm_X9_areThree rfl (rm_ok (by decide)) rm_0 (Nat.le_of_ble_eq_true rfl) ?_
  rintro _ G2 ⟨r1, rfl, h⟩
  refine pw_if_eq (tgt := 44) dX9_alone_7 (by decide) (fun hc => ?_) (fun hc => ?_)
  · have h := h.1 hc
    refine pw_iconst (v := (-1 : Int32)) dX9_alone_44 (by decide) ?_
    exact pw_ireturn dX9_alone_45 rfl rfl ⟨_, rfl, h⟩
  · have h := h.2 hc
    refine pw_aload_n dX9_alone_10 rfl 0 rfl ?_
    refine pw_getr (q := 1) dX9_alone_11 fa_X9_10 ly_0 rfl ?_
    refine pw_iload_n dX9_alone_14 rfl 1 rfl ?_
    refine pw_callV (As := [.int a1]) (rest := []) (s_X8_hasHum hE h) dX9_alone_15 ly_1 rfl (Or.inr mn_X9_131) cm_X8_hasHum rfl (rm_ok (by decide)) rm_0 (Nat.le_of_ble_eq_true rfl) ?_
    rintro _ G4 ⟨r3, rfl, h⟩
    refine pw_if_eq (tgt := 44) dX9_alone_18 (by decide) (fun hc => ?_) (fun hc => ?_)
    · have h := h.1 hc
      refine pw_iconst (v := (-1 : Int32)) dX9_alone_44 (by decide) ?_
      exact pw_ireturn dX9_alone_45 rfl rfl ⟨_, rfl, h⟩
    · have h := h.2 hc
      refine pw_iload dX9_alone_21 4 rfl ?_
      refine pw_if_lt (tgt := 44) dX9_alone_23 (by decide) (fun hc => ?_) (fun hc => ?_)
      · have h := h.1 hc
        refine pw_iconst (v := (-1 : Int32)) dX9_alone_44 (by decide) ?_
        exact pw_ireturn dX9_alone_45 rfl rfl ⟨_, rfl, h⟩
      · have h := h.2 hc
        refine pw_iload dX9_alone_26 4 rfl ?_
        refine pw_bipush (v := (60 : Int32)) dX9_alone_28 (by decide) ?_
        refine pw_icmp_gt (tgt := 44) dX9_alone_30 (by decide) (fun hc => ?_) (fun hc => ?_)
        · have h := h.1 hc
          refine pw_iconst (v := (-1 : Int32)) dX9_alone_44 (by decide) ?_
          exact pw_ireturn dX9_alone_45 rfl rfl ⟨_, rfl, h⟩
        · have h := h.2 hc
          refine pw_iload dX9_alone_33 5 rfl ?_
          refine pw_if_lt (tgt := 44) dX9_alone_35 (by decide) (fun hc => ?_) (fun hc => ?_)
          · have h := h.1 hc
            refine pw_iconst (v := (-1 : Int32)) dX9_alone_44 (by decide) ?_
            exact pw_ireturn dX9_alone_45 rfl rfl ⟨_, rfl, h⟩
          · have h := h.2 hc
            refine pw_iload dX9_alone_38 5 rfl ?_
            refine pw_iconst (v := (1 : Int32)) dX9_alone_40 (by decide) ?_
            refine pw_icmp_le (tgt := 46) dX9_alone_41 (by decide) (fun hc => ?_) (fun hc => ?_)
            · have h := h.1 hc
              refine pw_iconst (v := (0 : Int32)) dX9_alone_46 (by decide) ?_
              refine pw_istore (lv' := [(6, .int (0 : Int32)), (0, .ref (ev_ad E 0)), (1, .int a1), (2, .int a2), (3, .int a3), (4, .int a4), (5, .int a5)]) dX9_alone_47 (by decide) rfl ?_
              refine pw_iconst (v := (-1 : Int32)) dX9_alone_49 (by decide) ?_
              refine pw_istore (lv' := [(7, .int (-1 : Int32)), (6, .int (0 : Int32)), (0, .ref (ev_ad E 0)), (1, .int a1), (2, .int a2), (3, .int a3), (4, .int a4), (5, .int a5)]) dX9_alone_50 (by decide) rfl ?_
              refine pw_bipush (v := (60 : Int32)) dX9_alone_52 (by decide) ?_
              refine pw_iload dX9_alone_54 6 rfl ?_
              refine pw_isub dX9_alone_56 ?_
              refine pw_istore (lv' := [(8, .int ((60 : Int32) - a4)), (7, .int (-1 : Int32)), (6, .int (0 : Int32)), (0, .ref (ev_ad E 0)), (1, .int a1), (2, .int a2), (3, .int a3), (4, .int a4), (5, .int a5)]) dX9_alone_57 (by decide) rfl ?_
              refine pw_loc (lv' := [(0, .ref (ev_ad E 0)), (1, .int a1), (2, .int a2), (3, .int a3), (4, .int a4), (5, .int a5), (6, .int (0 : Int32)), (7, .int (-1 : Int32)), (8, .int ((60 : Int32) - a4))]) [3, 4, 5, 6, 7, 8, 2, 1, 0] rfl ?_
              obtain ⟨kf, h⟩ := h
              exact t_X9_alone_59 hE Q kf _ _ _ _ _ _ _ _ _ h
            · have h := h.2 hc
              refine pw_iconst (v := (-1 : Int32)) dX9_alone_44 (by decide) ?_
              exact pw_ireturn dX9_alone_45 rfl rfl ⟨_, rfl, h⟩
