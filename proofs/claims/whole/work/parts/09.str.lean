/-! String constants: length, charAt, indexOf -/
def wp_scheck (i n : Int32) (G : GS) (Q : Int32 → GS → Prop) : Prop := ¬ i < 0 ∧ i < n ∧ Q 0 G
theorem s_scheck3 {E : EV} (hE : EI_ E) {i n : Int32} {v : Value} {G : GS} {Q : Int32 → GS → Prop} (hv : v = .null ∨ ∃ a, v = .ref a) (h0 : ¬ i < 0) (h1 : i < n) (h : Q i G) : PMet E mi_J3_checkIndex_8e157 1 [.int i, .int n, v] G (qi_ Q) := by
  rcases hv with rfl | ⟨a, rfl⟩
  · refine pm_of hE (by decide) (Nat.le_of_ble_eq_true rfl) ?_
    refine pw_loc (lv' := [(0, .int i), (1, .int n)]) [0, 1] rfl ?_
    refine pw_iload_n dJ3_checkIndex_8e157_0 rfl 0 rfl ?_
    refine pw_if_lt (tgt := 9) dJ3_checkIndex_8e157_1 (by decide) (fun hc => absurd hc h0) (fun hc => ?_)
    refine pw_iload_n dJ3_checkIndex_8e157_4 rfl 0 rfl ?_
    refine pw_iload_n dJ3_checkIndex_8e157_5 rfl 1 rfl ?_
    refine pw_icmp_lt (tgt := 16) dJ3_checkIndex_8e157_6 (by decide) (fun hc => ?_) (fun hc => absurd h1 hc)
    refine pw_iload_n dJ3_checkIndex_8e157_16 rfl 0 rfl ?_
    exact pw_ireturn dJ3_checkIndex_8e157_17 rfl rfl ⟨_, rfl, h⟩
  · refine pm_of hE (by decide) (Nat.le_of_ble_eq_true rfl) ?_
    refine pw_loc (lv' := [(0, .int i), (1, .int n)]) [0, 1] rfl ?_
    refine pw_iload_n dJ3_checkIndex_8e157_0 rfl 0 rfl ?_
    refine pw_if_lt (tgt := 9) dJ3_checkIndex_8e157_1 (by decide) (fun hc => absurd hc h0) (fun hc => ?_)
    refine pw_iload_n dJ3_checkIndex_8e157_4 rfl 0 rfl ?_
    refine pw_iload_n dJ3_checkIndex_8e157_5 rfl 1 rfl ?_
    refine pw_icmp_lt (tgt := 16) dJ3_checkIndex_8e157_6 (by decide) (fun hc => ?_) (fun hc => absurd h1 hc)
    refine pw_iload_n dJ3_checkIndex_8e157_16 rfl 0 rfl ?_
    exact pw_ireturn dJ3_checkIndex_8e157_17 rfl rfl ⟨_, rfl, h⟩
theorem s_scheck {E : EV} (hE : EI_ E) {i n : Int32} {G : GS} {Q : Int32 → GS → Prop} (h : wp_scheck i n G Q) : PMet E mi_J0_checkIndex_df160 3 [.int i, .int n] G (qv_ Q) := by
  obtain ⟨h0, h1, h⟩ := h
  refine pm_of hE (by decide) (Nat.le_of_ble_eq_true rfl) ?_
  refine pw_loc (lv' := [(0, .int i), (1, .int n)]) [0, 1] rfl ?_
  refine pw_iload_n dJ0_checkIndex_df160_0 rfl 0 rfl ?_
  refine pw_iload_n dJ0_checkIndex_df160_1 rfl 1 rfl ?_
  refine pw_getfm dJ0_checkIndex_df160_2 fl_J0_1053 ?_
  refine pw_callS (As := [.int i, .int n, va_rf (ev_fm E)]) (rest := []) (s_scheck3 (Q := fun _ G1 => G1 = G) hE (va_rf_or _) h0 h1 rfl) dJ0_checkIndex_df160_5 ml_J0_1059 cs_J3_checkIndex_8e157 rfl (rm_ok (by decide)) rm_0 (Nat.le_of_ble_eq_true rfl) ?_
  rintro _ G1 ⟨r, rfl, rfl⟩
  refine pw_pop dJ0_checkIndex_df160_8 rfl ?_
  exact pw_return dJ0_checkIndex_df160_9 rfl ⟨rfl, h⟩
def wp_J0_coder (a0 : Nat) (G : GS) (Q : Int32 → GS → Prop) : Prop := (a0 < nk_ ∧ ((narrow .byte (.int (0 : Int32)) = .int (0 : Int32)) ∧ Q (0 : Int32) G))
set_option maxRecDepth 100000 in
set_option maxHeartbeats 4000000 in
theorem s_J0_coder {E : EV} (hE : EI_ E) {a0 : Nat} {G : GS} {Q : Int32 → GS → Prop} (h : wp_J0_coder a0 G Q) : PMet E mi_J0_coder_7d493 1 [.ref (ev_aK E a0)] G (qi_ Q) := by
  refine pm_of hE (by decide) (Nat.le_of_ble_eq_true rfl) ?_
  refine pw_loc (lv' := [(0, .ref (ev_aK E a0))]) [0] rfl ?_
  refine pw_getcs dJ0_coder_7d493_0 fl_J0_38 ?_
  refine pw_if_eq (tgt := 13) dJ0_coder_7d493_3 (by decide) (fun hc => ?_) (fun hc => ?_)
  · exact absurd hc (by decide)
  · refine pw_aload_n dJ0_coder_7d493_6 rfl 0 rfl ?_
    obtain ⟨hv1, h⟩ := h
    refine pw_strc hv1 dJ0_coder_7d493_7 fl_J0_15 ?_
    refine pw_goto (tgt := 14) dJ0_coder_7d493_10 (by decide) ?_
    exact pw_ireturn dJ0_coder_7d493_14 rfl h.1 ⟨_, rfl, h.2⟩
def wp_J0_length (a0 : Nat) (G : GS) (Q : Int32 → GS → Prop) : Prop := (a0 < nk_ ∧ wp_J0_coder a0 G (fun r2 G3 => (r2 = 0 ∧ Q ((nI (kl_.getD a0 0)) >>> ((0 : Int32) &&& 31)) G3)))
set_option maxRecDepth 100000 in
set_option maxHeartbeats 4000000 in
theorem s_J0_length {E : EV} (hE : EI_ E) {a0 : Nat} {G : GS} {Q : Int32 → GS → Prop} (h : wp_J0_length a0 G Q) : PMet E mi_J0_length_8abf5 2 [.ref (ev_aK E a0)] G (qi_ Q) := by
  refine pm_of hE (by decide) (Nat.le_of_ble_eq_true rfl) ?_
  refine pw_loc (lv' := [(0, .ref (ev_aK E a0))]) [0] rfl ?_
  refine pw_aload_n dJ0_length_8abf5_0 rfl 0 rfl ?_
  obtain ⟨hv1, h⟩ := h
  refine pw_strv hv1 dJ0_length_8abf5_1 fl_J0_9 ?_
  refine pw_strl hv1 dJ0_length_8abf5_4 ?_
  refine pw_aload_n dJ0_length_8abf5_5 rfl 0 rfl ?_
  refine pw_callT (As := []) (rest := [.int (nI (kl_.getD a0 0))]) h.1 (s_J0_coder hE h) dJ0_length_8abf5_6 rfl ml_J0_335 cm_J0_coder_7d493 rfl (rm_ok (by decide)) rm_0 (Nat.le_of_ble_eq_true rfl) ?_
  rintro _ G3 ⟨r2, rfl, h⟩
  obtain ⟨hkn, h⟩ := h
  subst hkn
  refine pw_ishr dJ0_length_8abf5_9 ?_
  exact pw_ireturn dJ0_length_8abf5_10 rfl rfl ⟨_, rfl, h⟩
def wp_J0_isLatin1 (a0 : Nat) (G : GS) (Q : Int32 → GS → Prop) : Prop := (a0 < nk_ ∧ Q (1 : Int32) G)
set_option maxRecDepth 100000 in
set_option maxHeartbeats 4000000 in
theorem s_J0_isLatin1 {E : EV} (hE : EI_ E) {a0 : Nat} {G : GS} {Q : Int32 → GS → Prop} (h : wp_J0_isLatin1 a0 G Q) : PMet E mi_J0_isLatin1_aae02 1 [.ref (ev_aK E a0)] G (qi_ Q) := by
  refine pm_of hE (by decide) (Nat.le_of_ble_eq_true rfl) ?_
  refine pw_loc (lv' := [(0, .ref (ev_aK E a0))]) [0] rfl ?_
  refine pw_getcs dJ0_isLatin1_aae02_0 fl_J0_38 ?_
  refine pw_if_eq (tgt := 17) dJ0_isLatin1_aae02_3 (by decide) (fun hc => ?_) (fun hc => ?_)
  · exact absurd hc (by decide)
  · refine pw_aload_n dJ0_isLatin1_aae02_6 rfl 0 rfl ?_
    obtain ⟨hv1, h⟩ := h
    refine pw_strc hv1 dJ0_isLatin1_aae02_7 fl_J0_15 ?_
    refine pw_if_ne (tgt := 17) dJ0_isLatin1_aae02_10 (by decide) (fun hc => ?_) (fun hc => ?_)
    · exact absurd hc (by decide)
    · refine pw_iconst (v := (1 : Int32)) dJ0_isLatin1_aae02_13 (by decide) ?_
      refine pw_goto (tgt := 18) dJ0_isLatin1_aae02_14 (by decide) ?_
      exact pw_ireturn dJ0_isLatin1_aae02_18 rfl rfl ⟨_, rfl, h⟩
def wp_J1_charAt (a0 : Nat) (a1 : Int32) (G : GS) (Q : Int32 → GS → Prop) : Prop := (a0 < nk_ ∧ wp_scheck a1 (nI (kl_.getD a0 0)) G (fun _ G3 => (vp_in a1 (kl_.getD a0 0) ∧ ((narrow .char (.int (((((kb_.getD a0 []).getD (a1).toNatClampNeg 0) &&& (255 : Int32)).toUInt32 % 65536).toInt32)) = .int (((((kb_.getD a0 []).getD (a1).toNatClampNeg 0) &&& (255 : Int32)).toUInt32 % 65536).toInt32)) ∧ Q (((((kb_.getD a0 []).getD (a1).toNatClampNeg 0) &&& (255 : Int32)).toUInt32 % 65536).toInt32) G3))))
set_option maxRecDepth 100000 in
set_option maxHeartbeats 4000000 in
theorem s_J1_charAt {E : EV} (hE : EI_ E) {a0 : Nat} {a1 : Int32} {G : GS} {Q : Int32 → GS → Prop} (h : wp_J1_charAt a0 a1 G Q) : PMet E mi_J1_charAt_3b067 4 [.ref (ev_aV E a0), .int a1] G (qi_ Q) := by
  refine pm_of hE (by decide) (Nat.le_of_ble_eq_true rfl) ?_
  refine pw_loc (lv' := [(0, .ref (ev_aV E a0)), (1, .int a1)]) [0, 1] rfl ?_
  refine pw_iload_n dJ1_charAt_3b067_0 rfl 1 rfl ?_
  refine pw_aload_n dJ1_charAt_3b067_1 rfl 0 rfl ?_
  obtain ⟨hv1, h⟩ := h
  refine pw_strl hv1 dJ1_charAt_3b067_2 ?_
  refine pw_callS (As := [.int a1, .int (nI (kl_.getD a0 0))]) (rest := []) (s_scheck hE h) dJ1_charAt_3b067_3 ml_J1_9 cs_J0_checkIndex_df160 rfl (rm_ok (by decide)) rm_0 (Nat.le_of_ble_eq_true rfl) ?_
  rintro _ G3 ⟨rfl, h⟩
  refine pw_aload_n dJ1_charAt_3b067_6 rfl 0 rfl ?_
  refine pw_iload_n dJ1_charAt_3b067_7 rfl 1 rfl ?_
  obtain ⟨hv4, h⟩ := h
  refine pw_strb hv1 dJ1_charAt_3b067_8 hv4 ?_
  refine pw_sipush (v := (255 : Int32)) dJ1_charAt_3b067_9 (by decide) ?_
  refine pw_iand dJ1_charAt_3b067_12 ?_
  refine pw_i2c dJ1_charAt_3b067_13 ?_
  exact pw_ireturn dJ1_charAt_3b067_14 rfl h.1 ⟨_, rfl, h.2⟩
def wp_J0_charAt (a0 : Nat) (a1 : Int32) (G : GS) (Q : Int32 → GS → Prop) : Prop := wp_J0_isLatin1 a0 G (fun r1 G2 => (r1 = 1 ∧ (a0 < nk_ ∧ wp_J1_charAt a0 a1 G2 (fun r4 G5 => ((narrow .char (.int r4) = .int r4) ∧ Q r4 G5)))))
set_option maxRecDepth 100000 in
set_option maxHeartbeats 4000000 in
theorem s_J0_charAt {E : EV} (hE : EI_ E) {a0 : Nat} {a1 : Int32} {G : GS} {Q : Int32 → GS → Prop} (h : wp_J0_charAt a0 a1 G Q) : PMet E mi_J0_charAt_5068e 5 [.ref (ev_aK E a0), .int a1] G (qi_ Q) := by
  refine pm_of hE (by decide) (Nat.le_of_ble_eq_true rfl) ?_
  refine pw_loc (lv' := [(0, .ref (ev_aK E a0)), (1, .int a1)]) [0, 1] rfl ?_
  refine pw_aload_n dJ0_charAt_5068e_0 rfl 0 rfl ?_
  refine pw_callT (As := []) (rest := []) h.1 (s_J0_isLatin1 hE h) dJ0_charAt_5068e_1 rfl ml_J0_492 cm_J0_isLatin1_aae02 rfl (rm_ok (by decide)) rm_0 (Nat.le_of_ble_eq_true rfl) ?_
  rintro _ G2 ⟨r1, rfl, h⟩
  obtain ⟨hkn, h⟩ := h
  subst hkn
  refine pw_if_eq (tgt := 16) dJ0_charAt_5068e_4 (by decide) (fun hc => ?_) (fun hc => ?_)
  · exact absurd hc (by decide)
  · refine pw_aload_n dJ0_charAt_5068e_7 rfl 0 rfl ?_
    obtain ⟨hv3, h⟩ := h
    refine pw_strv hv3 dJ0_charAt_5068e_8 fl_J0_9 ?_
    refine pw_iload_n dJ0_charAt_5068e_11 rfl 1 rfl ?_
    refine pw_callS (As := [.ref (ev_aV E a0), .int a1]) (rest := []) (s_J1_charAt hE h) dJ0_charAt_5068e_12 ml_J0_495 cs_J1_charAt_3b067 rfl (rm_ok (by decide)) rm_0 (Nat.le_of_ble_eq_true rfl) ?_
    rintro _ G5 ⟨r4, rfl, h⟩
    exact pw_ireturn dJ0_charAt_5068e_15 rfl h.1 ⟨_, rfl, h.2⟩
def wp_J1_canEncode (a0 : Int32) (G : GS) (Q : Int32 → GS → Prop) : Prop := ((a0 < 0 → Q (0 : Int32) G) ∧ (¬ a0 < 0 → (((255 : Int32) < a0 → Q (0 : Int32) G) ∧ (¬ (255 : Int32) < a0 → Q (1 : Int32) G))))
set_option maxRecDepth 100000 in
set_option maxHeartbeats 4000000 in
theorem s_J1_canEncode {E : EV} (hE : EI_ E) {a0 : Int32} {G : GS} {Q : Int32 → GS → Prop} (h : wp_J1_canEncode a0 G Q) : PMet E mi_J1_canEncode_9a6ad 1 [.int a0] G (qi_ Q) := by
  refine pm_of hE (by decide) (Nat.le_of_ble_eq_true rfl) ?_
  refine pw_loc (lv' := [(0, .int a0)]) [0] rfl ?_
  refine pw_iload_n dJ1_canEncode_9a6ad_0 rfl 0 rfl ?_
  refine pw_if_lt (tgt := 15) dJ1_canEncode_9a6ad_1 (by decide) (fun hc => ?_) (fun hc => ?_)
  · have h := h.1 hc
    refine pw_iconst (v := (0 : Int32)) dJ1_canEncode_9a6ad_15 (by decide) ?_
    exact pw_ireturn dJ1_canEncode_9a6ad_16 rfl rfl ⟨_, rfl, h⟩
  · have h := h.2 hc
    refine pw_iload_n dJ1_canEncode_9a6ad_4 rfl 0 rfl ?_
    refine pw_sipush (v := (255 : Int32)) dJ1_canEncode_9a6ad_5 (by decide) ?_
    refine pw_icmp_gt (tgt := 15) dJ1_canEncode_9a6ad_8 (by decide) (fun hc => ?_) (fun hc => ?_)
    · have h := h.1 hc
      refine pw_iconst (v := (0 : Int32)) dJ1_canEncode_9a6ad_15 (by decide) ?_
      exact pw_ireturn dJ1_canEncode_9a6ad_16 rfl rfl ⟨_, rfl, h⟩
    · have h := h.2 hc
      refine pw_iconst (v := (1 : Int32)) dJ1_canEncode_9a6ad_11 (by decide) ?_
      refine pw_goto (tgt := 16) dJ1_canEncode_9a6ad_12 (by decide) ?_
      exact pw_ireturn dJ1_canEncode_9a6ad_16 rfl rfl ⟨_, rfl, h⟩
def lp_J1_indexOfChar_7 (Q : Int32 → GS → Prop)  : Nat → Nat → Int32 → Int32 → Int32 → GS → Prop
  | 0, _, _, _, _, _ => False
  | n + 1, x0, x3, x4, x5, G => ((x3 ≤ x5 → Q (-1 : Int32) G) ∧ (¬ x3 ≤ x5 → (x0 < nk_ ∧ (vp_in x5 (kl_.getD x0 0) ∧ ((¬ ((kb_.getD x0 []).getD (x5).toNatClampNeg 0) = x4 → lp_J1_indexOfChar_7 Q n x0 x3 x4 (x5 + 1) G) ∧ (((kb_.getD x0 []).getD (x5).toNatClampNeg 0) = x4 → Q x5 G))))))
set_option maxRecDepth 100000 in
set_option maxHeartbeats 4000000 in
theorem t_J1_indexOfChar_7 {E : EV} (hE : EI_ E) (Q : Int32 → GS → Prop)  : ∀ (n : Nat) (x0 : Nat) (x3 : Int32) (x4 : Int32) (x5 : Int32) (G : GS), lp_J1_indexOfChar_7 Q n x0 x3 x4 x5 G → PW_ E mi_J1_indexOfChar_4cfef (rm_ 1) 0 0 7 [(0, .ref (ev_aV E x0)), (3, .int x3), (4, .int x4), (5, .int x5)] [] G (qi_ Q) := by
  intro n
  induction n with
  | zero => intro x0 x3 x4 x5 G h; exact h.elim
  | succ n ih =>
    intro x0 x3 x4 x5 G h
    refine pw_iload dJ1_indexOfChar_4cfef_7 3 rfl ?_
    refine pw_iload_n dJ1_indexOfChar_4cfef_9 rfl 1 rfl ?_
    refine pw_icmp_ge (tgt := 31) dJ1_indexOfChar_4cfef_10 (by decide) (fun hc => ?_) (fun hc => ?_)
    · have h := h.1 hc
      refine pw_iconst (v := (-1 : Int32)) dJ1_indexOfChar_4cfef_31 (by decide) ?_
      exact pw_ireturn dJ1_indexOfChar_4cfef_32 rfl rfl ⟨_, rfl, h⟩
    · have h := h.2 hc
      refine pw_aload_n dJ1_indexOfChar_4cfef_13 rfl 0 rfl ?_
      refine pw_iload dJ1_indexOfChar_4cfef_14 3 rfl ?_
      obtain ⟨hv1, h⟩ := h
      obtain ⟨hv2, h⟩ := h
      refine pw_strb hv1 dJ1_indexOfChar_4cfef_16 hv2 ?_
      refine pw_iload dJ1_indexOfChar_4cfef_17 2 rfl ?_
      refine pw_icmp_ne (tgt := 25) dJ1_indexOfChar_4cfef_19 (by decide) (fun hc => ?_) (fun hc => ?_)
      · have h := h.1 hc
        refine pw_iinc (k := 3) (v := x5 + 1) (lv' := [(5, .int (x5 + 1)), (0, .ref (ev_aV E x0)), (3, .int x3), (4, .int x4)]) dJ1_indexOfChar_4cfef_25 rfl rfl (by decide) rfl ?_
        refine pw_goto (tgt := 7) dJ1_indexOfChar_4cfef_28 (by decide) ?_
        refine pw_loc (lv' := [(0, .ref (ev_aV E x0)), (3, .int x3), (4, .int x4), (5, .int (x5 + 1))]) [1, 2, 3, 0] rfl ?_
        exact ih _ _ _ _ _ h
      · have h := h.2 hc
        refine pw_iload dJ1_indexOfChar_4cfef_22 3 rfl ?_
        exact pw_ireturn dJ1_indexOfChar_4cfef_24 rfl rfl ⟨_, rfl, h⟩
def wp_J1_indexOfChar (a0 : Nat) (a1 : Int32) (a2 : Int32) (a3 : Int32) (G : GS) (Q : Int32 → GS → Prop) : Prop := (∃ kf, lp_J1_indexOfChar_7 Q kf a0 a3 a1.toInt8.toInt32 a2 G)
set_option maxRecDepth 100000 in
set_option maxHeartbeats 4000000 in
theorem s_J1_indexOfChar {E : EV} (hE : EI_ E) {a0 : Nat} {a1 : Int32} {a2 : Int32} {a3 : Int32} {G : GS} {Q : Int32 → GS → Prop} (h : wp_J1_indexOfChar a0 a1 a2 a3 G Q) : PMet E mi_J1_indexOfChar_4cfef 1 [.ref (ev_aV E a0), .int a1, .int a2, .int a3] G (qi_ Q) := by
  refine pm_of hE (by decide) (Nat.le_of_ble_eq_true rfl) ?_
  refine pw_loc (lv' := [(0, .ref (ev_aV E a0)), (1, .int a1), (2, .int a2), (3, .int a3)]) [0, 1, 2, 3] rfl ?_
  refine pw_iload_n dJ1_indexOfChar_4cfef_0 rfl 1 rfl ?_
  refine pw_i2b dJ1_indexOfChar_4cfef_1 ?_
  refine pw_istore (lv' := [(4, .int a1.toInt8.toInt32), (0, .ref (ev_aV E a0)), (1, .int a1), (2, .int a2), (3, .int a3)]) dJ1_indexOfChar_4cfef_2 (by decide) rfl ?_
  refine pw_iload_n dJ1_indexOfChar_4cfef_4 rfl 3 rfl ?_
  refine pw_istore (lv' := [(5, .int a2), (4, .int a1.toInt8.toInt32), (0, .ref (ev_aV E a0)), (1, .int a1), (2, .int a2), (3, .int a3)]) dJ1_indexOfChar_4cfef_5 (by decide) rfl ?_
  refine pw_loc (lv' := [(0, .ref (ev_aV E a0)), (3, .int a3), (4, .int a1.toInt8.toInt32), (5, .int a2)]) [2, 5, 1, 0] rfl ?_
  obtain ⟨kf, h⟩ := h
  exact t_J1_indexOfChar_7 hE Q kf _ _ _ _ _ h
def wp_J1_indexOf (a0 : Nat) (a1 : Int32) (a2 : Int32) (a3 : Int32) (G : GS) (Q : Int32 → GS → Prop) : Prop := wp_J1_canEncode a1 G (fun r1 G2 => ((¬ r1 = 0 → (a0 < nk_ ∧ (((if a2 < (0 : Int32) then (0 : Int32) else a2) < (if (nI (kl_.getD a0 0)) < a3 then nI (kl_.getD a0 0) else a3) → wp_J1_indexOfChar a0 a1 (if a2 < (0 : Int32) then (0 : Int32) else a2) (if (nI (kl_.getD a0 0)) < a3 then nI (kl_.getD a0 0) else a3) G2 (fun r4 G5 => Q r4 G5)) ∧ (¬ (if a2 < (0 : Int32) then (0 : Int32) else a2) < (if (nI (kl_.getD a0 0)) < a3 then nI (kl_.getD a0 0) else a3) → Q (-1 : Int32) G2)))) ∧ (r1 = 0 → Q (-1 : Int32) G2)))
set_option maxRecDepth 100000 in
set_option maxHeartbeats 4000000 in
theorem s_J1_indexOf {E : EV} (hE : EI_ E) {a0 : Nat} {a1 : Int32} {a2 : Int32} {a3 : Int32} {G : GS} {Q : Int32 → GS → Prop} (h : wp_J1_indexOf a0 a1 a2 a3 G Q) : PMet E mi_J1_indexOf_4cfef 2 [.ref (ev_aV E a0), .int a1, .int a2, .int a3] G (qi_ Q) := by
  refine pm_of hE (by decide) (Nat.le_of_ble_eq_true rfl) ?_
  refine pw_loc (lv' := [(0, .ref (ev_aV E a0)), (1, .int a1), (2, .int a2), (3, .int a3)]) [0, 1, 2, 3] rfl ?_
  refine pw_iload_n dJ1_indexOf_4cfef_0 rfl 1 rfl ?_
  refine pw_callS (As := [.int a1]) (rest := []) (s_J1_canEncode hE h) dJ1_indexOf_4cfef_1 ml_J1_88 cs_J1_canEncode_9a6ad rfl (rm_ok (by decide)) rm_0 (Nat.le_of_ble_eq_true rfl) ?_
  rintro _ G2 ⟨r1, rfl, h⟩
  refine pw_if_ne (tgt := 9) dJ1_indexOf_4cfef_4 (by decide) (fun hc => ?_) (fun hc => ?_)
  · have h := h.1 hc
    refine pw_iload_n dJ1_indexOf_4cfef_9 rfl 2 rfl ?_
    refine pw_iconst (v := (0 : Int32)) dJ1_indexOf_4cfef_10 (by decide) ?_
    refine pw_mmax dJ1_indexOf_4cfef_11 jm_J1_92 (rm_ok1 (by decide)) rm_0 (Nat.le_of_ble_eq_true rfl) ?_
    refine pw_istore_n (lv' := [(2, .int (if a2 < (0 : Int32) then (0 : Int32) else a2)), (0, .ref (ev_aV E a0)), (1, .int a1), (3, .int a3)]) dJ1_indexOf_4cfef_14 rfl (by decide) rfl ?_
    refine pw_iload_n dJ1_indexOf_4cfef_15 rfl 3 rfl ?_
    refine pw_aload_n dJ1_indexOf_4cfef_16 rfl 1 rfl ?_
    obtain ⟨hv3, h⟩ := h
    refine pw_strl hv3 dJ1_indexOf_4cfef_17 ?_
    refine pw_mmin dJ1_indexOf_4cfef_18 jm_J1_38 (rm_ok1 (by decide)) rm_0 (Nat.le_of_ble_eq_true rfl) ?_
    refine pw_istore_n (lv' := [(3, .int (if (nI (kl_.getD a0 0)) < a3 then nI (kl_.getD a0 0) else a3)), (2, .int (if a2 < (0 : Int32) then (0 : Int32) else a2)), (0, .ref (ev_aV E a0)), (1, .int a1)]) dJ1_indexOf_4cfef_21 rfl (by decide) rfl ?_
    refine pw_iload_n dJ1_indexOf_4cfef_22 rfl 1 rfl ?_
    refine pw_iload_n dJ1_indexOf_4cfef_23 rfl 0 rfl ?_
    refine pw_icmp_lt (tgt := 29) dJ1_indexOf_4cfef_24 (by decide) (fun hc => ?_) (fun hc => ?_)
    · have h := h.1 hc
      refine pw_aload_n dJ1_indexOf_4cfef_29 rfl 2 rfl ?_
      refine pw_iload_n dJ1_indexOf_4cfef_30 rfl 3 rfl ?_
      refine pw_iload_n dJ1_indexOf_4cfef_31 rfl 1 rfl ?_
      refine pw_iload_n dJ1_indexOf_4cfef_32 rfl 0 rfl ?_
      refine pw_callS (As := [.ref (ev_aV E a0), .int a1, .int (if a2 < (0 : Int32) then (0 : Int32) else a2), .int (if (nI (kl_.getD a0 0)) < a3 then nI (kl_.getD a0 0) else a3)]) (rest := []) (s_J1_indexOfChar hE h) dJ1_indexOf_4cfef_33 ml_J1_95 cs_J1_indexOfChar_4cfef rfl (rm_ok (by decide)) rm_0 (Nat.le_of_ble_eq_true rfl) ?_
      rintro _ G5 ⟨r4, rfl, h⟩
      exact pw_ireturn dJ1_indexOf_4cfef_36 rfl rfl ⟨_, rfl, h⟩
    · have h := h.2 hc
      refine pw_iconst (v := (-1 : Int32)) dJ1_indexOf_4cfef_27 (by decide) ?_
      exact pw_ireturn dJ1_indexOf_4cfef_28 rfl rfl ⟨_, rfl, h⟩
  · have h := h.2 hc
    refine pw_iconst (v := (-1 : Int32)) dJ1_indexOf_4cfef_7 (by decide) ?_
    exact pw_ireturn dJ1_indexOf_4cfef_8 rfl rfl ⟨_, rfl, h⟩
def wp_J0_indexOf_7cf53 (a0 : Nat) (a1 : Int32) (a2 : Int32) (G : GS) (Q : Int32 → GS → Prop) : Prop := wp_J0_isLatin1 a0 G (fun r1 G2 => (r1 = 1 ∧ (a0 < nk_ ∧ wp_J0_length a0 G2 (fun r4 G5 => wp_J1_indexOf a0 a1 a2 r4 G5 (fun r6 G7 => Q r6 G7)))))
set_option maxRecDepth 100000 in
set_option maxHeartbeats 4000000 in
theorem s_J0_indexOf_7cf53 {E : EV} (hE : EI_ E) {a0 : Nat} {a1 : Int32} {a2 : Int32} {G : GS} {Q : Int32 → GS → Prop} (h : wp_J0_indexOf_7cf53 a0 a1 a2 G Q) : PMet E mi_J0_indexOf_7cf53 3 [.ref (ev_aK E a0), .int a1, .int a2] G (qi_ Q) := by
  refine pm_of hE (by decide) (Nat.le_of_ble_eq_true rfl) ?_
  refine pw_loc (lv' := [(0, .ref (ev_aK E a0)), (1, .int a1), (2, .int a2)]) [0, 1, 2] rfl ?_
  refine pw_aload_n dJ0_indexOf_7cf53_0 rfl 0 rfl ?_
  refine pw_callT (As := []) (rest := []) h.1 (s_J0_isLatin1 hE h) dJ0_indexOf_7cf53_1 rfl ml_J0_492 cm_J0_isLatin1_aae02 rfl (rm_ok (by decide)) rm_0 (Nat.le_of_ble_eq_true rfl) ?_
  rintro _ G2 ⟨r1, rfl, h⟩
  obtain ⟨hkn, h⟩ := h
  subst hkn
  refine pw_if_eq (tgt := 23) dJ0_indexOf_7cf53_4 (by decide) (fun hc => ?_) (fun hc => ?_)
  · exact absurd hc (by decide)
  · refine pw_aload_n dJ0_indexOf_7cf53_7 rfl 0 rfl ?_
    obtain ⟨hv3, h⟩ := h
    refine pw_strv hv3 dJ0_indexOf_7cf53_8 fl_J0_9 ?_
    refine pw_iload_n dJ0_indexOf_7cf53_11 rfl 1 rfl ?_
    refine pw_iload_n dJ0_indexOf_7cf53_12 rfl 2 rfl ?_
    refine pw_aload_n dJ0_indexOf_7cf53_13 rfl 0 rfl ?_
    refine pw_callT (As := []) (rest := [.int a2, .int a1, .ref (ev_aV E a0)]) h.1 (s_J0_length hE h) dJ0_indexOf_7cf53_14 rfl ml_J0_505 cm_J0_length_8abf5 rfl (rm_ok (by decide)) rm_0 (Nat.le_of_ble_eq_true rfl) ?_
    rintro _ G5 ⟨r4, rfl, h⟩
    refine pw_callS (As := [.ref (ev_aV E a0), .int a1, .int a2, .int r4]) (rest := []) (s_J1_indexOf hE h) dJ0_indexOf_7cf53_17 ml_J0_637 cs_J1_indexOf_4cfef rfl (rm_ok (by decide)) rm_0 (Nat.le_of_ble_eq_true rfl) ?_
    rintro _ G7 ⟨r6, rfl, h⟩
    refine pw_goto (tgt := 36) dJ0_indexOf_7cf53_20 (by decide) ?_
    exact pw_ireturn dJ0_indexOf_7cf53_36 rfl rfl ⟨_, rfl, h⟩
def wp_J0_indexOf_0f7a4 (a0 : Nat) (a1 : Int32) (G : GS) (Q : Int32 → GS → Prop) : Prop := wp_J0_indexOf_7cf53 a0 a1 (0 : Int32) G (fun r1 G2 => Q r1 G2)
set_option maxRecDepth 100000 in
set_option maxHeartbeats 4000000 in
theorem s_J0_indexOf_0f7a4 {E : EV} (hE : EI_ E) {a0 : Nat} {a1 : Int32} {G : GS} {Q : Int32 → GS → Prop} (h : wp_J0_indexOf_0f7a4 a0 a1 G Q) : PMet E mi_J0_indexOf_0f7a4 4 [.ref (ev_aK E a0), .int a1] G (qi_ Q) := by
  refine pm_of hE (by decide) (Nat.le_of_ble_eq_true rfl) ?_
  refine pw_loc (lv' := [(0, .ref (ev_aK E a0)), (1, .int a1)]) [0, 1] rfl ?_
  refine pw_aload_n dJ0_indexOf_0f7a4_0 rfl 0 rfl ?_
  refine pw_iload_n dJ0_indexOf_0f7a4_1 rfl 1 rfl ?_
  refine pw_iconst (v := (0 : Int32)) dJ0_indexOf_0f7a4_2 (by decide) ?_
  refine pw_callT (As := [.int a1, .int (0 : Int32)]) (rest := []) h.1 (s_J0_indexOf_7cf53 hE h) dJ0_indexOf_0f7a4_3 rfl ml_J0_633 cm_J0_indexOf_7cf53 rfl (rm_ok (by decide)) rm_0 (Nat.le_of_ble_eq_true rfl) ?_
  rintro _ G2 ⟨r1, rfl, h⟩
  exact pw_ireturn dJ0_indexOf_0f7a4_6 rfl rfl ⟨_, rfl, h⟩
def sxF (c : Int32) : List Int32 → Nat → Int32
  | [], _ => -1
  | b :: l, k => if b = c then nI k else sxF c l (k + 1)
def sx_ (i : Nat) (c : Int32) : Int32 := sxF c (kb_.getD i []) 0
def wp_slen (i : Nat) (G : GS) (Q : Int32 → GS → Prop) : Prop := i < nk_ ∧ Q (nI (kl_.getD i 0)) G
def wp_schar (i : Nat) (k : Int32) (G : GS) (Q : Int32 → GS → Prop) : Prop := i < nk_ ∧ vp_in k (kl_.getD i 0) ∧ Q ((kb_.getD i []).getD k.toNatClampNeg 0) G
def wp_sidx (i : Nat) (c : Int32) (G : GS) (Q : Int32 → GS → Prop) : Prop := i < nk_ ∧ Q (sx_ i c) G
theorem st_len : ∀ i, i < nk_ → nI (kl_.getD i 0) >>> ((0 : Int32) &&& 31) = nI (kl_.getD i 0) ∧ kl_.getD i 0 = (kb_.getD i []).length ∧ kl_.getD i 0 < 100 := by decide +kernel
theorem st_byte : ∀ i, i < nk_ → ∀ b ∈ kb_.getD i [], b.toInt8.toInt32 = b ∧ b &&& 255 = b ∧ ((b &&& 255).toUInt32 % 65536).toInt32 = b ∧ b.toUInt32.toUInt16.toUInt32.toInt32 = b := by decide +kernel
theorem s_slen {E : EV} (hE : EI_ E) {i : Nat} {G : GS} {Q : Int32 → GS → Prop} (h : wp_slen i G Q) : PMet E mi_J0_length_8abf5 2 [.ref (ev_aK E i)] G (qi_ Q) := by
  obtain ⟨hi, h⟩ := h
  refine s_J0_length hE ⟨hi, hi, rfl, rfl, ?_⟩
  rw [(st_len i hi).1]
  exact h
theorem s_schar {E : EV} (hE : EI_ E) {i : Nat} {k : Int32} {G : GS} {Q : Int32 → GS → Prop} (h : wp_schar i k G Q) : PMet E mi_J0_charAt_5068e 5 [.ref (ev_aK E i), .int k] G (qi_ Q) := by
  obtain ⟨hi, hk, h⟩ := h
  obtain ⟨-, hl, hL⟩ := st_len i hi
  obtain ⟨j, hj, rfl⟩ := vp_in_of hk (by omega)
  have hj2 : (nI j).toNatClampNeg = j := nI_clamp (by omega)
  have hm : (kb_.getD i []).getD (nI j).toNatClampNeg 0 ∈ kb_.getD i [] := by
    have hlt : j < (kb_.getD i []).length := by omega
    rw [hj2]
    generalize kb_.getD i [] = l at hlt ⊢
    rw [List.getD_eq_getElem?_getD, List.getElem?_eq_getElem hlt]
    exact List.getElem_mem _
  obtain ⟨b1, b2, b3, b4⟩ := st_byte i hi _ hm
  refine s_J0_charAt hE ⟨hi, rfl, hi, hi, nI_pos (by omega), nI_lt hj (by omega), hk, ?_⟩
  generalize (kb_.getD i []).getD (nI j).toNatClampNeg 0 = b at h b1 b2 b3 b4 ⊢
  have hn : narrow .char (.int b) = .int b := by show Value.int _ = _; rw [b4]
  rw [b3]
  exact ⟨hn, hn, h⟩
theorem st_eq {i : Nat} (hi : i < nk_) {b : Int32} (hb : b ∈ kb_.getD i []) {n : Nat} (hn : n < 256) : b = (nI n).toInt8.toInt32 ↔ b = nI n := by
  obtain ⟨b1, b2, -, -⟩ := st_byte i hi b hb
  have h := sc_eq b1 hn
  rw [b2] at h
  exact h
theorem st_loop {Q : Int32 → GS → Prop} {G : GS} {i : Nat} (hi : i < nk_) {n : Nat} (hn : n < 256) : ∀ (l : List Int32) (k : Nat), k ≤ kl_.getD i 0 → (kb_.getD i []).drop k = l → Q (sxF (nI n) l k) G → lp_J1_indexOfChar_7 Q (l.length + 1) i (nI (kl_.getD i 0)) (nI n).toInt8.toInt32 (nI k) G := by
  obtain ⟨-, hl, hL⟩ := st_len i hi
  intro l
  induction l with
  | nil =>
    intro k hk e h
    have q : (kb_.getD i []).length ≤ k := List.drop_eq_nil_iff.mp e
    exact br_t (nI_le (by omega) (by omega)) h
  | cons b l ih =>
    intro k hk e h
    have hlt : k < (kb_.getD i []).length := by
      rcases Nat.lt_or_ge k (kb_.getD i []).length with q | q
      · exact q
      · rw [List.drop_eq_nil_iff.mpr q] at e
        cases e
    have e2 := List.drop_eq_getElem_cons hlt
    rw [e] at e2
    obtain ⟨eb, el⟩ := List.cons.inj e2
    have hv : (kb_.getD i []).getD (nI k).toNatClampNeg 0 = b := by
      rw [nI_clamp (by omega), List.getD_eq_getElem?_getD, List.getElem?_eq_getElem hlt, ← eb]
      rfl
    have hm : b ∈ kb_.getD i [] := by rw [eb]; exact List.getElem_mem _
    refine br_f (nI_ge (by omega) (by omega)) ⟨hi, vp_in_nI (by omega) (by omega), ?_⟩
    rw [hv]
    rw [sxF] at h
    by_cases hc : b = nI n
    · rw [if_pos hc] at h
      exact ⟨fun z => absurd ((st_eq hi hm hn).mpr hc) z, fun _ => h⟩
    · rw [if_neg hc] at h
      refine ⟨fun _ => ?_, fun z => absurd ((st_eq hi hm hn).mp z) hc⟩
      rw [← nI_succ]
      exact ih (k + 1) (by omega) el.symm h
theorem sx_out {c : Int32} : ∀ (l : List Int32) (k : Nat), (∀ b ∈ l, ¬ b = c) → sxF c l k = -1 := by
  intro l
  induction l with
  | nil => intro k _; rfl
  | cons b l ih =>
    intro k h
    rw [sxF, if_neg (h b List.mem_cons_self)]
    exact ih (k + 1) (fun b hb => h b (List.mem_cons_of_mem _ hb))
theorem st_rng : ∀ i, i < nk_ → ∀ b ∈ kb_.getD i [], ¬ b < 0 ∧ ¬ 255 < b := by decide +kernel
theorem s_sidx {E : EV} (hE : EI_ E) {i : Nat} {c : Int32} {G : GS} {Q : Int32 → GS → Prop} (h : wp_sidx i c G Q) : PMet E mi_J0_indexOf_0f7a4 4 [.ref (ev_aK E i), .int c] G (qi_ Q) := by
  obtain ⟨hi, h⟩ := h
  obtain ⟨hs, hl, hL⟩ := st_len i hi
  refine s_J0_indexOf_0f7a4 hE ⟨hi, rfl, hi, hi, hi, rfl, rfl, ?_⟩
  rw [hs]
  have out : (c < 0 ∨ 255 < c) → Q (-1) G := by
    intro z
    rw [sx_, sx_out] at h
    · exact h
    · intro b hb e
      obtain ⟨r1, r2⟩ := st_rng i hi b hb
      rw [e] at r1 r2
      exact z.elim r1 r2
  refine ⟨fun h0 => ⟨fun q => absurd rfl q, fun _ => out (Or.inl h0)⟩, fun h0 => ⟨fun h1 => ⟨fun q => absurd rfl q, fun _ => out (Or.inr h1)⟩, fun h1 => ⟨fun _ => ⟨hi, ?_, ?_⟩, fun q => absurd q (by decide)⟩⟩⟩
  all_goals rw [ite_self, ite_self]
  · intro _
    obtain ⟨n, hn, rfl⟩ := nI_of h0
    have h256 : n < 256 := by
      rcases Nat.lt_or_ge n 256 with q | q
      · exact q
      · exact absurd (nI_lt (a := 255) (b := n) (by omega) hn) h1
    exact ⟨_, st_loop hi h256 _ 0 (Nat.zero_le _) rfl h⟩
  · intro hz
    have h00 : kl_.getD i 0 = 0 := by
      rcases Nat.eq_zero_or_pos (kl_.getD i 0) with q | q
      · exact q
      · exact absurd (nI_lt (a := 0) q (by omega)) hz
    have e : kb_.getD i [] = [] := List.length_eq_zero_iff.mp (by omega)
    rw [sx_, e] at h
    exact h
