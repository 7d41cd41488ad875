def lp_X8_wordsSayable_14 (Q : Int32 → GS → Prop) (R4 : Int32 → Int32 → GS → Prop)  : Nat → Int32 → Int32 → Int32 → GS → Prop
  | 0, _, _, _, _ => False
  | n + 1, x1, x2, x3, G => ((x2 ≤ x3 → R4 x1 (x2 + 1) G) ∧ (¬ x2 ≤ x3 → wp_X8_wordOf x2 x3 G (fun r1 G2 => wp_X8_hasHum x2 G2 (fun r3 G4 => ((r3 = 0 → lp_X8_wordsSayable_14 Q R4 n x1 x2 (x3 + 1) G4) ∧ (¬ r3 = 0 → wp_X8_hasHum x3 G4 (fun r5 G6 => ((r5 = 0 → lp_X8_wordsSayable_14 Q R4 n x1 x2 (x3 + 1) G6) ∧ (¬ r5 = 0 → ((r1 < (1 : Int32) → lp_X8_wordsSayable_14 Q R4 n x1 x2 (x3 + 1) G6) ∧ (¬ r1 < (1 : Int32) → (((24 : Int32) < r1 → lp_X8_wordsSayable_14 Q R4 n x1 x2 (x3 + 1) G6) ∧ (¬ (24 : Int32) < r1 → lp_X8_wordsSayable_14 Q R4 n (x1 ||| ((1 : Int32) <<< (r1 &&& 31))) x2 (x3 + 1) G6)))))))))))))
set_option maxRecDepth 100000 in
set_option maxHeartbeats 4000000 in
theorem t_X8_wordsSayable_14 {E : EV} (hE : EI_ E) (Q : Int32 → GS → Prop) (R4 : Int32 → Int32 → GS → Prop) (hR4 : ∀ (x1 : Int32) (x2 : Int32) (G : GS), R4 x1 x2 G → PW_ E mi_X8_wordsSayable (rm_ 3) 0 0 4 [(0, .ref (ev_ad E 1)), (1, .int x1), (2, .int x2)] [] G (qi_ Q))  : ∀ (n : Nat) (x1 : Int32) (x2 : Int32) (x3 : Int32) (G : GS), lp_X8_wordsSayable_14 Q R4 n x1 x2 x3 G → PW_ E mi_X8_wordsSayable (rm_ 3) 0 0 14 [(0, .ref (ev_ad E 1)), (1, .int x1), (2, .int x2), (3, .int x3)] [] G (qi_ Q) := by
  intro n
  induction n with
  | zero => intro x1 x2 x3 G h; exact h.elim
  | succ n ih =>
    intro x1 x2 x3 G h
    refine pw_iload_n dX8_wordsSayable_14 rfl 3 rfl ?_
    refine pw_iload_n dX8_wordsSayable_15 rfl 2 rfl ?_
    refine pw_icmp_ge (tgt := 69) dX8_wordsSayable_16 (by decide) (fun hc => ?_) (fun hc => ?_)
    · have h := h.1 hc
      refine pw_iinc (k := 2) (v := x2 + 1) (lv' := [(2, .int (x2 + 1)), (0, .ref (ev_ad E 1)), (1, .int x1), (3, .int x3)]) dX8_wordsSayable_69 rfl rfl (by decide) rfl ?_
      refine pw_goto (tgt := 4) dX8_wordsSayable_72 (by decide) ?_
      refine pw_loc (lv' := [(0, .ref (ev_ad E 1)), (1, .int x1), (2, .int (x2 + 1))]) [1, 2, 0] rfl ?_
      exact hR4 _ _ _ h
    · have h := h.2 hc
      refine pw_aload_n dX8_wordsSayable_19 rfl 0 rfl ?_
      refine pw_iload_n dX8_wordsSayable_20 rfl 2 rfl ?_
      refine pw_iload_n dX8_wordsSayable_21 rfl 3 rfl ?_
      refine pw_callV (As := [.int x2, .int x3]) (rest := []) (s_X8_wordOf hE h) dX8_wordsSayable_22 ly_1 rfl (Or.inl ml_X8_98) cm_X8_wordOf rfl (rm_ok (by decide)) rm_0 (Nat.le_of_ble_eq_true rfl) ?_
      rintro _ G2 ⟨r1, rfl, h⟩
      refine pw_istore (lv' := [(4, .int r1), (0, .ref (ev_ad E 1)), (1, .int x1), (2, .int x2), (3, .int x3)]) dX8_wordsSayable_25 (by decide) rfl ?_
      refine pw_aload_n dX8_wordsSayable_27 rfl 1 rfl ?_
      refine pw_iload_n dX8_wordsSayable_28 rfl 3 rfl ?_
      refine pw_callV (As := [.int x2]) (rest := []) (s_X8_hasHum hE h) dX8_wordsSayable_29 ly_1 rfl (Or.inl ml_X8_102) cm_X8_hasHum rfl (rm_ok (by decide)) rm_0 (Nat.le_of_ble_eq_true rfl) ?_
      rintro _ G4 ⟨r3, rfl, h⟩
      refine pw_if_eq (tgt := 63) dX8_wordsSayable_32 (by decide) (fun hc => ?_) (fun hc => ?_)
      · have h := h.1 hc
        refine pw_iinc (k := 4) (v := x3 + 1) (lv' := [(3, .int (x3 + 1)), (4, .int r1), (0, .ref (ev_ad E 1)), (1, .int x1), (2, .int x2)]) dX8_wordsSayable_63 rfl rfl (by decide) rfl ?_
        refine pw_goto (tgt := 14) dX8_wordsSayable_66 (by decide) ?_
        refine pw_loc (lv' := [(0, .ref (ev_ad E 1)), (1, .int x1), (2, .int x2), (3, .int (x3 + 1))]) [2, 3, 4, 0] rfl ?_
        exact ih _ _ _ _ h
      · have h := h.2 hc
        refine pw_aload_n dX8_wordsSayable_35 rfl 1 rfl ?_
        refine pw_iload_n dX8_wordsSayable_36 rfl 4 rfl ?_
        refine pw_callV (As := [.int x3]) (rest := []) (s_X8_hasHum hE h) dX8_wordsSayable_37 ly_1 rfl (Or.inl ml_X8_102) cm_X8_hasHum rfl (rm_ok (by decide)) rm_0 (Nat.le_of_ble_eq_true rfl) ?_
        rintro _ G6 ⟨r5, rfl, h⟩
        refine pw_if_eq (tgt := 63) dX8_wordsSayable_40 (by decide) (fun hc => ?_) (fun hc => ?_)
        · have h := h.1 hc
          refine pw_iinc (k := 4) (v := x3 + 1) (lv' := [(3, .int (x3 + 1)), (4, .int r1), (0, .ref (ev_ad E 1)), (1, .int x1), (2, .int x2)]) dX8_wordsSayable_63 rfl rfl (by decide) rfl ?_
          refine pw_goto (tgt := 14) dX8_wordsSayable_66 (by decide) ?_
          refine pw_loc (lv' := [(0, .ref (ev_ad E 1)), (1, .int x1), (2, .int x2), (3, .int (x3 + 1))]) [2, 3, 4, 0] rfl ?_
          exact ih _ _ _ _ h
        · have h := h.2 hc
          refine pw_iload dX8_wordsSayable_43 0 rfl ?_
          refine pw_iconst (v := (1 : Int32)) dX8_wordsSayable_45 (by decide) ?_
          refine pw_icmp_lt (tgt := 63) dX8_wordsSayable_46 (by decide) (fun hc => ?_) (fun hc => ?_)
          · have h := h.1 hc
            refine pw_iinc (k := 4) (v := x3 + 1) (lv' := [(3, .int (x3 + 1)), (4, .int r1), (0, .ref (ev_ad E 1)), (1, .int x1), (2, .int x2)]) dX8_wordsSayable_63 rfl rfl (by decide) rfl ?_
            refine pw_goto (tgt := 14) dX8_wordsSayable_66 (by decide) ?_
            refine pw_loc (lv' := [(0, .ref (ev_ad E 1)), (1, .int x1), (2, .int x2), (3, .int (x3 + 1))]) [2, 3, 4, 0] rfl ?_
            exact ih _ _ _ _ h
          · have h := h.2 hc
            refine pw_iload dX8_wordsSayable_49 0 rfl ?_
            refine pw_bipush (v := (24 : Int32)) dX8_wordsSayable_51 (by decide) ?_
            refine pw_icmp_gt (tgt := 63) dX8_wordsSayable_53 (by decide) (fun hc => ?_) (fun hc => ?_)
            · have h := h.1 hc
              refine pw_iinc (k := 4) (v := x3 + 1) (lv' := [(3, .int (x3 + 1)), (4, .int r1), (0, .ref (ev_ad E 1)), (1, .int x1), (2, .int x2)]) dX8_wordsSayable_63 rfl rfl (by decide) rfl ?_
              refine pw_goto (tgt := 14) dX8_wordsSayable_66 (by decide) ?_
              refine pw_loc (lv' := [(0, .ref (ev_ad E 1)), (1, .int x1), (2, .int x2), (3, .int (x3 + 1))]) [2, 3, 4, 0] rfl ?_
              exact ih _ _ _ _ h
            · have h := h.2 hc
              refine pw_iload_n dX8_wordsSayable_56 rfl 2 rfl ?_
              refine pw_iconst (v := (1 : Int32)) dX8_wordsSayable_57 (by decide) ?_
              refine pw_iload dX8_wordsSayable_58 0 rfl ?_
              refine pw_ishl dX8_wordsSayable_60 ?_
              refine pw_ior dX8_wordsSayable_61 ?_
              refine pw_istore_n (lv' := [(1, .int (x1 ||| ((1 : Int32) <<< (r1 &&& 31)))), (4, .int r1), (0, .ref (ev_ad E 1)), (2, .int x2), (3, .int x3)]) dX8_wordsSayable_62 rfl (by decide) rfl ?_
              refine pw_iinc (k := 4) (v := x3 + 1) (lv' := [(3, .int (x3 + 1)), (1, .int (x1 ||| ((1 : Int32) <<< (r1 &&& 31)))), (4, .int r1), (0, .ref (ev_ad E 1)), (2, .int x2)]) dX8_wordsSayable_63 rfl rfl (by decide) rfl ?_
              refine pw_goto (tgt := 14) dX8_wordsSayable_66 (by decide) ?_
              refine pw_loc (lv' := [(0, .ref (ev_ad E 1)), (1, .int (x1 ||| ((1 : Int32) <<< (r1 &&& 31)))), (2, .int x2), (3, .int (x3 + 1))]) [3, 1, 4, 0] rfl ?_
              exact ih _ _ _ _ h
def lp_X8_wordsSayable_4 (Q : Int32 → GS → Prop)  : Nat → Int32 → Int32 → GS → Prop
  | 0, _, _, _ => False
  | n + 1, x1, x2, G => (((G 1 1) ≤ x2 → Q x1 G) ∧ (¬ (G 1 1) ≤ x2 → (∃ kf, lp_X8_wordsSayable_14 Q (fun y1 y2 G => lp_X8_wordsSayable_4 Q n y1 y2 G) kf x1 x2 (0 : Int32) G)))
set_option maxRecDepth 100000 in
set_option maxHeartbeats 4000000 in
theorem t_X8_wordsSayable_4 {E : EV} (hE : EI_ E) (Q : Int32 → GS → Prop)  : ∀ (n : Nat) (x1 : Int32) (x2 : Int32) (G : GS), lp_X8_wordsSayable_4 Q n x1 x2 G → PW_ E mi_X8_wordsSayable (rm_ 3) 0 0 4 [(0, .ref (ev_ad E 1)), (1, .int x1), (2, .int x2)] [] G (qi_ Q) := by
  intro n
  induction n with
  | zero => intro x1 x2 G h; exact h.elim
  | succ n ih =>
    intro x1 x2 G h
    refine pw_iload_n dX8_wordsSayable_4 rfl 2 rfl ?_
    refine pw_aload_n dX8_wordsSayable_5 rfl 0 rfl ?_
    refine pw_geti (v := G 1 1) dX8_wordsSayable_6 fa_X8_57 ly_1 rfl rfl ?_
    refine pw_icmp_ge (tgt := 75) dX8_wordsSayable_9 (by decide) (fun hc => ?_) (fun hc => ?_)
    · have h := h.1 hc
      refine pw_iload_n dX8_wordsSayable_75 rfl 1 rfl ?_
      exact pw_ireturn dX8_wordsSayable_76 rfl rfl ⟨_, rfl, h⟩
    · have h := h.2 hc
      refine pw_iconst (v := (0 : Int32)) dX8_wordsSayable_12 (by decide) ?_
      refine pw_istore_n (lv' := [(3, .int (0 : Int32)), (0, .ref (ev_ad E 1)), (1, .int x1), (2, .int x2)]) dX8_wordsSayable_13 rfl (by decide) rfl ?_
      refine pw_loc (lv' := [(0, .ref (ev_ad E 1)), (1, .int x1), (2, .int x2), (3, .int (0 : Int32))]) [1, 2, 3, 0] rfl ?_
      obtain ⟨kf, h⟩ := h
      exact t_X8_wordsSayable_14 hE Q (fun y1 y2 G => lp_X8_wordsSayable_4 Q n y1 y2 G) ih kf _ _ _ _ h
def wp_X8_wordsSayable  (G : GS) (Q : Int32 → GS → Prop) : Prop := (∃ kf, lp_X8_wordsSayable_4 Q kf (0 : Int32) (0 : Int32) G)
set_option maxRecDepth 100000 in
set_option maxHeartbeats 4000000 in
theorem s_X8_wordsSayable {E : EV} (hE : EI_ E)  {G : GS} {Q : Int32 → GS → Prop} (h : wp_X8_wordsSayable  G Q) : PMet E mi_X8_wordsSayable 3 [.ref (ev_ad E 1)] G (qi_ Q) := by
  refine pm_of hE (by decide) (Nat.le_of_ble_eq_true rfl) ?_
  refine pw_loc (lv' := [(0, .ref (ev_ad E 1))]) [0] rfl ?_
  refine pw_iconst (v := (0 : Int32)) dX8_wordsSayable_0 (by decide) ?_
  refine pw_istore_n (lv' := [(1, .int (0 : Int32)), (0, .ref (ev_ad E 1))]) dX8_wordsSayable_1 rfl (by decide) rfl ?_
  refine pw_iconst (v := (0 : Int32)) dX8_wordsSayable_2 (by decide) ?_
  refine pw_istore_n (lv' := [(2, .int (0 : Int32)), (1, .int (0 : Int32)), (0, .ref (ev_ad E 1))]) dX8_wordsSayable_3 rfl (by decide) rfl ?_
  refine pw_loc (lv' := [(0, .ref (ev_ad E 1)), (1, .int (0 : Int32)), (2, .int (0 : Int32))]) [2, 1, 0] rfl ?_
  obtain ⟨kf, h⟩ := h
  exact t_X8_wordsSayable_4 hE Q kf _ _ _ h
def lp_X9_firstSafeWords_6 (Q : Int32 → GS → Prop)  : Nat → Int32 → Int32 → Int32 → Int32 → GS → Prop
  | 0, _, _, _, _, _ => False
  | n + 1, x0, x1, x2, x3, G => (((24 : Int32) < x3 → Q x1 G) ∧ (¬ (24 : Int32) < x3 → ((x3 < x2 → lp_X9_firstSafeWords_6 Q n x0 x1 x2 (x3 + 1) G) ∧ (¬ x3 < x2 → ((¬ ((x0 >>> (x3 &&& 31)) &&& (1 : Int32)) = (1 : Int32) → lp_X9_firstSafeWords_6 Q n x0 x1 x2 (x3 + 1) G) ∧ (((x0 >>> (x3 &&& 31)) &&& (1 : Int32)) = (1 : Int32) → lp_X9_firstSafeWords_6 Q n x0 (x1 ||| ((1 : Int32) <<< (x3 &&& 31))) (x3 + (3 : Int32)) (x3 + 1) G))))))
set_option maxRecDepth 100000 in
set_option maxHeartbeats 4000000 in
theorem t_X9_firstSafeWords_6 {E : EV} (hE : EI_ E) (Q : Int32 → GS → Prop)  : ∀ (n : Nat) (x0 : Int32) (x1 : Int32) (x2 : Int32) (x3 : Int32) (G : GS), lp_X9_firstSafeWords_6 Q n x0 x1 x2 x3 G → PW_ E mi_X9_firstSafeWords (rm_ 1) 0 0 6 [(0, .int x0), (1, .int x1), (2, .int x2), (3, .int x3)] [] G (qi_ Q) := by
  intro n
  induction n with
  | zero => intro x0 x1 x2 x3 G h; exact h.elim
  | succ n ih =>
    intro x0 x1 x2 x3 G h
    refine pw_iload_n dX9_firstSafeWords_6 rfl 3 rfl ?_
    refine pw_bipush (v := (24 : Int32)) dX9_firstSafeWords_7 (by decide) ?_
    refine pw_icmp_gt (tgt := 42) dX9_firstSafeWords_9 (by decide) (fun hc => ?_) (fun hc => ?_)
    · have h := h.1 hc
      refine pw_iload_n dX9_firstSafeWords_42 rfl 1 rfl ?_
      exact pw_ireturn dX9_firstSafeWords_43 rfl rfl ⟨_, rfl, h⟩
    · have h := h.2 hc
      refine pw_iload_n dX9_firstSafeWords_12 rfl 3 rfl ?_
      refine pw_iload_n dX9_firstSafeWords_13 rfl 2 rfl ?_
      refine pw_icmp_lt (tgt := 36) dX9_firstSafeWords_14 (by decide) (fun hc => ?_) (fun hc => ?_)
      · have h := h.1 hc
        refine pw_iinc (k := 3) (v := x3 + 1) (lv' := [(3, .int (x3 + 1)), (0, .int x0), (1, .int x1), (2, .int x2)]) dX9_firstSafeWords_36 rfl rfl (by decide) rfl ?_
        refine pw_goto (tgt := 6) dX9_firstSafeWords_39 (by decide) ?_
        refine pw_loc (lv' := [(0, .int x0), (1, .int x1), (2, .int x2), (3, .int (x3 + 1))]) [1, 2, 3, 0] rfl ?_
        exact ih _ _ _ _ _ h
      · have h := h.2 hc
        refine pw_iload_n dX9_firstSafeWords_17 rfl 0 rfl ?_
        refine pw_iload_n dX9_firstSafeWords_18 rfl 3 rfl ?_
        refine pw_ishr dX9_firstSafeWords_19 ?_
        refine pw_iconst (v := (1 : Int32)) dX9_firstSafeWords_20 (by decide) ?_
        refine pw_iand dX9_firstSafeWords_21 ?_
        refine pw_iconst (v := (1 : Int32)) dX9_firstSafeWords_22 (by decide) ?_
        refine pw_icmp_ne (tgt := 36) dX9_firstSafeWords_23 (by decide) (fun hc => ?_) (fun hc => ?_)
        · have h := h.1 hc
          refine pw_iinc (k := 3) (v := x3 + 1) (lv' := [(3, .int (x3 + 1)), (0, .int x0), (1, .int x1), (2, .int x2)]) dX9_firstSafeWords_36 rfl rfl (by decide) rfl ?_
          refine pw_goto (tgt := 6) dX9_firstSafeWords_39 (by decide) ?_
          refine pw_loc (lv' := [(0, .int x0), (1, .int x1), (2, .int x2), (3, .int (x3 + 1))]) [1, 2, 3, 0] rfl ?_
          exact ih _ _ _ _ _ h
        · have h := h.2 hc
          refine pw_iload_n dX9_firstSafeWords_26 rfl 1 rfl ?_
          refine pw_iconst (v := (1 : Int32)) dX9_firstSafeWords_27 (by decide) ?_
          refine pw_iload_n dX9_firstSafeWords_28 rfl 3 rfl ?_
          refine pw_ishl dX9_firstSafeWords_29 ?_
          refine pw_ior dX9_firstSafeWords_30 ?_
          refine pw_istore_n (lv' := [(1, .int (x1 ||| ((1 : Int32) <<< (x3 &&& 31)))), (0, .int x0), (2, .int x2), (3, .int x3)]) dX9_firstSafeWords_31 rfl (by decide) rfl ?_
          refine pw_iload_n dX9_firstSafeWords_32 rfl 3 rfl ?_
          refine pw_iconst (v := (3 : Int32)) dX9_firstSafeWords_33 (by decide) ?_
          refine pw_iadd dX9_firstSafeWords_34 ?_
          refine pw_istore_n (lv' := [(2, .int (x3 + (3 : Int32))), (1, .int (x1 ||| ((1 : Int32) <<< (x3 &&& 31)))), (0, .int x0), (3, .int x3)]) dX9_firstSafeWords_35 rfl (by decide) rfl ?_
          refine pw_iinc (k := 3) (v := x3 + 1) (lv' := [(3, .int (x3 + 1)), (2, .int (x3 + (3 : Int32))), (1, .int (x1 ||| ((1 : Int32) <<< (x3 &&& 31)))), (0, .int x0)]) dX9_firstSafeWords_36 rfl rfl (by decide) rfl ?_
          refine pw_goto (tgt := 6) dX9_firstSafeWords_39 (by decide) ?_
          refine pw_loc (lv' := [(0, .int x0), (1, .int (x1 ||| ((1 : Int32) <<< (x3 &&& 31)))), (2, .int (x3 + (3 : Int32))), (3, .int (x3 + 1))]) [3, 2, 1, 0] rfl ?_
          exact ih _ _ _ _ _ h
def wp_X9_firstSafeWords (a0 : Int32) (G : GS) (Q : Int32 → GS → Prop) : Prop := (∃ kf, lp_X9_firstSafeWords_6 Q kf a0 (0 : Int32) (1 : Int32) (1 : Int32) G)
set_option maxRecDepth 100000 in
set_option maxHeartbeats 4000000 in
theorem s_X9_firstSafeWords {E : EV} (hE : EI_ E) {a0 : Int32} {G : GS} {Q : Int32 → GS → Prop} (h : wp_X9_firstSafeWords a0 G Q) : PMet E mi_X9_firstSafeWords 1 [.int a0] G (qi_ Q) := by
  refine pm_of hE (by decide) (Nat.le_of_ble_eq_true rfl) ?_
  refine pw_loc (lv' := [(0, .int a0)]) [0] rfl ?_
  refine pw_iconst (v := (0 : Int32)) dX9_firstSafeWords_0 (by decide) ?_
  refine pw_istore_n (lv' := [(1, .int (0 : Int32)), (0, .int a0)]) dX9_firstSafeWords_1 rfl (by decide) rfl ?_
  refine pw_iconst (v := (1 : Int32)) dX9_firstSafeWords_2 (by decide) ?_
  refine pw_istore_n (lv' := [(2, .int (1 : Int32)), (1, .int (0 : Int32)), (0, .int a0)]) dX9_firstSafeWords_3 rfl (by decide) rfl ?_
  refine pw_iconst (v := (1 : Int32)) dX9_firstSafeWords_4 (by decide) ?_
  refine pw_istore_n (lv' := [(3, .int (1 : Int32)), (2, .int (1 : Int32)), (1, .int (0 : Int32)), (0, .int a0)]) dX9_firstSafeWords_5 rfl (by decide) rfl ?_
  refine pw_loc (lv' := [(0, .int a0), (1, .int (0 : Int32)), (2, .int (1 : Int32)), (3, .int (1 : Int32))]) [3, 2, 1, 0] rfl ?_
  obtain ⟨kf, h⟩ := h
  exact t_X9_firstSafeWords_6 hE Q kf _ _ _ _ _ h
def wp_X9_safe (a1 : Int32) (G : GS) (Q : Int32 → GS → Prop) : Prop := ((a1 < 0 → Q (-1 : Int32) G) ∧ (¬ a1 < 0 → ((a1 ≤ (1 : Int32) → wp_X8_wordsSayable G (fun r1 G2 => wp_X9_firstSafeWords r1 G2 (fun r3 G4 => ((¬ a1 = 0 → Q r3 G4) ∧ (a1 = 0 → wp_J6_bitCount r3 G4 (fun r5 G6 => Q r5 G6)))))) ∧ (¬ a1 ≤ (1 : Int32) → Q (-1 : Int32) G))))
set_option maxRecDepth 100000 in
set_option maxHeartbeats 4000000 in
theorem s_X9_safe {E : EV} (hE : EI_ E) {a1 : Int32} {G : GS} {Q : Int32 → GS → Prop} (h : wp_X9_safe a1 G Q) : PMet E mi_X9_safe 4 [.ref (ev_ad E 0), .int a1] G (qi_ Q) := by
  refine pm_of hE (by decide) (Nat.le_of_ble_eq_true rfl) ?_
  refine pw_loc (lv' := [(0, .ref (ev_ad E 0)), (1, .int a1)]) [0, 1] rfl ?_
  refine pw_iload_n dX9_safe_0 rfl 1 rfl ?_
  refine pw_if_lt (tgt := 9) dX9_safe_1 (by decide) (fun hc => ?_) (fun hc => ?_)
  · have h := h.1 hc
    refine pw_iconst (v := (-1 : Int32)) dX9_safe_9 (by decide) ?_
    exact pw_ireturn dX9_safe_10 rfl rfl ⟨_, rfl, h⟩
  · have h := h.2 hc
    refine pw_iload_n dX9_safe_4 rfl 1 rfl ?_
    refine pw_iconst (v := (1 : Int32)) dX9_safe_5 (by decide) ?_
    refine pw_icmp_le (tgt := 11) dX9_safe_6 (by decide) (fun hc => ?_) (fun hc => ?_)
    · have h := h.1 hc
      refine pw_aload_n dX9_safe_11 rfl 0 rfl ?_
      refine pw_getr (q := 1) dX9_safe_12 fa_X9_10 ly_0 rfl ?_
      refine pw_callV (As := []) (rest := []) (s_X8_wordsSayable hE h) dX9_safe_15 ly_1 rfl (Or.inr mn_X9_264) cm_X8_wordsSayable rfl (rm_ok (by decide)) rm_0 (Nat.le_of_ble_eq_true rfl) ?_
      rintro _ G2 ⟨r1, rfl, h⟩
      refine pw_callS (As := [.int r1]) (rest := []) (s_X9_firstSafeWords hE h) dX9_safe_18 ml_X9_267 cs_X9_firstSafeWords rfl (rm_ok (by decide)) rm_0 (Nat.le_of_ble_eq_true rfl) ?_
      rintro _ G4 ⟨r3, rfl, h⟩
      refine pw_istore_n (lv' := [(2, .int r3), (0, .ref (ev_ad E 0)), (1, .int a1)]) dX9_safe_21 rfl (by decide) rfl ?_
      refine pw_iload_n dX9_safe_22 rfl 2 rfl ?_
      refine pw_if_ne (tgt := 33) dX9_safe_23 (by decide) (fun hc => ?_) (fun hc => ?_)
      · have h := h.1 hc
        refine pw_iload_n dX9_safe_33 rfl 0 rfl ?_
        exact pw_ireturn dX9_safe_34 rfl rfl ⟨_, rfl, h⟩
      · have h := h.2 hc
        refine pw_iload_n dX9_safe_26 rfl 0 rfl ?_
        refine pw_callS (As := [.int r3]) (rest := []) (s_J6_bitCount hE h) dX9_safe_27 ml_X9_270 cs_J6_bitCount_0f7a4 rfl (rm_ok (by decide)) rm_0 (Nat.le_of_ble_eq_true rfl) ?_
        rintro _ G6 ⟨r5, rfl, h⟩
        refine pw_goto (tgt := 34) dX9_safe_30 (by decide) ?_
        exact pw_ireturn dX9_safe_34 rfl rfl ⟨_, rfl, h⟩
    · have h := h.2 hc
      refine pw_iconst (v := (-1 : Int32)) dX9_safe_9 (by decide) ?_
      exact pw_ireturn dX9_safe_10 rfl rfl ⟨_, rfl, h⟩
def wp_X5_goBack  (G : GS) (Q : Int32 → GS → Prop) : Prop := ((¬ (G 27 1) = 0 → (cp_ (((((G 27 0) + (8 : Int32)) - (1 : Int32)) - (((G 27 0) + (8 : Int32)) - (1 : Int32)) / (8 : Int32) * (8 : Int32)) * (10 : Int32)) (0 : Int32) (10 : Int32) 80 10 ∧ (vp_in ((((G 27 0) + (8 : Int32)) - (1 : Int32)) - (((G 27 0) + (8 : Int32)) - (1 : Int32)) / (8 : Int32) * (8 : Int32)) 8 ∧ Q (1 : Int32) (gu_ (gu_ (gu_ (gf_ (gu_ (gu_ G 27 0 ((((G 27 0) + (8 : Int32)) - (1 : Int32)) - (((G 27 0) + (8 : Int32)) - (1 : Int32)) / (8 : Int32) * (8 : Int32))) 27 1 ((G 27 1) - (1 : Int32))) 2 (va_cpy (G 28) (G 2) ((((((G 27 0) + (8 : Int32)) - (1 : Int32)) - (((G 27 0) + (8 : Int32)) - (1 : Int32)) / (8 : Int32) * (8 : Int32)) * (10 : Int32)).toNatClampNeg) 0 10)) 1 0 (G 29 (((((G 27 0) + (8 : Int32)) - (1 : Int32)) - (((G 27 0) + (8 : Int32)) - (1 : Int32)) / (8 : Int32) * (8 : Int32)).toNatClampNeg))) 1 6 (G 30 (((((G 27 0) + (8 : Int32)) - (1 : Int32)) - (((G 27 0) + (8 : Int32)) - (1 : Int32)) / (8 : Int32) * (8 : Int32)).toNatClampNeg))) 12 0 (G 31 (((((G 27 0) + (8 : Int32)) - (1 : Int32)) - (((G 27 0) + (8 : Int32)) - (1 : Int32)) / (8 : Int32) * (8 : Int32)).toNatClampNeg)))))) ∧ ((G 27 1) = 0 → Q (0 : Int32) G))
set_option maxRecDepth 100000 in
set_option maxHeartbeats 4000000 in
theorem s_X5_goBack {E : EV} (hE : EI_ E)  {G : GS} {Q : Int32 → GS → Prop} (h : wp_X5_goBack  G Q) : PMet E mi_X5_goBack 1 [.ref (ev_ad E 27), .ref (ev_ad E 1)] G (qi_ Q) := by
  refine pm_of hE (by decide) (Nat.le_of_ble_eq_true rfl) ?_
  refine pw_loc (lv' := [(0, .ref (ev_ad E 27)), (1, .ref (ev_ad E 1))]) [0, 1] rfl ?_
  refine pw_aload_n dX5_goBack_0 rfl 0 rfl ?_
  refine pw_geti (v := G 27 1) dX5_goBack_1 fa_X5_24 ly_27 rfl rfl ?_
  refine pw_if_ne (tgt := 9) dX5_goBack_4 (by decide) (fun hc => ?_) (fun hc => ?_)
  · have h := h.1 hc
    refine pw_aload_n dX5_goBack_9 rfl 0 rfl ?_
    refine pw_aload_n dX5_goBack_10 rfl 0 rfl ?_
    refine pw_geti (v := G 27 0) dX5_goBack_11 fa_X5_31 ly_27 rfl rfl ?_
    refine pw_bipush (v := (8 : Int32)) dX5_goBack_14 (by decide) ?_
    refine pw_iadd dX5_goBack_16 ?_
    refine pw_iconst (v := (1 : Int32)) dX5_goBack_17 (by decide) ?_
    refine pw_isub dX5_goBack_18 ?_
    refine pw_bipush (v := (8 : Int32)) dX5_goBack_19 (by decide) ?_
    refine pw_irem dX5_goBack_21 (by decide) ?_
    refine pw_puti dX5_goBack_22 fp_X5_31 ly_27 rfl ?_
    refine pw_aload_n dX5_goBack_25 rfl 0 rfl ?_
    refine pw_dup dX5_goBack_26 rfl ?_
    refine pw_geti (v := G 27 1) dX5_goBack_27 fa_X5_24 ly_27 rfl rfl ?_
    refine pw_iconst (v := (1 : Int32)) dX5_goBack_30 (by decide) ?_
    refine pw_isub dX5_goBack_31 ?_
    refine pw_puti dX5_goBack_32 fp_X5_24 ly_27 rfl ?_
    refine pw_aload_n dX5_goBack_35 rfl 0 rfl ?_
    refine pw_getr (q := 28) dX5_goBack_36 fa_X5_9 ly_27 rfl ?_
    refine pw_aload_n dX5_goBack_39 rfl 0 rfl ?_
    refine pw_geti (v := (((G 27 0) + (8 : Int32)) - (1 : Int32)) - (((G 27 0) + (8 : Int32)) - (1 : Int32)) / (8 : Int32) * (8 : Int32)) dX5_goBack_40 fa_X5_31 ly_27 rfl rfl ?_
    refine pw_bipush (v := (10 : Int32)) dX5_goBack_43 (by decide) ?_
    refine pw_imul dX5_goBack_45 ?_
    refine pw_aload_n dX5_goBack_46 rfl 1 rfl ?_
    refine pw_getr (q := 2) dX5_goBack_47 fa_X5_28 ly_1 rfl ?_
    refine pw_iconst (v := (0 : Int32)) dX5_goBack_50 (by decide) ?_
    refine pw_bipush (v := (10 : Int32)) dX5_goBack_51 (by decide) ?_
    obtain ⟨hv1, h⟩ := h
    refine pw_copy dX5_goBack_53 jc_X5_34 ly_28 ly_2 hv1 (rm_ok1 (by decide)) rfl ?_
    refine pw_nmG (G2 := (gf_ (gu_ (gu_ G 27 0 ((((G 27 0) + (8 : Int32)) - (1 : Int32)) - (((G 27 0) + (8 : Int32)) - (1 : Int32)) / (8 : Int32) * (8 : Int32))) 27 1 ((G 27 1) - (1 : Int32))) 2 (va_cpy (G 28) (G 2) ((((((G 27 0) + (8 : Int32)) - (1 : Int32)) - (((G 27 0) + (8 : Int32)) - (1 : Int32)) / (8 : Int32) * (8 : Int32)) * (10 : Int32)).toNatClampNeg) 0 10))) rfl ?_
    refine pw_aload_n dX5_goBack_56 rfl 1 rfl ?_
    refine pw_aload_n dX5_goBack_57 rfl 0 rfl ?_
    refine pw_getr (q := 29) dX5_goBack_58 fa_X5_15 ly_27 rfl ?_
    refine pw_aload_n dX5_goBack_61 rfl 0 rfl ?_
    refine pw_geti (v := (((G 27 0) + (8 : Int32)) - (1 : Int32)) - (((G 27 0) + (8 : Int32)) - (1 : Int32)) / (8 : Int32) * (8 : Int32)) dX5_goBack_62 fa_X5_31 ly_27 rfl rfl ?_
    obtain ⟨hv2, h⟩ := h
    refine pw_iald (v := G 29 (((((G 27 0) + (8 : Int32)) - (1 : Int32)) - (((G 27 0) + (8 : Int32)) - (1 : Int32)) / (8 : Int32) * (8 : Int32)).toNatClampNeg)) dX5_goBack_65 ly_29 hv2 rfl ?_
    refine pw_puti dX5_goBack_66 fp_X5_40 ly_1 rfl ?_
    refine pw_aload_n dX5_goBack_69 rfl 1 rfl ?_
    refine pw_aload_n dX5_goBack_70 rfl 0 rfl ?_
    refine pw_getr (q := 30) dX5_goBack_71 fa_X5_18 ly_27 rfl ?_
    refine pw_aload_n dX5_goBack_74 rfl 0 rfl ?_
    refine pw_geti (v := (((G 27 0) + (8 : Int32)) - (1 : Int32)) - (((G 27 0) + (8 : Int32)) - (1 : Int32)) / (8 : Int32) * (8 : Int32)) dX5_goBack_75 fa_X5_31 ly_27 rfl rfl ?_
    refine pw_iald (v := G 30 (((((G 27 0) + (8 : Int32)) - (1 : Int32)) - (((G 27 0) + (8 : Int32)) - (1 : Int32)) / (8 : Int32) * (8 : Int32)).toNatClampNeg)) dX5_goBack_78 ly_30 hv2 rfl ?_
    refine pw_puti dX5_goBack_79 fp_X5_42 ly_1 rfl ?_
    refine pw_aload_n dX5_goBack_82 rfl 1 rfl ?_
    refine pw_getr (q := 12) dX5_goBack_83 fa_X5_45 ly_1 rfl ?_
    refine pw_aload_n dX5_goBack_86 rfl 0 rfl ?_
    refine pw_getr (q := 31) dX5_goBack_87 fa_X5_21 ly_27 rfl ?_
    refine pw_aload_n dX5_goBack_90 rfl 0 rfl ?_
    refine pw_geti (v := (((G 27 0) + (8 : Int32)) - (1 : Int32)) - (((G 27 0) + (8 : Int32)) - (1 : Int32)) / (8 : Int32) * (8 : Int32)) dX5_goBack_91 fa_X5_31 ly_27 rfl rfl ?_
    refine pw_iald (v := G 31 (((((G 27 0) + (8 : Int32)) - (1 : Int32)) - (((G 27 0) + (8 : Int32)) - (1 : Int32)) / (8 : Int32) * (8 : Int32)).toNatClampNeg)) dX5_goBack_94 ly_31 hv2 rfl ?_
    refine pw_puti dX5_goBack_95 fp_X5_49 ly_12 rfl ?_
    refine pw_iconst (v := (1 : Int32)) dX5_goBack_98 (by decide) ?_
    exact pw_ireturn dX5_goBack_99 rfl rfl ⟨_, rfl, h⟩
  · have h := h.2 hc
    refine pw_iconst (v := (0 : Int32)) dX5_goBack_7 (by decide) ?_
    exact pw_ireturn dX5_goBack_8 rfl rfl ⟨_, rfl, h⟩
def wp_X9_undo  (G : GS) (Q : Int32 → GS → Prop) : Prop := wp_X5_goBack G (fun r1 G2 => (bz_ r1 ∧ Q r1 G2))
set_option maxRecDepth 100000 in
set_option maxHeartbeats 4000000 in
theorem s_X9_undo {E : EV} (hE : EI_ E)  {G : GS} {Q : Int32 → GS → Prop} (h : wp_X9_undo  G Q) : PMet E mi_X9_undo 2 [.ref (ev_ad E 0)] G (qi_ Q) := by
  refine pm_of hE (by decide) (Nat.le_of_ble_eq_true rfl) ?_
  refine pw_loc (lv' := [(0, .ref (ev_ad E 0))]) [0] rfl ?_
  refine pw_aload_n dX9_undo_0 rfl 0 rfl ?_
  refine pw_getr (q := 27) dX9_undo_1 fa_X9_26 ly_0 rfl ?_
  refine pw_aload_n dX9_undo_4 rfl 0 rfl ?_
  refine pw_getr (q := 1) dX9_undo_5 fa_X9_10 ly_0 rfl ?_
  refine pw_callV (As := [.ref (ev_ad E 1)]) (rest := []) (s_X5_goBack hE h) dX9_undo_8 ly_27 rfl (Or.inr mn_X9_275) cm_X5_goBack rfl (rm_ok (by decide)) rm_0 (Nat.le_of_ble_eq_true rfl) ?_
  rintro _ G2 ⟨r1, rfl, h⟩
  exact pw_ireturn dX9_undo_11 rfl (bz_n h.1) ⟨_, rfl, h.2⟩
def wp_X4_copyFrom_9_22  (G : GS) (Q : Int32 → GS → Prop) : Prop := (cp_ (0 : Int32) (0 : Int32) (G 22 3) 400 400 ∧ Q 0 (gf_ (gu_ (gf_ (gu_ (gu_ G 9 0 (G 22 0)) 9 1 (G 22 1)) 10 (va_cpy (G 23) (G 10) 0 0 16)) 9 3 (G 22 3)) 11 (va_cpy (G 24) (G 11) 0 0 ((G 22 3).toNatClampNeg))))
set_option maxRecDepth 100000 in
set_option maxHeartbeats 4000000 in
theorem s_X4_copyFrom_9_22 {E : EV} (hE : EI_ E)  {G : GS} {Q : Int32 → GS → Prop} (h : wp_X4_copyFrom_9_22  G Q) : PMet E mi_X4_copyFrom 1 [.ref (ev_ad E 9), .ref (ev_ad E 22)] G (qv_ Q) := by
  refine pm_of hE (by decide) (Nat.le_of_ble_eq_true rfl) ?_
  refine pw_loc (lv' := [(0, .ref (ev_ad E 9)), (1, .ref (ev_ad E 22))]) [0, 1] rfl ?_
  refine pw_aload_n dX4_copyFrom_0 rfl 0 rfl ?_
  refine pw_aload_n dX4_copyFrom_1 rfl 1 rfl ?_
  refine pw_geti (v := G 22 0) dX4_copyFrom_2 fa_X4_18 ly_22 rfl rfl ?_
  refine pw_puti dX4_copyFrom_5 fp_X4_18 ly_9 rfl ?_
  refine pw_aload_n dX4_copyFrom_8 rfl 0 rfl ?_
  refine pw_aload_n dX4_copyFrom_9 rfl 1 rfl ?_
  refine pw_geti (v := G 22 1) dX4_copyFrom_10 fa_X4_22 ly_22 rfl rfl ?_
  refine pw_puti dX4_copyFrom_13 fp_X4_22 ly_9 rfl ?_
  refine pw_aload_n dX4_copyFrom_16 rfl 1 rfl ?_
  refine pw_getr (q := 23) dX4_copyFrom_17 fa_X4_9 ly_22 rfl ?_
  refine pw_iconst (v := (0 : Int32)) dX4_copyFrom_20 (by decide) ?_
  refine pw_aload_n dX4_copyFrom_21 rfl 0 rfl ?_
  refine pw_getr (q := 10) dX4_copyFrom_22 fa_X4_9 ly_9 rfl ?_
  refine pw_iconst (v := (0 : Int32)) dX4_copyFrom_25 (by decide) ?_
  refine pw_bipush (v := (16 : Int32)) dX4_copyFrom_26 (by decide) ?_
  refine pw_copy dX4_copyFrom_28 jc_X4_25 ly_23 ly_10 (by unfold cp_; decide) (rm_ok1 (by decide)) rfl ?_
  refine pw_nmG (G2 := (gf_ (gu_ (gu_ G 9 0 (G 22 0)) 9 1 (G 22 1)) 10 (va_cpy (G 23) (G 10) 0 0 16))) rfl ?_
  refine pw_aload_n dX4_copyFrom_31 rfl 0 rfl ?_
  refine pw_aload_n dX4_copyFrom_32 rfl 1 rfl ?_
  refine pw_geti (v := G 22 3) dX4_copyFrom_33 fa_X4_31 ly_22 rfl rfl ?_
  refine pw_puti dX4_copyFrom_36 fp_X4_31 ly_9 rfl ?_
  refine pw_aload_n dX4_copyFrom_39 rfl 1 rfl ?_
  refine pw_getr (q := 24) dX4_copyFrom_40 fa_X4_15 ly_22 rfl ?_
  refine pw_iconst (v := (0 : Int32)) dX4_copyFrom_43 (by decide) ?_
  refine pw_aload_n dX4_copyFrom_44 rfl 0 rfl ?_
  refine pw_getr (q := 11) dX4_copyFrom_45 fa_X4_15 ly_9 rfl ?_
  refine pw_iconst (v := (0 : Int32)) dX4_copyFrom_48 (by decide) ?_
  refine pw_aload_n dX4_copyFrom_49 rfl 0 rfl ?_
  refine pw_geti (v := G 22 3) dX4_copyFrom_50 fa_X4_31 ly_9 rfl rfl ?_
  obtain ⟨hv1, h⟩ := h
  refine pw_copy dX4_copyFrom_53 jc_X4_25 ly_24 ly_11 hv1 (rm_ok1 (by decide)) rfl ?_
  refine pw_nmG (G2 := (gf_ (gu_ (gf_ (gu_ (gu_ G 9 0 (G 22 0)) 9 1 (G 22 1)) 10 (va_cpy (G 23) (G 10) 0 0 16)) 9 3 (G 22 3)) 11 (va_cpy (G 24) (G 11) 0 0 ((G 22 3).toNatClampNeg)))) rfl ?_
  exact pw_return dX4_copyFrom_56 rfl ⟨rfl, h⟩
def wp_X0_copyFrom_12_25  (G : GS) (Q : Int32 → GS → Prop) : Prop := (cp_ (0 : Int32) (0 : Int32) ((G 25 0) * (5 : Int32)) 500 500 ∧ Q 0 (gf_ (gu_ G 12 0 (G 25 0)) 13 (va_cpy (G 26) (G 13) 0 0 (((G 25 0) * (5 : Int32)).toNatClampNeg))))
set_option maxRecDepth 100000 in
set_option maxHeartbeats 4000000 in
theorem s_X0_copyFrom_12_25 {E : EV} (hE : EI_ E)  {G : GS} {Q : Int32 → GS → Prop} (h : wp_X0_copyFrom_12_25  G Q) : PMet E mi_X0_copyFrom 1 [.ref (ev_ad E 12), .ref (ev_ad E 25)] G (qv_ Q) := by
  refine pm_of hE (by decide) (Nat.le_of_ble_eq_true rfl) ?_
  refine pw_loc (lv' := [(0, .ref (ev_ad E 12)), (1, .ref (ev_ad E 25))]) [0, 1] rfl ?_
  refine pw_aload_n dX0_copyFrom_0 rfl 0 rfl ?_
  refine pw_aload_n dX0_copyFrom_1 rfl 1 rfl ?_
  refine pw_geti (v := G 25 0) dX0_copyFrom_2 fa_X0_15 ly_25 rfl rfl ?_
  refine pw_puti dX0_copyFrom_5 fp_X0_15 ly_12 rfl ?_
  refine pw_aload_n dX0_copyFrom_8 rfl 1 rfl ?_
  refine pw_getr (q := 26) dX0_copyFrom_9 fa_X0_9 ly_25 rfl ?_
  refine pw_iconst (v := (0 : Int32)) dX0_copyFrom_12 (by decide) ?_
  refine pw_aload_n dX0_copyFrom_13 rfl 0 rfl ?_
  refine pw_getr (q := 13) dX0_copyFrom_14 fa_X0_9 ly_12 rfl ?_
  refine pw_iconst (v := (0 : Int32)) dX0_copyFrom_17 (by decide) ?_
  refine pw_aload_n dX0_copyFrom_18 rfl 0 rfl ?_
  refine pw_geti (v := G 25 0) dX0_copyFrom_19 fa_X0_15 ly_12 rfl rfl ?_
  refine pw_iconst (v := (5 : Int32)) dX0_copyFrom_22 (by decide) ?_
  refine pw_imul dX0_copyFrom_23 ?_
  obtain ⟨hv1, h⟩ := h
  refine pw_copy dX0_copyFrom_24 jc_X0_19 ly_26 ly_13 hv1 (rm_ok1 (by decide)) rfl ?_
  refine pw_nmG (G2 := (gf_ (gu_ G 12 0 (G 25 0)) 13 (va_cpy (G 26) (G 13) 0 0 (((G 25 0) * (5 : Int32)).toNatClampNeg)))) rfl ?_
  exact pw_return dX0_copyFrom_27 rfl ⟨rfl, h⟩
def wp_X8_copyFrom_1_14  (G : GS) (Q : Int32 → GS → Prop) : Prop := wp_X4_copyFrom_9_22 (gf_ (gu_ (gf_ (gf_ (gu_ (gf_ (gf_ (gu_ (gu_ (gu_ (gf_ (gf_ (gu_ (gu_ G 1 0 (G 14 0)) 1 1 (G 14 1)) 2 (va_cpy (G 15) (G 2) 0 0 10)) 3 (va_cpy (G 16) (G 3) 0 0 10)) 1 4 (G 14 4)) 1 5 (G 14 5)) 1 6 (G 14 6)) 4 (va_cpy (G 17) (G 4) 0 0 48)) 5 (va_cpy (G 18) (G 5) 0 0 4)) 1 9 (G 14 9)) 6 (va_cpy (G 19) (G 6) 0 0 8)) 7 (va_cpy (G 20) (G 7) 0 0 8)) 1 12 (G 14 12)) 8 (va_cpy (G 21) (G 8) 0 0 15)) (fun _ G2 => wp_X0_copyFrom_12_25 G2 (fun _ G4 => Q 0 G4))
set_option maxRecDepth 100000 in
set_option maxHeartbeats 4000000 in
theorem s_X8_copyFrom_1_14 {E : EV} (hE : EI_ E)  {G : GS} {Q : Int32 → GS → Prop} (h : wp_X8_copyFrom_1_14  G Q) : PMet E mi_X8_copyFrom 2 [.ref (ev_ad E 1), .ref (ev_ad E 14)] G (qv_ Q) := by
  refine pm_of hE (by decide) (Nat.le_of_ble_eq_true rfl) ?_
  refine pw_loc (lv' := [(0, .ref (ev_ad E 1)), (1, .ref (ev_ad E 14))]) [0, 1] rfl ?_
  refine pw_aload_n dX8_copyFrom_0 rfl 0 rfl ?_
  refine pw_aload_n dX8_copyFrom_1 rfl 1 rfl ?_
  refine pw_geti (v := G 14 0) dX8_copyFrom_2 fa_X8_53 ly_14 rfl rfl ?_
  refine pw_puti dX8_copyFrom_5 fp_X8_53 ly_1 rfl ?_
  refine pw_aload_n dX8_copyFrom_8 rfl 0 rfl ?_
  refine pw_aload_n dX8_copyFrom_9 rfl 1 rfl ?_
  refine pw_geti (v := G 14 1) dX8_copyFrom_10 fa_X8_57 ly_14 rfl rfl ?_
  refine pw_puti dX8_copyFrom_13 fp_X8_57 ly_1 rfl ?_
  refine pw_aload_n dX8_copyFrom_16 rfl 1 rfl ?_
  refine pw_getr (q := 15) dX8_copyFrom_17 fa_X8_9 ly_14 rfl ?_
  refine pw_iconst (v := (0 : Int32)) dX8_copyFrom_20 (by decide) ?_
  refine pw_aload_n dX8_copyFrom_21 rfl 0 rfl ?_
  refine pw_getr (q := 2) dX8_copyFrom_22 fa_X8_9 ly_1 rfl ?_
  refine pw_iconst (v := (0 : Int32)) dX8_copyFrom_25 (by decide) ?_
  refine pw_bipush (v := (10 : Int32)) dX8_copyFrom_26 (by decide) ?_
  refine pw_copy dX8_copyFrom_28 jc_X8_60 ly_15 ly_2 (by unfold cp_; decide) (rm_ok1 (by decide)) rfl ?_
  refine pw_nmG (G2 := (gf_ (gu_ (gu_ G 1 0 (G 14 0)) 1 1 (G 14 1)) 2 (va_cpy (G 15) (G 2) 0 0 10))) rfl ?_
  refine pw_aload_n dX8_copyFrom_31 rfl 1 rfl ?_
  refine pw_getr (q := 16) dX8_copyFrom_32 fa_X8_15 ly_14 rfl ?_
  refine pw_iconst (v := (0 : Int32)) dX8_copyFrom_35 (by decide) ?_
  refine pw_aload_n dX8_copyFrom_36 rfl 0 rfl ?_
  refine pw_getr (q := 3) dX8_copyFrom_37 fa_X8_15 ly_1 rfl ?_
  refine pw_iconst (v := (0 : Int32)) dX8_copyFrom_40 (by decide) ?_
  refine pw_bipush (v := (10 : Int32)) dX8_copyFrom_41 (by decide) ?_
  refine pw_copy dX8_copyFrom_43 jc_X8_60 ly_16 ly_3 (by unfold cp_; decide) (rm_ok1 (by decide)) rfl ?_
  refine pw_nmG (G2 := (gf_ (gf_ (gu_ (gu_ G 1 0 (G 14 0)) 1 1 (G 14 1)) 2 (va_cpy (G 15) (G 2) 0 0 10)) 3 (va_cpy (G 16) (G 3) 0 0 10))) rfl ?_
  refine pw_aload_n dX8_copyFrom_46 rfl 0 rfl ?_
  refine pw_aload_n dX8_copyFrom_47 rfl 1 rfl ?_
  refine pw_geti (v := G 14 4) dX8_copyFrom_48 fa_X8_66 ly_14 rfl rfl ?_
  refine pw_puti dX8_copyFrom_51 fp_X8_66 ly_1 rfl ?_
  refine pw_aload_n dX8_copyFrom_54 rfl 0 rfl ?_
  refine pw_aload_n dX8_copyFrom_55 rfl 1 rfl ?_
  refine pw_geti (v := G 14 5) dX8_copyFrom_56 fa_X8_69 ly_14 rfl rfl ?_
  refine pw_puti dX8_copyFrom_59 fp_X8_69 ly_1 rfl ?_
  refine pw_aload_n dX8_copyFrom_62 rfl 0 rfl ?_
  refine pw_aload_n dX8_copyFrom_63 rfl 1 rfl ?_
  refine pw_geti (v := G 14 6) dX8_copyFrom_64 fa_X8_72 ly_14 rfl rfl ?_
  refine pw_puti dX8_copyFrom_67 fp_X8_72 ly_1 rfl ?_
  refine pw_aload_n dX8_copyFrom_70 rfl 1 rfl ?_
  refine pw_getr (q := 17) dX8_copyFrom_71 fa_X8_24 ly_14 rfl ?_
  refine pw_iconst (v := (0 : Int32)) dX8_copyFrom_74 (by decide) ?_
  refine pw_aload_n dX8_copyFrom_75 rfl 0 rfl ?_
  refine pw_getr (q := 4) dX8_copyFrom_76 fa_X8_24 ly_1 rfl ?_
  refine pw_iconst (v := (0 : Int32)) dX8_copyFrom_79 (by decide) ?_
  refine pw_bipush (v := (48 : Int32)) dX8_copyFrom_80 (by decide) ?_
  refine pw_copy dX8_copyFrom_82 jc_X8_60 ly_17 ly_4 (by unfold cp_; decide) (rm_ok1 (by decide)) rfl ?_
  refine pw_nmG (G2 := (gf_ (gu_ (gu_ (gu_ (gf_ (gf_ (gu_ (gu_ G 1 0 (G 14 0)) 1 1 (G 14 1)) 2 (va_cpy (G 15) (G 2) 0 0 10)) 3 (va_cpy (G 16) (G 3) 0 0 10)) 1 4 (G 14 4)) 1 5 (G 14 5)) 1 6 (G 14 6)) 4 (va_cpy (G 17) (G 4) 0 0 48))) rfl ?_
  refine pw_aload_n dX8_copyFrom_85 rfl 1 rfl ?_
  refine pw_getr (q := 18) dX8_copyFrom_86 fa_X8_27 ly_14 rfl ?_
  refine pw_iconst (v := (0 : Int32)) dX8_copyFrom_89 (by decide) ?_
  refine pw_aload_n dX8_copyFrom_90 rfl 0 rfl ?_
  refine pw_getr (q := 5) dX8_copyFrom_91 fa_X8_27 ly_1 rfl ?_
  refine pw_iconst (v := (0 : Int32)) dX8_copyFrom_94 (by decide) ?_
  refine pw_iconst (v := (4 : Int32)) dX8_copyFrom_95 (by decide) ?_
  refine pw_copy dX8_copyFrom_96 jc_X8_60 ly_18 ly_5 (by unfold cp_; decide) (rm_ok1 (by decide)) rfl ?_
  refine pw_nmG (G2 := (gf_ (gf_ (gu_ (gu_ (gu_ (gf_ (gf_ (gu_ (gu_ G 1 0 (G 14 0)) 1 1 (G 14 1)) 2 (va_cpy (G 15) (G 2) 0 0 10)) 3 (va_cpy (G 16) (G 3) 0 0 10)) 1 4 (G 14 4)) 1 5 (G 14 5)) 1 6 (G 14 6)) 4 (va_cpy (G 17) (G 4) 0 0 48)) 5 (va_cpy (G 18) (G 5) 0 0 4))) rfl ?_
  refine pw_aload_n dX8_copyFrom_99 rfl 0 rfl ?_
  refine pw_aload_n dX8_copyFrom_100 rfl 1 rfl ?_
  refine pw_geti (v := G 14 9) dX8_copyFrom_101 fa_X8_75 ly_14 rfl rfl ?_
  refine pw_puti dX8_copyFrom_104 fp_X8_75 ly_1 rfl ?_
  refine pw_aload_n dX8_copyFrom_107 rfl 1 rfl ?_
  refine pw_getr (q := 19) dX8_copyFrom_108 fa_X8_30 ly_14 rfl ?_
  refine pw_iconst (v := (0 : Int32)) dX8_copyFrom_111 (by decide) ?_
  refine pw_aload_n dX8_copyFrom_112 rfl 0 rfl ?_
  refine pw_getr (q := 6) dX8_copyFrom_113 fa_X8_30 ly_1 rfl ?_
  refine pw_iconst (v := (0 : Int32)) dX8_copyFrom_116 (by decide) ?_
  refine pw_bipush (v := (8 : Int32)) dX8_copyFrom_117 (by decide) ?_
  refine pw_copy dX8_copyFrom_119 jc_X8_60 ly_19 ly_6 (by unfold cp_; decide) (rm_ok1 (by decide)) rfl ?_
  refine pw_nmG (G2 := (gf_ (gu_ (gf_ (gf_ (gu_ (gu_ (gu_ (gf_ (gf_ (gu_ (gu_ G 1 0 (G 14 0)) 1 1 (G 14 1)) 2 (va_cpy (G 15) (G 2) 0 0 10)) 3 (va_cpy (G 16) (G 3) 0 0 10)) 1 4 (G 14 4)) 1 5 (G 14 5)) 1 6 (G 14 6)) 4 (va_cpy (G 17) (G 4) 0 0 48)) 5 (va_cpy (G 18) (G 5) 0 0 4)) 1 9 (G 14 9)) 6 (va_cpy (G 19) (G 6) 0 0 8))) rfl ?_
  refine pw_aload_n dX8_copyFrom_122 rfl 1 rfl ?_
  refine pw_getr (q := 20) dX8_copyFrom_123 fa_X8_33 ly_14 rfl ?_
  refine pw_iconst (v := (0 : Int32)) dX8_copyFrom_126 (by decide) ?_
  refine pw_aload_n dX8_copyFrom_127 rfl 0 rfl ?_
  refine pw_getr (q := 7) dX8_copyFrom_128 fa_X8_33 ly_1 rfl ?_
  refine pw_iconst (v := (0 : Int32)) dX8_copyFrom_131 (by decide) ?_
  refine pw_bipush (v := (8 : Int32)) dX8_copyFrom_132 (by decide) ?_
  refine pw_copy dX8_copyFrom_134 jc_X8_60 ly_20 ly_7 (by unfold cp_; decide) (rm_ok1 (by decide)) rfl ?_
  refine pw_nmG (G2 := (gf_ (gf_ (gu_ (gf_ (gf_ (gu_ (gu_ (gu_ (gf_ (gf_ (gu_ (gu_ G 1 0 (G 14 0)) 1 1 (G 14 1)) 2 (va_cpy (G 15) (G 2) 0 0 10)) 3 (va_cpy (G 16) (G 3) 0 0 10)) 1 4 (G 14 4)) 1 5 (G 14 5)) 1 6 (G 14 6)) 4 (va_cpy (G 17) (G 4) 0 0 48)) 5 (va_cpy (G 18) (G 5) 0 0 4)) 1 9 (G 14 9)) 6 (va_cpy (G 19) (G 6) 0 0 8)) 7 (va_cpy (G 20) (G 7) 0 0 8))) rfl ?_
  refine pw_aload_n dX8_copyFrom_137 rfl 0 rfl ?_
  refine pw_aload_n dX8_copyFrom_138 rfl 1 rfl ?_
  refine pw_geti (v := G 14 12) dX8_copyFrom_139 fa_X8_78 ly_14 rfl rfl ?_
  refine pw_puti dX8_copyFrom_142 fp_X8_78 ly_1 rfl ?_
  refine pw_aload_n dX8_copyFrom_145 rfl 1 rfl ?_
  refine pw_getr (q := 21) dX8_copyFrom_146 fa_X8_36 ly_14 rfl ?_
  refine pw_iconst (v := (0 : Int32)) dX8_copyFrom_149 (by decide) ?_
  refine pw_aload_n dX8_copyFrom_150 rfl 0 rfl ?_
  refine pw_getr (q := 8) dX8_copyFrom_151 fa_X8_36 ly_1 rfl ?_
  refine pw_iconst (v := (0 : Int32)) dX8_copyFrom_154 (by decide) ?_
  refine pw_bipush (v := (15 : Int32)) dX8_copyFrom_155 (by decide) ?_
  refine pw_copy dX8_copyFrom_157 jc_X8_60 ly_21 ly_8 (by unfold cp_; decide) (rm_ok1 (by decide)) rfl ?_
  refine pw_nmG (G2 := (gf_ (gu_ (gf_ (gf_ (gu_ (gf_ (gf_ (gu_ (gu_ (gu_ (gf_ (gf_ (gu_ (gu_ G 1 0 (G 14 0)) 1 1 (G 14 1)) 2 (va_cpy (G 15) (G 2) 0 0 10)) 3 (va_cpy (G 16) (G 3) 0 0 10)) 1 4 (G 14 4)) 1 5 (G 14 5)) 1 6 (G 14 6)) 4 (va_cpy (G 17) (G 4) 0 0 48)) 5 (va_cpy (G 18) (G 5) 0 0 4)) 1 9 (G 14 9)) 6 (va_cpy (G 19) (G 6) 0 0 8)) 7 (va_cpy (G 20) (G 7) 0 0 8)) 1 12 (G 14 12)) 8 (va_cpy (G 21) (G 8) 0 0 15))) rfl ?_
  refine pw_aload_n dX8_copyFrom_160 rfl 0 rfl ?_
  refine pw_getr (q := 9) dX8_copyFrom_161 fa_X8_42 ly_1 rfl ?_
  refine pw_aload_n dX8_copyFrom_164 rfl 1 rfl ?_
  refine pw_getr (q := 22) dX8_copyFrom_165 fa_X8_42 ly_14 rfl ?_
  refine pw_callV (As := [.ref (ev_ad E 22)]) (rest := []) (s_X4_copyFrom_9_22 hE h) dX8_copyFrom_168 ly_9 rfl (Or.inr mn_X8_81) cm_X4_copyFrom rfl (rm_ok (by decide)) rm_0 (Nat.le_of_ble_eq_true rfl) ?_
  rintro _ G2 ⟨rfl, h⟩
  refine pw_aload_n dX8_copyFrom_171 rfl 0 rfl ?_
  refine pw_getr (q := 12) dX8_copyFrom_172 fa_X8_49 ly_1 rfl ?_
  refine pw_aload_n dX8_copyFrom_175 rfl 1 rfl ?_
  refine pw_getr (q := 25) dX8_copyFrom_176 fa_X8_49 ly_14 rfl ?_
  refine pw_callV (As := [.ref (ev_ad E 25)]) (rest := []) (s_X0_copyFrom_12_25 hE h) dX8_copyFrom_179 ly_12 rfl (Or.inr mn_X8_85) cm_X0_copyFrom rfl (rm_ok (by decide)) rm_0 (Nat.le_of_ble_eq_true rfl) ?_
  rintro _ G4 ⟨rfl, h⟩
  exact pw_return dX8_copyFrom_182 rfl ⟨rfl, h⟩
def wp_X4_copyFrom_22_9  (G : GS) (Q : Int32 → GS → Prop) : Prop := (cp_ (0 : Int32) (0 : Int32) (G 9 3) 400 400 ∧ Q 0 (gf_ (gu_ (gf_ (gu_ (gu_ G 22 0 (G 9 0)) 22 1 (G 9 1)) 23 (va_cpy (G 10) (G 23) 0 0 16)) 22 3 (G 9 3)) 24 (va_cpy (G 11) (G 24) 0 0 ((G 9 3).toNatClampNeg))))
set_option maxRecDepth 100000 in
set_option maxHeartbeats 4000000 in
theorem s_X4_copyFrom_22_9 {E : EV} (hE : EI_ E)  {G : GS} {Q : Int32 → GS → Prop} (h : wp_X4_copyFrom_22_9  G Q) : PMet E mi_X4_copyFrom 1 [.ref (ev_ad E 22), .ref (ev_ad E 9)] G (qv_ Q) := by
  refine pm_of hE (by decide) (Nat.le_of_ble_eq_true rfl) ?_
  refine pw_loc (lv' := [(0, .ref (ev_ad E 22)), (1, .ref (ev_ad E 9))]) [0, 1] rfl ?_
  refine pw_aload_n dX4_copyFrom_0 rfl 0 rfl ?_
  refine pw_aload_n dX4_copyFrom_1 rfl 1 rfl ?_
  refine pw_geti (v := G 9 0) dX4_copyFrom_2 fa_X4_18 ly_9 rfl rfl ?_
  refine pw_puti dX4_copyFrom_5 fp_X4_18 ly_22 rfl ?_
  refine pw_aload_n dX4_copyFrom_8 rfl 0 rfl ?_
  refine pw_aload_n dX4_copyFrom_9 rfl 1 rfl ?_
  refine pw_geti (v := G 9 1) dX4_copyFrom_10 fa_X4_22 ly_9 rfl rfl ?_
  refine pw_puti dX4_copyFrom_13 fp_X4_22 ly_22 rfl ?_
  refine pw_aload_n dX4_copyFrom_16 rfl 1 rfl ?_
  refine pw_getr (q := 10) dX4_copyFrom_17 fa_X4_9 ly_9 rfl ?_
  refine pw_iconst (v := (0 : Int32)) dX4_copyFrom_20 (by decide) ?_
  refine pw_aload_n dX4_copyFrom_21 rfl 0 rfl ?_
  refine pw_getr (q := 23) dX4_copyFrom_22 fa_X4_9 ly_22 rfl ?_
  refine pw_iconst (v := (0 : Int32)) dX4_copyFrom_25 (by decide) ?_
  refine pw_bipush (v := (16 : Int32)) dX4_copyFrom_26 (by decide) ?_
  refine pw_copy dX4_copyFrom_28 jc_X4_25 ly_10 ly_23 (by unfold cp_; decide) (rm_ok1 (by decide)) rfl ?_
  refine pw_nmG (G2 := (gf_ (gu_ (gu_ G 22 0 (G 9 0)) 22 1 (G 9 1)) 23 (va_cpy (G 10) (G 23) 0 0 16))) rfl ?_
  refine pw_aload_n dX4_copyFrom_31 rfl 0 rfl ?_
  refine pw_aload_n dX4_copyFrom_32 rfl 1 rfl ?_
  refine pw_geti (v := G 9 3) dX4_copyFrom_33 fa_X4_31 ly_9 rfl rfl ?_
  refine pw_puti dX4_copyFrom_36 fp_X4_31 ly_22 rfl ?_
  refine pw_aload_n dX4_copyFrom_39 rfl 1 rfl ?_
  refine pw_getr (q := 11) dX4_copyFrom_40 fa_X4_15 ly_9 rfl ?_
  refine pw_iconst (v := (0 : Int32)) dX4_copyFrom_43 (by decide) ?_
  refine pw_aload_n dX4_copyFrom_44 rfl 0 rfl ?_
  refine pw_getr (q := 24) dX4_copyFrom_45 fa_X4_15 ly_22 rfl ?_
  refine pw_iconst (v := (0 : Int32)) dX4_copyFrom_48 (by decide) ?_
  refine pw_aload_n dX4_copyFrom_49 rfl 0 rfl ?_
  refine pw_geti (v := G 9 3) dX4_copyFrom_50 fa_X4_31 ly_22 rfl rfl ?_
  obtain ⟨hv1, h⟩ := h
  refine pw_copy dX4_copyFrom_53 jc_X4_25 ly_11 ly_24 hv1 (rm_ok1 (by decide)) rfl ?_
  refine pw_nmG (G2 := (gf_ (gu_ (gf_ (gu_ (gu_ G 22 0 (G 9 0)) 22 1 (G 9 1)) 23 (va_cpy (G 10) (G 23) 0 0 16)) 22 3 (G 9 3)) 24 (va_cpy (G 11) (G 24) 0 0 ((G 9 3).toNatClampNeg)))) rfl ?_
  exact pw_return dX4_copyFrom_56 rfl ⟨rfl, h⟩
def wp_X0_copyFrom_25_12  (G : GS) (Q : Int32 → GS → Prop) : Prop := (cp_ (0 : Int32) (0 : Int32) ((G 12 0) * (5 : Int32)) 500 500 ∧ Q 0 (gf_ (gu_ G 25 0 (G 12 0)) 26 (va_cpy (G 13) (G 26) 0 0 (((G 12 0) * (5 : Int32)).toNatClampNeg))))
set_option maxRecDepth 100000 in
set_option maxHeartbeats 4000000 in
theorem s_X0_copyFrom_25_12 {E : EV} (hE : EI_ E)  {G : GS} {Q : Int32 → GS → Prop} (h : wp_X0_copyFrom_25_12  G Q) : PMet E mi_X0_copyFrom 1 [.ref (ev_ad E 25), .ref (ev_ad E 12)] G (qv_ Q) := by
  refine pm_of hE (by decide) (Nat.le_of_ble_eq_true rfl) ?_
  refine pw_loc (lv' := [(0, .ref (ev_ad E 25)), (1, .ref (ev_ad E 12))]) [0, 1] rfl ?_
  refine pw_aload_n dX0_copyFrom_0 rfl 0 rfl ?_
  refine pw_aload_n dX0_copyFrom_1 rfl 1 rfl ?_
  refine pw_geti (v := G 12 0) dX0_copyFrom_2 fa_X0_15 ly_12 rfl rfl ?_
  refine pw_puti dX0_copyFrom_5 fp_X0_15 ly_25 rfl ?_
  refine pw_aload_n dX0_copyFrom_8 rfl 1 rfl ?_
  refine pw_getr (q := 13) dX0_copyFrom_9 fa_X0_9 ly_12 rfl ?_
  refine pw_iconst (v := (0 : Int32)) dX0_copyFrom_12 (by decide) ?_
  refine pw_aload_n dX0_copyFrom_13 rfl 0 rfl ?_
  refine pw_getr (q := 26) dX0_copyFrom_14 fa_X0_9 ly_25 rfl ?_
  refine pw_iconst (v := (0 : Int32)) dX0_copyFrom_17 (by decide) ?_
  refine pw_aload_n dX0_copyFrom_18 rfl 0 rfl ?_
  refine pw_geti (v := G 12 0) dX0_copyFrom_19 fa_X0_15 ly_25 rfl rfl ?_
  refine pw_iconst (v := (5 : Int32)) dX0_copyFrom_22 (by decide) ?_
  refine pw_imul dX0_copyFrom_23 ?_
  obtain ⟨hv1, h⟩ := h
  refine pw_copy dX0_copyFrom_24 jc_X0_19 ly_13 ly_26 hv1 (rm_ok1 (by decide)) rfl ?_
  refine pw_nmG (G2 := (gf_ (gu_ G 25 0 (G 12 0)) 26 (va_cpy (G 13) (G 26) 0 0 (((G 12 0) * (5 : Int32)).toNatClampNeg)))) rfl ?_
  exact pw_return dX0_copyFrom_27 rfl ⟨rfl, h⟩
def wp_X8_copyFrom_14_1  (G : GS) (Q : Int32 → GS → Prop) : Prop := wp_X4_copyFrom_22_9 (gf_ (gu_ (gf_ (gf_ (gu_ (gf_ (gf_ (gu_ (gu_ (gu_ (gf_ (gf_ (gu_ (gu_ G 14 0 (G 1 0)) 14 1 (G 1 1)) 15 (va_cpy (G 2) (G 15) 0 0 10)) 16 (va_cpy (G 3) (G 16) 0 0 10)) 14 4 (G 1 4)) 14 5 (G 1 5)) 14 6 (G 1 6)) 17 (va_cpy (G 4) (G 17) 0 0 48)) 18 (va_cpy (G 5) (G 18) 0 0 4)) 14 9 (G 1 9)) 19 (va_cpy (G 6) (G 19) 0 0 8)) 20 (va_cpy (G 7) (G 20) 0 0 8)) 14 12 (G 1 12)) 21 (va_cpy (G 8) (G 21) 0 0 15)) (fun _ G2 => wp_X0_copyFrom_25_12 G2 (fun _ G4 => Q 0 G4))
set_option maxRecDepth 100000 in
set_option maxHeartbeats 4000000 in
theorem s_X8_copyFrom_14_1 {E : EV} (hE : EI_ E)  {G : GS} {Q : Int32 → GS → Prop} (h : wp_X8_copyFrom_14_1  G Q) : PMet E mi_X8_copyFrom 2 [.ref (ev_ad E 14), .ref (ev_ad E 1)] G (qv_ Q) := by
  refine pm_of hE (by decide) (Nat.le_of_ble_eq_true rfl) ?_
  refine pw_loc (lv' := [(0, .ref (ev_ad E 14)), (1, .ref (ev_ad E 1))]) [0, 1] rfl ?_
  refine pw_aload_n dX8_copyFrom_0 rfl 0 rfl ?_
  refine pw_aload_n dX8_copyFrom_1 rfl 1 rfl ?_
  refine pw_geti (v := G 1 0) dX8_copyFrom_2 fa_X8_53 ly_1 rfl rfl ?_
  refine pw_puti dX8_copyFrom_5 fp_X8_53 ly_14 rfl ?_
  refine pw_aload_n dX8_copyFrom_8 rfl 0 rfl ?_
  refine pw_aload_n dX8_copyFrom_9 rfl 1 rfl ?_
  refine pw_geti (v := G 1 1) dX8_copyFrom_10 fa_X8_57 ly_1 rfl rfl ?_
  refine pw_puti dX8_copyFrom_13 fp_X8_57 ly_14 rfl ?_
  refine pw_aload_n dX8_copyFrom_16 rfl 1 rfl ?_
  refine pw_getr (q := 2) dX8_copyFrom_17 fa_X8_9 ly_1 rfl ?_
  refine pw_iconst (v := (0 : Int32)) dX8_copyFrom_20 (by decide) ?_
  refine pw_aload_n dX8_copyFrom_21 rfl 0 rfl ?_
  refine pw_getr (q := 15) dX8_copyFrom_22 fa_X8_9 ly_14 rfl ?_
  refine pw_iconst (v := (0 : Int32)) dX8_copyFrom_25 (by decide) ?_
  refine pw_bipush (v := (10 : Int32)) dX8_copyFrom_26 (by decide) ?_
  refine pw_copy dX8_copyFrom_28 jc_X8_60 ly_2 ly_15 (by unfold cp_; decide) (rm_ok1 (by decide)) rfl ?_
  refine pw_nmG (G2 := (gf_ (gu_ (gu_ G 14 0 (G 1 0)) 14 1 (G 1 1)) 15 (va_cpy (G 2) (G 15) 0 0 10))) rfl ?_
  refine pw_aload_n dX8_copyFrom_31 rfl 1 rfl ?_
  refine pw_getr (q := 3) dX8_copyFrom_32 fa_X8_15 ly_1 rfl ?_
  refine pw_iconst (v := (0 : Int32)) dX8_copyFrom_35 (by decide) ?_
  refine pw_aload_n dX8_copyFrom_36 rfl 0 rfl ?_
  refine pw_getr (q := 16) dX8_copyFrom_37 fa_X8_15 ly_14 rfl ?_
  refine pw_iconst (v := (0 : Int32)) dX8_copyFrom_40 (by decide) ?_
  refine pw_bipush (v := (10 : Int32)) dX8_copyFrom_41 (by decide) ?_
  refine pw_copy dX8_copyFrom_43 jc_X8_60 ly_3 ly_16 (by unfold cp_; decide) (rm_ok1 (by decide)) rfl ?_
  refine pw_nmG (G2 := (gf_ (gf_ (gu_ (gu_ G 14 0 (G 1 0)) 14 1 (G 1 1)) 15 (va_cpy (G 2) (G 15) 0 0 10)) 16 (va_cpy (G 3) (G 16) 0 0 10))) rfl ?_
  refine pw_aload_n dX8_copyFrom_46 rfl 0 rfl ?_
  refine pw_aload_n dX8_copyFrom_47 rfl 1 rfl ?_
  refine pw_geti (v := G 1 4) dX8_copyFrom_48 fa_X8_66 ly_1 rfl rfl ?_
  refine pw_puti dX8_copyFrom_51 fp_X8_66 ly_14 rfl ?_
  refine pw_aload_n dX8_copyFrom_54 rfl 0 rfl ?_
  refine pw_aload_n dX8_copyFrom_55 rfl 1 rfl ?_
  refine pw_geti (v := G 1 5) dX8_copyFrom_56 fa_X8_69 ly_1 rfl rfl ?_
  refine pw_puti dX8_copyFrom_59 fp_X8_69 ly_14 rfl ?_
  refine pw_aload_n dX8_copyFrom_62 rfl 0 rfl ?_
  refine pw_aload_n dX8_copyFrom_63 rfl 1 rfl ?_
  refine pw_geti (v := G 1 6) dX8_copyFrom_64 fa_X8_72 ly_1 rfl rfl ?_
  refine pw_puti dX8_copyFrom_67 fp_X8_72 ly_14 rfl ?_
  refine pw_aload_n dX8_copyFrom_70 rfl 1 rfl ?_
  refine pw_getr (q := 4) dX8_copyFrom_71 fa_X8_24 ly_1 rfl ?_
  refine pw_iconst (v := (0 : Int32)) dX8_copyFrom_74 (by decide) ?_
  refine pw_aload_n dX8_copyFrom_75 rfl 0 rfl ?_
  refine pw_getr (q := 17) dX8_copyFrom_76 fa_X8_24 ly_14 rfl ?_
  refine pw_iconst (v := (0 : Int32)) dX8_copyFrom_79 (by decide) ?_
  refine pw_bipush (v := (48 : Int32)) dX8_copyFrom_80 (by decide) ?_
  refine pw_copy dX8_copyFrom_82 jc_X8_60 ly_4 ly_17 (by unfold cp_; decide) (rm_ok1 (by decide)) rfl ?_
  refine pw_nmG (G2 := (gf_ (gu_ (gu_ (gu_ (gf_ (gf_ (gu_ (gu_ G 14 0 (G 1 0)) 14 1 (G 1 1)) 15 (va_cpy (G 2) (G 15) 0 0 10)) 16 (va_cpy (G 3) (G 16) 0 0 10)) 14 4 (G 1 4)) 14 5 (G 1 5)) 14 6 (G 1 6)) 17 (va_cpy (G 4) (G 17) 0 0 48))) rfl ?_
  refine pw_aload_n dX8_copyFrom_85 rfl 1 rfl ?_
  refine pw_getr (q := 5) dX8_copyFrom_86 fa_X8_27 ly_1 rfl ?_
  refine pw_iconst (v := (0 : Int32)) dX8_copyFrom_89 (by decide) ?_
  refine pw_aload_n dX8_copyFrom_90 rfl 0 rfl ?_
  refine pw_getr (q := 18) dX8_copyFrom_91 fa_X8_27 ly_14 rfl ?_
  refine pw_iconst (v := (0 : Int32)) dX8_copyFrom_94 (by decide) ?_
  refine pw_iconst (v := (4 : Int32)) dX8_copyFrom_95 (by decide) ?_
  refine pw_copy dX8_copyFrom_96 jc_X8_60 ly_5 ly_18 (by unfold cp_; decide) (rm_ok1 (by decide)) rfl ?_
  refine pw_nmG (G2 := (gf_ (gf_ (gu_ (gu_ (gu_ (gf_ (gf_ (gu_ (gu_ G 14 0 (G 1 0)) 14 1 (G 1 1)) 15 (va_cpy (G 2) (G 15) 0 0 10)) 16 (va_cpy (G 3) (G 16) 0 0 10)) 14 4 (G 1 4)) 14 5 (G 1 5)) 14 6 (G 1 6)) 17 (va_cpy (G 4) (G 17) 0 0 48)) 18 (va_cpy (G 5) (G 18) 0 0 4))) rfl ?_
  refine pw_aload_n dX8_copyFrom_99 rfl 0 rfl ?_
  refine pw_aload_n dX8_copyFrom_100 rfl 1 rfl ?_
  refine pw_geti (v := G 1 9) dX8_copyFrom_101 fa_X8_75 ly_1 rfl rfl ?_
  refine pw_puti dX8_copyFrom_104 fp_X8_75 ly_14 rfl ?_
  refine pw_aload_n dX8_copyFrom_107 rfl 1 rfl ?_
  refine pw_getr (q := 6) dX8_copyFrom_108 fa_X8_30 ly_1 rfl ?_
  refine pw_iconst (v := (0 : Int32)) dX8_copyFrom_111 (by decide) ?_
  refine pw_aload_n dX8_copyFrom_112 rfl 0 rfl ?_
  refine pw_getr (q := 19) dX8_copyFrom_113 fa_X8_30 ly_14 rfl ?_
  refine pw_iconst (v := (0 : Int32)) dX8_copyFrom_116 (by decide) ?_
  refine pw_bipush (v := (8 : Int32)) dX8_copyFrom_117 (by decide) ?_
  refine pw_copy dX8_copyFrom_119 jc_X8_60 ly_6 ly_19 (by unfold cp_; decide) (rm_ok1 (by decide)) rfl ?_
  refine pw_nmG (G2 := (gf_ (gu_ (gf_ (gf_ (gu_ (gu_ (gu_ (gf_ (gf_ (gu_ (gu_ G 14 0 (G 1 0)) 14 1 (G 1 1)) 15 (va_cpy (G 2) (G 15) 0 0 10)) 16 (va_cpy (G 3) (G 16) 0 0 10)) 14 4 (G 1 4)) 14 5 (G 1 5)) 14 6 (G 1 6)) 17 (va_cpy (G 4) (G 17) 0 0 48)) 18 (va_cpy (G 5) (G 18) 0 0 4)) 14 9 (G 1 9)) 19 (va_cpy (G 6) (G 19) 0 0 8))) rfl ?_
  refine pw_aload_n dX8_copyFrom_122 rfl 1 rfl ?_
  refine pw_getr (q := 7) dX8_copyFrom_123 fa_X8_33 ly_1 rfl ?_
  refine pw_iconst (v := (0 : Int32)) dX8_copyFrom_126 (by decide) ?_
  refine pw_aload_n dX8_copyFrom_127 rfl 0 rfl ?_
  refine pw_getr (q := 20) dX8_copyFrom_128 fa_X8_33 ly_14 rfl ?_
  refine pw_iconst (v := (0 : Int32)) dX8_copyFrom_131 (by decide) ?_
  refine pw_bipush (v := (8 : Int32)) dX8_copyFrom_132 (by decide) ?_
  refine pw_copy dX8_copyFrom_134 jc_X8_60 ly_7 ly_20 (by unfold cp_; decide) (rm_ok1 (by decide)) rfl ?_
  refine pw_nmG (G2 := (gf_ (gf_ (gu_ (gf_ (gf_ (gu_ (gu_ (gu_ (gf_ (gf_ (gu_ (gu_ G 14 0 (G 1 0)) 14 1 (G 1 1)) 15 (va_cpy (G 2) (G 15) 0 0 10)) 16 (va_cpy (G 3) (G 16) 0 0 10)) 14 4 (G 1 4)) 14 5 (G 1 5)) 14 6 (G 1 6)) 17 (va_cpy (G 4) (G 17) 0 0 48)) 18 (va_cpy (G 5) (G 18) 0 0 4)) 14 9 (G 1 9)) 19 (va_cpy (G 6) (G 19) 0 0 8)) 20 (va_cpy (G 7) (G 20) 0 0 8))) rfl ?_
  refine pw_aload_n dX8_copyFrom_137 rfl 0 rfl ?_
  refine pw_aload_n dX8_copyFrom_138 rfl 1 rfl ?_
  refine pw_geti (v := G 1 12) dX8_copyFrom_139 fa_X8_78 ly_1 rfl rfl ?_
  refine pw_puti dX8_copyFrom_142 fp_X8_78 ly_14 rfl ?_
  refine pw_aload_n dX8_copyFrom_145 rfl 1 rfl ?_
  refine pw_getr (q := 8) dX8_copyFrom_146 fa_X8_36 ly_1 rfl ?_
  refine pw_iconst (v := (0 : Int32)) dX8_copyFrom_149 (by decide) ?_
  refine pw_aload_n dX8_copyFrom_150 rfl 0 rfl ?_
  refine pw_getr (q := 21) dX8_copyFrom_151 fa_X8_36 ly_14 rfl ?_
  refine pw_iconst (v := (0 : Int32)) dX8_copyFrom_154 (by decide) ?_
  refine pw_bipush (v := (15 : Int32)) dX8_copyFrom_155 (by decide) ?_
  refine pw_copy dX8_copyFrom_157 jc_X8_60 ly_8 ly_21 (by unfold cp_; decide) (rm_ok1 (by decide)) rfl ?_
  refine pw_nmG (G2 := (gf_ (gu_ (gf_ (gf_ (gu_ (gf_ (gf_ (gu_ (gu_ (gu_ (gf_ (gf_ (gu_ (gu_ G 14 0 (G 1 0)) 14 1 (G 1 1)) 15 (va_cpy (G 2) (G 15) 0 0 10)) 16 (va_cpy (G 3) (G 16) 0 0 10)) 14 4 (G 1 4)) 14 5 (G 1 5)) 14 6 (G 1 6)) 17 (va_cpy (G 4) (G 17) 0 0 48)) 18 (va_cpy (G 5) (G 18) 0 0 4)) 14 9 (G 1 9)) 19 (va_cpy (G 6) (G 19) 0 0 8)) 20 (va_cpy (G 7) (G 20) 0 0 8)) 14 12 (G 1 12)) 21 (va_cpy (G 8) (G 21) 0 0 15))) rfl ?_
  refine pw_aload_n dX8_copyFrom_160 rfl 0 rfl ?_
  refine pw_getr (q := 22) dX8_copyFrom_161 fa_X8_42 ly_14 rfl ?_
  refine pw_aload_n dX8_copyFrom_164 rfl 1 rfl ?_
  refine pw_getr (q := 9) dX8_copyFrom_165 fa_X8_42 ly_1 rfl ?_
  refine pw_callV (As := [.ref (ev_ad E 9)]) (rest := []) (s_X4_copyFrom_22_9 hE h) dX8_copyFrom_168 ly_22 rfl (Or.inr mn_X8_81) cm_X4_copyFrom rfl (rm_ok (by decide)) rm_0 (Nat.le_of_ble_eq_true rfl) ?_
  rintro _ G2 ⟨rfl, h⟩
  refine pw_aload_n dX8_copyFrom_171 rfl 0 rfl ?_
  refine pw_getr (q := 25) dX8_copyFrom_172 fa_X8_49 ly_14 rfl ?_
  refine pw_aload_n dX8_copyFrom_175 rfl 1 rfl ?_
  refine pw_getr (q := 12) dX8_copyFrom_176 fa_X8_49 ly_1 rfl ?_
  refine pw_callV (As := [.ref (ev_ad E 12)]) (rest := []) (s_X0_copyFrom_25_12 hE h) dX8_copyFrom_179 ly_25 rfl (Or.inr mn_X8_85) cm_X0_copyFrom rfl (rm_ok (by decide)) rm_0 (Nat.le_of_ble_eq_true rfl) ?_
  rintro _ G4 ⟨rfl, h⟩
  exact pw_return dX8_copyFrom_182 rfl ⟨rfl, h⟩
def wp_X9_image (a1 : Int32) (G : GS) (Q : Int32 → GS → Prop) : Prop := ((a1 = 0 → ((¬ (G 0 2) = 0 → wp_X8_copyFrom_1_14 G (fun _ G2 => wp_X5_forget G2 (fun _ G4 => Q (1 : Int32) G4))) ∧ ((G 0 2) = 0 → Q (0 : Int32) G))) ∧ (¬ a1 = 0 → wp_X8_copyFrom_14_1 G (fun _ G6 => Q (1 : Int32) (gu_ G6 0 2 (1 : Int32)))))
set_option maxRecDepth 100000 in
set_option maxHeartbeats 4000000 in
theorem s_X9_image {E : EV} (hE : EI_ E) {a1 : Int32} {G : GS} {Q : Int32 → GS → Prop} (h : wp_X9_image a1 G Q) : PMet E mi_X9_image 3 [.ref (ev_ad E 0), .int a1] G (qi_ Q) := by
  refine pm_of hE (by decide) (Nat.le_of_ble_eq_true rfl) ?_
  refine pw_loc (lv' := [(0, .ref (ev_ad E 0)), (1, .int a1)]) [0, 1] rfl ?_
  refine pw_iload_n dX9_image_0 rfl 1 rfl ?_
  refine pw_if_eq (tgt := 22) dX9_image_1 (by decide) (fun hc => ?_) (fun hc => ?_)
  · have h := h.1 hc
    refine pw_aload_n dX9_image_22 rfl 0 rfl ?_
    refine pw_geti (v := G 0 2) dX9_image_23 fa_X9_19 ly_0 rfl rfl ?_
    refine pw_if_ne (tgt := 31) dX9_image_26 (by decide) (fun hc => ?_) (fun hc => ?_)
    · have h := h.1 hc
      refine pw_aload_n dX9_image_31 rfl 0 rfl ?_
      refine pw_getr (q := 1) dX9_image_32 fa_X9_10 ly_0 rfl ?_
      refine pw_aload_n dX9_image_35 rfl 0 rfl ?_
      refine pw_getr (q := 14) dX9_image_36 fa_X9_16 ly_0 rfl ?_
      refine pw_callV (As := [.ref (ev_ad E 14)]) (rest := []) (s_X8_copyFrom_1_14 hE h) dX9_image_39 ly_1 rfl (Or.inr mn_X9_279) cm_X8_copyFrom rfl (rm_ok (by decide)) rm_0 (Nat.le_of_ble_eq_true rfl) ?_
      rintro _ G2 ⟨rfl, h⟩
      refine pw_aload_n dX9_image_42 rfl 0 rfl ?_
      refine pw_getr (q := 27) dX9_image_43 fa_X9_26 ly_0 rfl ?_
      refine pw_callV (As := []) (rest := []) (s_X5_forget hE h) dX9_image_46 ly_27 rfl (Or.inr mn_X9_78) cm_X5_forget rfl (rm_ok (by decide)) rm_0 (Nat.le_of_ble_eq_true rfl) ?_
      rintro _ G4 ⟨rfl, h⟩
      refine pw_iconst (v := (1 : Int32)) dX9_image_49 (by decide) ?_
      exact pw_ireturn dX9_image_50 rfl rfl ⟨_, rfl, h⟩
    · have h := h.2 hc
      refine pw_iconst (v := (0 : Int32)) dX9_image_29 (by decide) ?_
      exact pw_ireturn dX9_image_30 rfl rfl ⟨_, rfl, h⟩
  · have h := h.2 hc
    refine pw_aload_n dX9_image_4 rfl 0 rfl ?_
    refine pw_getr (q := 14) dX9_image_5 fa_X9_16 ly_0 rfl ?_
    refine pw_aload_n dX9_image_8 rfl 0 rfl ?_
    refine pw_getr (q := 1) dX9_image_9 fa_X9_10 ly_0 rfl ?_
    refine pw_callV (As := [.ref (ev_ad E 1)]) (rest := []) (s_X8_copyFrom_14_1 hE h) dX9_image_12 ly_14 rfl (Or.inr mn_X9_279) cm_X8_copyFrom rfl (rm_ok (by decide)) rm_0 (Nat.le_of_ble_eq_true rfl) ?_
    rintro _ G6 ⟨rfl, h⟩
    refine pw_aload_n dX9_image_15 rfl 0 rfl ?_
    refine pw_iconst (v := (1 : Int32)) dX9_image_16 (by decide) ?_
    refine pw_putz dX9_image_17 fp_X9_19 ly_0 rfl (Or.inr rfl) ?_
    refine pw_iconst (v := (1 : Int32)) dX9_image_20 (by decide) ?_
    exact pw_ireturn dX9_image_21 rfl rfl ⟨_, rfl, h⟩
def wp_X9_look (a1 : Int32) (G : GS) (Q : Int32 → GS → Prop) : Prop := ((a1 = 0 → Q (G 1 1) G) ∧ (a1 = 1 → Q (G 1 6) G) ∧ (a1 = 2 → Q (G 12 0) G) ∧ (a1 = 3 → Q (G 1 5) G) ∧ (a1 = 4 → Q (G 1 0) G) ∧ (a1 = 5 → Q (G 9 0) G) ∧ (a1 = 6 → Q (G 27 1) G) ∧ (a1 = 7 → Q (G 1 9) G) ∧ (a1 = 8 → Q (G 1 12) G) ∧ (¬ a1 = 0 → ¬ a1 = 1 → ¬ a1 = 2 → ¬ a1 = 3 → ¬ a1 = 4 → ¬ a1 = 5 → ¬ a1 = 6 → ¬ a1 = 7 → ¬ a1 = 8 → wp_X9_isInRow a1 (4 : Int32) G (fun r1 G2 => ((r1 = 0 → Q (-1 : Int32) G2) ∧ (¬ r1 = 0 → (vp_in (a1 - (10 : Int32)) 4 ∧ Q (G2 5 ((a1 - (10 : Int32)).toNatClampNeg)) G2))))))
set_option maxRecDepth 100000 in
set_option maxHeartbeats 4000000 in
theorem s_X9_look {E : EV} (hE : EI_ E) {a1 : Int32} {G : GS} {Q : Int32 → GS → Prop} (h : wp_X9_look a1 G Q) : PMet E mi_X9_look 2 [.ref (ev_ad E 0), .int a1] G (qi_ Q) := by
  refine pm_of hE (by decide) (Nat.le_of_ble_eq_true rfl) ?_
  refine pw_loc (lv' := [(0, .ref (ev_ad E 0)), (1, .int a1)]) [0, 1] rfl ?_
  refine pw_iload_n dX9_look_0 rfl 1 rfl ?_
  by_cases hs0 : a1 = (0 : Int32)
  · have h := h.1 hs0
    refine pw_tswIn (tgt := 52) (off := 51) (0 : Int32) dX9_look_1 hs0 (by decide) (by decide) (by decide +kernel) (by decide) ?_
    refine pw_aload_n dX9_look_52 rfl 0 rfl ?_
    refine pw_getr (q := 1) dX9_look_53 fa_X9_10 ly_0 rfl ?_
    refine pw_geti (v := G 1 1) dX9_look_56 fa_X9_85 ly_1 rfl rfl ?_
    exact pw_ireturn dX9_look_59 rfl rfl ⟨_, rfl, h⟩
  by_cases hs1 : a1 = (1 : Int32)
  · have h := h.2.1 hs1
    refine pw_tswIn (tgt := 60) (off := 59) (1 : Int32) dX9_look_1 hs1 (by decide) (by decide) (by decide +kernel) (by decide) ?_
    refine pw_aload_n dX9_look_60 rfl 0 rfl ?_
    refine pw_getr (q := 1) dX9_look_61 fa_X9_10 ly_0 rfl ?_
    refine pw_geti (v := G 1 6) dX9_look_64 fa_X9_158 ly_1 rfl rfl ?_
    exact pw_ireturn dX9_look_67 rfl rfl ⟨_, rfl, h⟩
  by_cases hs2 : a1 = (2 : Int32)
  · have h := h.2.2.1 hs2
    refine pw_tswIn (tgt := 68) (off := 67) (2 : Int32) dX9_look_1 hs2 (by decide) (by decide) (by decide +kernel) (by decide) ?_
    refine pw_aload_n dX9_look_68 rfl 0 rfl ?_
    refine pw_getr (q := 1) dX9_look_69 fa_X9_10 ly_0 rfl ?_
    refine pw_getr (q := 12) dX9_look_72 fa_X9_142 ly_1 rfl ?_
    refine pw_geti (v := G 12 0) dX9_look_75 fa_X9_281 ly_12 rfl rfl ?_
    exact pw_ireturn dX9_look_78 rfl rfl ⟨_, rfl, h⟩
  by_cases hs3 : a1 = (3 : Int32)
  · have h := h.2.2.2.1 hs3
    refine pw_tswIn (tgt := 79) (off := 78) (3 : Int32) dX9_look_1 hs3 (by decide) (by decide) (by decide +kernel) (by decide) ?_
    refine pw_aload_n dX9_look_79 rfl 0 rfl ?_
    refine pw_getr (q := 1) dX9_look_80 fa_X9_10 ly_0 rfl ?_
    refine pw_geti (v := G 1 5) dX9_look_83 fa_X9_282 ly_1 rfl rfl ?_
    exact pw_ireturn dX9_look_86 rfl rfl ⟨_, rfl, h⟩
  by_cases hs4 : a1 = (4 : Int32)
  · have h := h.2.2.2.2.1 hs4
    refine pw_tswIn (tgt := 87) (off := 86) (4 : Int32) dX9_look_1 hs4 (by decide) (by decide) (by decide +kernel) (by decide) ?_
    refine pw_aload_n dX9_look_87 rfl 0 rfl ?_
    refine pw_getr (q := 1) dX9_look_88 fa_X9_10 ly_0 rfl ?_
    refine pw_geti (v := G 1 0) dX9_look_91 fa_X9_75 ly_1 rfl rfl ?_
    exact pw_ireturn dX9_look_94 rfl rfl ⟨_, rfl, h⟩
  by_cases hs5 : a1 = (5 : Int32)
  · have h := h.2.2.2.2.2.1 hs5
    refine pw_tswIn (tgt := 95) (off := 94) (5 : Int32) dX9_look_1 hs5 (by decide) (by decide) (by decide +kernel) (by decide) ?_
    refine pw_aload_n dX9_look_95 rfl 0 rfl ?_
    refine pw_getr (q := 1) dX9_look_96 fa_X9_10 ly_0 rfl ?_
    refine pw_getr (q := 9) dX9_look_99 fa_X9_115 ly_1 rfl ?_
    refine pw_geti (v := G 9 0) dX9_look_102 fa_X9_128 ly_9 rfl rfl ?_
    exact pw_ireturn dX9_look_105 rfl rfl ⟨_, rfl, h⟩
  by_cases hs6 : a1 = (6 : Int32)
  · have h := h.2.2.2.2.2.2.1 hs6
    refine pw_tswIn (tgt := 106) (off := 105) (6 : Int32) dX9_look_1 hs6 (by decide) (by decide) (by decide +kernel) (by decide) ?_
    refine pw_aload_n dX9_look_106 rfl 0 rfl ?_
    refine pw_getr (q := 27) dX9_look_107 fa_X9_26 ly_0 rfl ?_
    refine pw_geti (v := G 27 1) dX9_look_110 fa_X9_285 ly_27 rfl rfl ?_
    exact pw_ireturn dX9_look_113 rfl rfl ⟨_, rfl, h⟩
  by_cases hs7 : a1 = (7 : Int32)
  · have h := h.2.2.2.2.2.2.2.1 hs7
    refine pw_tswIn (tgt := 114) (off := 113) (7 : Int32) dX9_look_1 hs7 (by decide) (by decide) (by decide +kernel) (by decide) ?_
    refine pw_aload_n dX9_look_114 rfl 0 rfl ?_
    refine pw_getr (q := 1) dX9_look_115 fa_X9_10 ly_0 rfl ?_
    refine pw_geti (v := G 1 9) dX9_look_118 fa_X9_210 ly_1 rfl rfl ?_
    exact pw_ireturn dX9_look_121 rfl rfl ⟨_, rfl, h⟩
  by_cases hs8 : a1 = (8 : Int32)
  · have h := h.2.2.2.2.2.2.2.2.1 hs8
    refine pw_tswIn (tgt := 122) (off := 121) (8 : Int32) dX9_look_1 hs8 (by decide) (by decide) (by decide +kernel) (by decide) ?_
    refine pw_aload_n dX9_look_122 rfl 0 rfl ?_
    refine pw_getr (q := 1) dX9_look_123 fa_X9_10 ly_0 rfl ?_
    refine pw_geti (v := G 1 12) dX9_look_126 fa_X9_230 ly_1 rfl rfl ?_
    exact pw_ireturn dX9_look_129 rfl rfl ⟨_, rfl, h⟩
  have h := h.2.2.2.2.2.2.2.2.2 hs0 hs1 hs2 hs3 hs4 hs5 hs6 hs7 hs8
  refine pw_tswOut (tgt := 130) dX9_look_1 (by have := lv_neT hs0 (show (0 : Int32).toInt = 0 from by decide); have := lv_neT hs1 (show (1 : Int32).toInt = 1 from by decide); have := lv_neT hs2 (show (2 : Int32).toInt = 2 from by decide); have := lv_neT hs3 (show (3 : Int32).toInt = 3 from by decide); have := lv_neT hs4 (show (4 : Int32).toInt = 4 from by decide); have := lv_neT hs5 (show (5 : Int32).toInt = 5 from by decide); have := lv_neT hs6 (show (6 : Int32).toInt = 6 from by decide); have := lv_neT hs7 (show (7 : Int32).toInt = 7 from by decide); have := lv_neT hs8 (show (8 : Int32).toInt = 8 from by decide);  omega) (by decide) ?_
  refine pw_iload_n dX9_look_130 rfl 1 rfl ?_
  refine pw_iconst (v := (4 : Int32)) dX9_look_131 (by decide) ?_
  refine pw_callS (As := [.int a1, .int (4 : Int32)]) (rest := []) (s_X9_isInRow hE h) dX9_look_132 ml_X9_223 cs_X9_isInRow rfl (rm_ok (by decide)) rm_0 (Nat.le_of_ble_eq_true rfl) ?_
  rintro _ G2 ⟨r1, rfl, h⟩
  refine pw_if_eq (tgt := 153) dX9_look_135 (by decide) (fun hc => ?_) (fun hc => ?_)
  · have h := h.1 hc
    refine pw_iconst (v := (-1 : Int32)) dX9_look_153 (by decide) ?_
    exact pw_ireturn dX9_look_154 rfl rfl ⟨_, rfl, h⟩
  · have h := h.2 hc
    refine pw_aload_n dX9_look_138 rfl 0 rfl ?_
    refine pw_getr (q := 1) dX9_look_139 fa_X9_10 ly_0 rfl ?_
    refine pw_getr (q := 5) dX9_look_142 fa_X9_197 ly_1 rfl ?_
    refine pw_iload_n dX9_look_145 rfl 1 rfl ?_
    refine pw_bipush (v := (10 : Int32)) dX9_look_146 (by decide) ?_
    refine pw_isub dX9_look_148 ?_
    obtain ⟨hv3, h⟩ := h
    refine pw_iald (v := G2 5 ((a1 - (10 : Int32)).toNatClampNeg)) dX9_look_149 ly_5 hv3 rfl ?_
    refine pw_goto (tgt := 154) dX9_look_150 (by decide) ?_
    exact pw_ireturn dX9_look_154 rfl rfl ⟨_, rfl, h⟩
