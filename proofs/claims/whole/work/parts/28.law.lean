def bk_L_law_908 (E : EV) (Q : Int32 → GS → Prop) (R18 : Int32 → GS → Prop) (x3 : Int32) (z0 : Int32) (G : GS) : Prop := wp_X9_image z0 G (fun r147 G148 => (vp_in (x3 + (1 : Int32)) (ev_L E) ∧ (((ev_xs E ((x3 + (1 : Int32)).toNatClampNeg)) = 0 → wp_X10_image (0 : Int32) G148 (fun r150 G151 => ((r147 = r150 → R18 (x3 + 6) G151) ∧ (¬ r147 = r150 → Q (0 : Int32) G151)))) ∧ (¬ (ev_xs E ((x3 + (1 : Int32)).toNatClampNeg)) = 0 → wp_X10_image (1 : Int32) G148 (fun r152 G153 => ((r147 = r152 → R18 (x3 + 6) G153) ∧ (¬ r147 = r152 → Q (0 : Int32) G153)))))))
set_option maxRecDepth 100000 in
set_option maxHeartbeats 4000000 in
theorem t_L_law_908 {E : EV} (hE : EI_ E) (Q : Int32 → GS → Prop) (R18 : Int32 → GS → Prop) (hR18 : ∀ (x3 : Int32) (G : GS), R18 x3 G → PW_ E mi_L_law room_1 75 8317 18 [(0, .ref (ev_b E)), (1, .ref (ev_ad E 0)), (2, .ref (ev_ad E 49)), (3, .int x3)] [] G (qi_ Q)) {x3 : Int32} {z0 : Int32} {G : GS} (h : bk_L_law_908 E Q R18 x3 z0 G) : PW_ E mi_L_law room_1 75 8317 908 [(0, .ref (ev_b E)), (1, .ref (ev_ad E 0)), (2, .ref (ev_ad E 49)), (3, .int x3)] [.int z0, .ref (ev_ad E 0)] G (qi_ Q) := by
  refine pw_callV (As := [.int z0]) (rest := []) (s_X9_image hE h) dL_law_908 ly_0 rfl (Or.inl ml_L_117) cm_X9_image rfl ⟨by decide, by decide⟩ ⟨by decide, by decide⟩ (Nat.le_of_ble_eq_true rfl) ?_
  rintro _ G148 ⟨r147, rfl, h⟩
  refine pw_aload_n dL_law_911 rfl 2 rfl ?_
  refine pw_aload_n dL_law_912 rfl 0 rfl ?_
  refine pw_iload_n dL_law_913 rfl 3 rfl ?_
  refine pw_iconst (v := (1 : Int32)) dL_law_914 (by decide) ?_
  refine pw_iadd dL_law_915 ?_
  obtain ⟨hv149, h⟩ := h
  refine pw_sld dL_law_916 hv149 ?_
  refine pw_if_eq (tgt := 924) dL_law_917 (by decide) (fun hc => ?_) (fun hc => ?_)
  · have h := h.1 hc
    refine pw_iconst (v := (0 : Int32)) dL_law_924 (by decide) ?_
    refine pw_callV (As := [.int (0 : Int32)]) (rest := [.int r147]) (s_X10_image hE h) dL_law_925 ly_49 rfl (Or.inl ml_L_121) cm_X10_image rfl ⟨by decide, by decide⟩ ⟨by decide, by decide⟩ (Nat.le_of_ble_eq_true rfl) ?_
    rintro _ G151 ⟨r150, rfl, h⟩
    refine pw_icmp_eq (tgt := 956) dL_law_928 (by decide) (fun hc => ?_) (fun hc => ?_)
    · have h := h.1 hc
      refine pw_iinc (k := 3) (v := x3 + 6) (lv' := [(3, .int (x3 + 6)), (0, .ref (ev_b E)), (1, .ref (ev_ad E 0)), (2, .ref (ev_ad E 49))]) dL_law_956 rfl rfl (by decide) rfl ?_
      refine pw_goto (tgt := 18) dL_law_959 (by decide) ?_
      refine pw_loc (lv' := [(0, .ref (ev_b E)), (1, .ref (ev_ad E 0)), (2, .ref (ev_ad E 49)), (3, .int (x3 + 6))]) [1, 2, 3, 0] rfl ?_
      exact hR18 _ _ h
    · have h := h.2 hc
      refine pw_iconst (v := (0 : Int32)) dL_law_931 (by decide) ?_
      exact pw_ireturn dL_law_932 rfl rfl ⟨_, rfl, h⟩
  · have h := h.2 hc
    refine pw_iconst (v := (1 : Int32)) dL_law_920 (by decide) ?_
    refine pw_goto (tgt := 925) dL_law_921 (by decide) ?_
    refine pw_callV (As := [.int (1 : Int32)]) (rest := [.int r147]) (s_X10_image hE h) dL_law_925 ly_49 rfl (Or.inl ml_L_121) cm_X10_image rfl ⟨by decide, by decide⟩ ⟨by decide, by decide⟩ (Nat.le_of_ble_eq_true rfl) ?_
    rintro _ G153 ⟨r152, rfl, h⟩
    refine pw_icmp_eq (tgt := 956) dL_law_928 (by decide) (fun hc => ?_) (fun hc => ?_)
    · have h := h.1 hc
      refine pw_iinc (k := 3) (v := x3 + 6) (lv' := [(3, .int (x3 + 6)), (0, .ref (ev_b E)), (1, .ref (ev_ad E 0)), (2, .ref (ev_ad E 49))]) dL_law_956 rfl rfl (by decide) rfl ?_
      refine pw_goto (tgt := 18) dL_law_959 (by decide) ?_
      refine pw_loc (lv' := [(0, .ref (ev_b E)), (1, .ref (ev_ad E 0)), (2, .ref (ev_ad E 49)), (3, .int (x3 + 6))]) [1, 2, 3, 0] rfl ?_
      exact hR18 _ _ h
    · have h := h.2 hc
      refine pw_iconst (v := (0 : Int32)) dL_law_931 (by decide) ?_
      exact pw_ireturn dL_law_932 rfl rfl ⟨_, rfl, h⟩
def lp_L_law_18 (E : EV) (Q : Int32 → GS → Prop) : Nat → Int32 → GS → Prop
  | 0, _, _ => False
  | n + 1, x3, G => ((((nI (ev_L E)) - (6 : Int32)) < x3 → Q (1 : Int32) G) ∧ (¬ ((nI (ev_L E)) - (6 : Int32)) < x3 → (vp_in x3 (ev_L E) ∧ ((((ev_xs E x3.toNatClampNeg) &&& (31 : Int32)) = 0 → (vp_in (x3 + (1 : Int32)) (ev_L E) ∧ wp_X9_state (ev_xs E ((x3 + (1 : Int32)).toNatClampNeg)) G (fun r3 G4 => wp_X10_state (ev_xs E ((x3 + (1 : Int32)).toNatClampNeg)) G4 (fun r5 G6 => ((r3 = r5 → lp_L_law_18 E Q n (x3 + 6) G6) ∧ (¬ r3 = r5 → Q (0 : Int32) G6)))))) ∧ (((ev_xs E x3.toNatClampNeg) &&& (31 : Int32)) = 1 → (vp_in (x3 + (1 : Int32)) (ev_L E) ∧ wp_X9_person (ev_xs E ((x3 + (1 : Int32)).toNatClampNeg)) G (fun r8 G9 => wp_X10_person (ev_xs E ((x3 + (1 : Int32)).toNatClampNeg)) G9 (fun r10 G11 => ((r8 = r10 → lp_L_law_18 E Q n (x3 + 6) G11) ∧ (¬ r8 = r10 → Q (0 : Int32) G11)))))) ∧ (((ev_xs E x3.toNatClampNeg) &&& (31 : Int32)) = 2 → (vp_in (x3 + (1 : Int32)) (ev_L E) ∧ (vp_in (x3 + (2 : Int32)) (ev_L E) ∧ (vp_in (x3 + (3 : Int32)) (ev_L E) ∧ wp_X9_set (ev_xs E ((x3 + (1 : Int32)).toNatClampNeg)) (ev_xs E ((x3 + (2 : Int32)).toNatClampNeg)) (ev_xs E ((x3 + (3 : Int32)).toNatClampNeg)) G (fun r15 G16 => wp_X10_set (ev_xs E ((x3 + (1 : Int32)).toNatClampNeg)) (ev_xs E ((x3 + (2 : Int32)).toNatClampNeg)) (ev_xs E ((x3 + (3 : Int32)).toNatClampNeg)) G16 (fun r17 G18 => ((r15 = r17 → lp_L_law_18 E Q n (x3 + 6) G18) ∧ (¬ r15 = r17 → Q (0 : Int32) G18)))))))) ∧ (((ev_xs E x3.toNatClampNeg) &&& (31 : Int32)) = 3 → (vp_in (x3 + (1 : Int32)) (ev_L E) ∧ (vp_in (x3 + (2 : Int32)) (ev_L E) ∧ (vp_in (x3 + (3 : Int32)) (ev_L E) ∧ (vp_in (x3 + (4 : Int32)) (ev_L E) ∧ (vp_in (x3 + (5 : Int32)) (ev_L E) ∧ wp_X9_feed (ev_xs E ((x3 + (1 : Int32)).toNatClampNeg)) (ev_xs E ((x3 + (2 : Int32)).toNatClampNeg)) (ev_xs E ((x3 + (3 : Int32)).toNatClampNeg)) (ev_xs E ((x3 + (4 : Int32)).toNatClampNeg)) (ev_xs E ((x3 + (5 : Int32)).toNatClampNeg)) G (fun r24 G25 => wp_X10_feed (ev_xs E ((x3 + (1 : Int32)).toNatClampNeg)) (ev_xs E ((x3 + (2 : Int32)).toNatClampNeg)) (ev_xs E ((x3 + (3 : Int32)).toNatClampNeg)) (ev_xs E ((x3 + (4 : Int32)).toNatClampNeg)) (ev_xs E ((x3 + (5 : Int32)).toNatClampNeg)) G25 (fun r26 G27 => ((r24 = r26 → lp_L_law_18 E Q n (x3 + 6) G27) ∧ (¬ r24 = r26 → Q (0 : Int32) G27)))))))))) ∧ (((ev_xs E x3.toNatClampNeg) &&& (31 : Int32)) = 4 → (vp_in (x3 + (1 : Int32)) (ev_L E) ∧ wp_X9_end (ev_xs E ((x3 + (1 : Int32)).toNatClampNeg)) G (fun r29 G30 => wp_X10_end (ev_xs E ((x3 + (1 : Int32)).toNatClampNeg)) G30 (fun r31 G32 => ((r29 = r31 → lp_L_law_18 E Q n (x3 + 6) G32) ∧ (¬ r29 = r31 → Q (0 : Int32) G32)))))) ∧ (((ev_xs E x3.toNatClampNeg) &&& (31 : Int32)) = 5 → wp_X9_text G (fun r33 G34 => wp_X10_text G34 (fun r35 G36 => ((r33 = r35 → lp_L_law_18 E Q n (x3 + 6) G36) ∧ (¬ r33 = r35 → Q (0 : Int32) G36))))) ∧ (((ev_xs E x3.toNatClampNeg) &&& (31 : Int32)) = 6 → (vp_in (x3 + (1 : Int32)) (ev_L E) ∧ wp_X9_fault (ev_xs E ((x3 + (1 : Int32)).toNatClampNeg)) G (fun r38 G39 => wp_X10_fault (ev_xs E ((x3 + (1 : Int32)).toNatClampNeg)) G39 (fun r40 G41 => ((r38 = r40 → lp_L_law_18 E Q n (x3 + 6) G41) ∧ (¬ r38 = r40 → Q (0 : Int32) G41)))))) ∧ (((ev_xs E x3.toNatClampNeg) &&& (31 : Int32)) = 7 → (vp_in (x3 + (1 : Int32)) (ev_L E) ∧ (vp_in (x3 + (2 : Int32)) (ev_L E) ∧ wp_X9_speak (ev_xs E ((x3 + (1 : Int32)).toNatClampNeg)) (ev_xs E ((x3 + (2 : Int32)).toNatClampNeg)) G (fun r44 G45 => wp_X10_speak (ev_xs E ((x3 + (1 : Int32)).toNatClampNeg)) (ev_xs E ((x3 + (2 : Int32)).toNatClampNeg)) G45 (fun r46 G47 => ((r44 = r46 → lp_L_law_18 E Q n (x3 + 6) G47) ∧ (¬ r44 = r46 → Q (0 : Int32) G47))))))) ∧ (((ev_xs E x3.toNatClampNeg) &&& (31 : Int32)) = 8 → (vp_in (x3 + (1 : Int32)) (ev_L E) ∧ wp_X9_hours (ev_xs E ((x3 + (1 : Int32)).toNatClampNeg)) G (fun r49 G50 => wp_X10_hours (ev_xs E ((x3 + (1 : Int32)).toNatClampNeg)) G50 (fun r51 G52 => ((r49 = r51 → lp_L_law_18 E Q n (x3 + 6) G52) ∧ (¬ r49 = r51 → Q (0 : Int32) G52)))))) ∧ (((ev_xs E x3.toNatClampNeg) &&& (31 : Int32)) = 9 → (vp_in (x3 + (1 : Int32)) (ev_L E) ∧ (vp_in (x3 + (2 : Int32)) (ev_L E) ∧ wp_X9_of (ev_xs E ((x3 + (1 : Int32)).toNatClampNeg)) (ev_xs E ((x3 + (2 : Int32)).toNatClampNeg)) G (fun r55 G56 => wp_X10_of (ev_xs E ((x3 + (1 : Int32)).toNatClampNeg)) (ev_xs E ((x3 + (2 : Int32)).toNatClampNeg)) G56 (fun r57 G58 => ((r55 = r57 → lp_L_law_18 E Q n (x3 + 6) G58) ∧ (¬ r55 = r57 → Q (0 : Int32) G58))))))) ∧ (((ev_xs E x3.toNatClampNeg) &&& (31 : Int32)) = 10 → (vp_in (x3 + (1 : Int32)) (ev_L E) ∧ (vp_in (x3 + (2 : Int32)) (ev_L E) ∧ (vp_in (x3 + (3 : Int32)) (ev_L E) ∧ wp_X9_hears (ev_xs E ((x3 + (1 : Int32)).toNatClampNeg)) (ev_xs E ((x3 + (2 : Int32)).toNatClampNeg)) (ev_xs E ((x3 + (3 : Int32)).toNatClampNeg)) G (fun r62 G63 => wp_X10_hears (ev_xs E ((x3 + (1 : Int32)).toNatClampNeg)) (ev_xs E ((x3 + (2 : Int32)).toNatClampNeg)) (ev_xs E ((x3 + (3 : Int32)).toNatClampNeg)) G63 (fun r64 G65 => ((r62 = r64 → lp_L_law_18 E Q n (x3 + 6) G65) ∧ (¬ r62 = r64 → Q (0 : Int32) G65)))))))) ∧ (((ev_xs E x3.toNatClampNeg) &&& (31 : Int32)) = 11 → (vp_in (x3 + (1 : Int32)) (ev_L E) ∧ (vp_in (x3 + (2 : Int32)) (ev_L E) ∧ wp_X9_deaf (ev_xs E ((x3 + (1 : Int32)).toNatClampNeg)) (ev_xs E ((x3 + (2 : Int32)).toNatClampNeg)) G (fun r68 G69 => wp_X10_deaf (ev_xs E ((x3 + (1 : Int32)).toNatClampNeg)) (ev_xs E ((x3 + (2 : Int32)).toNatClampNeg)) G69 (fun r70 G71 => ((r68 = r70 → lp_L_law_18 E Q n (x3 + 6) G71) ∧ (¬ r68 = r70 → Q (0 : Int32) G71))))))) ∧ (((ev_xs E x3.toNatClampNeg) &&& (31 : Int32)) = 12 → (vp_in (x3 + (1 : Int32)) (ev_L E) ∧ (vp_in (x3 + (2 : Int32)) (ev_L E) ∧ wp_X9_book (ev_xs E ((x3 + (1 : Int32)).toNatClampNeg)) (ev_xs E ((x3 + (2 : Int32)).toNatClampNeg)) G (fun r74 G75 => wp_X10_book (ev_xs E ((x3 + (1 : Int32)).toNatClampNeg)) (ev_xs E ((x3 + (2 : Int32)).toNatClampNeg)) G75 (fun r76 G77 => ((r74 = r76 → lp_L_law_18 E Q n (x3 + 6) G77) ∧ (¬ r74 = r76 → Q (0 : Int32) G77))))))) ∧ (((ev_xs E x3.toNatClampNeg) &&& (31 : Int32)) = 13 → (vp_in (x3 + (1 : Int32)) (ev_L E) ∧ (vp_in (x3 + (2 : Int32)) (ev_L E) ∧ wp_X9_tune (ev_xs E ((x3 + (1 : Int32)).toNatClampNeg)) (ev_xs E ((x3 + (2 : Int32)).toNatClampNeg)) G (fun r80 G81 => wp_X10_tune (ev_xs E ((x3 + (1 : Int32)).toNatClampNeg)) (ev_xs E ((x3 + (2 : Int32)).toNatClampNeg)) G81 (fun r82 G83 => ((r80 = r82 → lp_L_law_18 E Q n (x3 + 6) G83) ∧ (¬ r80 = r82 → Q (0 : Int32) G83))))))) ∧ (((ev_xs E x3.toNatClampNeg) &&& (31 : Int32)) = 14 → (vp_in (x3 + (1 : Int32)) (ev_L E) ∧ (vp_in (x3 + (2 : Int32)) (ev_L E) ∧ wp_X9_same (ev_xs E ((x3 + (1 : Int32)).toNatClampNeg)) (ev_xs E ((x3 + (2 : Int32)).toNatClampNeg)) G (fun r86 G87 => wp_X10_same (ev_xs E ((x3 + (1 : Int32)).toNatClampNeg)) (ev_xs E ((x3 + (2 : Int32)).toNatClampNeg)) G87 (fun r88 G89 => ((r86 = r88 → lp_L_law_18 E Q n (x3 + 6) G89) ∧ (¬ r86 = r88 → Q (0 : Int32) G89))))))) ∧ (((ev_xs E x3.toNatClampNeg) &&& (31 : Int32)) = 15 → (vp_in (x3 + (1 : Int32)) (ev_L E) ∧ (vp_in (x3 + (2 : Int32)) (ev_L E) ∧ wp_X9_pair (ev_xs E ((x3 + (1 : Int32)).toNatClampNeg)) (ev_xs E ((x3 + (2 : Int32)).toNatClampNeg)) G (fun r92 G93 => wp_X10_pair (ev_xs E ((x3 + (1 : Int32)).toNatClampNeg)) (ev_xs E ((x3 + (2 : Int32)).toNatClampNeg)) G93 (fun r94 G95 => ((r92 = r94 → lp_L_law_18 E Q n (x3 + 6) G95) ∧ (¬ r92 = r94 → Q (0 : Int32) G95))))))) ∧ (((ev_xs E x3.toNatClampNeg) &&& (31 : Int32)) = 16 → (vp_in (x3 + (1 : Int32)) (ev_L E) ∧ wp_X9_turnOf (ev_xs E ((x3 + (1 : Int32)).toNatClampNeg)) G (fun r97 G98 => wp_X10_turnOf (ev_xs E ((x3 + (1 : Int32)).toNatClampNeg)) G98 (fun r99 G100 => ((r97 = r99 → lp_L_law_18 E Q n (x3 + 6) G100) ∧ (¬ r97 = r99 → Q (0 : Int32) G100)))))) ∧ (((ev_xs E x3.toNatClampNeg) &&& (31 : Int32)) = 17 → (vp_in (x3 + (1 : Int32)) (ev_L E) ∧ wp_X9_tell (ev_xs E ((x3 + (1 : Int32)).toNatClampNeg)) G (fun r102 G103 => wp_X10_tell (ev_xs E ((x3 + (1 : Int32)).toNatClampNeg)) G103 (fun r104 G105 => ((r102 = r104 → lp_L_law_18 E Q n (x3 + 6) G105) ∧ (¬ r102 = r104 → Q (0 : Int32) G105)))))) ∧ (((ev_xs E x3.toNatClampNeg) &&& (31 : Int32)) = 18 → (vp_in (x3 + (1 : Int32)) (ev_L E) ∧ (vp_in (x3 + (2 : Int32)) (ev_L E) ∧ wp_X9_fit (ev_xs E ((x3 + (1 : Int32)).toNatClampNeg)) (ev_xs E ((x3 + (2 : Int32)).toNatClampNeg)) G (fun r108 G109 => wp_X10_fit (ev_xs E ((x3 + (1 : Int32)).toNatClampNeg)) (ev_xs E ((x3 + (2 : Int32)).toNatClampNeg)) G109 (fun r110 G111 => ((r108 = r110 → lp_L_law_18 E Q n (x3 + 6) G111) ∧ (¬ r108 = r110 → Q (0 : Int32) G111))))))) ∧ (((ev_xs E x3.toNatClampNeg) &&& (31 : Int32)) = 19 → (vp_in (x3 + (1 : Int32)) (ev_L E) ∧ wp_X9_fewest (ev_xs E ((x3 + (1 : Int32)).toNatClampNeg)) G (fun r113 G114 => wp_X10_fewest (ev_xs E ((x3 + (1 : Int32)).toNatClampNeg)) G114 (fun r115 G116 => ((r113 = r115 → lp_L_law_18 E Q n (x3 + 6) G116) ∧ (¬ r113 = r115 → Q (0 : Int32) G116)))))) ∧ (((ev_xs E x3.toNatClampNeg) &&& (31 : Int32)) = 20 → (vp_in (x3 + (1 : Int32)) (ev_L E) ∧ (vp_in (x3 + (2 : Int32)) (ev_L E) ∧ wp_X9_ruler (ev_xs E ((x3 + (1 : Int32)).toNatClampNeg)) (ev_xs E ((x3 + (2 : Int32)).toNatClampNeg)) G (fun r119 G120 => wp_X10_ruler (ev_xs E ((x3 + (1 : Int32)).toNatClampNeg)) (ev_xs E ((x3 + (2 : Int32)).toNatClampNeg)) G120 (fun r121 G122 => ((r119 = r121 → lp_L_law_18 E Q n (x3 + 6) G122) ∧ (¬ r119 = r121 → Q (0 : Int32) G122))))))) ∧ (((ev_xs E x3.toNatClampNeg) &&& (31 : Int32)) = 21 → (vp_in (x3 + (1 : Int32)) (ev_L E) ∧ (vp_in (x3 + (2 : Int32)) (ev_L E) ∧ (vp_in (x3 + (3 : Int32)) (ev_L E) ∧ (vp_in (x3 + (4 : Int32)) (ev_L E) ∧ (vp_in (x3 + (5 : Int32)) (ev_L E) ∧ wp_X9_alone (ev_xs E ((x3 + (1 : Int32)).toNatClampNeg)) (ev_xs E ((x3 + (2 : Int32)).toNatClampNeg)) (ev_xs E ((x3 + (3 : Int32)).toNatClampNeg)) (ev_xs E ((x3 + (4 : Int32)).toNatClampNeg)) (ev_xs E ((x3 + (5 : Int32)).toNatClampNeg)) G (fun r128 G129 => wp_X10_alone (ev_xs E ((x3 + (1 : Int32)).toNatClampNeg)) (ev_xs E ((x3 + (2 : Int32)).toNatClampNeg)) (ev_xs E ((x3 + (3 : Int32)).toNatClampNeg)) (ev_xs E ((x3 + (4 : Int32)).toNatClampNeg)) (ev_xs E ((x3 + (5 : Int32)).toNatClampNeg)) G129 (fun r130 G131 => ((r128 = r130 → lp_L_law_18 E Q n (x3 + 6) G131) ∧ (¬ r128 = r130 → Q (0 : Int32) G131)))))))))) ∧ (((ev_xs E x3.toNatClampNeg) &&& (31 : Int32)) = 22 → (vp_in (x3 + (1 : Int32)) (ev_L E) ∧ wp_X9_safe (ev_xs E ((x3 + (1 : Int32)).toNatClampNeg)) G (fun r133 G134 => wp_X10_safe (ev_xs E ((x3 + (1 : Int32)).toNatClampNeg)) G134 (fun r135 G136 => ((r133 = r135 → lp_L_law_18 E Q n (x3 + 6) G136) ∧ (¬ r133 = r135 → Q (0 : Int32) G136)))))) ∧ (((ev_xs E x3.toNatClampNeg) &&& (31 : Int32)) = 23 → wp_X9_undo G (fun r137 G138 => wp_X10_undo G138 (fun r139 G140 => ((r137 = r139 → lp_L_law_18 E Q n (x3 + 6) G140) ∧ (¬ r137 = r139 → Q (0 : Int32) G140))))) ∧ (((ev_xs E x3.toNatClampNeg) &&& (31 : Int32)) = 24 → (vp_in (x3 + (1 : Int32)) (ev_L E) ∧ (((ev_xs E ((x3 + (1 : Int32)).toNatClampNeg)) = 0 → bk_L_law_908 E Q (fun y3 G => lp_L_law_18 E Q n y3 G) x3 (0 : Int32) G) ∧ (¬ (ev_xs E ((x3 + (1 : Int32)).toNatClampNeg)) = 0 → bk_L_law_908 E Q (fun y3 G => lp_L_law_18 E Q n y3 G) x3 (1 : Int32) G)))) ∧ (((ev_xs E x3.toNatClampNeg) &&& (31 : Int32)) = 25 → (vp_in (x3 + (1 : Int32)) (ev_L E) ∧ wp_X9_look (ev_xs E ((x3 + (1 : Int32)).toNatClampNeg)) G (fun r143 G144 => wp_X10_look (ev_xs E ((x3 + (1 : Int32)).toNatClampNeg)) G144 (fun r145 G146 => ((r143 = r145 → lp_L_law_18 E Q n (x3 + 6) G146) ∧ (¬ r143 = r145 → Q (0 : Int32) G146)))))) ∧ (¬ ((ev_xs E x3.toNatClampNeg) &&& (31 : Int32)) = 0 → ¬ ((ev_xs E x3.toNatClampNeg) &&& (31 : Int32)) = 1 → ¬ ((ev_xs E x3.toNatClampNeg) &&& (31 : Int32)) = 2 → ¬ ((ev_xs E x3.toNatClampNeg) &&& (31 : Int32)) = 3 → ¬ ((ev_xs E x3.toNatClampNeg) &&& (31 : Int32)) = 4 → ¬ ((ev_xs E x3.toNatClampNeg) &&& (31 : Int32)) = 5 → ¬ ((ev_xs E x3.toNatClampNeg) &&& (31 : Int32)) = 6 → ¬ ((ev_xs E x3.toNatClampNeg) &&& (31 : Int32)) = 7 → ¬ ((ev_xs E x3.toNatClampNeg) &&& (31 : Int32)) = 8 → ¬ ((ev_xs E x3.toNatClampNeg) &&& (31 : Int32)) = 9 → ¬ ((ev_xs E x3.toNatClampNeg) &&& (31 : Int32)) = 10 → ¬ ((ev_xs E x3.toNatClampNeg) &&& (31 : Int32)) = 11 → ¬ ((ev_xs E x3.toNatClampNeg) &&& (31 : Int32)) = 12 → ¬ ((ev_xs E x3.toNatClampNeg) &&& (31 : Int32)) = 13 → ¬ ((ev_xs E x3.toNatClampNeg) &&& (31 : Int32)) = 14 → ¬ ((ev_xs E x3.toNatClampNeg) &&& (31 : Int32)) = 15 → ¬ ((ev_xs E x3.toNatClampNeg) &&& (31 : Int32)) = 16 → ¬ ((ev_xs E x3.toNatClampNeg) &&& (31 : Int32)) = 17 → ¬ ((ev_xs E x3.toNatClampNeg) &&& (31 : Int32)) = 18 → ¬ ((ev_xs E x3.toNatClampNeg) &&& (31 : Int32)) = 19 → ¬ ((ev_xs E x3.toNatClampNeg) &&& (31 : Int32)) = 20 → ¬ ((ev_xs E x3.toNatClampNeg) &&& (31 : Int32)) = 21 → ¬ ((ev_xs E x3.toNatClampNeg) &&& (31 : Int32)) = 22 → ¬ ((ev_xs E x3.toNatClampNeg) &&& (31 : Int32)) = 23 → ¬ ((ev_xs E x3.toNatClampNeg) &&& (31 : Int32)) = 24 → ¬ ((ev_xs E x3.toNatClampNeg) &&& (31 : Int32)) = 25 → lp_L_law_18 E Q n (x3 + 6) G)))))
set_option maxRecDepth 100000 in
set_option maxHeartbeats 4000000 in
theorem t_L_law_18 {E : EV} (hE : EI_ E) (Q : Int32 → GS → Prop) : ∀ (n : Nat) (x3 : Int32) (G : GS), lp_L_law_18 E Q n x3 G → PW_ E mi_L_law room_1 75 8317 18 [(0, .ref (ev_b E)), (1, .ref (ev_ad E 0)), (2, .ref (ev_ad E 49)), (3, .int x3)] [] G (qi_ Q) := by
  intro n
  induction n with
  | zero => intro x3 G h; exact h.elim
  | succ n ih =>
    intro x3 G h
    refine pw_iload_n dL_law_18 rfl 3 rfl ?_
    refine pw_aload_n dL_law_19 rfl 0 rfl ?_
    refine pw_slen dL_law_20 ?_
    refine pw_bipush (v := (6 : Int32)) dL_law_21 (by decide) ?_
    refine pw_isub dL_law_23 ?_
    refine pw_icmp_gt (tgt := 962) dL_law_24 (by decide) (fun hc => ?_) (fun hc => ?_)
    · have h := h.1 hc
      refine pw_iconst (v := (1 : Int32)) dL_law_962 (by decide) ?_
      exact pw_ireturn dL_law_963 rfl rfl ⟨_, rfl, h⟩
    · have h := h.2 hc
      refine pw_aload_n dL_law_27 rfl 0 rfl ?_
      refine pw_iload_n dL_law_28 rfl 3 rfl ?_
      obtain ⟨hv1, h⟩ := h
      refine pw_sld dL_law_29 hv1 ?_
      refine pw_bipush (v := (31 : Int32)) dL_law_30 (by decide) ?_
      refine pw_iand dL_law_32 ?_
      by_cases hs0 : ((ev_xs E x3.toNatClampNeg) &&& (31 : Int32)) = (0 : Int32)
      · have h := h.1 hs0
        refine pw_tswIn (tgt := 152) (off := 119) (0 : Int32) dL_law_33 hs0 (by decide) (by decide) (by decide +kernel) (by decide) ?_
        refine pw_aload_n dL_law_152 rfl 1 rfl ?_
        refine pw_aload_n dL_law_153 rfl 0 rfl ?_
        refine pw_iload_n dL_law_154 rfl 3 rfl ?_
        refine pw_iconst (v := (1 : Int32)) dL_law_155 (by decide) ?_
        refine pw_iadd dL_law_156 ?_
        obtain ⟨hv2, h⟩ := h
        refine pw_sld dL_law_157 hv2 ?_
        refine pw_callV (As := [.int (ev_xs E ((x3 + (1 : Int32)).toNatClampNeg))]) (rest := []) (s_X9_state hE h) dL_law_158 ly_0 rfl (Or.inl ml_L_13) cm_X9_state rfl ⟨by decide, by decide⟩ ⟨by decide, by decide⟩ (Nat.le_of_ble_eq_true rfl) ?_
        rintro _ G4 ⟨r3, rfl, h⟩
        refine pw_aload_n dL_law_161 rfl 2 rfl ?_
        refine pw_aload_n dL_law_162 rfl 0 rfl ?_
        refine pw_iload_n dL_law_163 rfl 3 rfl ?_
        refine pw_iconst (v := (1 : Int32)) dL_law_164 (by decide) ?_
        refine pw_iadd dL_law_165 ?_
        refine pw_sld dL_law_166 hv2 ?_
        refine pw_callV (As := [.int (ev_xs E ((x3 + (1 : Int32)).toNatClampNeg))]) (rest := [.int r3]) (s_X10_state hE h) dL_law_167 ly_49 rfl (Or.inl ml_L_17) cm_X10_state rfl ⟨by decide, by decide⟩ ⟨by decide, by decide⟩ (Nat.le_of_ble_eq_true rfl) ?_
        rintro _ G6 ⟨r5, rfl, h⟩
        refine pw_icmp_eq (tgt := 956) dL_law_170 (by decide) (fun hc => ?_) (fun hc => ?_)
        · have h := h.1 hc
          refine pw_iinc (k := 3) (v := x3 + 6) (lv' := [(3, .int (x3 + 6)), (0, .ref (ev_b E)), (1, .ref (ev_ad E 0)), (2, .ref (ev_ad E 49))]) dL_law_956 rfl rfl (by decide) rfl ?_
          refine pw_goto (tgt := 18) dL_law_959 (by decide) ?_
          refine pw_loc (lv' := [(0, .ref (ev_b E)), (1, .ref (ev_ad E 0)), (2, .ref (ev_ad E 49)), (3, .int (x3 + 6))]) [1, 2, 3, 0] rfl ?_
          exact ih _ _ h
        · have h := h.2 hc
          refine pw_iconst (v := (0 : Int32)) dL_law_173 (by decide) ?_
          exact pw_ireturn dL_law_174 rfl rfl ⟨_, rfl, h⟩
      by_cases hs1 : ((ev_xs E x3.toNatClampNeg) &&& (31 : Int32)) = (1 : Int32)
      · have h := h.2.1 hs1
        refine pw_tswIn (tgt := 175) (off := 142) (1 : Int32) dL_law_33 hs1 (by decide) (by decide) (by decide +kernel) (by decide) ?_
        refine pw_aload_n dL_law_175 rfl 1 rfl ?_
        refine pw_aload_n dL_law_176 rfl 0 rfl ?_
        refine pw_iload_n dL_law_177 rfl 3 rfl ?_
        refine pw_iconst (v := (1 : Int32)) dL_law_178 (by decide) ?_
        refine pw_iadd dL_law_179 ?_
        obtain ⟨hv7, h⟩ := h
        refine pw_sld dL_law_180 hv7 ?_
        refine pw_callV (As := [.int (ev_xs E ((x3 + (1 : Int32)).toNatClampNeg))]) (rest := []) (s_X9_person hE h) dL_law_181 ly_0 rfl (Or.inl ml_L_18) cm_X9_person rfl ⟨by decide, by decide⟩ ⟨by decide, by decide⟩ (Nat.le_of_ble_eq_true rfl) ?_
        rintro _ G9 ⟨r8, rfl, h⟩
        refine pw_aload_n dL_law_184 rfl 2 rfl ?_
        refine pw_aload_n dL_law_185 rfl 0 rfl ?_
        refine pw_iload_n dL_law_186 rfl 3 rfl ?_
        refine pw_iconst (v := (1 : Int32)) dL_law_187 (by decide) ?_
        refine pw_iadd dL_law_188 ?_
        refine pw_sld dL_law_189 hv7 ?_
        refine pw_callV (As := [.int (ev_xs E ((x3 + (1 : Int32)).toNatClampNeg))]) (rest := [.int r8]) (s_X10_person hE h) dL_law_190 ly_49 rfl (Or.inl ml_L_21) cm_X10_person rfl ⟨by decide, by decide⟩ ⟨by decide, by decide⟩ (Nat.le_of_ble_eq_true rfl) ?_
        rintro _ G11 ⟨r10, rfl, h⟩
        refine pw_icmp_eq (tgt := 956) dL_law_193 (by decide) (fun hc => ?_) (fun hc => ?_)
        · have h := h.1 hc
          refine pw_iinc (k := 3) (v := x3 + 6) (lv' := [(3, .int (x3 + 6)), (0, .ref (ev_b E)), (1, .ref (ev_ad E 0)), (2, .ref (ev_ad E 49))]) dL_law_956 rfl rfl (by decide) rfl ?_
          refine pw_goto (tgt := 18) dL_law_959 (by decide) ?_
          refine pw_loc (lv' := [(0, .ref (ev_b E)), (1, .ref (ev_ad E 0)), (2, .ref (ev_ad E 49)), (3, .int (x3 + 6))]) [1, 2, 3, 0] rfl ?_
          exact ih _ _ h
        · have h := h.2 hc
          refine pw_iconst (v := (0 : Int32)) dL_law_196 (by decide) ?_
          exact pw_ireturn dL_law_197 rfl rfl ⟨_, rfl, h⟩
      by_cases hs2 : ((ev_xs E x3.toNatClampNeg) &&& (31 : Int32)) = (2 : Int32)
      · have h := h.2.2.1 hs2
        refine pw_tswIn (tgt := 198) (off := 165) (2 : Int32) dL_law_33 hs2 (by decide) (by decide) (by decide +kernel) (by decide) ?_
        refine pw_aload_n dL_law_198 rfl 1 rfl ?_
        refine pw_aload_n dL_law_199 rfl 0 rfl ?_
        refine pw_iload_n dL_law_200 rfl 3 rfl ?_
        refine pw_iconst (v := (1 : Int32)) dL_law_201 (by decide) ?_
        refine pw_iadd dL_law_202 ?_
        obtain ⟨hv12, h⟩ := h
        refine pw_sld dL_law_203 hv12 ?_
        refine pw_aload_n dL_law_204 rfl 0 rfl ?_
        refine pw_iload_n dL_law_205 rfl 3 rfl ?_
        refine pw_iconst (v := (2 : Int32)) dL_law_206 (by decide) ?_
        refine pw_iadd dL_law_207 ?_
        obtain ⟨hv13, h⟩ := h
        refine pw_sld dL_law_208 hv13 ?_
        refine pw_aload_n dL_law_209 rfl 0 rfl ?_
        refine pw_iload_n dL_law_210 rfl 3 rfl ?_
        refine pw_iconst (v := (3 : Int32)) dL_law_211 (by decide) ?_
        refine pw_iadd dL_law_212 ?_
        obtain ⟨hv14, h⟩ := h
        refine pw_sld dL_law_213 hv14 ?_
        refine pw_callV (As := [.int (ev_xs E ((x3 + (1 : Int32)).toNatClampNeg)), .int (ev_xs E ((x3 + (2 : Int32)).toNatClampNeg)), .int (ev_xs E ((x3 + (3 : Int32)).toNatClampNeg))]) (rest := []) (s_X9_set hE h) dL_law_214 ly_0 rfl (Or.inl ml_L_22) cm_X9_set rfl ⟨by decide, by decide⟩ ⟨by decide, by decide⟩ (Nat.le_of_ble_eq_true rfl) ?_
        rintro _ G16 ⟨r15, rfl, h⟩
        refine pw_aload_n dL_law_217 rfl 2 rfl ?_
        refine pw_aload_n dL_law_218 rfl 0 rfl ?_
        refine pw_iload_n dL_law_219 rfl 3 rfl ?_
        refine pw_iconst (v := (1 : Int32)) dL_law_220 (by decide) ?_
        refine pw_iadd dL_law_221 ?_
        refine pw_sld dL_law_222 hv12 ?_
        refine pw_aload_n dL_law_223 rfl 0 rfl ?_
        refine pw_iload_n dL_law_224 rfl 3 rfl ?_
        refine pw_iconst (v := (2 : Int32)) dL_law_225 (by decide) ?_
        refine pw_iadd dL_law_226 ?_
        refine pw_sld dL_law_227 hv13 ?_
        refine pw_aload_n dL_law_228 rfl 0 rfl ?_
        refine pw_iload_n dL_law_229 rfl 3 rfl ?_
        refine pw_iconst (v := (3 : Int32)) dL_law_230 (by decide) ?_
        refine pw_iadd dL_law_231 ?_
        refine pw_sld dL_law_232 hv14 ?_
        refine pw_callV (As := [.int (ev_xs E ((x3 + (1 : Int32)).toNatClampNeg)), .int (ev_xs E ((x3 + (2 : Int32)).toNatClampNeg)), .int (ev_xs E ((x3 + (3 : Int32)).toNatClampNeg))]) (rest := [.int r15]) (s_X10_set hE h) dL_law_233 ly_49 rfl (Or.inl ml_L_26) cm_X10_set rfl ⟨by decide, by decide⟩ ⟨by decide, by decide⟩ (Nat.le_of_ble_eq_true rfl) ?_
        rintro _ G18 ⟨r17, rfl, h⟩
        refine pw_icmp_eq (tgt := 956) dL_law_236 (by decide) (fun hc => ?_) (fun hc => ?_)
        · have h := h.1 hc
          refine pw_iinc (k := 3) (v := x3 + 6) (lv' := [(3, .int (x3 + 6)), (0, .ref (ev_b E)), (1, .ref (ev_ad E 0)), (2, .ref (ev_ad E 49))]) dL_law_956 rfl rfl (by decide) rfl ?_
          refine pw_goto (tgt := 18) dL_law_959 (by decide) ?_
          refine pw_loc (lv' := [(0, .ref (ev_b E)), (1, .ref (ev_ad E 0)), (2, .ref (ev_ad E 49)), (3, .int (x3 + 6))]) [1, 2, 3, 0] rfl ?_
          exact ih _ _ h
        · have h := h.2 hc
          refine pw_iconst (v := (0 : Int32)) dL_law_239 (by decide) ?_
          exact pw_ireturn dL_law_240 rfl rfl ⟨_, rfl, h⟩
      by_cases hs3 : ((ev_xs E x3.toNatClampNeg) &&& (31 : Int32)) = (3 : Int32)
      · have h := h.2.2.2.1 hs3
        refine pw_tswIn (tgt := 241) (off := 208) (3 : Int32) dL_law_33 hs3 (by decide) (by decide) (by decide +kernel) (by decide) ?_
        refine pw_aload_n dL_law_241 rfl 1 rfl ?_
        refine pw_aload_n dL_law_242 rfl 0 rfl ?_
        refine pw_iload_n dL_law_243 rfl 3 rfl ?_
        refine pw_iconst (v := (1 : Int32)) dL_law_244 (by decide) ?_
        refine pw_iadd dL_law_245 ?_
        obtain ⟨hv19, h⟩ := h
        refine pw_sld dL_law_246 hv19 ?_
        refine pw_aload_n dL_law_247 rfl 0 rfl ?_
        refine pw_iload_n dL_law_248 rfl 3 rfl ?_
        refine pw_iconst (v := (2 : Int32)) dL_law_249 (by decide) ?_
        refine pw_iadd dL_law_250 ?_
        obtain ⟨hv20, h⟩ := h
        refine pw_sld dL_law_251 hv20 ?_
        refine pw_aload_n dL_law_252 rfl 0 rfl ?_
        refine pw_iload_n dL_law_253 rfl 3 rfl ?_
        refine pw_iconst (v := (3 : Int32)) dL_law_254 (by decide) ?_
        refine pw_iadd dL_law_255 ?_
        obtain ⟨hv21, h⟩ := h
        refine pw_sld dL_law_256 hv21 ?_
        refine pw_aload_n dL_law_257 rfl 0 rfl ?_
        refine pw_iload_n dL_law_258 rfl 3 rfl ?_
        refine pw_iconst (v := (4 : Int32)) dL_law_259 (by decide) ?_
        refine pw_iadd dL_law_260 ?_
        obtain ⟨hv22, h⟩ := h
        refine pw_sld dL_law_261 hv22 ?_
        refine pw_aload_n dL_law_262 rfl 0 rfl ?_
        refine pw_iload_n dL_law_263 rfl 3 rfl ?_
        refine pw_iconst (v := (5 : Int32)) dL_law_264 (by decide) ?_
        refine pw_iadd dL_law_265 ?_
        obtain ⟨hv23, h⟩ := h
        refine pw_sld dL_law_266 hv23 ?_
        refine pw_callV (As := [.int (ev_xs E ((x3 + (1 : Int32)).toNatClampNeg)), .int (ev_xs E ((x3 + (2 : Int32)).toNatClampNeg)), .int (ev_xs E ((x3 + (3 : Int32)).toNatClampNeg)), .int (ev_xs E ((x3 + (4 : Int32)).toNatClampNeg)), .int (ev_xs E ((x3 + (5 : Int32)).toNatClampNeg))]) (rest := []) (s_X9_feed hE h) dL_law_267 ly_0 rfl (Or.inl ml_L_27) cm_X9_feed rfl ⟨by decide, by decide⟩ ⟨by decide, by decide⟩ (Nat.le_of_ble_eq_true rfl) ?_
        rintro _ G25 ⟨r24, rfl, h⟩
        refine pw_aload_n dL_law_270 rfl 2 rfl ?_
        refine pw_aload_n dL_law_271 rfl 0 rfl ?_
        refine pw_iload_n dL_law_272 rfl 3 rfl ?_
        refine pw_iconst (v := (1 : Int32)) dL_law_273 (by decide) ?_
        refine pw_iadd dL_law_274 ?_
        refine pw_sld dL_law_275 hv19 ?_
        refine pw_aload_n dL_law_276 rfl 0 rfl ?_
        refine pw_iload_n dL_law_277 rfl 3 rfl ?_
        refine pw_iconst (v := (2 : Int32)) dL_law_278 (by decide) ?_
        refine pw_iadd dL_law_279 ?_
        refine pw_sld dL_law_280 hv20 ?_
        refine pw_aload_n dL_law_281 rfl 0 rfl ?_
        refine pw_iload_n dL_law_282 rfl 3 rfl ?_
        refine pw_iconst (v := (3 : Int32)) dL_law_283 (by decide) ?_
        refine pw_iadd dL_law_284 ?_
        refine pw_sld dL_law_285 hv21 ?_
        refine pw_aload_n dL_law_286 rfl 0 rfl ?_
        refine pw_iload_n dL_law_287 rfl 3 rfl ?_
        refine pw_iconst (v := (4 : Int32)) dL_law_288 (by decide) ?_
        refine pw_iadd dL_law_289 ?_
        refine pw_sld dL_law_290 hv22 ?_
        refine pw_aload_n dL_law_291 rfl 0 rfl ?_
        refine pw_iload_n dL_law_292 rfl 3 rfl ?_
        refine pw_iconst (v := (5 : Int32)) dL_law_293 (by decide) ?_
        refine pw_iadd dL_law_294 ?_
        refine pw_sld dL_law_295 hv23 ?_
        refine pw_callV (As := [.int (ev_xs E ((x3 + (1 : Int32)).toNatClampNeg)), .int (ev_xs E ((x3 + (2 : Int32)).toNatClampNeg)), .int (ev_xs E ((x3 + (3 : Int32)).toNatClampNeg)), .int (ev_xs E ((x3 + (4 : Int32)).toNatClampNeg)), .int (ev_xs E ((x3 + (5 : Int32)).toNatClampNeg))]) (rest := [.int r24]) (s_X10_feed hE h) dL_law_296 ly_49 rfl (Or.inl ml_L_31) cm_X10_feed rfl ⟨by decide, by decide⟩ ⟨by decide, by decide⟩ (Nat.le_of_ble_eq_true rfl) ?_
        rintro _ G27 ⟨r26, rfl, h⟩
        refine pw_icmp_eq (tgt := 956) dL_law_299 (by decide) (fun hc => ?_) (fun hc => ?_)
        · have h := h.1 hc
          refine pw_iinc (k := 3) (v := x3 + 6) (lv' := [(3, .int (x3 + 6)), (0, .ref (ev_b E)), (1, .ref (ev_ad E 0)), (2, .ref (ev_ad E 49))]) dL_law_956 rfl rfl (by decide) rfl ?_
          refine pw_goto (tgt := 18) dL_law_959 (by decide) ?_
          refine pw_loc (lv' := [(0, .ref (ev_b E)), (1, .ref (ev_ad E 0)), (2, .ref (ev_ad E 49)), (3, .int (x3 + 6))]) [1, 2, 3, 0] rfl ?_
          exact ih _ _ h
        · have h := h.2 hc
          refine pw_iconst (v := (0 : Int32)) dL_law_302 (by decide) ?_
          exact pw_ireturn dL_law_303 rfl rfl ⟨_, rfl, h⟩
      by_cases hs4 : ((ev_xs E x3.toNatClampNeg) &&& (31 : Int32)) = (4 : Int32)
      · have h := h.2.2.2.2.1 hs4
        refine pw_tswIn (tgt := 304) (off := 271) (4 : Int32) dL_law_33 hs4 (by decide) (by decide) (by decide +kernel) (by decide) ?_
        refine pw_aload_n dL_law_304 rfl 1 rfl ?_
        refine pw_aload_n dL_law_305 rfl 0 rfl ?_
        refine pw_iload_n dL_law_306 rfl 3 rfl ?_
        refine pw_iconst (v := (1 : Int32)) dL_law_307 (by decide) ?_
        refine pw_iadd dL_law_308 ?_
        obtain ⟨hv28, h⟩ := h
        refine pw_sld dL_law_309 hv28 ?_
        refine pw_callV (As := [.int (ev_xs E ((x3 + (1 : Int32)).toNatClampNeg))]) (rest := []) (s_X9_end hE h) dL_law_310 ly_0 rfl (Or.inl ml_L_32) cm_X9_end rfl ⟨by decide, by decide⟩ ⟨by decide, by decide⟩ (Nat.le_of_ble_eq_true rfl) ?_
        rintro _ G30 ⟨r29, rfl, h⟩
        refine pw_aload_n dL_law_313 rfl 2 rfl ?_
        refine pw_aload_n dL_law_314 rfl 0 rfl ?_
        refine pw_iload_n dL_law_315 rfl 3 rfl ?_
        refine pw_iconst (v := (1 : Int32)) dL_law_316 (by decide) ?_
        refine pw_iadd dL_law_317 ?_
        refine pw_sld dL_law_318 hv28 ?_
        refine pw_callV (As := [.int (ev_xs E ((x3 + (1 : Int32)).toNatClampNeg))]) (rest := [.int r29]) (s_X10_end hE h) dL_law_319 ly_49 rfl (Or.inl ml_L_36) cm_X10_end rfl ⟨by decide, by decide⟩ ⟨by decide, by decide⟩ (Nat.le_of_ble_eq_true rfl) ?_
        rintro _ G32 ⟨r31, rfl, h⟩
        refine pw_icmp_eq (tgt := 956) dL_law_322 (by decide) (fun hc => ?_) (fun hc => ?_)
        · have h := h.1 hc
          refine pw_iinc (k := 3) (v := x3 + 6) (lv' := [(3, .int (x3 + 6)), (0, .ref (ev_b E)), (1, .ref (ev_ad E 0)), (2, .ref (ev_ad E 49))]) dL_law_956 rfl rfl (by decide) rfl ?_
          refine pw_goto (tgt := 18) dL_law_959 (by decide) ?_
          refine pw_loc (lv' := [(0, .ref (ev_b E)), (1, .ref (ev_ad E 0)), (2, .ref (ev_ad E 49)), (3, .int (x3 + 6))]) [1, 2, 3, 0] rfl ?_
          exact ih _ _ h
        · have h := h.2 hc
          refine pw_iconst (v := (0 : Int32)) dL_law_325 (by decide) ?_
          exact pw_ireturn dL_law_326 rfl rfl ⟨_, rfl, h⟩
      by_cases hs5 : ((ev_xs E x3.toNatClampNeg) &&& (31 : Int32)) = (5 : Int32)
      · have h := h.2.2.2.2.2.1 hs5
        refine pw_tswIn (tgt := 327) (off := 294) (5 : Int32) dL_law_33 hs5 (by decide) (by decide) (by decide +kernel) (by decide) ?_
        refine pw_aload_n dL_law_327 rfl 1 rfl ?_
        refine pw_callV (As := []) (rest := []) (s_X9_text hE h) dL_law_328 ly_0 rfl (Or.inl ml_L_37) cm_X9_text rfl ⟨by decide, by decide⟩ ⟨by decide, by decide⟩ (Nat.le_of_ble_eq_true rfl) ?_
        rintro _ G34 ⟨r33, rfl, h⟩
        refine pw_aload_n dL_law_331 rfl 2 rfl ?_
        refine pw_callV (As := []) (rest := [.int r33]) (s_X10_text hE h) dL_law_332 ly_49 rfl (Or.inl ml_L_41) cm_X10_text rfl ⟨by decide, by decide⟩ ⟨by decide, by decide⟩ (Nat.le_of_ble_eq_true rfl) ?_
        rintro _ G36 ⟨r35, rfl, h⟩
        refine pw_icmp_eq (tgt := 956) dL_law_335 (by decide) (fun hc => ?_) (fun hc => ?_)
        · have h := h.1 hc
          refine pw_iinc (k := 3) (v := x3 + 6) (lv' := [(3, .int (x3 + 6)), (0, .ref (ev_b E)), (1, .ref (ev_ad E 0)), (2, .ref (ev_ad E 49))]) dL_law_956 rfl rfl (by decide) rfl ?_
          refine pw_goto (tgt := 18) dL_law_959 (by decide) ?_
          refine pw_loc (lv' := [(0, .ref (ev_b E)), (1, .ref (ev_ad E 0)), (2, .ref (ev_ad E 49)), (3, .int (x3 + 6))]) [1, 2, 3, 0] rfl ?_
          exact ih _ _ h
        · have h := h.2 hc
          refine pw_iconst (v := (0 : Int32)) dL_law_338 (by decide) ?_
          exact pw_ireturn dL_law_339 rfl rfl ⟨_, rfl, h⟩
      by_cases hs6 : ((ev_xs E x3.toNatClampNeg) &&& (31 : Int32)) = (6 : Int32)
      · have h := h.2.2.2.2.2.2.1 hs6
        refine pw_tswIn (tgt := 340) (off := 307) (6 : Int32) dL_law_33 hs6 (by decide) (by decide) (by decide +kernel) (by decide) ?_
        refine pw_aload_n dL_law_340 rfl 1 rfl ?_
        refine pw_aload_n dL_law_341 rfl 0 rfl ?_
        refine pw_iload_n dL_law_342 rfl 3 rfl ?_
        refine pw_iconst (v := (1 : Int32)) dL_law_343 (by decide) ?_
        refine pw_iadd dL_law_344 ?_
        obtain ⟨hv37, h⟩ := h
        refine pw_sld dL_law_345 hv37 ?_
        refine pw_callV (As := [.int (ev_xs E ((x3 + (1 : Int32)).toNatClampNeg))]) (rest := []) (s_X9_fault hE h) dL_law_346 ly_0 rfl (Or.inl ml_L_42) cm_X9_fault rfl ⟨by decide, by decide⟩ ⟨by decide, by decide⟩ (Nat.le_of_ble_eq_true rfl) ?_
        rintro _ G39 ⟨r38, rfl, h⟩
        refine pw_aload_n dL_law_349 rfl 2 rfl ?_
        refine pw_aload_n dL_law_350 rfl 0 rfl ?_
        refine pw_iload_n dL_law_351 rfl 3 rfl ?_
        refine pw_iconst (v := (1 : Int32)) dL_law_352 (by decide) ?_
        refine pw_iadd dL_law_353 ?_
        refine pw_sld dL_law_354 hv37 ?_
        refine pw_callV (As := [.int (ev_xs E ((x3 + (1 : Int32)).toNatClampNeg))]) (rest := [.int r38]) (s_X10_fault hE h) dL_law_355 ly_49 rfl (Or.inl ml_L_45) cm_X10_fault rfl ⟨by decide, by decide⟩ ⟨by decide, by decide⟩ (Nat.le_of_ble_eq_true rfl) ?_
        rintro _ G41 ⟨r40, rfl, h⟩
        refine pw_icmp_eq (tgt := 956) dL_law_358 (by decide) (fun hc => ?_) (fun hc => ?_)
        · have h := h.1 hc
          refine pw_iinc (k := 3) (v := x3 + 6) (lv' := [(3, .int (x3 + 6)), (0, .ref (ev_b E)), (1, .ref (ev_ad E 0)), (2, .ref (ev_ad E 49))]) dL_law_956 rfl rfl (by decide) rfl ?_
          refine pw_goto (tgt := 18) dL_law_959 (by decide) ?_
          refine pw_loc (lv' := [(0, .ref (ev_b E)), (1, .ref (ev_ad E 0)), (2, .ref (ev_ad E 49)), (3, .int (x3 + 6))]) [1, 2, 3, 0] rfl ?_
          exact ih _ _ h
        · have h := h.2 hc
          refine pw_iconst (v := (0 : Int32)) dL_law_361 (by decide) ?_
          exact pw_ireturn dL_law_362 rfl rfl ⟨_, rfl, h⟩
      by_cases hs7 : ((ev_xs E x3.toNatClampNeg) &&& (31 : Int32)) = (7 : Int32)
      · have h := h.2.2.2.2.2.2.2.1 hs7
        refine pw_tswIn (tgt := 363) (off := 330) (7 : Int32) dL_law_33 hs7 (by decide) (by decide) (by decide +kernel) (by decide) ?_
        refine pw_aload_n dL_law_363 rfl 1 rfl ?_
        refine pw_aload_n dL_law_364 rfl 0 rfl ?_
        refine pw_iload_n dL_law_365 rfl 3 rfl ?_
        refine pw_iconst (v := (1 : Int32)) dL_law_366 (by decide) ?_
        refine pw_iadd dL_law_367 ?_
        obtain ⟨hv42, h⟩ := h
        refine pw_sld dL_law_368 hv42 ?_
        refine pw_aload_n dL_law_369 rfl 0 rfl ?_
        refine pw_iload_n dL_law_370 rfl 3 rfl ?_
        refine pw_iconst (v := (2 : Int32)) dL_law_371 (by decide) ?_
        refine pw_iadd dL_law_372 ?_
        obtain ⟨hv43, h⟩ := h
        refine pw_sld dL_law_373 hv43 ?_
        refine pw_callV (As := [.int (ev_xs E ((x3 + (1 : Int32)).toNatClampNeg)), .int (ev_xs E ((x3 + (2 : Int32)).toNatClampNeg))]) (rest := []) (s_X9_speak hE h) dL_law_374 ly_0 rfl (Or.inl ml_L_46) cm_X9_speak rfl ⟨by decide, by decide⟩ ⟨by decide, by decide⟩ (Nat.le_of_ble_eq_true rfl) ?_
        rintro _ G45 ⟨r44, rfl, h⟩
        refine pw_aload_n dL_law_377 rfl 2 rfl ?_
        refine pw_aload_n dL_law_378 rfl 0 rfl ?_
        refine pw_iload_n dL_law_379 rfl 3 rfl ?_
        refine pw_iconst (v := (1 : Int32)) dL_law_380 (by decide) ?_
        refine pw_iadd dL_law_381 ?_
        refine pw_sld dL_law_382 hv42 ?_
        refine pw_aload_n dL_law_383 rfl 0 rfl ?_
        refine pw_iload_n dL_law_384 rfl 3 rfl ?_
        refine pw_iconst (v := (2 : Int32)) dL_law_385 (by decide) ?_
        refine pw_iadd dL_law_386 ?_
        refine pw_sld dL_law_387 hv43 ?_
        refine pw_callV (As := [.int (ev_xs E ((x3 + (1 : Int32)).toNatClampNeg)), .int (ev_xs E ((x3 + (2 : Int32)).toNatClampNeg))]) (rest := [.int r44]) (s_X10_speak hE h) dL_law_388 ly_49 rfl (Or.inl ml_L_50) cm_X10_speak rfl ⟨by decide, by decide⟩ ⟨by decide, by decide⟩ (Nat.le_of_ble_eq_true rfl) ?_
        rintro _ G47 ⟨r46, rfl, h⟩
        refine pw_icmp_eq (tgt := 956) dL_law_391 (by decide) (fun hc => ?_) (fun hc => ?_)
        · have h := h.1 hc
          refine pw_iinc (k := 3) (v := x3 + 6) (lv' := [(3, .int (x3 + 6)), (0, .ref (ev_b E)), (1, .ref (ev_ad E 0)), (2, .ref (ev_ad E 49))]) dL_law_956 rfl rfl (by decide) rfl ?_
          refine pw_goto (tgt := 18) dL_law_959 (by decide) ?_
          refine pw_loc (lv' := [(0, .ref (ev_b E)), (1, .ref (ev_ad E 0)), (2, .ref (ev_ad E 49)), (3, .int (x3 + 6))]) [1, 2, 3, 0] rfl ?_
          exact ih _ _ h
        · have h := h.2 hc
          refine pw_iconst (v := (0 : Int32)) dL_law_394 (by decide) ?_
          exact pw_ireturn dL_law_395 rfl rfl ⟨_, rfl, h⟩
      by_cases hs8 : ((ev_xs E x3.toNatClampNeg) &&& (31 : Int32)) = (8 : Int32)
      · have h := h.2.2.2.2.2.2.2.2.1 hs8
        refine pw_tswIn (tgt := 396) (off := 363) (8 : Int32) dL_law_33 hs8 (by decide) (by decide) (by decide +kernel) (by decide) ?_
        refine pw_aload_n dL_law_396 rfl 1 rfl ?_
        refine pw_aload_n dL_law_397 rfl 0 rfl ?_
        refine pw_iload_n dL_law_398 rfl 3 rfl ?_
        refine pw_iconst (v := (1 : Int32)) dL_law_399 (by decide) ?_
        refine pw_iadd dL_law_400 ?_
        obtain ⟨hv48, h⟩ := h
        refine pw_sld dL_law_401 hv48 ?_
        refine pw_callV (As := [.int (ev_xs E ((x3 + (1 : Int32)).toNatClampNeg))]) (rest := []) (s_X9_hours hE h) dL_law_402 ly_0 rfl (Or.inl ml_L_51) cm_X9_hours rfl ⟨by decide, by decide⟩ ⟨by decide, by decide⟩ (Nat.le_of_ble_eq_true rfl) ?_
        rintro _ G50 ⟨r49, rfl, h⟩
        refine pw_aload_n dL_law_405 rfl 2 rfl ?_
        refine pw_aload_n dL_law_406 rfl 0 rfl ?_
        refine pw_iload_n dL_law_407 rfl 3 rfl ?_
        refine pw_iconst (v := (1 : Int32)) dL_law_408 (by decide) ?_
        refine pw_iadd dL_law_409 ?_
        refine pw_sld dL_law_410 hv48 ?_
        refine pw_callV (As := [.int (ev_xs E ((x3 + (1 : Int32)).toNatClampNeg))]) (rest := [.int r49]) (s_X10_hours hE h) dL_law_411 ly_49 rfl (Or.inl ml_L_54) cm_X10_hours rfl ⟨by decide, by decide⟩ ⟨by decide, by decide⟩ (Nat.le_of_ble_eq_true rfl) ?_
        rintro _ G52 ⟨r51, rfl, h⟩
        refine pw_icmp_eq (tgt := 956) dL_law_414 (by decide) (fun hc => ?_) (fun hc => ?_)
        · have h := h.1 hc
          refine pw_iinc (k := 3) (v := x3 + 6) (lv' := [(3, .int (x3 + 6)), (0, .ref (ev_b E)), (1, .ref (ev_ad E 0)), (2, .ref (ev_ad E 49))]) dL_law_956 rfl rfl (by decide) rfl ?_
          refine pw_goto (tgt := 18) dL_law_959 (by decide) ?_
          refine pw_loc (lv' := [(0, .ref (ev_b E)), (1, .ref (ev_ad E 0)), (2, .ref (ev_ad E 49)), (3, .int (x3 + 6))]) [1, 2, 3, 0] rfl ?_
          exact ih _ _ h
        · have h := h.2 hc
          refine pw_iconst (v := (0 : Int32)) dL_law_417 (by decide) ?_
          exact pw_ireturn dL_law_418 rfl rfl ⟨_, rfl, h⟩
      by_cases hs9 : ((ev_xs E x3.toNatClampNeg) &&& (31 : Int32)) = (9 : Int32)
      · have h := h.2.2.2.2.2.2.2.2.2.1 hs9
        refine pw_tswIn (tgt := 419) (off := 386) (9 : Int32) dL_law_33 hs9 (by decide) (by decide) (by decide +kernel) (by decide) ?_
        refine pw_aload_n dL_law_419 rfl 1 rfl ?_
        refine pw_aload_n dL_law_420 rfl 0 rfl ?_
        refine pw_iload_n dL_law_421 rfl 3 rfl ?_
        refine pw_iconst (v := (1 : Int32)) dL_law_422 (by decide) ?_
        refine pw_iadd dL_law_423 ?_
        obtain ⟨hv53, h⟩ := h
        refine pw_sld dL_law_424 hv53 ?_
        refine pw_aload_n dL_law_425 rfl 0 rfl ?_
        refine pw_iload_n dL_law_426 rfl 3 rfl ?_
        refine pw_iconst (v := (2 : Int32)) dL_law_427 (by decide) ?_
        refine pw_iadd dL_law_428 ?_
        obtain ⟨hv54, h⟩ := h
        refine pw_sld dL_law_429 hv54 ?_
        refine pw_callV (As := [.int (ev_xs E ((x3 + (1 : Int32)).toNatClampNeg)), .int (ev_xs E ((x3 + (2 : Int32)).toNatClampNeg))]) (rest := []) (s_X9_of hE h) dL_law_430 ly_0 rfl (Or.inl ml_L_55) cm_X9_of rfl ⟨by decide, by decide⟩ ⟨by decide, by decide⟩ (Nat.le_of_ble_eq_true rfl) ?_
        rintro _ G56 ⟨r55, rfl, h⟩
        refine pw_aload_n dL_law_433 rfl 2 rfl ?_
        refine pw_aload_n dL_law_434 rfl 0 rfl ?_
        refine pw_iload_n dL_law_435 rfl 3 rfl ?_
        refine pw_iconst (v := (1 : Int32)) dL_law_436 (by decide) ?_
        refine pw_iadd dL_law_437 ?_
        refine pw_sld dL_law_438 hv53 ?_
        refine pw_aload_n dL_law_439 rfl 0 rfl ?_
        refine pw_iload_n dL_law_440 rfl 3 rfl ?_
        refine pw_iconst (v := (2 : Int32)) dL_law_441 (by decide) ?_
        refine pw_iadd dL_law_442 ?_
        refine pw_sld dL_law_443 hv54 ?_
        refine pw_callV (As := [.int (ev_xs E ((x3 + (1 : Int32)).toNatClampNeg)), .int (ev_xs E ((x3 + (2 : Int32)).toNatClampNeg))]) (rest := [.int r55]) (s_X10_of hE h) dL_law_444 ly_49 rfl (Or.inl ml_L_58) cm_X10_of rfl ⟨by decide, by decide⟩ ⟨by decide, by decide⟩ (Nat.le_of_ble_eq_true rfl) ?_
        rintro _ G58 ⟨r57, rfl, h⟩
        refine pw_icmp_eq (tgt := 956) dL_law_447 (by decide) (fun hc => ?_) (fun hc => ?_)
        · have h := h.1 hc
          refine pw_iinc (k := 3) (v := x3 + 6) (lv' := [(3, .int (x3 + 6)), (0, .ref (ev_b E)), (1, .ref (ev_ad E 0)), (2, .ref (ev_ad E 49))]) dL_law_956 rfl rfl (by decide) rfl ?_
          refine pw_goto (tgt := 18) dL_law_959 (by decide) ?_
          refine pw_loc (lv' := [(0, .ref (ev_b E)), (1, .ref (ev_ad E 0)), (2, .ref (ev_ad E 49)), (3, .int (x3 + 6))]) [1, 2, 3, 0] rfl ?_
          exact ih _ _ h
        · have h := h.2 hc
          refine pw_iconst (v := (0 : Int32)) dL_law_450 (by decide) ?_
          exact pw_ireturn dL_law_451 rfl rfl ⟨_, rfl, h⟩
      by_cases hs10 : ((ev_xs E x3.toNatClampNeg) &&& (31 : Int32)) = (10 : Int32)
      · have h := h.2.2.2.2.2.2.2.2.2.2.1 hs10
        refine pw_tswIn (tgt := 452) (off := 419) (10 : Int32) dL_law_33 hs10 (by decide) (by decide) (by decide +kernel) (by decide) ?_
        refine pw_aload_n dL_law_452 rfl 1 rfl ?_
        refine pw_aload_n dL_law_453 rfl 0 rfl ?_
        refine pw_iload_n dL_law_454 rfl 3 rfl ?_
        refine pw_iconst (v := (1 : Int32)) dL_law_455 (by decide) ?_
        refine pw_iadd dL_law_456 ?_
        obtain ⟨hv59, h⟩ := h
        refine pw_sld dL_law_457 hv59 ?_
        refine pw_aload_n dL_law_458 rfl 0 rfl ?_
        refine pw_iload_n dL_law_459 rfl 3 rfl ?_
        refine pw_iconst (v := (2 : Int32)) dL_law_460 (by decide) ?_
        refine pw_iadd dL_law_461 ?_
        obtain ⟨hv60, h⟩ := h
        refine pw_sld dL_law_462 hv60 ?_
        refine pw_aload_n dL_law_463 rfl 0 rfl ?_
        refine pw_iload_n dL_law_464 rfl 3 rfl ?_
        refine pw_iconst (v := (3 : Int32)) dL_law_465 (by decide) ?_
        refine pw_iadd dL_law_466 ?_
        obtain ⟨hv61, h⟩ := h
        refine pw_sld dL_law_467 hv61 ?_
        refine pw_callV (As := [.int (ev_xs E ((x3 + (1 : Int32)).toNatClampNeg)), .int (ev_xs E ((x3 + (2 : Int32)).toNatClampNeg)), .int (ev_xs E ((x3 + (3 : Int32)).toNatClampNeg))]) (rest := []) (s_X9_hears hE h) dL_law_468 ly_0 rfl (Or.inl ml_L_59) cm_X9_hears rfl ⟨by decide, by decide⟩ ⟨by decide, by decide⟩ (Nat.le_of_ble_eq_true rfl) ?_
        rintro _ G63 ⟨r62, rfl, h⟩
        refine pw_aload_n dL_law_471 rfl 2 rfl ?_
        refine pw_aload_n dL_law_472 rfl 0 rfl ?_
        refine pw_iload_n dL_law_473 rfl 3 rfl ?_
        refine pw_iconst (v := (1 : Int32)) dL_law_474 (by decide) ?_
        refine pw_iadd dL_law_475 ?_
        refine pw_sld dL_law_476 hv59 ?_
        refine pw_aload_n dL_law_477 rfl 0 rfl ?_
        refine pw_iload_n dL_law_478 rfl 3 rfl ?_
        refine pw_iconst (v := (2 : Int32)) dL_law_479 (by decide) ?_
        refine pw_iadd dL_law_480 ?_
        refine pw_sld dL_law_481 hv60 ?_
        refine pw_aload_n dL_law_482 rfl 0 rfl ?_
        refine pw_iload_n dL_law_483 rfl 3 rfl ?_
        refine pw_iconst (v := (3 : Int32)) dL_law_484 (by decide) ?_
        refine pw_iadd dL_law_485 ?_
        refine pw_sld dL_law_486 hv61 ?_
        refine pw_callV (As := [.int (ev_xs E ((x3 + (1 : Int32)).toNatClampNeg)), .int (ev_xs E ((x3 + (2 : Int32)).toNatClampNeg)), .int (ev_xs E ((x3 + (3 : Int32)).toNatClampNeg))]) (rest := [.int r62]) (s_X10_hears hE h) dL_law_487 ly_49 rfl (Or.inl ml_L_63) cm_X10_hears rfl ⟨by decide, by decide⟩ ⟨by decide, by decide⟩ (Nat.le_of_ble_eq_true rfl) ?_
        rintro _ G65 ⟨r64, rfl, h⟩
        refine pw_icmp_eq (tgt := 956) dL_law_490 (by decide) (fun hc => ?_) (fun hc => ?_)
        · have h := h.1 hc
          refine pw_iinc (k := 3) (v := x3 + 6) (lv' := [(3, .int (x3 + 6)), (0, .ref (ev_b E)), (1, .ref (ev_ad E 0)), (2, .ref (ev_ad E 49))]) dL_law_956 rfl rfl (by decide) rfl ?_
          refine pw_goto (tgt := 18) dL_law_959 (by decide) ?_
          refine pw_loc (lv' := [(0, .ref (ev_b E)), (1, .ref (ev_ad E 0)), (2, .ref (ev_ad E 49)), (3, .int (x3 + 6))]) [1, 2, 3, 0] rfl ?_
          exact ih _ _ h
        · have h := h.2 hc
          refine pw_iconst (v := (0 : Int32)) dL_law_493 (by decide) ?_
          exact pw_ireturn dL_law_494 rfl rfl ⟨_, rfl, h⟩
      by_cases hs11 : ((ev_xs E x3.toNatClampNeg) &&& (31 : Int32)) = (11 : Int32)
      · have h := h.2.2.2.2.2.2.2.2.2.2.2.1 hs11
        refine pw_tswIn (tgt := 495) (off := 462) (11 : Int32) dL_law_33 hs11 (by decide) (by decide) (by decide +kernel) (by decide) ?_
        refine pw_aload_n dL_law_495 rfl 1 rfl ?_
        refine pw_aload_n dL_law_496 rfl 0 rfl ?_
        refine pw_iload_n dL_law_497 rfl 3 rfl ?_
        refine pw_iconst (v := (1 : Int32)) dL_law_498 (by decide) ?_
        refine pw_iadd dL_law_499 ?_
        obtain ⟨hv66, h⟩ := h
        refine pw_sld dL_law_500 hv66 ?_
        refine pw_aload_n dL_law_501 rfl 0 rfl ?_
        refine pw_iload_n dL_law_502 rfl 3 rfl ?_
        refine pw_iconst (v := (2 : Int32)) dL_law_503 (by decide) ?_
        refine pw_iadd dL_law_504 ?_
        obtain ⟨hv67, h⟩ := h
        refine pw_sld dL_law_505 hv67 ?_
        refine pw_callV (As := [.int (ev_xs E ((x3 + (1 : Int32)).toNatClampNeg)), .int (ev_xs E ((x3 + (2 : Int32)).toNatClampNeg))]) (rest := []) (s_X9_deaf hE h) dL_law_506 ly_0 rfl (Or.inl ml_L_64) cm_X9_deaf rfl ⟨by decide, by decide⟩ ⟨by decide, by decide⟩ (Nat.le_of_ble_eq_true rfl) ?_
        rintro _ G69 ⟨r68, rfl, h⟩
        refine pw_aload_n dL_law_509 rfl 2 rfl ?_
        refine pw_aload_n dL_law_510 rfl 0 rfl ?_
        refine pw_iload_n dL_law_511 rfl 3 rfl ?_
        refine pw_iconst (v := (1 : Int32)) dL_law_512 (by decide) ?_
        refine pw_iadd dL_law_513 ?_
        refine pw_sld dL_law_514 hv66 ?_
        refine pw_aload_n dL_law_515 rfl 0 rfl ?_
        refine pw_iload_n dL_law_516 rfl 3 rfl ?_
        refine pw_iconst (v := (2 : Int32)) dL_law_517 (by decide) ?_
        refine pw_iadd dL_law_518 ?_
        refine pw_sld dL_law_519 hv67 ?_
        refine pw_callV (As := [.int (ev_xs E ((x3 + (1 : Int32)).toNatClampNeg)), .int (ev_xs E ((x3 + (2 : Int32)).toNatClampNeg))]) (rest := [.int r68]) (s_X10_deaf hE h) dL_law_520 ly_49 rfl (Or.inl ml_L_67) cm_X10_deaf rfl ⟨by decide, by decide⟩ ⟨by decide, by decide⟩ (Nat.le_of_ble_eq_true rfl) ?_
        rintro _ G71 ⟨r70, rfl, h⟩
        refine pw_icmp_eq (tgt := 956) dL_law_523 (by decide) (fun hc => ?_) (fun hc => ?_)
        · have h := h.1 hc
          refine pw_iinc (k := 3) (v := x3 + 6) (lv' := [(3, .int (x3 + 6)), (0, .ref (ev_b E)), (1, .ref (ev_ad E 0)), (2, .ref (ev_ad E 49))]) dL_law_956 rfl rfl (by decide) rfl ?_
          refine pw_goto (tgt := 18) dL_law_959 (by decide) ?_
          refine pw_loc (lv' := [(0, .ref (ev_b E)), (1, .ref (ev_ad E 0)), (2, .ref (ev_ad E 49)), (3, .int (x3 + 6))]) [1, 2, 3, 0] rfl ?_
          exact ih _ _ h
        · have h := h.2 hc
          refine pw_iconst (v := (0 : Int32)) dL_law_526 (by decide) ?_
          exact pw_ireturn dL_law_527 rfl rfl ⟨_, rfl, h⟩
      by_cases hs12 : ((ev_xs E x3.toNatClampNeg) &&& (31 : Int32)) = (12 : Int32)
      · have h := h.2.2.2.2.2.2.2.2.2.2.2.2.1 hs12
        refine pw_tswIn (tgt := 528) (off := 495) (12 : Int32) dL_law_33 hs12 (by decide) (by decide) (by decide +kernel) (by decide) ?_
        refine pw_aload_n dL_law_528 rfl 1 rfl ?_
        refine pw_aload_n dL_law_529 rfl 0 rfl ?_
        refine pw_iload_n dL_law_530 rfl 3 rfl ?_
        refine pw_iconst (v := (1 : Int32)) dL_law_531 (by decide) ?_
        refine pw_iadd dL_law_532 ?_
        obtain ⟨hv72, h⟩ := h
        refine pw_sld dL_law_533 hv72 ?_
        refine pw_aload_n dL_law_534 rfl 0 rfl ?_
        refine pw_iload_n dL_law_535 rfl 3 rfl ?_
        refine pw_iconst (v := (2 : Int32)) dL_law_536 (by decide) ?_
        refine pw_iadd dL_law_537 ?_
        obtain ⟨hv73, h⟩ := h
        refine pw_sld dL_law_538 hv73 ?_
        refine pw_callV (As := [.int (ev_xs E ((x3 + (1 : Int32)).toNatClampNeg)), .int (ev_xs E ((x3 + (2 : Int32)).toNatClampNeg))]) (rest := []) (s_X9_book hE h) dL_law_539 ly_0 rfl (Or.inl ml_L_68) cm_X9_book rfl ⟨by decide, by decide⟩ ⟨by decide, by decide⟩ (Nat.le_of_ble_eq_true rfl) ?_
        rintro _ G75 ⟨r74, rfl, h⟩
        refine pw_aload_n dL_law_542 rfl 2 rfl ?_
        refine pw_aload_n dL_law_543 rfl 0 rfl ?_
        refine pw_iload_n dL_law_544 rfl 3 rfl ?_
        refine pw_iconst (v := (1 : Int32)) dL_law_545 (by decide) ?_
        refine pw_iadd dL_law_546 ?_
        refine pw_sld dL_law_547 hv72 ?_
        refine pw_aload_n dL_law_548 rfl 0 rfl ?_
        refine pw_iload_n dL_law_549 rfl 3 rfl ?_
        refine pw_iconst (v := (2 : Int32)) dL_law_550 (by decide) ?_
        refine pw_iadd dL_law_551 ?_
        refine pw_sld dL_law_552 hv73 ?_
        refine pw_callV (As := [.int (ev_xs E ((x3 + (1 : Int32)).toNatClampNeg)), .int (ev_xs E ((x3 + (2 : Int32)).toNatClampNeg))]) (rest := [.int r74]) (s_X10_book hE h) dL_law_553 ly_49 rfl (Or.inl ml_L_71) cm_X10_book rfl ⟨by decide, by decide⟩ ⟨by decide, by decide⟩ (Nat.le_of_ble_eq_true rfl) ?_
        rintro _ G77 ⟨r76, rfl, h⟩
        refine pw_icmp_eq (tgt := 956) dL_law_556 (by decide) (fun hc => ?_) (fun hc => ?_)
        · have h := h.1 hc
          refine pw_iinc (k := 3) (v := x3 + 6) (lv' := [(3, .int (x3 + 6)), (0, .ref (ev_b E)), (1, .ref (ev_ad E 0)), (2, .ref (ev_ad E 49))]) dL_law_956 rfl rfl (by decide) rfl ?_
          refine pw_goto (tgt := 18) dL_law_959 (by decide) ?_
          refine pw_loc (lv' := [(0, .ref (ev_b E)), (1, .ref (ev_ad E 0)), (2, .ref (ev_ad E 49)), (3, .int (x3 + 6))]) [1, 2, 3, 0] rfl ?_
          exact ih _ _ h
        · have h := h.2 hc
          refine pw_iconst (v := (0 : Int32)) dL_law_559 (by decide) ?_
          exact pw_ireturn dL_law_560 rfl rfl ⟨_, rfl, h⟩
      by_cases hs13 : ((ev_xs E x3.toNatClampNeg) &&& (31 : Int32)) = (13 : Int32)
      · have h := h.2.2.2.2.2.2.2.2.2.2.2.2.2.1 hs13
        refine pw_tswIn (tgt := 561) (off := 528) (13 : Int32) dL_law_33 hs13 (by decide) (by decide) (by decide +kernel) (by decide) ?_
        refine pw_aload_n dL_law_561 rfl 1 rfl ?_
        refine pw_aload_n dL_law_562 rfl 0 rfl ?_
        refine pw_iload_n dL_law_563 rfl 3 rfl ?_
        refine pw_iconst (v := (1 : Int32)) dL_law_564 (by decide) ?_
        refine pw_iadd dL_law_565 ?_
        obtain ⟨hv78, h⟩ := h
        refine pw_sld dL_law_566 hv78 ?_
        refine pw_aload_n dL_law_567 rfl 0 rfl ?_
        refine pw_iload_n dL_law_568 rfl 3 rfl ?_
        refine pw_iconst (v := (2 : Int32)) dL_law_569 (by decide) ?_
        refine pw_iadd dL_law_570 ?_
        obtain ⟨hv79, h⟩ := h
        refine pw_sld dL_law_571 hv79 ?_
        refine pw_callV (As := [.int (ev_xs E ((x3 + (1 : Int32)).toNatClampNeg)), .int (ev_xs E ((x3 + (2 : Int32)).toNatClampNeg))]) (rest := []) (s_X9_tune hE h) dL_law_572 ly_0 rfl (Or.inl ml_L_72) cm_X9_tune rfl ⟨by decide, by decide⟩ ⟨by decide, by decide⟩ (Nat.le_of_ble_eq_true rfl) ?_
        rintro _ G81 ⟨r80, rfl, h⟩
        refine pw_aload_n dL_law_575 rfl 2 rfl ?_
        refine pw_aload_n dL_law_576 rfl 0 rfl ?_
        refine pw_iload_n dL_law_577 rfl 3 rfl ?_
        refine pw_iconst (v := (1 : Int32)) dL_law_578 (by decide) ?_
        refine pw_iadd dL_law_579 ?_
        refine pw_sld dL_law_580 hv78 ?_
        refine pw_aload_n dL_law_581 rfl 0 rfl ?_
        refine pw_iload_n dL_law_582 rfl 3 rfl ?_
        refine pw_iconst (v := (2 : Int32)) dL_law_583 (by decide) ?_
        refine pw_iadd dL_law_584 ?_
        refine pw_sld dL_law_585 hv79 ?_
        refine pw_callV (As := [.int (ev_xs E ((x3 + (1 : Int32)).toNatClampNeg)), .int (ev_xs E ((x3 + (2 : Int32)).toNatClampNeg))]) (rest := [.int r80]) (s_X10_tune hE h) dL_law_586 ly_49 rfl (Or.inl ml_L_75) cm_X10_tune rfl ⟨by decide, by decide⟩ ⟨by decide, by decide⟩ (Nat.le_of_ble_eq_true rfl) ?_
        rintro _ G83 ⟨r82, rfl, h⟩
        refine pw_icmp_eq (tgt := 956) dL_law_589 (by decide) (fun hc => ?_) (fun hc => ?_)
        · have h := h.1 hc
          refine pw_iinc (k := 3) (v := x3 + 6) (lv' := [(3, .int (x3 + 6)), (0, .ref (ev_b E)), (1, .ref (ev_ad E 0)), (2, .ref (ev_ad E 49))]) dL_law_956 rfl rfl (by decide) rfl ?_
          refine pw_goto (tgt := 18) dL_law_959 (by decide) ?_
          refine pw_loc (lv' := [(0, .ref (ev_b E)), (1, .ref (ev_ad E 0)), (2, .ref (ev_ad E 49)), (3, .int (x3 + 6))]) [1, 2, 3, 0] rfl ?_
          exact ih _ _ h
        · have h := h.2 hc
          refine pw_iconst (v := (0 : Int32)) dL_law_592 (by decide) ?_
          exact pw_ireturn dL_law_593 rfl rfl ⟨_, rfl, h⟩
      by_cases hs14 : ((ev_xs E x3.toNatClampNeg) &&& (31 : Int32)) = (14 : Int32)
      · have h := h.2.2.2.2.2.2.2.2.2.2.2.2.2.2.1 hs14
        refine pw_tswIn (tgt := 594) (off := 561) (14 : Int32) dL_law_33 hs14 (by decide) (by decide) (by decide +kernel) (by decide) ?_
        refine pw_aload_n dL_law_594 rfl 1 rfl ?_
        refine pw_aload_n dL_law_595 rfl 0 rfl ?_
        refine pw_iload_n dL_law_596 rfl 3 rfl ?_
        refine pw_iconst (v := (1 : Int32)) dL_law_597 (by decide) ?_
        refine pw_iadd dL_law_598 ?_
        obtain ⟨hv84, h⟩ := h
        refine pw_sld dL_law_599 hv84 ?_
        refine pw_aload_n dL_law_600 rfl 0 rfl ?_
        refine pw_iload_n dL_law_601 rfl 3 rfl ?_
        refine pw_iconst (v := (2 : Int32)) dL_law_602 (by decide) ?_
        refine pw_iadd dL_law_603 ?_
        obtain ⟨hv85, h⟩ := h
        refine pw_sld dL_law_604 hv85 ?_
        refine pw_callV (As := [.int (ev_xs E ((x3 + (1 : Int32)).toNatClampNeg)), .int (ev_xs E ((x3 + (2 : Int32)).toNatClampNeg))]) (rest := []) (s_X9_same hE h) dL_law_605 ly_0 rfl (Or.inl ml_L_76) cm_X9_same rfl ⟨by decide, by decide⟩ ⟨by decide, by decide⟩ (Nat.le_of_ble_eq_true rfl) ?_
        rintro _ G87 ⟨r86, rfl, h⟩
        refine pw_aload_n dL_law_608 rfl 2 rfl ?_
        refine pw_aload_n dL_law_609 rfl 0 rfl ?_
        refine pw_iload_n dL_law_610 rfl 3 rfl ?_
        refine pw_iconst (v := (1 : Int32)) dL_law_611 (by decide) ?_
        refine pw_iadd dL_law_612 ?_
        refine pw_sld dL_law_613 hv84 ?_
        refine pw_aload_n dL_law_614 rfl 0 rfl ?_
        refine pw_iload_n dL_law_615 rfl 3 rfl ?_
        refine pw_iconst (v := (2 : Int32)) dL_law_616 (by decide) ?_
        refine pw_iadd dL_law_617 ?_
        refine pw_sld dL_law_618 hv85 ?_
        refine pw_callV (As := [.int (ev_xs E ((x3 + (1 : Int32)).toNatClampNeg)), .int (ev_xs E ((x3 + (2 : Int32)).toNatClampNeg))]) (rest := [.int r86]) (s_X10_same hE h) dL_law_619 ly_49 rfl (Or.inl ml_L_79) cm_X10_same rfl ⟨by decide, by decide⟩ ⟨by decide, by decide⟩ (Nat.le_of_ble_eq_true rfl) ?_
        rintro _ G89 ⟨r88, rfl, h⟩
        refine pw_icmp_eq (tgt := 956) dL_law_622 (by decide) (fun hc => ?_) (fun hc => ?_)
        · have h := h.1 hc
          refine pw_iinc (k := 3) (v := x3 + 6) (lv' := [(3, .int (x3 + 6)), (0, .ref (ev_b E)), (1, .ref (ev_ad E 0)), (2, .ref (ev_ad E 49))]) dL_law_956 rfl rfl (by decide) rfl ?_
          refine pw_goto (tgt := 18) dL_law_959 (by decide) ?_
          refine pw_loc (lv' := [(0, .ref (ev_b E)), (1, .ref (ev_ad E 0)), (2, .ref (ev_ad E 49)), (3, .int (x3 + 6))]) [1, 2, 3, 0] rfl ?_
          exact ih _ _ h
        · have h := h.2 hc
          refine pw_iconst (v := (0 : Int32)) dL_law_625 (by decide) ?_
          exact pw_ireturn dL_law_626 rfl rfl ⟨_, rfl, h⟩
      by_cases hs15 : ((ev_xs E x3.toNatClampNeg) &&& (31 : Int32)) = (15 : Int32)
      · have h := h.2.2.2.2.2.2.2.2.2.2.2.2.2.2.2.1 hs15
        refine pw_tswIn (tgt := 627) (off := 594) (15 : Int32) dL_law_33 hs15 (by decide) (by decide) (by decide +kernel) (by decide) ?_
        refine pw_aload_n dL_law_627 rfl 1 rfl ?_
        refine pw_aload_n dL_law_628 rfl 0 rfl ?_
        refine pw_iload_n dL_law_629 rfl 3 rfl ?_
        refine pw_iconst (v := (1 : Int32)) dL_law_630 (by decide) ?_
        refine pw_iadd dL_law_631 ?_
        obtain ⟨hv90, h⟩ := h
        refine pw_sld dL_law_632 hv90 ?_
        refine pw_aload_n dL_law_633 rfl 0 rfl ?_
        refine pw_iload_n dL_law_634 rfl 3 rfl ?_
        refine pw_iconst (v := (2 : Int32)) dL_law_635 (by decide) ?_
        refine pw_iadd dL_law_636 ?_
        obtain ⟨hv91, h⟩ := h
        refine pw_sld dL_law_637 hv91 ?_
        refine pw_callV (As := [.int (ev_xs E ((x3 + (1 : Int32)).toNatClampNeg)), .int (ev_xs E ((x3 + (2 : Int32)).toNatClampNeg))]) (rest := []) (s_X9_pair hE h) dL_law_638 ly_0 rfl (Or.inl ml_L_80) cm_X9_pair rfl ⟨by decide, by decide⟩ ⟨by decide, by decide⟩ (Nat.le_of_ble_eq_true rfl) ?_
        rintro _ G93 ⟨r92, rfl, h⟩
        refine pw_aload_n dL_law_641 rfl 2 rfl ?_
        refine pw_aload_n dL_law_642 rfl 0 rfl ?_
        refine pw_iload_n dL_law_643 rfl 3 rfl ?_
        refine pw_iconst (v := (1 : Int32)) dL_law_644 (by decide) ?_
        refine pw_iadd dL_law_645 ?_
        refine pw_sld dL_law_646 hv90 ?_
        refine pw_aload_n dL_law_647 rfl 0 rfl ?_
        refine pw_iload_n dL_law_648 rfl 3 rfl ?_
        refine pw_iconst (v := (2 : Int32)) dL_law_649 (by decide) ?_
        refine pw_iadd dL_law_650 ?_
        refine pw_sld dL_law_651 hv91 ?_
        refine pw_callV (As := [.int (ev_xs E ((x3 + (1 : Int32)).toNatClampNeg)), .int (ev_xs E ((x3 + (2 : Int32)).toNatClampNeg))]) (rest := [.int r92]) (s_X10_pair hE h) dL_law_652 ly_49 rfl (Or.inl ml_L_83) cm_X10_pair rfl ⟨by decide, by decide⟩ ⟨by decide, by decide⟩ (Nat.le_of_ble_eq_true rfl) ?_
        rintro _ G95 ⟨r94, rfl, h⟩
        refine pw_icmp_eq (tgt := 956) dL_law_655 (by decide) (fun hc => ?_) (fun hc => ?_)
        · have h := h.1 hc
          refine pw_iinc (k := 3) (v := x3 + 6) (lv' := [(3, .int (x3 + 6)), (0, .ref (ev_b E)), (1, .ref (ev_ad E 0)), (2, .ref (ev_ad E 49))]) dL_law_956 rfl rfl (by decide) rfl ?_
          refine pw_goto (tgt := 18) dL_law_959 (by decide) ?_
          refine pw_loc (lv' := [(0, .ref (ev_b E)), (1, .ref (ev_ad E 0)), (2, .ref (ev_ad E 49)), (3, .int (x3 + 6))]) [1, 2, 3, 0] rfl ?_
          exact ih _ _ h
        · have h := h.2 hc
          refine pw_iconst (v := (0 : Int32)) dL_law_658 (by decide) ?_
          exact pw_ireturn dL_law_659 rfl rfl ⟨_, rfl, h⟩
      by_cases hs16 : ((ev_xs E x3.toNatClampNeg) &&& (31 : Int32)) = (16 : Int32)
      · have h := h.2.2.2.2.2.2.2.2.2.2.2.2.2.2.2.2.1 hs16
        refine pw_tswIn (tgt := 660) (off := 627) (16 : Int32) dL_law_33 hs16 (by decide) (by decide) (by decide +kernel) (by decide) ?_
        refine pw_aload_n dL_law_660 rfl 1 rfl ?_
        refine pw_aload_n dL_law_661 rfl 0 rfl ?_
        refine pw_iload_n dL_law_662 rfl 3 rfl ?_
        refine pw_iconst (v := (1 : Int32)) dL_law_663 (by decide) ?_
        refine pw_iadd dL_law_664 ?_
        obtain ⟨hv96, h⟩ := h
        refine pw_sld dL_law_665 hv96 ?_
        refine pw_callV (As := [.int (ev_xs E ((x3 + (1 : Int32)).toNatClampNeg))]) (rest := []) (s_X9_turnOf hE h) dL_law_666 ly_0 rfl (Or.inl ml_L_84) cm_X9_turnOf rfl ⟨by decide, by decide⟩ ⟨by decide, by decide⟩ (Nat.le_of_ble_eq_true rfl) ?_
        rintro _ G98 ⟨r97, rfl, h⟩
        refine pw_aload_n dL_law_669 rfl 2 rfl ?_
        refine pw_aload_n dL_law_670 rfl 0 rfl ?_
        refine pw_iload_n dL_law_671 rfl 3 rfl ?_
        refine pw_iconst (v := (1 : Int32)) dL_law_672 (by decide) ?_
        refine pw_iadd dL_law_673 ?_
        refine pw_sld dL_law_674 hv96 ?_
        refine pw_callV (As := [.int (ev_xs E ((x3 + (1 : Int32)).toNatClampNeg))]) (rest := [.int r97]) (s_X10_turnOf hE h) dL_law_675 ly_49 rfl (Or.inl ml_L_87) cm_X10_turnOf rfl ⟨by decide, by decide⟩ ⟨by decide, by decide⟩ (Nat.le_of_ble_eq_true rfl) ?_
        rintro _ G100 ⟨r99, rfl, h⟩
        refine pw_icmp_eq (tgt := 956) dL_law_678 (by decide) (fun hc => ?_) (fun hc => ?_)
        · have h := h.1 hc
          refine pw_iinc (k := 3) (v := x3 + 6) (lv' := [(3, .int (x3 + 6)), (0, .ref (ev_b E)), (1, .ref (ev_ad E 0)), (2, .ref (ev_ad E 49))]) dL_law_956 rfl rfl (by decide) rfl ?_
          refine pw_goto (tgt := 18) dL_law_959 (by decide) ?_
          refine pw_loc (lv' := [(0, .ref (ev_b E)), (1, .ref (ev_ad E 0)), (2, .ref (ev_ad E 49)), (3, .int (x3 + 6))]) [1, 2, 3, 0] rfl ?_
          exact ih _ _ h
        · have h := h.2 hc
          refine pw_iconst (v := (0 : Int32)) dL_law_681 (by decide) ?_
          exact pw_ireturn dL_law_682 rfl rfl ⟨_, rfl, h⟩
      by_cases hs17 : ((ev_xs E x3.toNatClampNeg) &&& (31 : Int32)) = (17 : Int32)
      · have h := h.2.2.2.2.2.2.2.2.2.2.2.2.2.2.2.2.2.1 hs17
        refine pw_tswIn (tgt := 683) (off := 650) (17 : Int32) dL_law_33 hs17 (by decide) (by decide) (by decide +kernel) (by decide) ?_
        refine pw_aload_n dL_law_683 rfl 1 rfl ?_
        refine pw_aload_n dL_law_684 rfl 0 rfl ?_
        refine pw_iload_n dL_law_685 rfl 3 rfl ?_
        refine pw_iconst (v := (1 : Int32)) dL_law_686 (by decide) ?_
        refine pw_iadd dL_law_687 ?_
        obtain ⟨hv101, h⟩ := h
        refine pw_sld dL_law_688 hv101 ?_
        refine pw_callV (As := [.int (ev_xs E ((x3 + (1 : Int32)).toNatClampNeg))]) (rest := []) (s_X9_tell hE h) dL_law_689 ly_0 rfl (Or.inl ml_L_88) cm_X9_tell rfl ⟨by decide, by decide⟩ ⟨by decide, by decide⟩ (Nat.le_of_ble_eq_true rfl) ?_
        rintro _ G103 ⟨r102, rfl, h⟩
        refine pw_aload_n dL_law_692 rfl 2 rfl ?_
        refine pw_aload_n dL_law_693 rfl 0 rfl ?_
        refine pw_iload_n dL_law_694 rfl 3 rfl ?_
        refine pw_iconst (v := (1 : Int32)) dL_law_695 (by decide) ?_
        refine pw_iadd dL_law_696 ?_
        refine pw_sld dL_law_697 hv101 ?_
        refine pw_callV (As := [.int (ev_xs E ((x3 + (1 : Int32)).toNatClampNeg))]) (rest := [.int r102]) (s_X10_tell hE h) dL_law_698 ly_49 rfl (Or.inl ml_L_91) cm_X10_tell rfl ⟨by decide, by decide⟩ ⟨by decide, by decide⟩ (Nat.le_of_ble_eq_true rfl) ?_
        rintro _ G105 ⟨r104, rfl, h⟩
        refine pw_icmp_eq (tgt := 956) dL_law_701 (by decide) (fun hc => ?_) (fun hc => ?_)
        · have h := h.1 hc
          refine pw_iinc (k := 3) (v := x3 + 6) (lv' := [(3, .int (x3 + 6)), (0, .ref (ev_b E)), (1, .ref (ev_ad E 0)), (2, .ref (ev_ad E 49))]) dL_law_956 rfl rfl (by decide) rfl ?_
          refine pw_goto (tgt := 18) dL_law_959 (by decide) ?_
          refine pw_loc (lv' := [(0, .ref (ev_b E)), (1, .ref (ev_ad E 0)), (2, .ref (ev_ad E 49)), (3, .int (x3 + 6))]) [1, 2, 3, 0] rfl ?_
          exact ih _ _ h
        · have h := h.2 hc
          refine pw_iconst (v := (0 : Int32)) dL_law_704 (by decide) ?_
          exact pw_ireturn dL_law_705 rfl rfl ⟨_, rfl, h⟩
      by_cases hs18 : ((ev_xs E x3.toNatClampNeg) &&& (31 : Int32)) = (18 : Int32)
      · have h := h.2.2.2.2.2.2.2.2.2.2.2.2.2.2.2.2.2.2.1 hs18
        refine pw_tswIn (tgt := 706) (off := 673) (18 : Int32) dL_law_33 hs18 (by decide) (by decide) (by decide +kernel) (by decide) ?_
        refine pw_aload_n dL_law_706 rfl 1 rfl ?_
        refine pw_aload_n dL_law_707 rfl 0 rfl ?_
        refine pw_iload_n dL_law_708 rfl 3 rfl ?_
        refine pw_iconst (v := (1 : Int32)) dL_law_709 (by decide) ?_
        refine pw_iadd dL_law_710 ?_
        obtain ⟨hv106, h⟩ := h
        refine pw_sld dL_law_711 hv106 ?_
        refine pw_aload_n dL_law_712 rfl 0 rfl ?_
        refine pw_iload_n dL_law_713 rfl 3 rfl ?_
        refine pw_iconst (v := (2 : Int32)) dL_law_714 (by decide) ?_
        refine pw_iadd dL_law_715 ?_
        obtain ⟨hv107, h⟩ := h
        refine pw_sld dL_law_716 hv107 ?_
        refine pw_callV (As := [.int (ev_xs E ((x3 + (1 : Int32)).toNatClampNeg)), .int (ev_xs E ((x3 + (2 : Int32)).toNatClampNeg))]) (rest := []) (s_X9_fit hE h) dL_law_717 ly_0 rfl (Or.inl ml_L_92) cm_X9_fit rfl ⟨by decide, by decide⟩ ⟨by decide, by decide⟩ (Nat.le_of_ble_eq_true rfl) ?_
        rintro _ G109 ⟨r108, rfl, h⟩
        refine pw_aload_n dL_law_720 rfl 2 rfl ?_
        refine pw_aload_n dL_law_721 rfl 0 rfl ?_
        refine pw_iload_n dL_law_722 rfl 3 rfl ?_
        refine pw_iconst (v := (1 : Int32)) dL_law_723 (by decide) ?_
        refine pw_iadd dL_law_724 ?_
        refine pw_sld dL_law_725 hv106 ?_
        refine pw_aload_n dL_law_726 rfl 0 rfl ?_
        refine pw_iload_n dL_law_727 rfl 3 rfl ?_
        refine pw_iconst (v := (2 : Int32)) dL_law_728 (by decide) ?_
        refine pw_iadd dL_law_729 ?_
        refine pw_sld dL_law_730 hv107 ?_
        refine pw_callV (As := [.int (ev_xs E ((x3 + (1 : Int32)).toNatClampNeg)), .int (ev_xs E ((x3 + (2 : Int32)).toNatClampNeg))]) (rest := [.int r108]) (s_X10_fit hE h) dL_law_731 ly_49 rfl (Or.inl ml_L_95) cm_X10_fit rfl ⟨by decide, by decide⟩ ⟨by decide, by decide⟩ (Nat.le_of_ble_eq_true rfl) ?_
        rintro _ G111 ⟨r110, rfl, h⟩
        refine pw_icmp_eq (tgt := 956) dL_law_734 (by decide) (fun hc => ?_) (fun hc => ?_)
        · have h := h.1 hc
          refine pw_iinc (k := 3) (v := x3 + 6) (lv' := [(3, .int (x3 + 6)), (0, .ref (ev_b E)), (1, .ref (ev_ad E 0)), (2, .ref (ev_ad E 49))]) dL_law_956 rfl rfl (by decide) rfl ?_
          refine pw_goto (tgt := 18) dL_law_959 (by decide) ?_
          refine pw_loc (lv' := [(0, .ref (ev_b E)), (1, .ref (ev_ad E 0)), (2, .ref (ev_ad E 49)), (3, .int (x3 + 6))]) [1, 2, 3, 0] rfl ?_
          exact ih _ _ h
        · have h := h.2 hc
          refine pw_iconst (v := (0 : Int32)) dL_law_737 (by decide) ?_
          exact pw_ireturn dL_law_738 rfl rfl ⟨_, rfl, h⟩
      by_cases hs19 : ((ev_xs E x3.toNatClampNeg) &&& (31 : Int32)) = (19 : Int32)
      · have h := h.2.2.2.2.2.2.2.2.2.2.2.2.2.2.2.2.2.2.2.1 hs19
        refine pw_tswIn (tgt := 739) (off := 706) (19 : Int32) dL_law_33 hs19 (by decide) (by decide) (by decide +kernel) (by decide) ?_
        refine pw_aload_n dL_law_739 rfl 1 rfl ?_
        refine pw_aload_n dL_law_740 rfl 0 rfl ?_
        refine pw_iload_n dL_law_741 rfl 3 rfl ?_
        refine pw_iconst (v := (1 : Int32)) dL_law_742 (by decide) ?_
        refine pw_iadd dL_law_743 ?_
        obtain ⟨hv112, h⟩ := h
        refine pw_sld dL_law_744 hv112 ?_
        refine pw_callV (As := [.int (ev_xs E ((x3 + (1 : Int32)).toNatClampNeg))]) (rest := []) (s_X9_fewest hE h) dL_law_745 ly_0 rfl (Or.inl ml_L_96) cm_X9_fewest rfl ⟨by decide, by decide⟩ ⟨by decide, by decide⟩ (Nat.le_of_ble_eq_true rfl) ?_
        rintro _ G114 ⟨r113, rfl, h⟩
        refine pw_aload_n dL_law_748 rfl 2 rfl ?_
        refine pw_aload_n dL_law_749 rfl 0 rfl ?_
        refine pw_iload_n dL_law_750 rfl 3 rfl ?_
        refine pw_iconst (v := (1 : Int32)) dL_law_751 (by decide) ?_
        refine pw_iadd dL_law_752 ?_
        refine pw_sld dL_law_753 hv112 ?_
        refine pw_callV (As := [.int (ev_xs E ((x3 + (1 : Int32)).toNatClampNeg))]) (rest := [.int r113]) (s_X10_fewest hE h) dL_law_754 ly_49 rfl (Or.inl ml_L_99) cm_X10_fewest rfl ⟨by decide, by decide⟩ ⟨by decide, by decide⟩ (Nat.le_of_ble_eq_true rfl) ?_
        rintro _ G116 ⟨r115, rfl, h⟩
        refine pw_icmp_eq (tgt := 956) dL_law_757 (by decide) (fun hc => ?_) (fun hc => ?_)
        · have h := h.1 hc
          refine pw_iinc (k := 3) (v := x3 + 6) (lv' := [(3, .int (x3 + 6)), (0, .ref (ev_b E)), (1, .ref (ev_ad E 0)), (2, .ref (ev_ad E 49))]) dL_law_956 rfl rfl (by decide) rfl ?_
          refine pw_goto (tgt := 18) dL_law_959 (by decide) ?_
          refine pw_loc (lv' := [(0, .ref (ev_b E)), (1, .ref (ev_ad E 0)), (2, .ref (ev_ad E 49)), (3, .int (x3 + 6))]) [1, 2, 3, 0] rfl ?_
          exact ih _ _ h
        · have h := h.2 hc
          refine pw_iconst (v := (0 : Int32)) dL_law_760 (by decide) ?_
          exact pw_ireturn dL_law_761 rfl rfl ⟨_, rfl, h⟩
      by_cases hs20 : ((ev_xs E x3.toNatClampNeg) &&& (31 : Int32)) = (20 : Int32)
      · have h := h.2.2.2.2.2.2.2.2.2.2.2.2.2.2.2.2.2.2.2.2.1 hs20
        refine pw_tswIn (tgt := 762) (off := 729) (20 : Int32) dL_law_33 hs20 (by decide) (by decide) (by decide +kernel) (by decide) ?_
        refine pw_aload_n dL_law_762 rfl 1 rfl ?_
        refine pw_aload_n dL_law_763 rfl 0 rfl ?_
        refine pw_iload_n dL_law_764 rfl 3 rfl ?_
        refine pw_iconst (v := (1 : Int32)) dL_law_765 (by decide) ?_
        refine pw_iadd dL_law_766 ?_
        obtain ⟨hv117, h⟩ := h
        refine pw_sld dL_law_767 hv117 ?_
        refine pw_aload_n dL_law_768 rfl 0 rfl ?_
        refine pw_iload_n dL_law_769 rfl 3 rfl ?_
        refine pw_iconst (v := (2 : Int32)) dL_law_770 (by decide) ?_
        refine pw_iadd dL_law_771 ?_
        obtain ⟨hv118, h⟩ := h
        refine pw_sld dL_law_772 hv118 ?_
        refine pw_callV (As := [.int (ev_xs E ((x3 + (1 : Int32)).toNatClampNeg)), .int (ev_xs E ((x3 + (2 : Int32)).toNatClampNeg))]) (rest := []) (s_X9_ruler hE h) dL_law_773 ly_0 rfl (Or.inl ml_L_100) cm_X9_ruler rfl ⟨by decide, by decide⟩ ⟨by decide, by decide⟩ (Nat.le_of_ble_eq_true rfl) ?_
        rintro _ G120 ⟨r119, rfl, h⟩
        refine pw_aload_n dL_law_776 rfl 2 rfl ?_
        refine pw_aload_n dL_law_777 rfl 0 rfl ?_
        refine pw_iload_n dL_law_778 rfl 3 rfl ?_
        refine pw_iconst (v := (1 : Int32)) dL_law_779 (by decide) ?_
        refine pw_iadd dL_law_780 ?_
        refine pw_sld dL_law_781 hv117 ?_
        refine pw_aload_n dL_law_782 rfl 0 rfl ?_
        refine pw_iload_n dL_law_783 rfl 3 rfl ?_
        refine pw_iconst (v := (2 : Int32)) dL_law_784 (by decide) ?_
        refine pw_iadd dL_law_785 ?_
        refine pw_sld dL_law_786 hv118 ?_
        refine pw_callV (As := [.int (ev_xs E ((x3 + (1 : Int32)).toNatClampNeg)), .int (ev_xs E ((x3 + (2 : Int32)).toNatClampNeg))]) (rest := [.int r119]) (s_X10_ruler hE h) dL_law_787 ly_49 rfl (Or.inl ml_L_103) cm_X10_ruler rfl ⟨by decide, by decide⟩ ⟨by decide, by decide⟩ (Nat.le_of_ble_eq_true rfl) ?_
        rintro _ G122 ⟨r121, rfl, h⟩
        refine pw_icmp_eq (tgt := 956) dL_law_790 (by decide) (fun hc => ?_) (fun hc => ?_)
        · have h := h.1 hc
          refine pw_iinc (k := 3) (v := x3 + 6) (lv' := [(3, .int (x3 + 6)), (0, .ref (ev_b E)), (1, .ref (ev_ad E 0)), (2, .ref (ev_ad E 49))]) dL_law_956 rfl rfl (by decide) rfl ?_
          refine pw_goto (tgt := 18) dL_law_959 (by decide) ?_
          refine pw_loc (lv' := [(0, .ref (ev_b E)), (1, .ref (ev_ad E 0)), (2, .ref (ev_ad E 49)), (3, .int (x3 + 6))]) [1, 2, 3, 0] rfl ?_
          exact ih _ _ h
        · have h := h.2 hc
          refine pw_iconst (v := (0 : Int32)) dL_law_793 (by decide) ?_
          exact pw_ireturn dL_law_794 rfl rfl ⟨_, rfl, h⟩
      by_cases hs21 : ((ev_xs E x3.toNatClampNeg) &&& (31 : Int32)) = (21 : Int32)
      · have h := h.2.2.2.2.2.2.2.2.2.2.2.2.2.2.2.2.2.2.2.2.2.1 hs21
        refine pw_tswIn (tgt := 795) (off := 762) (21 : Int32) dL_law_33 hs21 (by decide) (by decide) (by decide +kernel) (by decide) ?_
        refine pw_aload_n dL_law_795 rfl 1 rfl ?_
        refine pw_aload_n dL_law_796 rfl 0 rfl ?_
        refine pw_iload_n dL_law_797 rfl 3 rfl ?_
        refine pw_iconst (v := (1 : Int32)) dL_law_798 (by decide) ?_
        refine pw_iadd dL_law_799 ?_
        obtain ⟨hv123, h⟩ := h
        refine pw_sld dL_law_800 hv123 ?_
        refine pw_aload_n dL_law_801 rfl 0 rfl ?_
        refine pw_iload_n dL_law_802 rfl 3 rfl ?_
        refine pw_iconst (v := (2 : Int32)) dL_law_803 (by decide) ?_
        refine pw_iadd dL_law_804 ?_
        obtain ⟨hv124, h⟩ := h
        refine pw_sld dL_law_805 hv124 ?_
        refine pw_aload_n dL_law_806 rfl 0 rfl ?_
        refine pw_iload_n dL_law_807 rfl 3 rfl ?_
        refine pw_iconst (v := (3 : Int32)) dL_law_808 (by decide) ?_
        refine pw_iadd dL_law_809 ?_
        obtain ⟨hv125, h⟩ := h
        refine pw_sld dL_law_810 hv125 ?_
        refine pw_aload_n dL_law_811 rfl 0 rfl ?_
        refine pw_iload_n dL_law_812 rfl 3 rfl ?_
        refine pw_iconst (v := (4 : Int32)) dL_law_813 (by decide) ?_
        refine pw_iadd dL_law_814 ?_
        obtain ⟨hv126, h⟩ := h
        refine pw_sld dL_law_815 hv126 ?_
        refine pw_aload_n dL_law_816 rfl 0 rfl ?_
        refine pw_iload_n dL_law_817 rfl 3 rfl ?_
        refine pw_iconst (v := (5 : Int32)) dL_law_818 (by decide) ?_
        refine pw_iadd dL_law_819 ?_
        obtain ⟨hv127, h⟩ := h
        refine pw_sld dL_law_820 hv127 ?_
        refine pw_callV (As := [.int (ev_xs E ((x3 + (1 : Int32)).toNatClampNeg)), .int (ev_xs E ((x3 + (2 : Int32)).toNatClampNeg)), .int (ev_xs E ((x3 + (3 : Int32)).toNatClampNeg)), .int (ev_xs E ((x3 + (4 : Int32)).toNatClampNeg)), .int (ev_xs E ((x3 + (5 : Int32)).toNatClampNeg))]) (rest := []) (s_X9_alone hE h) dL_law_821 ly_0 rfl (Or.inl ml_L_104) cm_X9_alone rfl ⟨by decide, by decide⟩ ⟨by decide, by decide⟩ (Nat.le_of_ble_eq_true rfl) ?_
        rintro _ G129 ⟨r128, rfl, h⟩
        refine pw_aload_n dL_law_824 rfl 2 rfl ?_
        refine pw_aload_n dL_law_825 rfl 0 rfl ?_
        refine pw_iload_n dL_law_826 rfl 3 rfl ?_
        refine pw_iconst (v := (1 : Int32)) dL_law_827 (by decide) ?_
        refine pw_iadd dL_law_828 ?_
        refine pw_sld dL_law_829 hv123 ?_
        refine pw_aload_n dL_law_830 rfl 0 rfl ?_
        refine pw_iload_n dL_law_831 rfl 3 rfl ?_
        refine pw_iconst (v := (2 : Int32)) dL_law_832 (by decide) ?_
        refine pw_iadd dL_law_833 ?_
        refine pw_sld dL_law_834 hv124 ?_
        refine pw_aload_n dL_law_835 rfl 0 rfl ?_
        refine pw_iload_n dL_law_836 rfl 3 rfl ?_
        refine pw_iconst (v := (3 : Int32)) dL_law_837 (by decide) ?_
        refine pw_iadd dL_law_838 ?_
        refine pw_sld dL_law_839 hv125 ?_
        refine pw_aload_n dL_law_840 rfl 0 rfl ?_
        refine pw_iload_n dL_law_841 rfl 3 rfl ?_
        refine pw_iconst (v := (4 : Int32)) dL_law_842 (by decide) ?_
        refine pw_iadd dL_law_843 ?_
        refine pw_sld dL_law_844 hv126 ?_
        refine pw_aload_n dL_law_845 rfl 0 rfl ?_
        refine pw_iload_n dL_law_846 rfl 3 rfl ?_
        refine pw_iconst (v := (5 : Int32)) dL_law_847 (by decide) ?_
        refine pw_iadd dL_law_848 ?_
        refine pw_sld dL_law_849 hv127 ?_
        refine pw_callV (As := [.int (ev_xs E ((x3 + (1 : Int32)).toNatClampNeg)), .int (ev_xs E ((x3 + (2 : Int32)).toNatClampNeg)), .int (ev_xs E ((x3 + (3 : Int32)).toNatClampNeg)), .int (ev_xs E ((x3 + (4 : Int32)).toNatClampNeg)), .int (ev_xs E ((x3 + (5 : Int32)).toNatClampNeg))]) (rest := [.int r128]) (s_X10_alone hE h) dL_law_850 ly_49 rfl (Or.inl ml_L_107) cm_X10_alone rfl ⟨by decide, by decide⟩ ⟨by decide, by decide⟩ (Nat.le_of_ble_eq_true rfl) ?_
        rintro _ G131 ⟨r130, rfl, h⟩
        refine pw_icmp_eq (tgt := 956) dL_law_853 (by decide) (fun hc => ?_) (fun hc => ?_)
        · have h := h.1 hc
          refine pw_iinc (k := 3) (v := x3 + 6) (lv' := [(3, .int (x3 + 6)), (0, .ref (ev_b E)), (1, .ref (ev_ad E 0)), (2, .ref (ev_ad E 49))]) dL_law_956 rfl rfl (by decide) rfl ?_
          refine pw_goto (tgt := 18) dL_law_959 (by decide) ?_
          refine pw_loc (lv' := [(0, .ref (ev_b E)), (1, .ref (ev_ad E 0)), (2, .ref (ev_ad E 49)), (3, .int (x3 + 6))]) [1, 2, 3, 0] rfl ?_
          exact ih _ _ h
        · have h := h.2 hc
          refine pw_iconst (v := (0 : Int32)) dL_law_856 (by decide) ?_
          exact pw_ireturn dL_law_857 rfl rfl ⟨_, rfl, h⟩
      by_cases hs22 : ((ev_xs E x3.toNatClampNeg) &&& (31 : Int32)) = (22 : Int32)
      · have h := h.2.2.2.2.2.2.2.2.2.2.2.2.2.2.2.2.2.2.2.2.2.2.1 hs22
        refine pw_tswIn (tgt := 858) (off := 825) (22 : Int32) dL_law_33 hs22 (by decide) (by decide) (by decide +kernel) (by decide) ?_
        refine pw_aload_n dL_law_858 rfl 1 rfl ?_
        refine pw_aload_n dL_law_859 rfl 0 rfl ?_
        refine pw_iload_n dL_law_860 rfl 3 rfl ?_
        refine pw_iconst (v := (1 : Int32)) dL_law_861 (by decide) ?_
        refine pw_iadd dL_law_862 ?_
        obtain ⟨hv132, h⟩ := h
        refine pw_sld dL_law_863 hv132 ?_
        refine pw_callV (As := [.int (ev_xs E ((x3 + (1 : Int32)).toNatClampNeg))]) (rest := []) (s_X9_safe hE h) dL_law_864 ly_0 rfl (Or.inl ml_L_108) cm_X9_safe rfl ⟨by decide, by decide⟩ ⟨by decide, by decide⟩ (Nat.le_of_ble_eq_true rfl) ?_
        rintro _ G134 ⟨r133, rfl, h⟩
        refine pw_aload_n dL_law_867 rfl 2 rfl ?_
        refine pw_aload_n dL_law_868 rfl 0 rfl ?_
        refine pw_iload_n dL_law_869 rfl 3 rfl ?_
        refine pw_iconst (v := (1 : Int32)) dL_law_870 (by decide) ?_
        refine pw_iadd dL_law_871 ?_
        refine pw_sld dL_law_872 hv132 ?_
        refine pw_callV (As := [.int (ev_xs E ((x3 + (1 : Int32)).toNatClampNeg))]) (rest := [.int r133]) (s_X10_safe hE h) dL_law_873 ly_49 rfl (Or.inl ml_L_111) cm_X10_safe rfl ⟨by decide, by decide⟩ ⟨by decide, by decide⟩ (Nat.le_of_ble_eq_true rfl) ?_
        rintro _ G136 ⟨r135, rfl, h⟩
        refine pw_icmp_eq (tgt := 956) dL_law_876 (by decide) (fun hc => ?_) (fun hc => ?_)
        · have h := h.1 hc
          refine pw_iinc (k := 3) (v := x3 + 6) (lv' := [(3, .int (x3 + 6)), (0, .ref (ev_b E)), (1, .ref (ev_ad E 0)), (2, .ref (ev_ad E 49))]) dL_law_956 rfl rfl (by decide) rfl ?_
          refine pw_goto (tgt := 18) dL_law_959 (by decide) ?_
          refine pw_loc (lv' := [(0, .ref (ev_b E)), (1, .ref (ev_ad E 0)), (2, .ref (ev_ad E 49)), (3, .int (x3 + 6))]) [1, 2, 3, 0] rfl ?_
          exact ih _ _ h
        · have h := h.2 hc
          refine pw_iconst (v := (0 : Int32)) dL_law_879 (by decide) ?_
          exact pw_ireturn dL_law_880 rfl rfl ⟨_, rfl, h⟩
      by_cases hs23 : ((ev_xs E x3.toNatClampNeg) &&& (31 : Int32)) = (23 : Int32)
      · have h := h.2.2.2.2.2.2.2.2.2.2.2.2.2.2.2.2.2.2.2.2.2.2.2.1 hs23
        refine pw_tswIn (tgt := 881) (off := 848) (23 : Int32) dL_law_33 hs23 (by decide) (by decide) (by decide +kernel) (by decide) ?_
        refine pw_aload_n dL_law_881 rfl 1 rfl ?_
        refine pw_callV (As := []) (rest := []) (s_X9_undo hE h) dL_law_882 ly_0 rfl (Or.inl ml_L_112) cm_X9_undo rfl ⟨by decide, by decide⟩ ⟨by decide, by decide⟩ (Nat.le_of_ble_eq_true rfl) ?_
        rintro _ G138 ⟨r137, rfl, h⟩
        refine pw_aload_n dL_law_885 rfl 2 rfl ?_
        refine pw_callV (As := []) (rest := [.int r137]) (s_X10_undo hE h) dL_law_886 ly_49 rfl (Or.inl ml_L_116) cm_X10_undo rfl ⟨by decide, by decide⟩ ⟨by decide, by decide⟩ (Nat.le_of_ble_eq_true rfl) ?_
        rintro _ G140 ⟨r139, rfl, h⟩
        refine pw_icmp_eq (tgt := 956) dL_law_889 (by decide) (fun hc => ?_) (fun hc => ?_)
        · have h := h.1 hc
          refine pw_iinc (k := 3) (v := x3 + 6) (lv' := [(3, .int (x3 + 6)), (0, .ref (ev_b E)), (1, .ref (ev_ad E 0)), (2, .ref (ev_ad E 49))]) dL_law_956 rfl rfl (by decide) rfl ?_
          refine pw_goto (tgt := 18) dL_law_959 (by decide) ?_
          refine pw_loc (lv' := [(0, .ref (ev_b E)), (1, .ref (ev_ad E 0)), (2, .ref (ev_ad E 49)), (3, .int (x3 + 6))]) [1, 2, 3, 0] rfl ?_
          exact ih _ _ h
        · have h := h.2 hc
          refine pw_iconst (v := (0 : Int32)) dL_law_892 (by decide) ?_
          exact pw_ireturn dL_law_893 rfl rfl ⟨_, rfl, h⟩
      by_cases hs24 : ((ev_xs E x3.toNatClampNeg) &&& (31 : Int32)) = (24 : Int32)
      · have h := h.2.2.2.2.2.2.2.2.2.2.2.2.2.2.2.2.2.2.2.2.2.2.2.2.1 hs24
        refine pw_tswIn (tgt := 894) (off := 861) (24 : Int32) dL_law_33 hs24 (by decide) (by decide) (by decide +kernel) (by decide) ?_
        refine pw_aload_n dL_law_894 rfl 1 rfl ?_
        refine pw_aload_n dL_law_895 rfl 0 rfl ?_
        refine pw_iload_n dL_law_896 rfl 3 rfl ?_
        refine pw_iconst (v := (1 : Int32)) dL_law_897 (by decide) ?_
        refine pw_iadd dL_law_898 ?_
        obtain ⟨hv141, h⟩ := h
        refine pw_sld dL_law_899 hv141 ?_
        refine pw_if_eq (tgt := 907) dL_law_900 (by decide) (fun hc => ?_) (fun hc => ?_)
        · have h := h.1 hc
          refine pw_iconst (v := (0 : Int32)) dL_law_907 (by decide) ?_
          refine pw_loc (lv' := [(0, .ref (ev_b E)), (1, .ref (ev_ad E 0)), (2, .ref (ev_ad E 49)), (3, .int x3)]) [0, 1, 2, 3] rfl ?_
          exact t_L_law_908 hE Q (fun y3 G => lp_L_law_18 E Q n y3 G) ih h
        · have h := h.2 hc
          refine pw_iconst (v := (1 : Int32)) dL_law_903 (by decide) ?_
          refine pw_goto (tgt := 908) dL_law_904 (by decide) ?_
          refine pw_loc (lv' := [(0, .ref (ev_b E)), (1, .ref (ev_ad E 0)), (2, .ref (ev_ad E 49)), (3, .int x3)]) [0, 1, 2, 3] rfl ?_
          exact t_L_law_908 hE Q (fun y3 G => lp_L_law_18 E Q n y3 G) ih h
      by_cases hs25 : ((ev_xs E x3.toNatClampNeg) &&& (31 : Int32)) = (25 : Int32)
      · have h := h.2.2.2.2.2.2.2.2.2.2.2.2.2.2.2.2.2.2.2.2.2.2.2.2.2.1 hs25
        refine pw_tswIn (tgt := 933) (off := 900) (25 : Int32) dL_law_33 hs25 (by decide) (by decide) (by decide +kernel) (by decide) ?_
        refine pw_aload_n dL_law_933 rfl 1 rfl ?_
        refine pw_aload_n dL_law_934 rfl 0 rfl ?_
        refine pw_iload_n dL_law_935 rfl 3 rfl ?_
        refine pw_iconst (v := (1 : Int32)) dL_law_936 (by decide) ?_
        refine pw_iadd dL_law_937 ?_
        obtain ⟨hv142, h⟩ := h
        refine pw_sld dL_law_938 hv142 ?_
        refine pw_callV (As := [.int (ev_xs E ((x3 + (1 : Int32)).toNatClampNeg))]) (rest := []) (s_X9_look hE h) dL_law_939 ly_0 rfl (Or.inl ml_L_122) cm_X9_look rfl ⟨by decide, by decide⟩ ⟨by decide, by decide⟩ (Nat.le_of_ble_eq_true rfl) ?_
        rintro _ G144 ⟨r143, rfl, h⟩
        refine pw_aload_n dL_law_942 rfl 2 rfl ?_
        refine pw_aload_n dL_law_943 rfl 0 rfl ?_
        refine pw_iload_n dL_law_944 rfl 3 rfl ?_
        refine pw_iconst (v := (1 : Int32)) dL_law_945 (by decide) ?_
        refine pw_iadd dL_law_946 ?_
        refine pw_sld dL_law_947 hv142 ?_
        refine pw_callV (As := [.int (ev_xs E ((x3 + (1 : Int32)).toNatClampNeg))]) (rest := [.int r143]) (s_X10_look hE h) dL_law_948 ly_49 rfl (Or.inl ml_L_125) cm_X10_look rfl ⟨by decide, by decide⟩ ⟨by decide, by decide⟩ (Nat.le_of_ble_eq_true rfl) ?_
        rintro _ G146 ⟨r145, rfl, h⟩
        refine pw_icmp_eq (tgt := 956) dL_law_951 (by decide) (fun hc => ?_) (fun hc => ?_)
        · have h := h.1 hc
          refine pw_iinc (k := 3) (v := x3 + 6) (lv' := [(3, .int (x3 + 6)), (0, .ref (ev_b E)), (1, .ref (ev_ad E 0)), (2, .ref (ev_ad E 49))]) dL_law_956 rfl rfl (by decide) rfl ?_
          refine pw_goto (tgt := 18) dL_law_959 (by decide) ?_
          refine pw_loc (lv' := [(0, .ref (ev_b E)), (1, .ref (ev_ad E 0)), (2, .ref (ev_ad E 49)), (3, .int (x3 + 6))]) [1, 2, 3, 0] rfl ?_
          exact ih _ _ h
        · have h := h.2 hc
          refine pw_iconst (v := (0 : Int32)) dL_law_954 (by decide) ?_
          exact pw_ireturn dL_law_955 rfl rfl ⟨_, rfl, h⟩
      have h := h.2.2.2.2.2.2.2.2.2.2.2.2.2.2.2.2.2.2.2.2.2.2.2.2.2.2 hs0 hs1 hs2 hs3 hs4 hs5 hs6 hs7 hs8 hs9 hs10 hs11 hs12 hs13 hs14 hs15 hs16 hs17 hs18 hs19 hs20 hs21 hs22 hs23 hs24 hs25
      refine pw_tswOut (tgt := 956) dL_law_33 (by have := lv_neT hs0 (show (0 : Int32).toInt = 0 from by decide); have := lv_neT hs1 (show (1 : Int32).toInt = 1 from by decide); have := lv_neT hs2 (show (2 : Int32).toInt = 2 from by decide); have := lv_neT hs3 (show (3 : Int32).toInt = 3 from by decide); have := lv_neT hs4 (show (4 : Int32).toInt = 4 from by decide); have := lv_neT hs5 (show (5 : Int32).toInt = 5 from by decide); have := lv_neT hs6 (show (6 : Int32).toInt = 6 from by decide); have := lv_neT hs7 (show (7 : Int32).toInt = 7 from by decide); have := lv_neT hs8 (show (8 : Int32).toInt = 8 from by decide); have := lv_neT hs9 (show (9 : Int32).toInt = 9 from by decide); have := lv_neT hs10 (show (10 : Int32).toInt = 10 from by decide); have := lv_neT hs11 (show (11 : Int32).toInt = 11 from by decide); have := lv_neT hs12 (show (12 : Int32).toInt = 12 from by decide); have := lv_neT hs13 (show (13 : Int32).toInt = 13 from by decide); have := lv_neT hs14 (show (14 : Int32).toInt = 14 from by decide); have := lv_neT hs15 (show (15 : Int32).toInt = 15 from by decide); have := lv_neT hs16 (show (16 : Int32).toInt = 16 from by decide); have := lv_neT hs17 (show (17 : Int32).toInt = 17 from by decide); have := lv_neT hs18 (show (18 : Int32).toInt = 18 from by decide); have := lv_neT hs19 (show (19 : Int32).toInt = 19 from by decide); have := lv_neT hs20 (show (20 : Int32).toInt = 20 from by decide); have := lv_neT hs21 (show (21 : Int32).toInt = 21 from by decide); have := lv_neT hs22 (show (22 : Int32).toInt = 22 from by decide); have := lv_neT hs23 (show (23 : Int32).toInt = 23 from by decide); have := lv_neT hs24 (show (24 : Int32).toInt = 24 from by decide); have := lv_neT hs25 (show (25 : Int32).toInt = 25 from by decide);  omega) (by decide) ?_
      refine pw_iinc (k := 3) (v := x3 + 6) (lv' := [(3, .int (x3 + 6)), (0, .ref (ev_b E)), (1, .ref (ev_ad E 0)), (2, .ref (ev_ad E 49))]) dL_law_956 rfl rfl (by decide) rfl ?_
      refine pw_goto (tgt := 18) dL_law_959 (by decide) ?_
      refine pw_loc (lv' := [(0, .ref (ev_b E)), (1, .ref (ev_ad E 0)), (2, .ref (ev_ad E 49)), (3, .int (x3 + 6))]) [1, 2, 3, 0] rfl ?_
      exact ih _ _ h
