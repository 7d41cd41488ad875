def bk_X10_isSo_71 (Q : Int32 → GS → Prop) (R33 : Int32 → Int32 → Int32 → Int32 → GS → Prop)  (x1 : Int32) (x2 : Int32) (x3 : Int32) (x4 : Int32) (G : GS) : Prop := (vp_in x4 800 ∧ ((¬ (G 59 x4.toNatClampNeg) = 0 → (vp_in (G 60 x4.toNatClampNeg) 9 ∧ (vp_in x3 420 ∧ R33 x1 x2 (x3 + (1 : Int32)) (x4 + 1) (gu_ G 63 x3.toNatClampNeg (G 62 ((G 60 x4.toNatClampNeg).toNatClampNeg)))))) ∧ ((G 59 x4.toNatClampNeg) = 0 → (vp_in x3 420 ∧ R33 x1 x2 (x3 + (1 : Int32)) (x4 + 1) (gu_ G 63 x3.toNatClampNeg (G 60 x4.toNatClampNeg))))))
set_option maxRecDepth 100000 in
set_option maxHeartbeats 4000000 in
theorem t_X10_isSo_71 {E : EV} (hE : EI_ E) (Q : Int32 → GS → Prop) (R33 : Int32 → Int32 → Int32 → Int32 → GS → Prop) (hR33 : ∀ (x1 : Int32) (x2 : Int32) (x3 : Int32) (x4 : Int32) (G : GS), R33 x1 x2 x3 x4 G → PW_ E mi_X10_isSo (rm_ 2) 0 0 33 [(0, .ref (ev_ad E 49)), (1, .int x1), (2, .int x2), (3, .int x3), (4, .int x4)] [] G (qi_ Q))  {x1 : Int32} {x2 : Int32} {x3 : Int32} {x4 : Int32} {G : GS} (h : bk_X10_isSo_71 Q R33 x1 x2 x3 x4 G) : PW_ E mi_X10_isSo (rm_ 2) 0 0 71 [(0, .ref (ev_ad E 49)), (1, .int x1), (2, .int x2), (3, .int x3), (4, .int x4)] [] G (qi_ Q) := by
  refine pw_aload_n dX10_isSo_71 rfl 0 rfl ?_
  refine pw_getr (q := 63) dX10_isSo_72 fa_X10_53 ly_49 rfl ?_
  refine pw_iload_n dX10_isSo_75 rfl 3 rfl ?_
  refine pw_aload_n dX10_isSo_76 rfl 0 rfl ?_
  refine pw_getr (q := 59) dX10_isSo_77 fa_X10_37 ly_49 rfl ?_
  refine pw_iload dX10_isSo_80 4 rfl ?_
  obtain ⟨hv9, h⟩ := h
  refine pw_iald (v := G 59 x4.toNatClampNeg) dX10_isSo_82 ly_59 hv9 rfl ?_
  refine pw_if_ne (tgt := 96) dX10_isSo_83 (by decide) (fun hc => ?_) (fun hc => ?_)
  · have h := h.1 hc
    refine pw_aload_n dX10_isSo_96 rfl 0 rfl ?_
    refine pw_getr (q := 62) dX10_isSo_97 fa_X10_50 ly_49 rfl ?_
    refine pw_aload_n dX10_isSo_100 rfl 0 rfl ?_
    refine pw_getr (q := 60) dX10_isSo_101 fa_X10_40 ly_49 rfl ?_
    refine pw_iload dX10_isSo_104 4 rfl ?_
    refine pw_iald (v := G 60 x4.toNatClampNeg) dX10_isSo_106 ly_60 hv9 rfl ?_
    obtain ⟨hv10, h⟩ := h
    refine pw_iald (v := G 62 ((G 60 x4.toNatClampNeg).toNatClampNeg)) dX10_isSo_107 ly_62 hv10 rfl ?_
    obtain ⟨hv11, h⟩ := h
    refine pw_iast (z := x3.toNatClampNeg) dX10_isSo_108 ly_63 hv11 rfl ?_
    refine pw_iload_n dX10_isSo_109 rfl 3 rfl ?_
    refine pw_iconst (v := (1 : Int32)) dX10_isSo_110 (by decide) ?_
    refine pw_iadd dX10_isSo_111 ?_
    refine pw_istore_n (lv' := [(3, .int (x3 + (1 : Int32))), (0, .ref (ev_ad E 49)), (1, .int x1), (2, .int x2), (4, .int x4)]) dX10_isSo_112 rfl (by decide) rfl ?_
    refine pw_goto (tgt := 186) dX10_isSo_113 (by decide) ?_
    refine pw_iinc (k := 4) (v := x4 + 1) (lv' := [(4, .int (x4 + 1)), (3, .int (x3 + (1 : Int32))), (0, .ref (ev_ad E 49)), (1, .int x1), (2, .int x2)]) dX10_isSo_186 rfl rfl (by decide) rfl ?_
    refine pw_goto (tgt := 33) dX10_isSo_189 (by decide) ?_
    refine pw_loc (lv' := [(0, .ref (ev_ad E 49)), (1, .int x1), (2, .int x2), (3, .int (x3 + (1 : Int32))), (4, .int (x4 + 1))]) [2, 3, 4, 1, 0] rfl ?_
    exact hR33 _ _ _ _ _ h
  · have h := h.2 hc
    refine pw_aload_n dX10_isSo_86 rfl 0 rfl ?_
    refine pw_getr (q := 60) dX10_isSo_87 fa_X10_40 ly_49 rfl ?_
    refine pw_iload dX10_isSo_90 4 rfl ?_
    refine pw_iald (v := G 60 x4.toNatClampNeg) dX10_isSo_92 ly_60 hv9 rfl ?_
    refine pw_goto (tgt := 108) dX10_isSo_93 (by decide) ?_
    obtain ⟨hv12, h⟩ := h
    refine pw_iast (z := x3.toNatClampNeg) dX10_isSo_108 ly_63 hv12 rfl ?_
    refine pw_iload_n dX10_isSo_109 rfl 3 rfl ?_
    refine pw_iconst (v := (1 : Int32)) dX10_isSo_110 (by decide) ?_
    refine pw_iadd dX10_isSo_111 ?_
    refine pw_istore_n (lv' := [(3, .int (x3 + (1 : Int32))), (0, .ref (ev_ad E 49)), (1, .int x1), (2, .int x2), (4, .int x4)]) dX10_isSo_112 rfl (by decide) rfl ?_
    refine pw_goto (tgt := 186) dX10_isSo_113 (by decide) ?_
    refine pw_iinc (k := 4) (v := x4 + 1) (lv' := [(4, .int (x4 + 1)), (3, .int (x3 + (1 : Int32))), (0, .ref (ev_ad E 49)), (1, .int x1), (2, .int x2)]) dX10_isSo_186 rfl rfl (by decide) rfl ?_
    refine pw_goto (tgt := 33) dX10_isSo_189 (by decide) ?_
    refine pw_loc (lv' := [(0, .ref (ev_ad E 49)), (1, .int x1), (2, .int x2), (3, .int (x3 + (1 : Int32))), (4, .int (x4 + 1))]) [2, 3, 4, 1, 0] rfl ?_
    exact hR33 _ _ _ _ _ h
def lp_X10_isSo_33 (Q : Int32 → GS → Prop)  : Nat → Int32 → Int32 → Int32 → Int32 → GS → Prop
  | 0, _, _, _, _, _ => False
  | n + 1, x1, x2, x3, x4, G => (vp_in x2 32 ∧ (((((400 : Int32) * x1) + (G 58 x2.toNatClampNeg)) ≤ x4 → (((G 63 0) = 0 → Q (0 : Int32) G) ∧ (¬ (G 63 0) = 0 → Q (1 : Int32) G))) ∧ (¬ (((400 : Int32) * x1) + (G 58 x2.toNatClampNeg)) ≤ x4 → (vp_in x4 800 ∧ (((G 59 x4.toNatClampNeg) = 0 → bk_X10_isSo_71 Q (fun y1 y2 y3 y4 G => lp_X10_isSo_33 Q n y1 y2 y3 y4 G) x1 x2 x3 x4 G) ∧ (¬ (G 59 x4.toNatClampNeg) = 0 → ((¬ (G 59 x4.toNatClampNeg) = (1 : Int32) → ((¬ (G 59 x4.toNatClampNeg) = (9 : Int32) → (vp_in ((x3 - (1 : Int32)) - (1 : Int32)) 420 ∧ (vp_in (x3 - (1 : Int32)) 420 ∧ wp_X10_twoOf (G 59 x4.toNatClampNeg) (G 63 (((x3 - (1 : Int32)) - (1 : Int32)).toNatClampNeg)) (G 63 ((x3 - (1 : Int32)).toNatClampNeg)) G (fun r6 G7 => lp_X10_isSo_33 Q n x1 x2 (x3 - (1 : Int32)) (x4 + 1) (gu_ G7 63 (((x3 - (1 : Int32)) - (1 : Int32)).toNatClampNeg) r6))))) ∧ ((G 59 x4.toNatClampNeg) = (9 : Int32) → (vp_in (x3 - (1 : Int32)) 420 ∧ lp_X10_isSo_33 Q n x1 x2 x3 (x4 + 1) (gu_ G 63 ((x3 - (1 : Int32)).toNatClampNeg) ((1 : Int32) - (G 63 ((x3 - (1 : Int32)).toNatClampNeg)))))))) ∧ ((G 59 x4.toNatClampNeg) = (1 : Int32) → bk_X10_isSo_71 Q (fun y1 y2 y3 y4 G => lp_X10_isSo_33 Q n y1 y2 y3 y4 G) x1 x2 x3 x4 G))))))))
set_option maxRecDepth 100000 in
set_option maxHeartbeats 4000000 in
theorem t_X10_isSo_33 {E : EV} (hE : EI_ E) (Q : Int32 → GS → Prop)  : ∀ (n : Nat) (x1 : Int32) (x2 : Int32) (x3 : Int32) (x4 : Int32) (G : GS), lp_X10_isSo_33 Q n x1 x2 x3 x4 G → PW_ E mi_X10_isSo (rm_ 2) 0 0 33 [(0, .ref (ev_ad E 49)), (1, .int x1), (2, .int x2), (3, .int x3), (4, .int x4)] [] G (qi_ Q) := by
  intro n
  induction n with
  | zero => intro x1 x2 x3 x4 G h; exact h.elim
  | succ n ih =>
    intro x1 x2 x3 x4 G h
    refine pw_iload dX10_isSo_33 4 rfl ?_
    refine pw_sipush (v := (400 : Int32)) dX10_isSo_35 (by decide) ?_
    refine pw_iload_n dX10_isSo_38 rfl 1 rfl ?_
    refine pw_imul dX10_isSo_39 ?_
    refine pw_aload_n dX10_isSo_40 rfl 0 rfl ?_
    refine pw_getr (q := 58) dX10_isSo_41 fa_X10_34 ly_49 rfl ?_
    refine pw_iload_n dX10_isSo_44 rfl 2 rfl ?_
    obtain ⟨hv2, h⟩ := h
    refine pw_iald (v := G 58 x2.toNatClampNeg) dX10_isSo_45 ly_58 hv2 rfl ?_
    refine pw_iadd dX10_isSo_46 ?_
    refine pw_icmp_ge (tgt := 192) dX10_isSo_47 (by decide) (fun hc => ?_) (fun hc => ?_)
    · have h := h.1 hc
      refine pw_aload_n dX10_isSo_192 rfl 0 rfl ?_
      refine pw_getr (q := 63) dX10_isSo_193 fa_X10_53 ly_49 rfl ?_
      refine pw_iconst (v := (0 : Int32)) dX10_isSo_196 (by decide) ?_
      refine pw_iald (v := G 63 0) dX10_isSo_197 ly_63 (by unfold vp_in; decide) rfl ?_
      refine pw_if_eq (tgt := 205) dX10_isSo_198 (by decide) (fun hc => ?_) (fun hc => ?_)
      · have h := h.1 hc
        refine pw_iconst (v := (0 : Int32)) dX10_isSo_205 (by decide) ?_
        exact pw_ireturn dX10_isSo_206 rfl rfl ⟨_, rfl, h⟩
      · have h := h.2 hc
        refine pw_iconst (v := (1 : Int32)) dX10_isSo_201 (by decide) ?_
        refine pw_goto (tgt := 206) dX10_isSo_202 (by decide) ?_
        exact pw_ireturn dX10_isSo_206 rfl rfl ⟨_, rfl, h⟩
    · have h := h.2 hc
      refine pw_aload_n dX10_isSo_50 rfl 0 rfl ?_
      refine pw_getr (q := 59) dX10_isSo_51 fa_X10_37 ly_49 rfl ?_
      refine pw_iload dX10_isSo_54 4 rfl ?_
      obtain ⟨hv3, h⟩ := h
      refine pw_iald (v := G 59 x4.toNatClampNeg) dX10_isSo_56 ly_59 hv3 rfl ?_
      refine pw_if_eq (tgt := 71) dX10_isSo_57 (by decide) (fun hc => ?_) (fun hc => ?_)
      · have h := h.1 hc
        refine pw_loc (lv' := [(0, .ref (ev_ad E 49)), (1, .int x1), (2, .int x2), (3, .int x3), (4, .int x4)]) [0, 1, 2, 3, 4] rfl ?_
        exact t_X10_isSo_71 hE Q (fun y1 y2 y3 y4 G => lp_X10_isSo_33 Q n y1 y2 y3 y4 G) ih h
      · have h := h.2 hc
        refine pw_aload_n dX10_isSo_60 rfl 0 rfl ?_
        refine pw_getr (q := 59) dX10_isSo_61 fa_X10_37 ly_49 rfl ?_
        refine pw_iload dX10_isSo_64 4 rfl ?_
        refine pw_iald (v := G 59 x4.toNatClampNeg) dX10_isSo_66 ly_59 hv3 rfl ?_
        refine pw_iconst (v := (1 : Int32)) dX10_isSo_67 (by decide) ?_
        refine pw_icmp_ne (tgt := 116) dX10_isSo_68 (by decide) (fun hc => ?_) (fun hc => ?_)
        · have h := h.1 hc
          refine pw_aload_n dX10_isSo_116 rfl 0 rfl ?_
          refine pw_getr (q := 59) dX10_isSo_117 fa_X10_37 ly_49 rfl ?_
          refine pw_iload dX10_isSo_120 4 rfl ?_
          refine pw_iald (v := G 59 x4.toNatClampNeg) dX10_isSo_122 ly_59 hv3 rfl ?_
          refine pw_bipush (v := (9 : Int32)) dX10_isSo_123 (by decide) ?_
          refine pw_icmp_ne (tgt := 149) dX10_isSo_125 (by decide) (fun hc => ?_) (fun hc => ?_)
          · have h := h.1 hc
            refine pw_iload_n dX10_isSo_149 rfl 3 rfl ?_
            refine pw_iconst (v := (1 : Int32)) dX10_isSo_150 (by decide) ?_
            refine pw_isub dX10_isSo_151 ?_
            refine pw_istore_n (lv' := [(3, .int (x3 - (1 : Int32))), (0, .ref (ev_ad E 49)), (1, .int x1), (2, .int x2), (4, .int x4)]) dX10_isSo_152 rfl (by decide) rfl ?_
            refine pw_aload_n dX10_isSo_153 rfl 1 rfl ?_
            refine pw_getr (q := 63) dX10_isSo_154 fa_X10_53 ly_49 rfl ?_
            refine pw_iload_n dX10_isSo_157 rfl 0 rfl ?_
            refine pw_iconst (v := (1 : Int32)) dX10_isSo_158 (by decide) ?_
            refine pw_isub dX10_isSo_159 ?_
            refine pw_aload_n dX10_isSo_160 rfl 1 rfl ?_
            refine pw_aload_n dX10_isSo_161 rfl 1 rfl ?_
            refine pw_getr (q := 59) dX10_isSo_162 fa_X10_37 ly_49 rfl ?_
            refine pw_iload dX10_isSo_165 4 rfl ?_
            refine pw_iald (v := G 59 x4.toNatClampNeg) dX10_isSo_167 ly_59 hv3 rfl ?_
            refine pw_aload_n dX10_isSo_168 rfl 1 rfl ?_
            refine pw_getr (q := 63) dX10_isSo_169 fa_X10_53 ly_49 rfl ?_
            refine pw_iload_n dX10_isSo_172 rfl 0 rfl ?_
            refine pw_iconst (v := (1 : Int32)) dX10_isSo_173 (by decide) ?_
            refine pw_isub dX10_isSo_174 ?_
            obtain ⟨hv4, h⟩ := h
            refine pw_iald (v := G 63 (((x3 - (1 : Int32)) - (1 : Int32)).toNatClampNeg)) dX10_isSo_175 ly_63 hv4 rfl ?_
            refine pw_aload_n dX10_isSo_176 rfl 1 rfl ?_
            refine pw_getr (q := 63) dX10_isSo_177 fa_X10_53 ly_49 rfl ?_
            refine pw_iload_n dX10_isSo_180 rfl 0 rfl ?_
            obtain ⟨hv5, h⟩ := h
            refine pw_iald (v := G 63 ((x3 - (1 : Int32)).toNatClampNeg)) dX10_isSo_181 ly_63 hv5 rfl ?_
            refine pw_callV (As := [.int (G 59 x4.toNatClampNeg), .int (G 63 (((x3 - (1 : Int32)) - (1 : Int32)).toNatClampNeg)), .int (G 63 ((x3 - (1 : Int32)).toNatClampNeg))]) (rest := [.int ((x3 - (1 : Int32)) - (1 : Int32)), .ref (ev_ad E 63)]) (s_X10_twoOf hE h) dX10_isSo_182 ly_49 rfl (Or.inl ml_X10_219) cm_X10_twoOf rfl (rm_ok (by decide)) rm_0 (Nat.le_of_ble_eq_true rfl) ?_
            rintro _ G7 ⟨r6, rfl, h⟩
            refine pw_iast (z := (((x3 - (1 : Int32)) - (1 : Int32)).toNatClampNeg)) dX10_isSo_185 ly_63 hv4 rfl ?_
            refine pw_iinc (k := 4) (v := x4 + 1) (lv' := [(4, .int (x4 + 1)), (3, .int (x3 - (1 : Int32))), (0, .ref (ev_ad E 49)), (1, .int x1), (2, .int x2)]) dX10_isSo_186 rfl rfl (by decide) rfl ?_
            refine pw_goto (tgt := 33) dX10_isSo_189 (by decide) ?_
            refine pw_loc (lv' := [(0, .ref (ev_ad E 49)), (1, .int x1), (2, .int x2), (3, .int (x3 - (1 : Int32))), (4, .int (x4 + 1))]) [2, 3, 4, 1, 0] rfl ?_
            exact ih _ _ _ _ _ h
          · have h := h.2 hc
            refine pw_aload_n dX10_isSo_128 rfl 0 rfl ?_
            refine pw_getr (q := 63) dX10_isSo_129 fa_X10_53 ly_49 rfl ?_
            refine pw_iload_n dX10_isSo_132 rfl 3 rfl ?_
            refine pw_iconst (v := (1 : Int32)) dX10_isSo_133 (by decide) ?_
            refine pw_isub dX10_isSo_134 ?_
            refine pw_iconst (v := (1 : Int32)) dX10_isSo_135 (by decide) ?_
            refine pw_aload_n dX10_isSo_136 rfl 0 rfl ?_
            refine pw_getr (q := 63) dX10_isSo_137 fa_X10_53 ly_49 rfl ?_
            refine pw_iload_n dX10_isSo_140 rfl 3 rfl ?_
            refine pw_iconst (v := (1 : Int32)) dX10_isSo_141 (by decide) ?_
            refine pw_isub dX10_isSo_142 ?_
            obtain ⟨hv8, h⟩ := h
            refine pw_iald (v := G 63 ((x3 - (1 : Int32)).toNatClampNeg)) dX10_isSo_143 ly_63 hv8 rfl ?_
            refine pw_isub dX10_isSo_144 ?_
            refine pw_iast (z := ((x3 - (1 : Int32)).toNatClampNeg)) dX10_isSo_145 ly_63 hv8 rfl ?_
            refine pw_goto (tgt := 186) dX10_isSo_146 (by decide) ?_
            refine pw_iinc (k := 4) (v := x4 + 1) (lv' := [(4, .int (x4 + 1)), (0, .ref (ev_ad E 49)), (1, .int x1), (2, .int x2), (3, .int x3)]) dX10_isSo_186 rfl rfl (by decide) rfl ?_
            refine pw_goto (tgt := 33) dX10_isSo_189 (by decide) ?_
            refine pw_loc (lv' := [(0, .ref (ev_ad E 49)), (1, .int x1), (2, .int x2), (3, .int x3), (4, .int (x4 + 1))]) [1, 2, 3, 4, 0] rfl ?_
            exact ih _ _ _ _ _ h
        · have h := h.2 hc
          refine pw_loc (lv' := [(0, .ref (ev_ad E 49)), (1, .int x1), (2, .int x2), (3, .int x3), (4, .int x4)]) [0, 1, 2, 3, 4] rfl ?_
          exact t_X10_isSo_71 hE Q (fun y1 y2 y3 y4 G => lp_X10_isSo_33 Q n y1 y2 y3 y4 G) ih h
def wp_X10_isSo (a1 : Int32) (a2 : Int32) (G : GS) (Q : Int32 → GS → Prop) : Prop := (vp_in a2 32 ∧ ((¬ (G 57 a2.toNatClampNeg) = (G 58 a2.toNatClampNeg) → (∃ kf, lp_X10_isSo_33 Q kf a1 a2 (0 : Int32) (((400 : Int32) * a1) + (G 57 a2.toNatClampNeg)) G)) ∧ ((G 57 a2.toNatClampNeg) = (G 58 a2.toNatClampNeg) → Q (1 : Int32) G)))
set_option maxRecDepth 100000 in
set_option maxHeartbeats 4000000 in
theorem s_X10_isSo {E : EV} (hE : EI_ E) {a1 : Int32} {a2 : Int32} {G : GS} {Q : Int32 → GS → Prop} (h : wp_X10_isSo a1 a2 G Q) : PMet E mi_X10_isSo 2 [.ref (ev_ad E 49), .int a1, .int a2] G (qi_ Q) := by
  refine pm_of hE (by decide) (Nat.le_of_ble_eq_true rfl) ?_
  refine pw_loc (lv' := [(0, .ref (ev_ad E 49)), (1, .int a1), (2, .int a2)]) [0, 1, 2] rfl ?_
  refine pw_aload_n dX10_isSo_0 rfl 0 rfl ?_
  refine pw_getr (q := 57) dX10_isSo_1 fa_X10_31 ly_49 rfl ?_
  refine pw_iload_n dX10_isSo_4 rfl 2 rfl ?_
  obtain ⟨hv1, h⟩ := h
  refine pw_iald (v := G 57 a2.toNatClampNeg) dX10_isSo_5 ly_57 hv1 rfl ?_
  refine pw_aload_n dX10_isSo_6 rfl 0 rfl ?_
  refine pw_getr (q := 58) dX10_isSo_7 fa_X10_34 ly_49 rfl ?_
  refine pw_iload_n dX10_isSo_10 rfl 2 rfl ?_
  refine pw_iald (v := G 58 a2.toNatClampNeg) dX10_isSo_11 ly_58 hv1 rfl ?_
  refine pw_icmp_ne (tgt := 17) dX10_isSo_12 (by decide) (fun hc => ?_) (fun hc => ?_)
  · have h := h.1 hc
    refine pw_iconst (v := (0 : Int32)) dX10_isSo_17 (by decide) ?_
    refine pw_istore_n (lv' := [(3, .int (0 : Int32)), (0, .ref (ev_ad E 49)), (1, .int a1), (2, .int a2)]) dX10_isSo_18 rfl (by decide) rfl ?_
    refine pw_sipush (v := (400 : Int32)) dX10_isSo_19 (by decide) ?_
    refine pw_iload_n dX10_isSo_22 rfl 2 rfl ?_
    refine pw_imul dX10_isSo_23 ?_
    refine pw_aload_n dX10_isSo_24 rfl 1 rfl ?_
    refine pw_getr (q := 57) dX10_isSo_25 fa_X10_31 ly_49 rfl ?_
    refine pw_iload_n dX10_isSo_28 rfl 3 rfl ?_
    refine pw_iald (v := G 57 a2.toNatClampNeg) dX10_isSo_29 ly_57 hv1 rfl ?_
    refine pw_iadd dX10_isSo_30 ?_
    refine pw_istore (lv' := [(4, .int (((400 : Int32) * a1) + (G 57 a2.toNatClampNeg))), (3, .int (0 : Int32)), (0, .ref (ev_ad E 49)), (1, .int a1), (2, .int a2)]) dX10_isSo_31 (by decide) rfl ?_
    refine pw_loc (lv' := [(0, .ref (ev_ad E 49)), (1, .int a1), (2, .int a2), (3, .int (0 : Int32)), (4, .int (((400 : Int32) * a1) + (G 57 a2.toNatClampNeg)))]) [2, 3, 4, 1, 0] rfl ?_
    obtain ⟨kf, h⟩ := h
    exact t_X10_isSo_33 hE Q kf _ _ _ _ _ h
  · have h := h.2 hc
    refine pw_iconst (v := (1 : Int32)) dX10_isSo_15 (by decide) ?_
    exact pw_ireturn dX10_isSo_16 rfl rfl ⟨_, rfl, h⟩
def lp_X10_doesHear_203 (Q : Int32 → GS → Prop)  : Nat → Int32 → GS → Prop
  | 0, _, _ => False
  | n + 1, x9, G => (((G 49 16) ≤ x9 → Q (1 : Int32) G) ∧ (¬ (G 49 16) ≤ x9 → wp_X10_isSo (0 : Int32) x9 G (fun r21 G22 => ((r21 = 0 → lp_X10_doesHear_203 Q n (x9 + 1) G22) ∧ (¬ r21 = 0 → (vp_in x9 32 ∧ ((¬ (G22 56 x9.toNatClampNeg) = 0 → Q (0 : Int32) G22) ∧ ((G22 56 x9.toNatClampNeg) = 0 → Q (1 : Int32) G22))))))))
set_option maxRecDepth 100000 in
set_option maxHeartbeats 4000000 in
theorem t_X10_doesHear_203 {E : EV} (hE : EI_ E) (Q : Int32 → GS → Prop)  : ∀ (n : Nat) (x9 : Int32) (G : GS), lp_X10_doesHear_203 Q n x9 G → PW_ E mi_X10_doesHear (rm_ 3) 0 0 203 [(0, .ref (ev_ad E 49)), (9, .int x9)] [] G (qi_ Q) := by
  intro n
  induction n with
  | zero => intro x9 G h; exact h.elim
  | succ n ih =>
    intro x9 G h
    refine pw_iload dX10_doesHear_203 1 rfl ?_
    refine pw_aload_n dX10_doesHear_205 rfl 0 rfl ?_
    refine pw_geti (v := G 49 16) dX10_doesHear_206 fa_X10_216 ly_49 rfl rfl ?_
    refine pw_icmp_ge (tgt := 244) dX10_doesHear_209 (by decide) (fun hc => ?_) (fun hc => ?_)
    · have h := h.1 hc
      refine pw_iconst (v := (1 : Int32)) dX10_doesHear_244 (by decide) ?_
      exact pw_ireturn dX10_doesHear_245 rfl rfl ⟨_, rfl, h⟩
    · have h := h.2 hc
      refine pw_aload_n dX10_doesHear_212 rfl 0 rfl ?_
      refine pw_iconst (v := (0 : Int32)) dX10_doesHear_213 (by decide) ?_
      refine pw_iload dX10_doesHear_214 1 rfl ?_
      refine pw_callV (As := [.int (0 : Int32), .int x9]) (rest := []) (s_X10_isSo hE h) dX10_doesHear_216 ly_49 rfl (Or.inl ml_X10_229) cm_X10_isSo rfl (rm_ok (by decide)) rm_0 (Nat.le_of_ble_eq_true rfl) ?_
      rintro _ G22 ⟨r21, rfl, h⟩
      refine pw_if_eq (tgt := 238) dX10_doesHear_219 (by decide) (fun hc => ?_) (fun hc => ?_)
      · have h := h.1 hc
        refine pw_iinc (k := 1) (v := x9 + 1) (lv' := [(9, .int (x9 + 1)), (0, .ref (ev_ad E 49))]) dX10_doesHear_238 rfl rfl (by decide) rfl ?_
        refine pw_goto (tgt := 203) dX10_doesHear_241 (by decide) ?_
        refine pw_loc (lv' := [(0, .ref (ev_ad E 49)), (9, .int (x9 + 1))]) [1, 0] rfl ?_
        exact ih _ _ h
      · have h := h.2 hc
        refine pw_aload_n dX10_doesHear_222 rfl 0 rfl ?_
        refine pw_getr (q := 56) dX10_doesHear_223 fa_X10_28 ly_49 rfl ?_
        refine pw_iload dX10_doesHear_226 1 rfl ?_
        obtain ⟨hv23, h⟩ := h
        refine pw_iald (v := G22 56 x9.toNatClampNeg) dX10_doesHear_228 ly_56 hv23 rfl ?_
        refine pw_if_ne (tgt := 236) dX10_doesHear_229 (by decide) (fun hc => ?_) (fun hc => ?_)
        · have h := h.1 hc
          refine pw_iconst (v := (0 : Int32)) dX10_doesHear_236 (by decide) ?_
          exact pw_ireturn dX10_doesHear_237 rfl rfl ⟨_, rfl, h⟩
        · have h := h.2 hc
          refine pw_iconst (v := (1 : Int32)) dX10_doesHear_232 (by decide) ?_
          refine pw_goto (tgt := 237) dX10_doesHear_233 (by decide) ?_
          exact pw_ireturn dX10_doesHear_237 rfl rfl ⟨_, rfl, h⟩
def bk_X10_doesHear_124 (Q : Int32 → GS → Prop)  (x1 : Int32) (x2 : Int32) (x3 : Int32) (x6 : Int32) (z0 : Int32) (z1 : Int32) (G : GS) : Prop := (vp_in z1 9 ∧ (vp_in x2 10 ∧ (vp_in x3 10 ∧ wp_X10_ones (((x6 &&& (((1 : Int32) <<< (x1 &&& 31)) ^^^ (-1 : Int32))) &&& (((1 : Int32) <<< (x2 &&& 31)) ^^^ (-1 : Int32))) &&& (((1 : Int32) <<< (x3 &&& 31)) ^^^ (-1 : Int32))) (gu_ (gu_ G 62 z1.toNatClampNeg z0) 62 5 (((G 52 x2.toNatClampNeg) + (G 52 x3.toNatClampNeg)) + (10 : Int32))) (fun r19 G20 => (∃ kf, lp_X10_doesHear_203 Q kf (0 : Int32) (gu_ (gu_ (gu_ G20 62 6 r19) 62 7 (G20 50 11)) 62 8 x1))))))
set_option maxRecDepth 100000 in
set_option maxHeartbeats 4000000 in
theorem t_X10_doesHear_124 {E : EV} (hE : EI_ E) (Q : Int32 → GS → Prop)  {x1 : Int32} {x2 : Int32} {x3 : Int32} {x6 : Int32} {z0 : Int32} {z1 : Int32} {G : GS} (h : bk_X10_doesHear_124 Q x1 x2 x3 x6 z0 z1 G) : PW_ E mi_X10_doesHear (rm_ 3) 0 0 124 [(0, .ref (ev_ad E 49)), (1, .int x1), (2, .int x2), (3, .int x3), (6, .int x6)] [.int z0, .int z1, .ref (ev_ad E 62)] G (qi_ Q) := by
  obtain ⟨hv16, h⟩ := h
  refine pw_iast (z := z1.toNatClampNeg) dX10_doesHear_124 ly_62 hv16 rfl ?_
  refine pw_aload_n dX10_doesHear_125 rfl 0 rfl ?_
  refine pw_getr (q := 62) dX10_doesHear_126 fa_X10_50 ly_49 rfl ?_
  refine pw_iconst (v := (5 : Int32)) dX10_doesHear_129 (by decide) ?_
  refine pw_aload_n dX10_doesHear_130 rfl 0 rfl ?_
  refine pw_getr (q := 52) dX10_doesHear_131 fa_X10_16 ly_49 rfl ?_
  refine pw_iload_n dX10_doesHear_134 rfl 2 rfl ?_
  obtain ⟨hv17, h⟩ := h
  refine pw_iald (v := G 52 x2.toNatClampNeg) dX10_doesHear_135 ly_52 hv17 rfl ?_
  refine pw_aload_n dX10_doesHear_136 rfl 0 rfl ?_
  refine pw_getr (q := 52) dX10_doesHear_137 fa_X10_16 ly_49 rfl ?_
  refine pw_iload_n dX10_doesHear_140 rfl 3 rfl ?_
  obtain ⟨hv18, h⟩ := h
  refine pw_iald (v := G 52 x3.toNatClampNeg) dX10_doesHear_141 ly_52 hv18 rfl ?_
  refine pw_iadd dX10_doesHear_142 ?_
  refine pw_bipush (v := (10 : Int32)) dX10_doesHear_143 (by decide) ?_
  refine pw_iadd dX10_doesHear_145 ?_
  refine pw_iast (z := 5) dX10_doesHear_146 ly_62 (by unfold vp_in; decide) rfl ?_
  refine pw_aload_n dX10_doesHear_147 rfl 0 rfl ?_
  refine pw_getr (q := 62) dX10_doesHear_148 fa_X10_50 ly_49 rfl ?_
  refine pw_bipush (v := (6 : Int32)) dX10_doesHear_151 (by decide) ?_
  refine pw_aload_n dX10_doesHear_153 rfl 0 rfl ?_
  refine pw_iload dX10_doesHear_154 4 rfl ?_
  refine pw_iconst (v := (1 : Int32)) dX10_doesHear_156 (by decide) ?_
  refine pw_iload_n dX10_doesHear_157 rfl 1 rfl ?_
  refine pw_ishl dX10_doesHear_158 ?_
  refine pw_iconst (v := (-1 : Int32)) dX10_doesHear_159 (by decide) ?_
  refine pw_ixor dX10_doesHear_160 ?_
  refine pw_iand dX10_doesHear_161 ?_
  refine pw_iconst (v := (1 : Int32)) dX10_doesHear_162 (by decide) ?_
  refine pw_iload_n dX10_doesHear_163 rfl 2 rfl ?_
  refine pw_ishl dX10_doesHear_164 ?_
  refine pw_iconst (v := (-1 : Int32)) dX10_doesHear_165 (by decide) ?_
  refine pw_ixor dX10_doesHear_166 ?_
  refine pw_iand dX10_doesHear_167 ?_
  refine pw_iconst (v := (1 : Int32)) dX10_doesHear_168 (by decide) ?_
  refine pw_iload_n dX10_doesHear_169 rfl 3 rfl ?_
  refine pw_ishl dX10_doesHear_170 ?_
  refine pw_iconst (v := (-1 : Int32)) dX10_doesHear_171 (by decide) ?_
  refine pw_ixor dX10_doesHear_172 ?_
  refine pw_iand dX10_doesHear_173 ?_
  refine pw_callV (As := [.int (((x6 &&& (((1 : Int32) <<< (x1 &&& 31)) ^^^ (-1 : Int32))) &&& (((1 : Int32) <<< (x2 &&& 31)) ^^^ (-1 : Int32))) &&& (((1 : Int32) <<< (x3 &&& 31)) ^^^ (-1 : Int32)))]) (rest := [.int (6 : Int32), .ref (ev_ad E 62)]) (s_X10_ones hE h) dX10_doesHear_174 ly_49 rfl (Or.inl ml_X10_226) cm_X10_ones rfl (rm_ok (by decide)) rm_0 (Nat.le_of_ble_eq_true rfl) ?_
  rintro _ G20 ⟨r19, rfl, h⟩
  refine pw_iast (z := 6) dX10_doesHear_177 ly_62 (by unfold vp_in; decide) rfl ?_
  refine pw_aload_n dX10_doesHear_178 rfl 0 rfl ?_
  refine pw_getr (q := 62) dX10_doesHear_179 fa_X10_50 ly_49 rfl ?_
  refine pw_bipush (v := (7 : Int32)) dX10_doesHear_182 (by decide) ?_
  refine pw_aload_n dX10_doesHear_184 rfl 0 rfl ?_
  refine pw_getr (q := 50) dX10_doesHear_185 fa_X10_7 ly_49 rfl ?_
  refine pw_bipush (v := (11 : Int32)) dX10_doesHear_188 (by decide) ?_
  refine pw_iald (v := G20 50 11) dX10_doesHear_190 ly_50 (by unfold vp_in; decide) rfl ?_
  refine pw_iast (z := 7) dX10_doesHear_191 ly_62 (by unfold vp_in; decide) rfl ?_
  refine pw_aload_n dX10_doesHear_192 rfl 0 rfl ?_
  refine pw_getr (q := 62) dX10_doesHear_193 fa_X10_50 ly_49 rfl ?_
  refine pw_bipush (v := (8 : Int32)) dX10_doesHear_196 (by decide) ?_
  refine pw_iload_n dX10_doesHear_198 rfl 1 rfl ?_
  refine pw_iast (z := 8) dX10_doesHear_199 ly_62 (by unfold vp_in; decide) rfl ?_
  refine pw_iconst (v := (0 : Int32)) dX10_doesHear_200 (by decide) ?_
  refine pw_istore (lv' := [(9, .int (0 : Int32)), (0, .ref (ev_ad E 49)), (1, .int x1), (2, .int x2), (3, .int x3), (6, .int x6)]) dX10_doesHear_201 (by decide) rfl ?_
  refine pw_loc (lv' := [(0, .ref (ev_ad E 49)), (9, .int (0 : Int32))]) [1, 0] rfl ?_
  obtain ⟨kf, h⟩ := h
  exact t_X10_doesHear_203 hE Q kf _ _ h
def bk_X10_doesHear_78 (Q : Int32 → GS → Prop)  (x1 : Int32) (x2 : Int32) (x3 : Int32) (x4 : Int32) (x5 : Int32) (x6 : Int32) (x7 : Int32) (x8 : Int32) (z0 : Int32) (z1 : Int32) (G : GS) : Prop := (vp_in z1 9 ∧ wp_X10_without (x4 - x5) (gu_ G 62 z1.toNatClampNeg z0) (fun r12 G13 => wp_X10_humOf x1 (gu_ G13 62 2 r12) (fun r14 G15 => ((x8 ≤ x7 → bk_X10_doesHear_124 Q x1 x2 x3 x6 x8 (4 : Int32) (gu_ G15 62 3 r14)) ∧ (¬ x8 ≤ x7 → bk_X10_doesHear_124 Q x1 x2 x3 x6 x7 (4 : Int32) (gu_ G15 62 3 r14))))))
set_option maxRecDepth 100000 in
set_option maxHeartbeats 4000000 in
theorem t_X10_doesHear_78 {E : EV} (hE : EI_ E) (Q : Int32 → GS → Prop)  {x1 : Int32} {x2 : Int32} {x3 : Int32} {x4 : Int32} {x5 : Int32} {x6 : Int32} {x7 : Int32} {x8 : Int32} {z0 : Int32} {z1 : Int32} {G : GS} (h : bk_X10_doesHear_78 Q x1 x2 x3 x4 x5 x6 x7 x8 z0 z1 G) : PW_ E mi_X10_doesHear (rm_ 3) 0 0 78 [(0, .ref (ev_ad E 49)), (1, .int x1), (2, .int x2), (3, .int x3), (4, .int x4), (5, .int x5), (6, .int x6), (7, .int x7), (8, .int x8)] [.int z0, .int z1, .ref (ev_ad E 62)] G (qi_ Q) := by
  obtain ⟨hv11, h⟩ := h
  refine pw_iast (z := z1.toNatClampNeg) dX10_doesHear_78 ly_62 hv11 rfl ?_
  refine pw_aload_n dX10_doesHear_79 rfl 0 rfl ?_
  refine pw_getr (q := 62) dX10_doesHear_80 fa_X10_50 ly_49 rfl ?_
  refine pw_iconst (v := (2 : Int32)) dX10_doesHear_83 (by decide) ?_
  refine pw_aload_n dX10_doesHear_84 rfl 0 rfl ?_
  refine pw_iload dX10_doesHear_85 4 rfl ?_
  refine pw_iload dX10_doesHear_87 5 rfl ?_
  refine pw_isub dX10_doesHear_89 ?_
  refine pw_callV (As := [.int (x4 - x5)]) (rest := [.int (2 : Int32), .ref (ev_ad E 62)]) (s_X10_without hE h) dX10_doesHear_90 ly_49 rfl (Or.inl ml_X10_223) cm_X10_without rfl (rm_ok (by decide)) rm_0 (Nat.le_of_ble_eq_true rfl) ?_
  rintro _ G13 ⟨r12, rfl, h⟩
  refine pw_iast (z := 2) dX10_doesHear_93 ly_62 (by unfold vp_in; decide) rfl ?_
  refine pw_aload_n dX10_doesHear_94 rfl 0 rfl ?_
  refine pw_getr (q := 62) dX10_doesHear_95 fa_X10_50 ly_49 rfl ?_
  refine pw_iconst (v := (3 : Int32)) dX10_doesHear_98 (by decide) ?_
  refine pw_aload_n dX10_doesHear_99 rfl 0 rfl ?_
  refine pw_iload_n dX10_doesHear_100 rfl 1 rfl ?_
  refine pw_callV (As := [.int x1]) (rest := [.int (3 : Int32), .ref (ev_ad E 62)]) (s_X10_humOf hE h) dX10_doesHear_101 ly_49 rfl (Or.inl ml_X10_109) cm_X10_humOf rfl (rm_ok (by decide)) rm_0 (Nat.le_of_ble_eq_true rfl) ?_
  rintro _ G15 ⟨r14, rfl, h⟩
  refine pw_iast (z := 3) dX10_doesHear_104 ly_62 (by unfold vp_in; decide) rfl ?_
  refine pw_aload_n dX10_doesHear_105 rfl 0 rfl ?_
  refine pw_getr (q := 62) dX10_doesHear_106 fa_X10_50 ly_49 rfl ?_
  refine pw_iconst (v := (4 : Int32)) dX10_doesHear_109 (by decide) ?_
  refine pw_iload dX10_doesHear_110 7 rfl ?_
  refine pw_iload dX10_doesHear_112 8 rfl ?_
  refine pw_icmp_ge (tgt := 122) dX10_doesHear_114 (by decide) (fun hc => ?_) (fun hc => ?_)
  · have h := h.1 hc
    refine pw_iload dX10_doesHear_122 8 rfl ?_
    refine pw_loc (lv' := [(0, .ref (ev_ad E 49)), (1, .int x1), (2, .int x2), (3, .int x3), (6, .int x6)]) [0, 1, 2, 3, 6] rfl ?_
    exact t_X10_doesHear_124 hE Q h
  · have h := h.2 hc
    refine pw_iload dX10_doesHear_117 7 rfl ?_
    refine pw_goto (tgt := 124) dX10_doesHear_119 (by decide) ?_
    refine pw_loc (lv' := [(0, .ref (ev_ad E 49)), (1, .int x1), (2, .int x2), (3, .int x3), (6, .int x6)]) [0, 1, 2, 3, 6] rfl ?_
    exact t_X10_doesHear_124 hE Q h
def wp_X10_doesHear (a1 : Int32) (a2 : Int32) (a3 : Int32) (a4 : Int32) (a5 : Int32) (a6 : Int32) (G : GS) (Q : Int32 → GS → Prop) : Prop := wp_X10_humOf a1 G (fun r1 G2 => ((¬ r1 = (-1 : Int32) → wp_X10_humOf a1 G2 (fun r3 G4 => wp_X10_without (a4 - r3) G4 (fun r5 G6 => wp_X10_humOf a1 G6 (fun r7 G8 => wp_X10_without (a5 - r7) G8 (fun r9 G10 => ((a5 ≤ a4 → ((a5 ≤ a4 → bk_X10_doesHear_78 Q a1 a2 a3 a4 a5 a6 r5 r9 a4 (1 : Int32) (gu_ G10 62 0 a5)) ∧ (¬ a5 ≤ a4 → bk_X10_doesHear_78 Q a1 a2 a3 a4 a5 a6 r5 r9 a5 (1 : Int32) (gu_ G10 62 0 a5)))) ∧ (¬ a5 ≤ a4 → ((a5 ≤ a4 → bk_X10_doesHear_78 Q a1 a2 a3 a4 a5 a6 r5 r9 a4 (1 : Int32) (gu_ G10 62 0 a4)) ∧ (¬ a5 ≤ a4 → bk_X10_doesHear_78 Q a1 a2 a3 a4 a5 a6 r5 r9 a5 (1 : Int32) (gu_ G10 62 0 a4)))))))))) ∧ (r1 = (-1 : Int32) → Q (0 : Int32) G2)))
set_option maxRecDepth 100000 in
set_option maxHeartbeats 4000000 in
theorem s_X10_doesHear {E : EV} (hE : EI_ E) {a1 : Int32} {a2 : Int32} {a3 : Int32} {a4 : Int32} {a5 : Int32} {a6 : Int32} {G : GS} {Q : Int32 → GS → Prop} (h : wp_X10_doesHear a1 a2 a3 a4 a5 a6 G Q) : PMet E mi_X10_doesHear 3 [.ref (ev_ad E 49), .int a1, .int a2, .int a3, .int a4, .int a5, .int a6] G (qi_ Q) := by
  refine pm_of hE (by decide) (Nat.le_of_ble_eq_true rfl) ?_
  refine pw_loc (lv' := [(0, .ref (ev_ad E 49)), (1, .int a1), (2, .int a2), (3, .int a3), (4, .int a4), (5, .int a5), (6, .int a6)]) [0, 1, 2, 3, 4, 5, 6] rfl ?_
  refine pw_aload_n dX10_doesHear_0 rfl 0 rfl ?_
  refine pw_iload_n dX10_doesHear_1 rfl 1 rfl ?_
  refine pw_callV (As := [.int a1]) (rest := []) (s_X10_humOf hE h) dX10_doesHear_2 ly_49 rfl (Or.inl ml_X10_109) cm_X10_humOf rfl (rm_ok (by decide)) rm_0 (Nat.le_of_ble_eq_true rfl) ?_
  rintro _ G2 ⟨r1, rfl, h⟩
  refine pw_iconst (v := (-1 : Int32)) dX10_doesHear_5 (by decide) ?_
  refine pw_icmp_ne (tgt := 11) dX10_doesHear_6 (by decide) (fun hc => ?_) (fun hc => ?_)
  · have h := h.1 hc
    refine pw_aload_n dX10_doesHear_11 rfl 0 rfl ?_
    refine pw_iload dX10_doesHear_12 4 rfl ?_
    refine pw_aload_n dX10_doesHear_14 rfl 0 rfl ?_
    refine pw_iload_n dX10_doesHear_15 rfl 1 rfl ?_
    refine pw_callV (As := [.int a1]) (rest := [.int a4, .ref (ev_ad E 49)]) (s_X10_humOf hE h) dX10_doesHear_16 ly_49 rfl (Or.inl ml_X10_109) cm_X10_humOf rfl (rm_ok (by decide)) rm_0 (Nat.le_of_ble_eq_true rfl) ?_
    rintro _ G4 ⟨r3, rfl, h⟩
    refine pw_isub dX10_doesHear_19 ?_
    refine pw_callV (As := [.int (a4 - r3)]) (rest := []) (s_X10_without hE h) dX10_doesHear_20 ly_49 rfl (Or.inl ml_X10_223) cm_X10_without rfl (rm_ok (by decide)) rm_0 (Nat.le_of_ble_eq_true rfl) ?_
    rintro _ G6 ⟨r5, rfl, h⟩
    refine pw_istore (lv' := [(7, .int r5), (0, .ref (ev_ad E 49)), (1, .int a1), (2, .int a2), (3, .int a3), (4, .int a4), (5, .int a5), (6, .int a6)]) dX10_doesHear_23 (by decide) rfl ?_
    refine pw_aload_n dX10_doesHear_25 rfl 1 rfl ?_
    refine pw_iload dX10_doesHear_26 6 rfl ?_
    refine pw_aload_n dX10_doesHear_28 rfl 1 rfl ?_
    refine pw_iload_n dX10_doesHear_29 rfl 2 rfl ?_
    refine pw_callV (As := [.int a1]) (rest := [.int a5, .ref (ev_ad E 49)]) (s_X10_humOf hE h) dX10_doesHear_30 ly_49 rfl (Or.inl ml_X10_109) cm_X10_humOf rfl (rm_ok (by decide)) rm_0 (Nat.le_of_ble_eq_true rfl) ?_
    rintro _ G8 ⟨r7, rfl, h⟩
    refine pw_isub dX10_doesHear_33 ?_
    refine pw_callV (As := [.int (a5 - r7)]) (rest := []) (s_X10_without hE h) dX10_doesHear_34 ly_49 rfl (Or.inl ml_X10_223) cm_X10_without rfl (rm_ok (by decide)) rm_0 (Nat.le_of_ble_eq_true rfl) ?_
    rintro _ G10 ⟨r9, rfl, h⟩
    refine pw_istore (lv' := [(8, .int r9), (7, .int r5), (0, .ref (ev_ad E 49)), (1, .int a1), (2, .int a2), (3, .int a3), (4, .int a4), (5, .int a5), (6, .int a6)]) dX10_doesHear_37 (by decide) rfl ?_
    refine pw_aload_n dX10_doesHear_39 rfl 2 rfl ?_
    refine pw_getr (q := 62) dX10_doesHear_40 fa_X10_50 ly_49 rfl ?_
    refine pw_iconst (v := (0 : Int32)) dX10_doesHear_43 (by decide) ?_
    refine pw_iload dX10_doesHear_44 6 rfl ?_
    refine pw_iload dX10_doesHear_46 7 rfl ?_
    refine pw_icmp_ge (tgt := 56) dX10_doesHear_48 (by decide) (fun hc => ?_) (fun hc => ?_)
    · have h := h.1 hc
      refine pw_iload dX10_doesHear_56 7 rfl ?_
      refine pw_iast (z := 0) dX10_doesHear_58 ly_62 (by unfold vp_in; decide) rfl ?_
      refine pw_aload_n dX10_doesHear_59 rfl 2 rfl ?_
      refine pw_getr (q := 62) dX10_doesHear_60 fa_X10_50 ly_49 rfl ?_
      refine pw_iconst (v := (1 : Int32)) dX10_doesHear_63 (by decide) ?_
      refine pw_iload dX10_doesHear_64 6 rfl ?_
      refine pw_iload dX10_doesHear_66 7 rfl ?_
      refine pw_icmp_ge (tgt := 76) dX10_doesHear_68 (by decide) (fun hc => ?_) (fun hc => ?_)
      · have h := h.1 hc
        refine pw_iload dX10_doesHear_76 6 rfl ?_
        refine pw_loc (lv' := [(0, .ref (ev_ad E 49)), (1, .int a1), (2, .int a2), (3, .int a3), (4, .int a4), (5, .int a5), (6, .int a6), (7, .int r5), (8, .int r9)]) [2, 3, 4, 5, 6, 7, 8, 1, 0] rfl ?_
        exact t_X10_doesHear_78 hE Q h
      · have h := h.2 hc
        refine pw_iload dX10_doesHear_71 7 rfl ?_
        refine pw_goto (tgt := 78) dX10_doesHear_73 (by decide) ?_
        refine pw_loc (lv' := [(0, .ref (ev_ad E 49)), (1, .int a1), (2, .int a2), (3, .int a3), (4, .int a4), (5, .int a5), (6, .int a6), (7, .int r5), (8, .int r9)]) [2, 3, 4, 5, 6, 7, 8, 1, 0] rfl ?_
        exact t_X10_doesHear_78 hE Q h
    · have h := h.2 hc
      refine pw_iload dX10_doesHear_51 6 rfl ?_
      refine pw_goto (tgt := 58) dX10_doesHear_53 (by decide) ?_
      refine pw_iast (z := 0) dX10_doesHear_58 ly_62 (by unfold vp_in; decide) rfl ?_
      refine pw_aload_n dX10_doesHear_59 rfl 2 rfl ?_
      refine pw_getr (q := 62) dX10_doesHear_60 fa_X10_50 ly_49 rfl ?_
      refine pw_iconst (v := (1 : Int32)) dX10_doesHear_63 (by decide) ?_
      refine pw_iload dX10_doesHear_64 6 rfl ?_
      refine pw_iload dX10_doesHear_66 7 rfl ?_
      refine pw_icmp_ge (tgt := 76) dX10_doesHear_68 (by decide) (fun hc => ?_) (fun hc => ?_)
      · have h := h.1 hc
        refine pw_iload dX10_doesHear_76 6 rfl ?_
        refine pw_loc (lv' := [(0, .ref (ev_ad E 49)), (1, .int a1), (2, .int a2), (3, .int a3), (4, .int a4), (5, .int a5), (6, .int a6), (7, .int r5), (8, .int r9)]) [2, 3, 4, 5, 6, 7, 8, 1, 0] rfl ?_
        exact t_X10_doesHear_78 hE Q h
      · have h := h.2 hc
        refine pw_iload dX10_doesHear_71 7 rfl ?_
        refine pw_goto (tgt := 78) dX10_doesHear_73 (by decide) ?_
        refine pw_loc (lv' := [(0, .ref (ev_ad E 49)), (1, .int a1), (2, .int a2), (3, .int a3), (4, .int a4), (5, .int a5), (6, .int a6), (7, .int r5), (8, .int r9)]) [2, 3, 4, 5, 6, 7, 8, 1, 0] rfl ?_
        exact t_X10_doesHear_78 hE Q h
  · have h := h.2 hc
    refine pw_iconst (v := (0 : Int32)) dX10_doesHear_9 (by decide) ?_
    exact pw_ireturn dX10_doesHear_10 rfl rfl ⟨_, rfl, h⟩
def wp_X10_hearsNow (a1 : Int32) (a2 : Int32) (a3 : Int32) (a4 : Int32) (G : GS) (Q : Int32 → GS → Prop) : Prop := wp_X10_humOf a2 G (fun r1 G2 => wp_X10_humOf a3 G2 (fun r3 G4 => wp_X10_doesHear a1 a2 a3 r1 r3 a4 G4 (fun r5 G6 => (bz_ r5 ∧ Q r5 G6))))
set_option maxRecDepth 100000 in
set_option maxHeartbeats 4000000 in
theorem s_X10_hearsNow {E : EV} (hE : EI_ E) {a1 : Int32} {a2 : Int32} {a3 : Int32} {a4 : Int32} {G : GS} {Q : Int32 → GS → Prop} (h : wp_X10_hearsNow a1 a2 a3 a4 G Q) : PMet E mi_X10_hearsNow 4 [.ref (ev_ad E 49), .int a1, .int a2, .int a3, .int a4] G (qi_ Q) := by
  refine pm_of hE (by decide) (Nat.le_of_ble_eq_true rfl) ?_
  refine pw_loc (lv' := [(0, .ref (ev_ad E 49)), (1, .int a1), (2, .int a2), (3, .int a3), (4, .int a4)]) [0, 1, 2, 3, 4] rfl ?_
  refine pw_aload_n dX10_hearsNow_0 rfl 0 rfl ?_
  refine pw_iload_n dX10_hearsNow_1 rfl 1 rfl ?_
  refine pw_iload_n dX10_hearsNow_2 rfl 2 rfl ?_
  refine pw_iload_n dX10_hearsNow_3 rfl 3 rfl ?_
  refine pw_aload_n dX10_hearsNow_4 rfl 0 rfl ?_
  refine pw_iload_n dX10_hearsNow_5 rfl 2 rfl ?_
  refine pw_callV (As := [.int a2]) (rest := [.int a3, .int a2, .int a1, .ref (ev_ad E 49)]) (s_X10_humOf hE h) dX10_hearsNow_6 ly_49 rfl (Or.inl ml_X10_109) cm_X10_humOf rfl (rm_ok (by decide)) rm_0 (Nat.le_of_ble_eq_true rfl) ?_
  rintro _ G2 ⟨r1, rfl, h⟩
  refine pw_aload_n dX10_hearsNow_9 rfl 0 rfl ?_
  refine pw_iload_n dX10_hearsNow_10 rfl 3 rfl ?_
  refine pw_callV (As := [.int a3]) (rest := [.int r1, .int a3, .int a2, .int a1, .ref (ev_ad E 49)]) (s_X10_humOf hE h) dX10_hearsNow_11 ly_49 rfl (Or.inl ml_X10_109) cm_X10_humOf rfl (rm_ok (by decide)) rm_0 (Nat.le_of_ble_eq_true rfl) ?_
  rintro _ G4 ⟨r3, rfl, h⟩
  refine pw_iload dX10_hearsNow_14 4 rfl ?_
  refine pw_callV (As := [.int a1, .int a2, .int a3, .int r1, .int r3, .int a4]) (rest := []) (s_X10_doesHear hE h) dX10_hearsNow_16 ly_49 rfl (Or.inl ml_X10_233) cm_X10_doesHear rfl (rm_ok (by decide)) rm_0 (Nat.le_of_ble_eq_true rfl) ?_
  rintro _ G6 ⟨r5, rfl, h⟩
  exact pw_ireturn dX10_hearsNow_19 rfl (bz_n h.1) ⟨_, rfl, h.2⟩
def lp_X10_speak_55 (Q : Int32 → GS → Prop)  : Nat → Int32 → Int32 → Int32 → Int32 → GS → Prop
  | 0, _, _, _, _, _ => False
  | n + 1, x1, x2, x3, x4, G => (((G 49 4) ≤ x4 → wp_X10_notes x1 x2 x3 G (fun _ G12 => Q x3 G12)) ∧ (¬ (G 49 4) ≤ x4 → ((x4 = x1 → lp_X10_speak_55 Q n x1 x2 x3 (x4 + 1) G) ∧ (¬ x4 = x1 → ((x4 = x2 → lp_X10_speak_55 Q n x1 x2 x3 (x4 + 1) G) ∧ (¬ x4 = x2 → wp_X10_hearsNow x4 x1 x2 (G 49 5) G (fun r13 G14 => ((r13 = 0 → lp_X10_speak_55 Q n x1 x2 x3 (x4 + 1) G14) ∧ (¬ r13 = 0 → lp_X10_speak_55 Q n x1 x2 (x3 ||| ((1 : Int32) <<< (x4 &&& 31))) (x4 + 1) G14)))))))))
set_option maxRecDepth 100000 in
set_option maxHeartbeats 4000000 in
theorem t_X10_speak_55 {E : EV} (hE : EI_ E) (Q : Int32 → GS → Prop)  : ∀ (n : Nat) (x1 : Int32) (x2 : Int32) (x3 : Int32) (x4 : Int32) (G : GS), lp_X10_speak_55 Q n x1 x2 x3 x4 G → PW_ E mi_X10_speak (rm_ 5) 0 0 55 [(0, .ref (ev_ad E 49)), (1, .int x1), (2, .int x2), (3, .int x3), (4, .int x4)] [] G (qi_ Q) := by
  intro n
  induction n with
  | zero => intro x1 x2 x3 x4 G h; exact h.elim
  | succ n ih =>
    intro x1 x2 x3 x4 G h
    refine pw_iload dX10_speak_55 4 rfl ?_
    refine pw_aload_n dX10_speak_57 rfl 0 rfl ?_
    refine pw_geti (v := G 49 4) dX10_speak_58 fa_X10_98 ly_49 rfl rfl ?_
    refine pw_icmp_ge (tgt := 104) dX10_speak_61 (by decide) (fun hc => ?_) (fun hc => ?_)
    · have h := h.1 hc
      refine pw_aload_n dX10_speak_104 rfl 0 rfl ?_
      refine pw_iload_n dX10_speak_105 rfl 1 rfl ?_
      refine pw_iload_n dX10_speak_106 rfl 2 rfl ?_
      refine pw_iload_n dX10_speak_107 rfl 3 rfl ?_
      refine pw_callV (As := [.int x1, .int x2, .int x3]) (rest := []) (s_X10_notes hE h) dX10_speak_108 ly_49 rfl (Or.inl ml_X10_253) cm_X10_notes rfl (rm_ok (by decide)) rm_0 (Nat.le_of_ble_eq_true rfl) ?_
      rintro _ G12 ⟨rfl, h⟩
      refine pw_iload_n dX10_speak_111 rfl 3 rfl ?_
      exact pw_ireturn dX10_speak_112 rfl rfl ⟨_, rfl, h⟩
    · have h := h.2 hc
      refine pw_iload dX10_speak_64 4 rfl ?_
      refine pw_iload_n dX10_speak_66 rfl 1 rfl ?_
      refine pw_icmp_eq (tgt := 98) dX10_speak_67 (by decide) (fun hc => ?_) (fun hc => ?_)
      · have h := h.1 hc
        refine pw_iinc (k := 4) (v := x4 + 1) (lv' := [(4, .int (x4 + 1)), (0, .ref (ev_ad E 49)), (1, .int x1), (2, .int x2), (3, .int x3)]) dX10_speak_98 rfl rfl (by decide) rfl ?_
        refine pw_goto (tgt := 55) dX10_speak_101 (by decide) ?_
        refine pw_loc (lv' := [(0, .ref (ev_ad E 49)), (1, .int x1), (2, .int x2), (3, .int x3), (4, .int (x4 + 1))]) [1, 2, 3, 4, 0] rfl ?_
        exact ih _ _ _ _ _ h
      · have h := h.2 hc
        refine pw_iload dX10_speak_70 4 rfl ?_
        refine pw_iload_n dX10_speak_72 rfl 2 rfl ?_
        refine pw_icmp_eq (tgt := 98) dX10_speak_73 (by decide) (fun hc => ?_) (fun hc => ?_)
        · have h := h.1 hc
          refine pw_iinc (k := 4) (v := x4 + 1) (lv' := [(4, .int (x4 + 1)), (0, .ref (ev_ad E 49)), (1, .int x1), (2, .int x2), (3, .int x3)]) dX10_speak_98 rfl rfl (by decide) rfl ?_
          refine pw_goto (tgt := 55) dX10_speak_101 (by decide) ?_
          refine pw_loc (lv' := [(0, .ref (ev_ad E 49)), (1, .int x1), (2, .int x2), (3, .int x3), (4, .int (x4 + 1))]) [1, 2, 3, 4, 0] rfl ?_
          exact ih _ _ _ _ _ h
        · have h := h.2 hc
          refine pw_aload_n dX10_speak_76 rfl 0 rfl ?_
          refine pw_iload dX10_speak_77 4 rfl ?_
          refine pw_iload_n dX10_speak_79 rfl 1 rfl ?_
          refine pw_iload_n dX10_speak_80 rfl 2 rfl ?_
          refine pw_aload_n dX10_speak_81 rfl 0 rfl ?_
          refine pw_geti (v := G 49 5) dX10_speak_82 fa_X10_116 ly_49 rfl rfl ?_
          refine pw_callV (As := [.int x4, .int x1, .int x2, .int (G 49 5)]) (rest := []) (s_X10_hearsNow hE h) dX10_speak_85 ly_49 rfl (Or.inl ml_X10_240) cm_X10_hearsNow rfl (rm_ok (by decide)) rm_0 (Nat.le_of_ble_eq_true rfl) ?_
          rintro _ G14 ⟨r13, rfl, h⟩
          refine pw_if_eq (tgt := 98) dX10_speak_88 (by decide) (fun hc => ?_) (fun hc => ?_)
          · have h := h.1 hc
            refine pw_iinc (k := 4) (v := x4 + 1) (lv' := [(4, .int (x4 + 1)), (0, .ref (ev_ad E 49)), (1, .int x1), (2, .int x2), (3, .int x3)]) dX10_speak_98 rfl rfl (by decide) rfl ?_
            refine pw_goto (tgt := 55) dX10_speak_101 (by decide) ?_
            refine pw_loc (lv' := [(0, .ref (ev_ad E 49)), (1, .int x1), (2, .int x2), (3, .int x3), (4, .int (x4 + 1))]) [1, 2, 3, 4, 0] rfl ?_
            exact ih _ _ _ _ _ h
          · have h := h.2 hc
            refine pw_iload_n dX10_speak_91 rfl 3 rfl ?_
            refine pw_iconst (v := (1 : Int32)) dX10_speak_92 (by decide) ?_
            refine pw_iload dX10_speak_93 4 rfl ?_
            refine pw_ishl dX10_speak_95 ?_
            refine pw_ior dX10_speak_96 ?_
            refine pw_istore_n (lv' := [(3, .int (x3 ||| ((1 : Int32) <<< (x4 &&& 31)))), (0, .ref (ev_ad E 49)), (1, .int x1), (2, .int x2), (4, .int x4)]) dX10_speak_97 rfl (by decide) rfl ?_
            refine pw_iinc (k := 4) (v := x4 + 1) (lv' := [(4, .int (x4 + 1)), (3, .int (x3 ||| ((1 : Int32) <<< (x4 &&& 31)))), (0, .ref (ev_ad E 49)), (1, .int x1), (2, .int x2)]) dX10_speak_98 rfl rfl (by decide) rfl ?_
            refine pw_goto (tgt := 55) dX10_speak_101 (by decide) ?_
            refine pw_loc (lv' := [(0, .ref (ev_ad E 49)), (1, .int x1), (2, .int x2), (3, .int (x3 ||| ((1 : Int32) <<< (x4 &&& 31)))), (4, .int (x4 + 1))]) [2, 3, 4, 1, 0] rfl ?_
            exact ih _ _ _ _ _ h
def wp_X10_speak (a1 : Int32) (a2 : Int32) (G : GS) (Q : Int32 → GS → Prop) : Prop := wp_X10_isPerson a1 (gu_ G 49 0 (0 : Int32)) (fun r1 G2 => ((r1 = 0 → Q (-1 : Int32) G2) ∧ (¬ r1 = 0 → wp_X10_isPerson a2 G2 (fun r3 G4 => ((r3 = 0 → Q (-1 : Int32) G4) ∧ (¬ r3 = 0 → ((a1 = a2 → Q (-1 : Int32) G4) ∧ (¬ a1 = a2 → wp_X10_humOf a1 G4 (fun r5 G6 => ((r5 = (-1 : Int32) → Q (-1 : Int32) G6) ∧ (¬ r5 = (-1 : Int32) → wp_X10_humOf a2 G6 (fun r7 G8 => ((¬ r7 = (-1 : Int32) → wp_X10_keepsAhead G8 (fun _ G10 => (∃ kf, lp_X10_speak_55 Q kf a1 a2 (0 : Int32) (0 : Int32) G10))) ∧ (r7 = (-1 : Int32) → Q (-1 : Int32) G8))))))))))))))
set_option maxRecDepth 100000 in
set_option maxHeartbeats 4000000 in
theorem s_X10_speak {E : EV} (hE : EI_ E) {a1 : Int32} {a2 : Int32} {G : GS} {Q : Int32 → GS → Prop} (h : wp_X10_speak a1 a2 G Q) : PMet E mi_X10_speak 5 [.ref (ev_ad E 49), .int a1, .int a2] G (qi_ Q) := by
  refine pm_of hE (by decide) (Nat.le_of_ble_eq_true rfl) ?_
  refine pw_loc (lv' := [(0, .ref (ev_ad E 49)), (1, .int a1), (2, .int a2)]) [0, 1, 2] rfl ?_
  refine pw_aload_n dX10_speak_0 rfl 0 rfl ?_
  refine pw_iconst (v := (0 : Int32)) dX10_speak_1 (by decide) ?_
  refine pw_puti dX10_speak_2 fp_X10_90 ly_49 rfl ?_
  refine pw_aload_n dX10_speak_5 rfl 0 rfl ?_
  refine pw_iload_n dX10_speak_6 rfl 1 rfl ?_
  refine pw_callV (As := [.int a1]) (rest := []) (s_X10_isPerson hE h) dX10_speak_7 ly_49 rfl (Or.inl ml_X10_105) cm_X10_isPerson rfl (rm_ok (by decide)) rm_0 (Nat.le_of_ble_eq_true rfl) ?_
  rintro _ G2 ⟨r1, rfl, h⟩
  refine pw_if_eq (tgt := 44) dX10_speak_10 (by decide) (fun hc => ?_) (fun hc => ?_)
  · have h := h.1 hc
    refine pw_iconst (v := (-1 : Int32)) dX10_speak_44 (by decide) ?_
    exact pw_ireturn dX10_speak_45 rfl rfl ⟨_, rfl, h⟩
  · have h := h.2 hc
    refine pw_aload_n dX10_speak_13 rfl 0 rfl ?_
    refine pw_iload_n dX10_speak_14 rfl 2 rfl ?_
    refine pw_callV (As := [.int a2]) (rest := []) (s_X10_isPerson hE h) dX10_speak_15 ly_49 rfl (Or.inl ml_X10_105) cm_X10_isPerson rfl (rm_ok (by decide)) rm_0 (Nat.le_of_ble_eq_true rfl) ?_
    rintro _ G4 ⟨r3, rfl, h⟩
    refine pw_if_eq (tgt := 44) dX10_speak_18 (by decide) (fun hc => ?_) (fun hc => ?_)
    · have h := h.1 hc
      refine pw_iconst (v := (-1 : Int32)) dX10_speak_44 (by decide) ?_
      exact pw_ireturn dX10_speak_45 rfl rfl ⟨_, rfl, h⟩
    · have h := h.2 hc
      refine pw_iload_n dX10_speak_21 rfl 1 rfl ?_
      refine pw_iload_n dX10_speak_22 rfl 2 rfl ?_
      refine pw_icmp_eq (tgt := 44) dX10_speak_23 (by decide) (fun hc => ?_) (fun hc => ?_)
      · have h := h.1 hc
        refine pw_iconst (v := (-1 : Int32)) dX10_speak_44 (by decide) ?_
        exact pw_ireturn dX10_speak_45 rfl rfl ⟨_, rfl, h⟩
      · have h := h.2 hc
        refine pw_aload_n dX10_speak_26 rfl 0 rfl ?_
        refine pw_iload_n dX10_speak_27 rfl 1 rfl ?_
        refine pw_callV (As := [.int a1]) (rest := []) (s_X10_humOf hE h) dX10_speak_28 ly_49 rfl (Or.inl ml_X10_109) cm_X10_humOf rfl (rm_ok (by decide)) rm_0 (Nat.le_of_ble_eq_true rfl) ?_
        rintro _ G6 ⟨r5, rfl, h⟩
        refine pw_iconst (v := (-1 : Int32)) dX10_speak_31 (by decide) ?_
        refine pw_icmp_eq (tgt := 44) dX10_speak_32 (by decide) (fun hc => ?_) (fun hc => ?_)
        · have h := h.1 hc
          refine pw_iconst (v := (-1 : Int32)) dX10_speak_44 (by decide) ?_
          exact pw_ireturn dX10_speak_45 rfl rfl ⟨_, rfl, h⟩
        · have h := h.2 hc
          refine pw_aload_n dX10_speak_35 rfl 0 rfl ?_
          refine pw_iload_n dX10_speak_36 rfl 2 rfl ?_
          refine pw_callV (As := [.int a2]) (rest := []) (s_X10_humOf hE h) dX10_speak_37 ly_49 rfl (Or.inl ml_X10_109) cm_X10_humOf rfl (rm_ok (by decide)) rm_0 (Nat.le_of_ble_eq_true rfl) ?_
          rintro _ G8 ⟨r7, rfl, h⟩
          refine pw_iconst (v := (-1 : Int32)) dX10_speak_40 (by decide) ?_
          refine pw_icmp_ne (tgt := 46) dX10_speak_41 (by decide) (fun hc => ?_) (fun hc => ?_)
          · have h := h.1 hc
            refine pw_aload_n dX10_speak_46 rfl 0 rfl ?_
            refine pw_callV (As := []) (rest := []) (s_X10_keepsAhead hE h) dX10_speak_47 ly_49 rfl (Or.inl ml_X10_250) cm_X10_keepsAhead rfl (rm_ok (by decide)) rm_0 (Nat.le_of_ble_eq_true rfl) ?_
            rintro _ G10 ⟨rfl, h⟩
            refine pw_iconst (v := (0 : Int32)) dX10_speak_50 (by decide) ?_
            refine pw_istore_n (lv' := [(3, .int (0 : Int32)), (0, .ref (ev_ad E 49)), (1, .int a1), (2, .int a2)]) dX10_speak_51 rfl (by decide) rfl ?_
            refine pw_iconst (v := (0 : Int32)) dX10_speak_52 (by decide) ?_
            refine pw_istore (lv' := [(4, .int (0 : Int32)), (3, .int (0 : Int32)), (0, .ref (ev_ad E 49)), (1, .int a1), (2, .int a2)]) dX10_speak_53 (by decide) rfl ?_
            refine pw_loc (lv' := [(0, .ref (ev_ad E 49)), (1, .int a1), (2, .int a2), (3, .int (0 : Int32)), (4, .int (0 : Int32))]) [2, 3, 4, 1, 0] rfl ?_
            obtain ⟨kf, h⟩ := h
            exact t_X10_speak_55 hE Q kf _ _ _ _ _ h
          · have h := h.2 hc
            refine pw_iconst (v := (-1 : Int32)) dX10_speak_44 (by decide) ?_
            exact pw_ireturn dX10_speak_45 rfl rfl ⟨_, rfl, h⟩
def wp_X10_draw (a1 : Int32) (G : GS) (Q : Int32 → GS → Prop) : Prop := ((¬ a1 = 0) ∧ Q ((ush_ (((1664525 : Int32) * (G 50 12)) + (1013904223 : Int32)) (8 : Int32)) - (ush_ (((1664525 : Int32) * (G 50 12)) + (1013904223 : Int32)) (8 : Int32)) / a1 * a1) (gu_ G 50 12 (((1664525 : Int32) * (G 50 12)) + (1013904223 : Int32))))
set_option maxRecDepth 100000 in
set_option maxHeartbeats 4000000 in
theorem s_X10_draw {E : EV} (hE : EI_ E) {a1 : Int32} {G : GS} {Q : Int32 → GS → Prop} (h : wp_X10_draw a1 G Q) : PMet E mi_X10_draw 1 [.ref (ev_ad E 49), .int a1] G (qi_ Q) := by
  refine pm_of hE (by decide) (Nat.le_of_ble_eq_true rfl) ?_
  refine pw_loc (lv' := [(0, .ref (ev_ad E 49)), (1, .int a1)]) [0, 1] rfl ?_
  refine pw_aload_n dX10_draw_0 rfl 0 rfl ?_
  refine pw_getr (q := 50) dX10_draw_1 fa_X10_7 ly_49 rfl ?_
  refine pw_bipush (v := (12 : Int32)) dX10_draw_4 (by decide) ?_
  refine pw_ldc (v := (1664525 : Int32)) dX10_draw_6 k_X10_96 ?_
  refine pw_aload_n dX10_draw_8 rfl 0 rfl ?_
  refine pw_getr (q := 50) dX10_draw_9 fa_X10_7 ly_49 rfl ?_
  refine pw_bipush (v := (12 : Int32)) dX10_draw_12 (by decide) ?_
  refine pw_iald (v := G 50 12) dX10_draw_14 ly_50 (by unfold vp_in; decide) rfl ?_
  refine pw_imul dX10_draw_15 ?_
  refine pw_ldc (v := (1013904223 : Int32)) dX10_draw_16 k_X10_97 ?_
  refine pw_iadd dX10_draw_18 ?_
  refine pw_iast (z := 12) dX10_draw_19 ly_50 (by unfold vp_in; decide) rfl ?_
  refine pw_aload_n dX10_draw_20 rfl 0 rfl ?_
  refine pw_getr (q := 50) dX10_draw_21 fa_X10_7 ly_49 rfl ?_
  refine pw_bipush (v := (12 : Int32)) dX10_draw_24 (by decide) ?_
  refine pw_iald (v := ((1664525 : Int32) * (G 50 12)) + (1013904223 : Int32)) dX10_draw_26 ly_50 (by unfold vp_in; decide) rfl ?_
  refine pw_bipush (v := (8 : Int32)) dX10_draw_27 (by decide) ?_
  refine pw_iushr dX10_draw_29 ?_
  refine pw_iload_n dX10_draw_30 rfl 1 rfl ?_
  obtain ⟨hv1, h⟩ := h
  refine pw_irem dX10_draw_31 hv1 ?_
  exact pw_ireturn dX10_draw_32 rfl rfl ⟨_, rfl, h⟩
def bk_X10_slips_65 (Q : Int32 → GS → Prop) (R4 : Int32 → Int32 → GS → Prop)  (x1 : Int32) (x2 : Int32) (z0 : Int32) (z1 : Int32) (G : GS) : Prop := ((0 ≤ (z1 + z0) → (((z1 + z0) ≤ (60 : Int32) → (vp_in ((0 : Int32) + x2) 13 ∧ R4 (x1 + (1 : Int32)) (x2 + 1) (gu_ G 50 (((0 : Int32) + x2).toNatClampNeg) ((z1 + z0) + (1 : Int32))))) ∧ (¬ (z1 + z0) ≤ (60 : Int32) → (vp_in ((0 : Int32) + x2) 13 ∧ R4 (x1 + (1 : Int32)) (x2 + 1) (gu_ G 50 (((0 : Int32) + x2).toNatClampNeg) (61 : Int32)))))) ∧ (¬ 0 ≤ (z1 + z0) → (vp_in ((0 : Int32) + x2) 13 ∧ R4 (x1 + (1 : Int32)) (x2 + 1) (gu_ G 50 (((0 : Int32) + x2).toNatClampNeg) (1 : Int32)))))
set_option maxRecDepth 100000 in
set_option maxHeartbeats 4000000 in
theorem t_X10_slips_65 {E : EV} (hE : EI_ E) (Q : Int32 → GS → Prop) (R4 : Int32 → Int32 → GS → Prop) (hR4 : ∀ (x1 : Int32) (x2 : Int32) (G : GS), R4 x1 x2 G → PW_ E mi_X10_slips (rm_ 2) 0 0 4 [(0, .ref (ev_ad E 49)), (1, .int x1), (2, .int x2)] [] G (qi_ Q))  {x1 : Int32} {x2 : Int32} {z0 : Int32} {z1 : Int32} {G : GS} (h : bk_X10_slips_65 Q R4 x1 x2 z0 z1 G) : PW_ E mi_X10_slips (rm_ 2) 0 0 65 [(0, .ref (ev_ad E 49)), (1, .int x1), (2, .int x2)] [.int z0, .int z1] G (qi_ Q) := by
  refine pw_iadd dX10_slips_65 ?_
  refine pw_istore_n (lv' := [(3, .int (z1 + z0)), (0, .ref (ev_ad E 49)), (1, .int x1), (2, .int x2)]) dX10_slips_66 rfl (by decide) rfl ?_
  refine pw_aload_n dX10_slips_67 rfl 1 rfl ?_
  refine pw_getr (q := 50) dX10_slips_68 fa_X10_7 ly_49 rfl ?_
  refine pw_iconst (v := (0 : Int32)) dX10_slips_71 (by decide) ?_
  refine pw_iload_n dX10_slips_72 rfl 3 rfl ?_
  refine pw_iadd dX10_slips_73 ?_
  refine pw_iload_n dX10_slips_74 rfl 0 rfl ?_
  refine pw_if_ge (tgt := 82) dX10_slips_75 (by decide) (fun hc => ?_) (fun hc => ?_)
  · have h := h.1 hc
    refine pw_iload_n dX10_slips_82 rfl 0 rfl ?_
    refine pw_bipush (v := (60 : Int32)) dX10_slips_83 (by decide) ?_
    refine pw_icmp_le (tgt := 93) dX10_slips_85 (by decide) (fun hc => ?_) (fun hc => ?_)
    · have h := h.1 hc
      refine pw_iload_n dX10_slips_93 rfl 0 rfl ?_
      refine pw_iconst (v := (1 : Int32)) dX10_slips_94 (by decide) ?_
      refine pw_iadd dX10_slips_95 ?_
      obtain ⟨hv7, h⟩ := h
      refine pw_iast (z := (((0 : Int32) + x2).toNatClampNeg)) dX10_slips_96 ly_50 hv7 rfl ?_
      refine pw_iload_n dX10_slips_97 rfl 2 rfl ?_
      refine pw_iconst (v := (1 : Int32)) dX10_slips_98 (by decide) ?_
      refine pw_iadd dX10_slips_99 ?_
      refine pw_istore_n (lv' := [(1, .int (x1 + (1 : Int32))), (3, .int (z1 + z0)), (0, .ref (ev_ad E 49)), (2, .int x2)]) dX10_slips_100 rfl (by decide) rfl ?_
      refine pw_iinc (k := 3) (v := x2 + 1) (lv' := [(2, .int (x2 + 1)), (1, .int (x1 + (1 : Int32))), (3, .int (z1 + z0)), (0, .ref (ev_ad E 49))]) dX10_slips_101 rfl rfl (by decide) rfl ?_
      refine pw_goto (tgt := 4) dX10_slips_104 (by decide) ?_
      refine pw_loc (lv' := [(0, .ref (ev_ad E 49)), (1, .int (x1 + (1 : Int32))), (2, .int (x2 + 1))]) [3, 1, 0] rfl ?_
      exact hR4 _ _ _ h
    · have h := h.2 hc
      refine pw_bipush (v := (61 : Int32)) dX10_slips_88 (by decide) ?_
      refine pw_goto (tgt := 96) dX10_slips_90 (by decide) ?_
      obtain ⟨hv8, h⟩ := h
      refine pw_iast (z := (((0 : Int32) + x2).toNatClampNeg)) dX10_slips_96 ly_50 hv8 rfl ?_
      refine pw_iload_n dX10_slips_97 rfl 2 rfl ?_
      refine pw_iconst (v := (1 : Int32)) dX10_slips_98 (by decide) ?_
      refine pw_iadd dX10_slips_99 ?_
      refine pw_istore_n (lv' := [(1, .int (x1 + (1 : Int32))), (3, .int (z1 + z0)), (0, .ref (ev_ad E 49)), (2, .int x2)]) dX10_slips_100 rfl (by decide) rfl ?_
      refine pw_iinc (k := 3) (v := x2 + 1) (lv' := [(2, .int (x2 + 1)), (1, .int (x1 + (1 : Int32))), (3, .int (z1 + z0)), (0, .ref (ev_ad E 49))]) dX10_slips_101 rfl rfl (by decide) rfl ?_
      refine pw_goto (tgt := 4) dX10_slips_104 (by decide) ?_
      refine pw_loc (lv' := [(0, .ref (ev_ad E 49)), (1, .int (x1 + (1 : Int32))), (2, .int (x2 + 1))]) [3, 1, 0] rfl ?_
      exact hR4 _ _ _ h
  · have h := h.2 hc
    refine pw_iconst (v := (1 : Int32)) dX10_slips_78 (by decide) ?_
    refine pw_goto (tgt := 96) dX10_slips_79 (by decide) ?_
    obtain ⟨hv9, h⟩ := h
    refine pw_iast (z := (((0 : Int32) + x2).toNatClampNeg)) dX10_slips_96 ly_50 hv9 rfl ?_
    refine pw_iload_n dX10_slips_97 rfl 2 rfl ?_
    refine pw_iconst (v := (1 : Int32)) dX10_slips_98 (by decide) ?_
    refine pw_iadd dX10_slips_99 ?_
    refine pw_istore_n (lv' := [(1, .int (x1 + (1 : Int32))), (3, .int (z1 + z0)), (0, .ref (ev_ad E 49)), (2, .int x2)]) dX10_slips_100 rfl (by decide) rfl ?_
    refine pw_iinc (k := 3) (v := x2 + 1) (lv' := [(2, .int (x2 + 1)), (1, .int (x1 + (1 : Int32))), (3, .int (z1 + z0)), (0, .ref (ev_ad E 49))]) dX10_slips_101 rfl rfl (by decide) rfl ?_
    refine pw_goto (tgt := 4) dX10_slips_104 (by decide) ?_
    refine pw_loc (lv' := [(0, .ref (ev_ad E 49)), (1, .int (x1 + (1 : Int32))), (2, .int (x2 + 1))]) [3, 1, 0] rfl ?_
    exact hR4 _ _ _ h
def lp_X10_slips_4 (Q : Int32 → GS → Prop)  : Nat → Int32 → Int32 → GS → Prop
  | 0, _, _, _ => False
  | n + 1, x1, x2, G => (((G 49 4) ≤ x2 → Q x1 (gu_ G 50 11 ((G 50 11) + (1 : Int32)))) ∧ (¬ (G 49 4) ≤ x2 → (((((G 49 5) >>> (x2 &&& 31)) &&& (1 : Int32)) = 0 → lp_X10_slips_4 Q n x1 (x2 + 1) G) ∧ (¬ (((G 49 5) >>> (x2 &&& 31)) &&& (1 : Int32)) = 0 → (((G 49 7) = 0 → lp_X10_slips_4 Q n x1 (x2 + 1) G) ∧ (¬ (G 49 7) = 0 → wp_X10_draw (1000 : Int32) G (fun r1 G2 => ((r1 < (G2 49 7) → wp_X10_humOf x2 G2 (fun r3 G4 => wp_X10_draw (2 : Int32) G4 (fun r5 G6 => ((¬ r5 = 0 → bk_X10_slips_65 Q (fun y1 y2 G => lp_X10_slips_4 Q n y1 y2 G) x1 x2 (1 : Int32) r3 G6) ∧ (r5 = 0 → bk_X10_slips_65 Q (fun y1 y2 G => lp_X10_slips_4 Q n y1 y2 G) x1 x2 (-1 : Int32) r3 G6))))) ∧ (¬ r1 < (G2 49 7) → lp_X10_slips_4 Q n x1 (x2 + 1) G2)))))))))
set_option maxRecDepth 100000 in
set_option maxHeartbeats 4000000 in
theorem t_X10_slips_4 {E : EV} (hE : EI_ E) (Q : Int32 → GS → Prop)  : ∀ (n : Nat) (x1 : Int32) (x2 : Int32) (G : GS), lp_X10_slips_4 Q n x1 x2 G → PW_ E mi_X10_slips (rm_ 2) 0 0 4 [(0, .ref (ev_ad E 49)), (1, .int x1), (2, .int x2)] [] G (qi_ Q) := by
  intro n
  induction n with
  | zero => intro x1 x2 G h; exact h.elim
  | succ n ih =>
    intro x1 x2 G h
    refine pw_iload_n dX10_slips_4 rfl 2 rfl ?_
    refine pw_aload_n dX10_slips_5 rfl 0 rfl ?_
    refine pw_geti (v := G 49 4) dX10_slips_6 fa_X10_98 ly_49 rfl rfl ?_
    refine pw_icmp_ge (tgt := 107) dX10_slips_9 (by decide) (fun hc => ?_) (fun hc => ?_)
    · have h := h.1 hc
      refine pw_aload_n dX10_slips_107 rfl 0 rfl ?_
      refine pw_getr (q := 50) dX10_slips_108 fa_X10_7 ly_49 rfl ?_
      refine pw_bipush (v := (11 : Int32)) dX10_slips_111 (by decide) ?_
      refine pw_aload_n dX10_slips_113 rfl 0 rfl ?_
      refine pw_getr (q := 50) dX10_slips_114 fa_X10_7 ly_49 rfl ?_
      refine pw_bipush (v := (11 : Int32)) dX10_slips_117 (by decide) ?_
      refine pw_iald (v := G 50 11) dX10_slips_119 ly_50 (by unfold vp_in; decide) rfl ?_
      refine pw_iconst (v := (1 : Int32)) dX10_slips_120 (by decide) ?_
      refine pw_iadd dX10_slips_121 ?_
      refine pw_iast (z := 11) dX10_slips_122 ly_50 (by unfold vp_in; decide) rfl ?_
      refine pw_iload_n dX10_slips_123 rfl 1 rfl ?_
      exact pw_ireturn dX10_slips_124 rfl rfl ⟨_, rfl, h⟩
    · have h := h.2 hc
      refine pw_aload_n dX10_slips_12 rfl 0 rfl ?_
      refine pw_geti (v := G 49 5) dX10_slips_13 fa_X10_116 ly_49 rfl rfl ?_
      refine pw_iload_n dX10_slips_16 rfl 2 rfl ?_
      refine pw_ishr dX10_slips_17 ?_
      refine pw_iconst (v := (1 : Int32)) dX10_slips_18 (by decide) ?_
      refine pw_iand dX10_slips_19 ?_
      refine pw_if_eq (tgt := 101) dX10_slips_20 (by decide) (fun hc => ?_) (fun hc => ?_)
      · have h := h.1 hc
        refine pw_iinc (k := 2) (v := x2 + 1) (lv' := [(2, .int (x2 + 1)), (0, .ref (ev_ad E 49)), (1, .int x1)]) dX10_slips_101 rfl rfl (by decide) rfl ?_
        refine pw_goto (tgt := 4) dX10_slips_104 (by decide) ?_
        refine pw_loc (lv' := [(0, .ref (ev_ad E 49)), (1, .int x1), (2, .int (x2 + 1))]) [1, 2, 0] rfl ?_
        exact ih _ _ _ h
      · have h := h.2 hc
        refine pw_aload_n dX10_slips_23 rfl 0 rfl ?_
        refine pw_geti (v := G 49 7) dX10_slips_24 fa_X10_119 ly_49 rfl rfl ?_
        refine pw_if_eq (tgt := 101) dX10_slips_27 (by decide) (fun hc => ?_) (fun hc => ?_)
        · have h := h.1 hc
          refine pw_iinc (k := 2) (v := x2 + 1) (lv' := [(2, .int (x2 + 1)), (0, .ref (ev_ad E 49)), (1, .int x1)]) dX10_slips_101 rfl rfl (by decide) rfl ?_
          refine pw_goto (tgt := 4) dX10_slips_104 (by decide) ?_
          refine pw_loc (lv' := [(0, .ref (ev_ad E 49)), (1, .int x1), (2, .int (x2 + 1))]) [1, 2, 0] rfl ?_
          exact ih _ _ _ h
        · have h := h.2 hc
          refine pw_aload_n dX10_slips_30 rfl 0 rfl ?_
          refine pw_sipush (v := (1000 : Int32)) dX10_slips_31 (by decide) ?_
          refine pw_callV (As := [.int (1000 : Int32)]) (rest := []) (s_X10_draw hE h) dX10_slips_34 ly_49 rfl (Or.inl ml_X10_257) cm_X10_draw rfl (rm_ok (by decide)) rm_0 (Nat.le_of_ble_eq_true rfl) ?_
          rintro _ G2 ⟨r1, rfl, h⟩
          refine pw_aload_n dX10_slips_37 rfl 0 rfl ?_
          refine pw_geti (v := G2 49 7) dX10_slips_38 fa_X10_119 ly_49 rfl rfl ?_
          refine pw_icmp_lt (tgt := 47) dX10_slips_41 (by decide) (fun hc => ?_) (fun hc => ?_)
          · have h := h.1 hc
            refine pw_aload_n dX10_slips_47 rfl 0 rfl ?_
            refine pw_iload_n dX10_slips_48 rfl 2 rfl ?_
            refine pw_callV (As := [.int x2]) (rest := []) (s_X10_humOf hE h) dX10_slips_49 ly_49 rfl (Or.inl ml_X10_109) cm_X10_humOf rfl (rm_ok (by decide)) rm_0 (Nat.le_of_ble_eq_true rfl) ?_
            rintro _ G4 ⟨r3, rfl, h⟩
            refine pw_aload_n dX10_slips_52 rfl 0 rfl ?_
            refine pw_iconst (v := (2 : Int32)) dX10_slips_53 (by decide) ?_
            refine pw_callV (As := [.int (2 : Int32)]) (rest := [.int r3]) (s_X10_draw hE h) dX10_slips_54 ly_49 rfl (Or.inl ml_X10_257) cm_X10_draw rfl (rm_ok (by decide)) rm_0 (Nat.le_of_ble_eq_true rfl) ?_
            rintro _ G6 ⟨r5, rfl, h⟩
            refine pw_if_ne (tgt := 64) dX10_slips_57 (by decide) (fun hc => ?_) (fun hc => ?_)
            · have h := h.1 hc
              refine pw_iconst (v := (1 : Int32)) dX10_slips_64 (by decide) ?_
              refine pw_loc (lv' := [(0, .ref (ev_ad E 49)), (1, .int x1), (2, .int x2)]) [0, 1, 2] rfl ?_
              exact t_X10_slips_65 hE Q (fun y1 y2 G => lp_X10_slips_4 Q n y1 y2 G) ih h
            · have h := h.2 hc
              refine pw_iconst (v := (-1 : Int32)) dX10_slips_60 (by decide) ?_
              refine pw_goto (tgt := 65) dX10_slips_61 (by decide) ?_
              refine pw_loc (lv' := [(0, .ref (ev_ad E 49)), (1, .int x1), (2, .int x2)]) [0, 1, 2] rfl ?_
              exact t_X10_slips_65 hE Q (fun y1 y2 G => lp_X10_slips_4 Q n y1 y2 G) ih h
          · have h := h.2 hc
            refine pw_goto (tgt := 101) dX10_slips_44 (by decide) ?_
            refine pw_iinc (k := 2) (v := x2 + 1) (lv' := [(2, .int (x2 + 1)), (0, .ref (ev_ad E 49)), (1, .int x1)]) dX10_slips_101 rfl rfl (by decide) rfl ?_
            refine pw_goto (tgt := 4) dX10_slips_104 (by decide) ?_
            refine pw_loc (lv' := [(0, .ref (ev_ad E 49)), (1, .int x1), (2, .int (x2 + 1))]) [1, 2, 0] rfl ?_
            exact ih _ _ _ h
def wp_X10_slips  (G : GS) (Q : Int32 → GS → Prop) : Prop := (∃ kf, lp_X10_slips_4 Q kf (0 : Int32) (0 : Int32) G)
set_option maxRecDepth 100000 in
set_option maxHeartbeats 4000000 in
theorem s_X10_slips {E : EV} (hE : EI_ E)  {G : GS} {Q : Int32 → GS → Prop} (h : wp_X10_slips  G Q) : PMet E mi_X10_slips 2 [.ref (ev_ad E 49)] G (qi_ Q) := by
  refine pm_of hE (by decide) (Nat.le_of_ble_eq_true rfl) ?_
  refine pw_loc (lv' := [(0, .ref (ev_ad E 49))]) [0] rfl ?_
  refine pw_iconst (v := (0 : Int32)) dX10_slips_0 (by decide) ?_
  refine pw_istore_n (lv' := [(1, .int (0 : Int32)), (0, .ref (ev_ad E 49))]) dX10_slips_1 rfl (by decide) rfl ?_
  refine pw_iconst (v := (0 : Int32)) dX10_slips_2 (by decide) ?_
  refine pw_istore_n (lv' := [(2, .int (0 : Int32)), (1, .int (0 : Int32)), (0, .ref (ev_ad E 49))]) dX10_slips_3 rfl (by decide) rfl ?_
  refine pw_loc (lv' := [(0, .ref (ev_ad E 49)), (1, .int (0 : Int32)), (2, .int (0 : Int32))]) [2, 1, 0] rfl ?_
  obtain ⟨kf, h⟩ := h
  exact t_X10_slips_4 hE Q kf _ _ _ h
def lp_X10_hours_37 (Q : Int32 → GS → Prop)  : Nat → Int32 → Int32 → Int32 → GS → Prop
  | 0, _, _, _, _ => False
  | n + 1, x1, x2, x3, G => ((x1 ≤ x3 → Q x2 G) ∧ (¬ x1 ≤ x3 → wp_X10_keepsAhead G (fun _ G4 => wp_X10_slips G4 (fun r5 G6 => lp_X10_hours_37 Q n x1 (x2 + r5) (x3 + 1) G6))))
set_option maxRecDepth 100000 in
set_option maxHeartbeats 4000000 in
theorem t_X10_hours_37 {E : EV} (hE : EI_ E) (Q : Int32 → GS → Prop)  : ∀ (n : Nat) (x1 : Int32) (x2 : Int32) (x3 : Int32) (G : GS), lp_X10_hours_37 Q n x1 x2 x3 G → PW_ E mi_X10_hours (rm_ 3) 0 0 37 [(0, .ref (ev_ad E 49)), (1, .int x1), (2, .int x2), (3, .int x3)] [] G (qi_ Q) := by
  intro n
  induction n with
  | zero => intro x1 x2 x3 G h; exact h.elim
  | succ n ih =>
    intro x1 x2 x3 G h
    refine pw_iload_n dX10_hours_37 rfl 3 rfl ?_
    refine pw_iload_n dX10_hours_38 rfl 1 rfl ?_
    refine pw_icmp_ge (tgt := 59) dX10_hours_39 (by decide) (fun hc => ?_) (fun hc => ?_)
    · have h := h.1 hc
      refine pw_iload_n dX10_hours_59 rfl 2 rfl ?_
      exact pw_ireturn dX10_hours_60 rfl rfl ⟨_, rfl, h⟩
    · have h := h.2 hc
      refine pw_aload_n dX10_hours_42 rfl 0 rfl ?_
      refine pw_callV (As := []) (rest := []) (s_X10_keepsAhead hE h) dX10_hours_43 ly_49 rfl (Or.inl ml_X10_250) cm_X10_keepsAhead rfl (rm_ok (by decide)) rm_0 (Nat.le_of_ble_eq_true rfl) ?_
      rintro _ G4 ⟨rfl, h⟩
      refine pw_iload_n dX10_hours_46 rfl 2 rfl ?_
      refine pw_aload_n dX10_hours_47 rfl 0 rfl ?_
      refine pw_callV (As := []) (rest := [.int x2]) (s_X10_slips hE h) dX10_hours_48 ly_49 rfl (Or.inl ml_X10_260) cm_X10_slips rfl (rm_ok (by decide)) rm_0 (Nat.le_of_ble_eq_true rfl) ?_
      rintro _ G6 ⟨r5, rfl, h⟩
      refine pw_iadd dX10_hours_51 ?_
      refine pw_istore_n (lv' := [(2, .int (x2 + r5)), (0, .ref (ev_ad E 49)), (1, .int x1), (3, .int x3)]) dX10_hours_52 rfl (by decide) rfl ?_
      refine pw_iinc (k := 3) (v := x3 + 1) (lv' := [(3, .int (x3 + 1)), (2, .int (x2 + r5)), (0, .ref (ev_ad E 49)), (1, .int x1)]) dX10_hours_53 rfl rfl (by decide) rfl ?_
      refine pw_goto (tgt := 37) dX10_hours_56 (by decide) ?_
      refine pw_loc (lv' := [(0, .ref (ev_ad E 49)), (1, .int x1), (2, .int (x2 + r5)), (3, .int (x3 + 1))]) [2, 3, 1, 0] rfl ?_
      exact ih _ _ _ _ h
def wp_X10_hours (a1 : Int32) (G : GS) (Q : Int32 → GS → Prop) : Prop := wp_X10_isIn a1 (1 : Int32) (100 : Int32) (gu_ G 49 0 (0 : Int32)) (fun r1 G2 => ((r1 = 0 → Q (-1 : Int32) G2) ∧ (¬ r1 = 0 → ((((G2 50 11) + a1) ≤ (9999 : Int32) → (∃ kf, lp_X10_hours_37 Q kf a1 (0 : Int32) (0 : Int32) G2)) ∧ (¬ ((G2 50 11) + a1) ≤ (9999 : Int32) → Q (-1 : Int32) G2)))))
set_option maxRecDepth 100000 in
set_option maxHeartbeats 4000000 in
theorem s_X10_hours {E : EV} (hE : EI_ E) {a1 : Int32} {G : GS} {Q : Int32 → GS → Prop} (h : wp_X10_hours a1 G Q) : PMet E mi_X10_hours 3 [.ref (ev_ad E 49), .int a1] G (qi_ Q) := by
  refine pm_of hE (by decide) (Nat.le_of_ble_eq_true rfl) ?_
  refine pw_loc (lv' := [(0, .ref (ev_ad E 49)), (1, .int a1)]) [0, 1] rfl ?_
  refine pw_aload_n dX10_hours_0 rfl 0 rfl ?_
  refine pw_iconst (v := (0 : Int32)) dX10_hours_1 (by decide) ?_
  refine pw_puti dX10_hours_2 fp_X10_90 ly_49 rfl ?_
  refine pw_aload_n dX10_hours_5 rfl 0 rfl ?_
  refine pw_iload_n dX10_hours_6 rfl 1 rfl ?_
  refine pw_iconst (v := (1 : Int32)) dX10_hours_7 (by decide) ?_
  refine pw_bipush (v := (100 : Int32)) dX10_hours_8 (by decide) ?_
  refine pw_callV (As := [.int a1, .int (1 : Int32), .int (100 : Int32)]) (rest := []) (s_X10_isIn hE h) dX10_hours_10 ly_49 rfl (Or.inl ml_X10_101) cm_X10_isIn rfl (rm_ok (by decide)) rm_0 (Nat.le_of_ble_eq_true rfl) ?_
  rintro _ G2 ⟨r1, rfl, h⟩
  refine pw_if_eq (tgt := 31) dX10_hours_13 (by decide) (fun hc => ?_) (fun hc => ?_)
  · have h := h.1 hc
    refine pw_iconst (v := (-1 : Int32)) dX10_hours_31 (by decide) ?_
    exact pw_ireturn dX10_hours_32 rfl rfl ⟨_, rfl, h⟩
  · have h := h.2 hc
    refine pw_aload_n dX10_hours_16 rfl 0 rfl ?_
    refine pw_getr (q := 50) dX10_hours_17 fa_X10_7 ly_49 rfl ?_
    refine pw_bipush (v := (11 : Int32)) dX10_hours_20 (by decide) ?_
    refine pw_iald (v := G2 50 11) dX10_hours_22 ly_50 (by unfold vp_in; decide) rfl ?_
    refine pw_iload_n dX10_hours_23 rfl 1 rfl ?_
    refine pw_iadd dX10_hours_24 ?_
    refine pw_sipush (v := (9999 : Int32)) dX10_hours_25 (by decide) ?_
    refine pw_icmp_le (tgt := 33) dX10_hours_28 (by decide) (fun hc => ?_) (fun hc => ?_)
    · have h := h.1 hc
      refine pw_iconst (v := (0 : Int32)) dX10_hours_33 (by decide) ?_
      refine pw_istore_n (lv' := [(2, .int (0 : Int32)), (0, .ref (ev_ad E 49)), (1, .int a1)]) dX10_hours_34 rfl (by decide) rfl ?_
      refine pw_iconst (v := (0 : Int32)) dX10_hours_35 (by decide) ?_
      refine pw_istore_n (lv' := [(3, .int (0 : Int32)), (2, .int (0 : Int32)), (0, .ref (ev_ad E 49)), (1, .int a1)]) dX10_hours_36 rfl (by decide) rfl ?_
      refine pw_loc (lv' := [(0, .ref (ev_ad E 49)), (1, .int a1), (2, .int (0 : Int32)), (3, .int (0 : Int32))]) [2, 3, 1, 0] rfl ?_
      obtain ⟨kf, h⟩ := h
      exact t_X10_hours_37 hE Q kf _ _ _ _ h
    · have h := h.2 hc
      refine pw_iconst (v := (-1 : Int32)) dX10_hours_31 (by decide) ?_
      exact pw_ireturn dX10_hours_32 rfl rfl ⟨_, rfl, h⟩
