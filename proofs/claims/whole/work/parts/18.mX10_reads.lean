def lp_X10_reads_95 (Q : Int32 → GS → Prop)  : Nat → GS → Prop
  | 0, _ => False
  | n + 1, G => wp_X10_raw (G 49 11) G (fun r13 G14 => wp_X10_isLetter r13 G14 (fun r15 G16 => ((r15 = 0 → wp_X10_wordAt (G16 49 12) (G16 49 11) G16 (fun r17 G18 => ((r17 = (-1 : Int32) → Q 0 (gu_ G18 49 14 r17)) ∧ (¬ r17 = (-1 : Int32) → Q 0 (gu_ (gu_ G18 49 14 r17) 49 13 (2 : Int32)))))) ∧ (¬ r15 = 0 → lp_X10_reads_95 Q n (gu_ G16 49 11 ((G16 49 11) + (1 : Int32)))))))
set_option maxRecDepth 100000 in
set_option maxHeartbeats 4000000 in
theorem t_X10_reads_95 {E : EV} (hE : EI_ E) (Q : Int32 → GS → Prop)  : ∀ (n : Nat)  (G : GS), lp_X10_reads_95 Q n G → PW_ E mi_X10_reads (rm_ 3) 0 0 95 [(0, .ref (ev_ad E 49))] [] G (qv_ Q) := by
  intro n
  induction n with
  | zero => intro G h; exact h.elim
  | succ n ih =>
    intro G h
    refine pw_aload_n dX10_reads_95 rfl 0 rfl ?_
    refine pw_aload_n dX10_reads_96 rfl 0 rfl ?_
    refine pw_aload_n dX10_reads_97 rfl 0 rfl ?_
    refine pw_geti (v := G 49 11) dX10_reads_98 fa_X10_129 ly_49 rfl rfl ?_
    refine pw_callV (As := [.int (G 49 11)]) (rest := [.ref (ev_ad E 49)]) (s_X10_raw hE h) dX10_reads_101 ly_49 rfl (Or.inl ml_X10_132) cm_X10_raw rfl (rm_ok (by decide)) rm_0 (Nat.le_of_ble_eq_true rfl) ?_
    rintro _ G14 ⟨r13, rfl, h⟩
    refine pw_callV (As := [.int r13]) (rest := []) (s_X10_isLetter hE h) dX10_reads_104 ly_49 rfl (Or.inl ml_X10_144) cm_X10_isLetter rfl (rm_ok (by decide)) rm_0 (Nat.le_of_ble_eq_true rfl) ?_
    rintro _ G16 ⟨r15, rfl, h⟩
    refine pw_if_eq (tgt := 123) dX10_reads_107 (by decide) (fun hc => ?_) (fun hc => ?_)
    · have h := h.1 hc
      refine pw_aload_n dX10_reads_123 rfl 0 rfl ?_
      refine pw_aload_n dX10_reads_124 rfl 0 rfl ?_
      refine pw_aload_n dX10_reads_125 rfl 0 rfl ?_
      refine pw_geti (v := G16 49 12) dX10_reads_126 fa_X10_135 ly_49 rfl rfl ?_
      refine pw_aload_n dX10_reads_129 rfl 0 rfl ?_
      refine pw_geti (v := G16 49 11) dX10_reads_130 fa_X10_129 ly_49 rfl rfl ?_
      refine pw_callV (As := [.int (G16 49 12), .int (G16 49 11)]) (rest := [.ref (ev_ad E 49)]) (s_X10_wordAt hE h) dX10_reads_133 ly_49 rfl (Or.inl ml_X10_147) cm_X10_wordAt rfl (rm_ok (by decide)) rm_0 (Nat.le_of_ble_eq_true rfl) ?_
      rintro _ G18 ⟨r17, rfl, h⟩
      refine pw_puti dX10_reads_136 fp_X10_141 ly_49 rfl ?_
      refine pw_aload_n dX10_reads_139 rfl 0 rfl ?_
      refine pw_geti (v := r17) dX10_reads_140 fa_X10_141 ly_49 rfl rfl ?_
      refine pw_iconst (v := (-1 : Int32)) dX10_reads_143 (by decide) ?_
      refine pw_icmp_eq (tgt := 273) dX10_reads_144 (by decide) (fun hc => ?_) (fun hc => ?_)
      · have h := h.1 hc
        exact pw_return dX10_reads_273 rfl ⟨rfl, h⟩
      · have h := h.2 hc
        refine pw_aload_n dX10_reads_147 rfl 0 rfl ?_
        refine pw_iconst (v := (2 : Int32)) dX10_reads_148 (by decide) ?_
        refine pw_puti dX10_reads_149 fp_X10_138 ly_49 rfl ?_
        refine pw_goto (tgt := 273) dX10_reads_152 (by decide) ?_
        exact pw_return dX10_reads_273 rfl ⟨rfl, h⟩
    · have h := h.2 hc
      refine pw_aload_n dX10_reads_110 rfl 0 rfl ?_
      refine pw_aload_n dX10_reads_111 rfl 0 rfl ?_
      refine pw_geti (v := G16 49 11) dX10_reads_112 fa_X10_129 ly_49 rfl rfl ?_
      refine pw_iconst (v := (1 : Int32)) dX10_reads_115 (by decide) ?_
      refine pw_iadd dX10_reads_116 ?_
      refine pw_puti dX10_reads_117 fp_X10_129 ly_49 rfl ?_
      refine pw_goto (tgt := 95) dX10_reads_120 (by decide) ?_
      refine pw_loc (lv' := [(0, .ref (ev_ad E 49))]) [0] rfl ?_
      exact ih  _ h
def lp_X10_reads_171 (Q : Int32 → GS → Prop)  : Nat → GS → Prop
  | 0, _ => False
  | n + 1, G => wp_X10_raw (G 49 11) G (fun r19 G20 => wp_X10_isDigit r19 G20 (fun r21 G22 => ((r21 = 0 → (((5 : Int32) ≤ ((G22 49 11) - (G22 49 12)) → Q 0 G22) ∧ (¬ (5 : Int32) ≤ ((G22 49 11) - (G22 49 12)) → Q 0 (gu_ G22 49 13 (3 : Int32))))) ∧ (¬ r21 = 0 → (((10000 : Int32) ≤ (G22 49 14) → lp_X10_reads_171 Q n (gu_ (gu_ G22 49 14 (G22 49 14)) 49 11 ((G22 49 11) + (1 : Int32)))) ∧ (¬ (10000 : Int32) ≤ (G22 49 14) → wp_X10_raw (G22 49 11) G22 (fun r23 G24 => lp_X10_reads_171 Q n (gu_ (gu_ G24 49 14 ((((10 : Int32) * (G22 49 14)) + r23) - (48 : Int32))) 49 11 ((G24 49 11) + (1 : Int32))))))))))
set_option maxRecDepth 100000 in
set_option maxHeartbeats 4000000 in
theorem t_X10_reads_171 {E : EV} (hE : EI_ E) (Q : Int32 → GS → Prop)  : ∀ (n : Nat)  (G : GS), lp_X10_reads_171 Q n G → PW_ E mi_X10_reads (rm_ 3) 0 0 171 [(0, .ref (ev_ad E 49))] [] G (qv_ Q) := by
  intro n
  induction n with
  | zero => intro G h; exact h.elim
  | succ n ih =>
    intro G h
    refine pw_aload_n dX10_reads_171 rfl 0 rfl ?_
    refine pw_aload_n dX10_reads_172 rfl 0 rfl ?_
    refine pw_aload_n dX10_reads_173 rfl 0 rfl ?_
    refine pw_geti (v := G 49 11) dX10_reads_174 fa_X10_129 ly_49 rfl rfl ?_
    refine pw_callV (As := [.int (G 49 11)]) (rest := [.ref (ev_ad E 49)]) (s_X10_raw hE h) dX10_reads_177 ly_49 rfl (Or.inl ml_X10_132) cm_X10_raw rfl (rm_ok (by decide)) rm_0 (Nat.le_of_ble_eq_true rfl) ?_
    rintro _ G20 ⟨r19, rfl, h⟩
    refine pw_callV (As := [.int r19]) (rest := []) (s_X10_isDigit hE h) dX10_reads_180 ly_49 rfl (Or.inl ml_X10_151) cm_X10_isDigit rfl (rm_ok (by decide)) rm_0 (Nat.le_of_ble_eq_true rfl) ?_
    rintro _ G22 ⟨r21, rfl, h⟩
    refine pw_if_eq (tgt := 239) dX10_reads_183 (by decide) (fun hc => ?_) (fun hc => ?_)
    · have h := h.1 hc
      refine pw_aload_n dX10_reads_239 rfl 0 rfl ?_
      refine pw_geti (v := G22 49 11) dX10_reads_240 fa_X10_129 ly_49 rfl rfl ?_
      refine pw_aload_n dX10_reads_243 rfl 0 rfl ?_
      refine pw_geti (v := G22 49 12) dX10_reads_244 fa_X10_135 ly_49 rfl rfl ?_
      refine pw_isub dX10_reads_247 ?_
      refine pw_iconst (v := (5 : Int32)) dX10_reads_248 (by decide) ?_
      refine pw_icmp_ge (tgt := 273) dX10_reads_249 (by decide) (fun hc => ?_) (fun hc => ?_)
      · have h := h.1 hc
        exact pw_return dX10_reads_273 rfl ⟨rfl, h⟩
      · have h := h.2 hc
        refine pw_aload_n dX10_reads_252 rfl 0 rfl ?_
        refine pw_iconst (v := (3 : Int32)) dX10_reads_253 (by decide) ?_
        refine pw_puti dX10_reads_254 fp_X10_138 ly_49 rfl ?_
        refine pw_goto (tgt := 273) dX10_reads_257 (by decide) ?_
        exact pw_return dX10_reads_273 rfl ⟨rfl, h⟩
    · have h := h.2 hc
      refine pw_aload_n dX10_reads_186 rfl 0 rfl ?_
      refine pw_aload_n dX10_reads_187 rfl 0 rfl ?_
      refine pw_geti (v := G22 49 14) dX10_reads_188 fa_X10_141 ly_49 rfl rfl ?_
      refine pw_sipush (v := (10000 : Int32)) dX10_reads_191 (by decide) ?_
      refine pw_icmp_ge (tgt := 219) dX10_reads_194 (by decide) (fun hc => ?_) (fun hc => ?_)
      · have h := h.1 hc
        refine pw_aload_n dX10_reads_219 rfl 0 rfl ?_
        refine pw_geti (v := G22 49 14) dX10_reads_220 fa_X10_141 ly_49 rfl rfl ?_
        refine pw_puti dX10_reads_223 fp_X10_141 ly_49 rfl ?_
        refine pw_aload_n dX10_reads_226 rfl 0 rfl ?_
        refine pw_aload_n dX10_reads_227 rfl 0 rfl ?_
        refine pw_geti (v := G22 49 11) dX10_reads_228 fa_X10_129 ly_49 rfl rfl ?_
        refine pw_iconst (v := (1 : Int32)) dX10_reads_231 (by decide) ?_
        refine pw_iadd dX10_reads_232 ?_
        refine pw_puti dX10_reads_233 fp_X10_129 ly_49 rfl ?_
        refine pw_goto (tgt := 171) dX10_reads_236 (by decide) ?_
        refine pw_loc (lv' := [(0, .ref (ev_ad E 49))]) [0] rfl ?_
        exact ih  _ h
      · have h := h.2 hc
        refine pw_bipush (v := (10 : Int32)) dX10_reads_197 (by decide) ?_
        refine pw_aload_n dX10_reads_199 rfl 0 rfl ?_
        refine pw_geti (v := G22 49 14) dX10_reads_200 fa_X10_141 ly_49 rfl rfl ?_
        refine pw_imul dX10_reads_203 ?_
        refine pw_aload_n dX10_reads_204 rfl 0 rfl ?_
        refine pw_aload_n dX10_reads_205 rfl 0 rfl ?_
        refine pw_geti (v := G22 49 11) dX10_reads_206 fa_X10_129 ly_49 rfl rfl ?_
        refine pw_callV (As := [.int (G22 49 11)]) (rest := [.int ((10 : Int32) * (G22 49 14)), .ref (ev_ad E 49)]) (s_X10_raw hE h) dX10_reads_209 ly_49 rfl (Or.inl ml_X10_132) cm_X10_raw rfl (rm_ok (by decide)) rm_0 (Nat.le_of_ble_eq_true rfl) ?_
        rintro _ G24 ⟨r23, rfl, h⟩
        refine pw_iadd dX10_reads_212 ?_
        refine pw_bipush (v := (48 : Int32)) dX10_reads_213 (by decide) ?_
        refine pw_isub dX10_reads_215 ?_
        refine pw_goto (tgt := 223) dX10_reads_216 (by decide) ?_
        refine pw_puti dX10_reads_223 fp_X10_141 ly_49 rfl ?_
        refine pw_aload_n dX10_reads_226 rfl 0 rfl ?_
        refine pw_aload_n dX10_reads_227 rfl 0 rfl ?_
        refine pw_geti (v := G24 49 11) dX10_reads_228 fa_X10_129 ly_49 rfl rfl ?_
        refine pw_iconst (v := (1 : Int32)) dX10_reads_231 (by decide) ?_
        refine pw_iadd dX10_reads_232 ?_
        refine pw_puti dX10_reads_233 fp_X10_129 ly_49 rfl ?_
        refine pw_goto (tgt := 171) dX10_reads_236 (by decide) ?_
        refine pw_loc (lv' := [(0, .ref (ev_ad E 49))]) [0] rfl ?_
        exact ih  _ h
def lp_X10_reads_0 (Q : Int32 → GS → Prop)  : Nat → GS → Prop
  | 0, _ => False
  | n + 1, G => wp_X10_raw (G 49 11) G (fun r25 G26 => ((r25 = (32 : Int32) → lp_X10_reads_0 Q n (gu_ G26 49 11 ((G26 49 11) + (1 : Int32)))) ∧ (¬ r25 = (32 : Int32) → wp_X10_raw (G26 49 11) G26 (fun r27 G28 => ((¬ r27 = (10 : Int32) → wp_X10_raw (G28 49 11) (gu_ (gu_ G28 49 12 (G28 49 11)) 49 13 (1 : Int32)) (fun r29 G30 => ((¬ r29 = (-1 : Int32) → wp_X10_isLetter r29 (gu_ (gu_ G30 49 11 ((G30 49 11) + (1 : Int32))) 49 14 r29) (fun r31 G32 => ((r31 = 0 → wp_X10_isDigit r29 G32 (fun r33 G34 => ((r33 = 0 → wp_X10_isMarkSign r29 G34 (fun r35 G36 => ((r35 = 0 → Q 0 G36) ∧ (¬ r35 = 0 → Q 0 (gu_ G36 49 13 (4 : Int32)))))) ∧ (¬ r33 = 0 → (∃ kf, lp_X10_reads_171 Q kf (gu_ G34 49 14 (r29 - (48 : Int32)))))))) ∧ (¬ r31 = 0 → (∃ kf, lp_X10_reads_95 Q kf G32))))) ∧ (r29 = (-1 : Int32) → Q 0 (gu_ G30 49 13 (0 : Int32)))))) ∧ (r27 = (10 : Int32) → lp_X10_reads_0 Q n (gu_ G28 49 11 ((G28 49 11) + (1 : Int32)))))))))
set_option maxRecDepth 100000 in
set_option maxHeartbeats 4000000 in
theorem t_X10_reads_0 {E : EV} (hE : EI_ E) (Q : Int32 → GS → Prop)  : ∀ (n : Nat)  (G : GS), lp_X10_reads_0 Q n G → PW_ E mi_X10_reads (rm_ 3) 0 0 0 [(0, .ref (ev_ad E 49))] [] G (qv_ Q) := by
  intro n
  induction n with
  | zero => intro G h; exact h.elim
  | succ n ih =>
    intro G h
    refine pw_aload_n dX10_reads_0 rfl 0 rfl ?_
    refine pw_aload_n dX10_reads_1 rfl 0 rfl ?_
    refine pw_geti (v := G 49 11) dX10_reads_2 fa_X10_129 ly_49 rfl rfl ?_
    refine pw_callV (As := [.int (G 49 11)]) (rest := []) (s_X10_raw hE h) dX10_reads_5 ly_49 rfl (Or.inl ml_X10_132) cm_X10_raw rfl (rm_ok (by decide)) rm_0 (Nat.le_of_ble_eq_true rfl) ?_
    rintro _ G26 ⟨r25, rfl, h⟩
    refine pw_bipush (v := (32 : Int32)) dX10_reads_8 (by decide) ?_
    refine pw_icmp_eq (tgt := 26) dX10_reads_10 (by decide) (fun hc => ?_) (fun hc => ?_)
    · have h := h.1 hc
      refine pw_aload_n dX10_reads_26 rfl 0 rfl ?_
      refine pw_aload_n dX10_reads_27 rfl 0 rfl ?_
      refine pw_geti (v := G26 49 11) dX10_reads_28 fa_X10_129 ly_49 rfl rfl ?_
      refine pw_iconst (v := (1 : Int32)) dX10_reads_31 (by decide) ?_
      refine pw_iadd dX10_reads_32 ?_
      refine pw_puti dX10_reads_33 fp_X10_129 ly_49 rfl ?_
      refine pw_goto (tgt := 0) dX10_reads_36 (by decide) ?_
      refine pw_loc (lv' := [(0, .ref (ev_ad E 49))]) [0] rfl ?_
      exact ih  _ h
    · have h := h.2 hc
      refine pw_aload_n dX10_reads_13 rfl 0 rfl ?_
      refine pw_aload_n dX10_reads_14 rfl 0 rfl ?_
      refine pw_geti (v := G26 49 11) dX10_reads_15 fa_X10_129 ly_49 rfl rfl ?_
      refine pw_callV (As := [.int (G26 49 11)]) (rest := []) (s_X10_raw hE h) dX10_reads_18 ly_49 rfl (Or.inl ml_X10_132) cm_X10_raw rfl (rm_ok (by decide)) rm_0 (Nat.le_of_ble_eq_true rfl) ?_
      rintro _ G28 ⟨r27, rfl, h⟩
      refine pw_bipush (v := (10 : Int32)) dX10_reads_21 (by decide) ?_
      refine pw_icmp_ne (tgt := 39) dX10_reads_23 (by decide) (fun hc => ?_) (fun hc => ?_)
      · have h := h.1 hc
        refine pw_aload_n dX10_reads_39 rfl 0 rfl ?_
        refine pw_aload_n dX10_reads_40 rfl 0 rfl ?_
        refine pw_geti (v := G28 49 11) dX10_reads_41 fa_X10_129 ly_49 rfl rfl ?_
        refine pw_puti dX10_reads_44 fp_X10_135 ly_49 rfl ?_
        refine pw_aload_n dX10_reads_47 rfl 0 rfl ?_
        refine pw_iconst (v := (1 : Int32)) dX10_reads_48 (by decide) ?_
        refine pw_puti dX10_reads_49 fp_X10_138 ly_49 rfl ?_
        refine pw_aload_n dX10_reads_52 rfl 0 rfl ?_
        refine pw_aload_n dX10_reads_53 rfl 0 rfl ?_
        refine pw_geti (v := G28 49 11) dX10_reads_54 fa_X10_129 ly_49 rfl rfl ?_
        refine pw_callV (As := [.int (G28 49 11)]) (rest := []) (s_X10_raw hE h) dX10_reads_57 ly_49 rfl (Or.inl ml_X10_132) cm_X10_raw rfl (rm_ok (by decide)) rm_0 (Nat.le_of_ble_eq_true rfl) ?_
        rintro _ G30 ⟨r29, rfl, h⟩
        refine pw_istore_n (lv' := [(1, .int r29), (0, .ref (ev_ad E 49))]) dX10_reads_60 rfl (by decide) rfl ?_
        refine pw_iload_n dX10_reads_61 rfl 0 rfl ?_
        refine pw_iconst (v := (-1 : Int32)) dX10_reads_62 (by decide) ?_
        refine pw_icmp_ne (tgt := 72) dX10_reads_63 (by decide) (fun hc => ?_) (fun hc => ?_)
        · have h := h.1 hc
          refine pw_aload_n dX10_reads_72 rfl 1 rfl ?_
          refine pw_aload_n dX10_reads_73 rfl 1 rfl ?_
          refine pw_geti (v := G30 49 11) dX10_reads_74 fa_X10_129 ly_49 rfl rfl ?_
          refine pw_iconst (v := (1 : Int32)) dX10_reads_77 (by decide) ?_
          refine pw_iadd dX10_reads_78 ?_
          refine pw_puti dX10_reads_79 fp_X10_129 ly_49 rfl ?_
          refine pw_aload_n dX10_reads_82 rfl 1 rfl ?_
          refine pw_iload_n dX10_reads_83 rfl 0 rfl ?_
          refine pw_puti dX10_reads_84 fp_X10_141 ly_49 rfl ?_
          refine pw_aload_n dX10_reads_87 rfl 1 rfl ?_
          refine pw_iload_n dX10_reads_88 rfl 0 rfl ?_
          refine pw_callV (As := [.int r29]) (rest := []) (s_X10_isLetter hE h) dX10_reads_89 ly_49 rfl (Or.inl ml_X10_144) cm_X10_isLetter rfl (rm_ok (by decide)) rm_0 (Nat.le_of_ble_eq_true rfl) ?_
          rintro _ G32 ⟨r31, rfl, h⟩
          refine pw_if_eq (tgt := 155) dX10_reads_92 (by decide) (fun hc => ?_) (fun hc => ?_)
          · have h := h.1 hc
            refine pw_aload_n dX10_reads_155 rfl 1 rfl ?_
            refine pw_iload_n dX10_reads_156 rfl 0 rfl ?_
            refine pw_callV (As := [.int r29]) (rest := []) (s_X10_isDigit hE h) dX10_reads_157 ly_49 rfl (Or.inl ml_X10_151) cm_X10_isDigit rfl (rm_ok (by decide)) rm_0 (Nat.le_of_ble_eq_true rfl) ?_
            rintro _ G34 ⟨r33, rfl, h⟩
            refine pw_if_eq (tgt := 260) dX10_reads_160 (by decide) (fun hc => ?_) (fun hc => ?_)
            · have h := h.1 hc
              refine pw_aload_n dX10_reads_260 rfl 1 rfl ?_
              refine pw_iload_n dX10_reads_261 rfl 0 rfl ?_
              refine pw_callV (As := [.int r29]) (rest := []) (s_X10_isMarkSign hE h) dX10_reads_262 ly_49 rfl (Or.inl ml_X10_154) cm_X10_isMarkSign rfl (rm_ok (by decide)) rm_0 (Nat.le_of_ble_eq_true rfl) ?_
              rintro _ G36 ⟨r35, rfl, h⟩
              refine pw_if_eq (tgt := 273) dX10_reads_265 (by decide) (fun hc => ?_) (fun hc => ?_)
              · have h := h.1 hc
                exact pw_return dX10_reads_273 rfl ⟨rfl, h⟩
              · have h := h.2 hc
                refine pw_aload_n dX10_reads_268 rfl 1 rfl ?_
                refine pw_iconst (v := (4 : Int32)) dX10_reads_269 (by decide) ?_
                refine pw_puti dX10_reads_270 fp_X10_138 ly_49 rfl ?_
                exact pw_return dX10_reads_273 rfl ⟨rfl, h⟩
            · have h := h.2 hc
              refine pw_aload_n dX10_reads_163 rfl 1 rfl ?_
              refine pw_iload_n dX10_reads_164 rfl 0 rfl ?_
              refine pw_bipush (v := (48 : Int32)) dX10_reads_165 (by decide) ?_
              refine pw_isub dX10_reads_167 ?_
              refine pw_puti dX10_reads_168 fp_X10_141 ly_49 rfl ?_
              refine pw_loc (lv' := [(0, .ref (ev_ad E 49))]) [1] rfl ?_
              obtain ⟨kf, h⟩ := h
              exact t_X10_reads_171 hE Q kf  _ h
          · have h := h.2 hc
            refine pw_loc (lv' := [(0, .ref (ev_ad E 49))]) [1] rfl ?_
            obtain ⟨kf, h⟩ := h
            exact t_X10_reads_95 hE Q kf  _ h
        · have h := h.2 hc
          refine pw_aload_n dX10_reads_66 rfl 1 rfl ?_
          refine pw_iconst (v := (0 : Int32)) dX10_reads_67 (by decide) ?_
          refine pw_puti dX10_reads_68 fp_X10_138 ly_49 rfl ?_
          exact pw_return dX10_reads_71 rfl ⟨rfl, h⟩
      · have h := h.2 hc
        refine pw_aload_n dX10_reads_26 rfl 0 rfl ?_
        refine pw_aload_n dX10_reads_27 rfl 0 rfl ?_
        refine pw_geti (v := G28 49 11) dX10_reads_28 fa_X10_129 ly_49 rfl rfl ?_
        refine pw_iconst (v := (1 : Int32)) dX10_reads_31 (by decide) ?_
        refine pw_iadd dX10_reads_32 ?_
        refine pw_puti dX10_reads_33 fp_X10_129 ly_49 rfl ?_
        refine pw_goto (tgt := 0) dX10_reads_36 (by decide) ?_
        refine pw_loc (lv' := [(0, .ref (ev_ad E 49))]) [0] rfl ?_
        exact ih  _ h
def wp_X10_reads  (G : GS) (Q : Int32 → GS → Prop) : Prop := wp_X10_raw (G 49 11) G (fun r1 G2 => ((r1 = (32 : Int32) → (∃ kf, lp_X10_reads_0 Q kf (gu_ G2 49 11 ((G2 49 11) + (1 : Int32))))) ∧ (¬ r1 = (32 : Int32) → wp_X10_raw (G2 49 11) G2 (fun r3 G4 => ((¬ r3 = (10 : Int32) → wp_X10_raw (G4 49 11) (gu_ (gu_ G4 49 12 (G4 49 11)) 49 13 (1 : Int32)) (fun r5 G6 => ((¬ r5 = (-1 : Int32) → wp_X10_isLetter r5 (gu_ (gu_ G6 49 11 ((G6 49 11) + (1 : Int32))) 49 14 r5) (fun r7 G8 => ((r7 = 0 → wp_X10_isDigit r5 G8 (fun r9 G10 => ((r9 = 0 → wp_X10_isMarkSign r5 G10 (fun r11 G12 => ((r11 = 0 → Q 0 G12) ∧ (¬ r11 = 0 → Q 0 (gu_ G12 49 13 (4 : Int32)))))) ∧ (¬ r9 = 0 → (∃ kf, lp_X10_reads_171 Q kf (gu_ G10 49 14 (r5 - (48 : Int32)))))))) ∧ (¬ r7 = 0 → (∃ kf, lp_X10_reads_95 Q kf G8))))) ∧ (r5 = (-1 : Int32) → Q 0 (gu_ G6 49 13 (0 : Int32)))))) ∧ (r3 = (10 : Int32) → (∃ kf, lp_X10_reads_0 Q kf (gu_ G4 49 11 ((G4 49 11) + (1 : Int32))))))))))
set_option maxRecDepth 100000 in
set_option maxHeartbeats 4000000 in
theorem s_X10_reads {E : EV} (hE : EI_ E)  {G : GS} {Q : Int32 → GS → Prop} (h : wp_X10_reads  G Q) : PMet E mi_X10_reads 3 [.ref (ev_ad E 49)] G (qv_ Q) := by
  refine pm_of hE (by decide) (Nat.le_of_ble_eq_true rfl) ?_
  refine pw_loc (lv' := [(0, .ref (ev_ad E 49))]) [0] rfl ?_
  refine pw_aload_n dX10_reads_0 rfl 0 rfl ?_
  refine pw_aload_n dX10_reads_1 rfl 0 rfl ?_
  refine pw_geti (v := G 49 11) dX10_reads_2 fa_X10_129 ly_49 rfl rfl ?_
  refine pw_callV (As := [.int (G 49 11)]) (rest := []) (s_X10_raw hE h) dX10_reads_5 ly_49 rfl (Or.inl ml_X10_132) cm_X10_raw rfl (rm_ok (by decide)) rm_0 (Nat.le_of_ble_eq_true rfl) ?_
  rintro _ G2 ⟨r1, rfl, h⟩
  refine pw_bipush (v := (32 : Int32)) dX10_reads_8 (by decide) ?_
  refine pw_icmp_eq (tgt := 26) dX10_reads_10 (by decide) (fun hc => ?_) (fun hc => ?_)
  · have h := h.1 hc
    refine pw_aload_n dX10_reads_26 rfl 0 rfl ?_
    refine pw_aload_n dX10_reads_27 rfl 0 rfl ?_
    refine pw_geti (v := G2 49 11) dX10_reads_28 fa_X10_129 ly_49 rfl rfl ?_
    refine pw_iconst (v := (1 : Int32)) dX10_reads_31 (by decide) ?_
    refine pw_iadd dX10_reads_32 ?_
    refine pw_puti dX10_reads_33 fp_X10_129 ly_49 rfl ?_
    refine pw_goto (tgt := 0) dX10_reads_36 (by decide) ?_
    refine pw_loc (lv' := [(0, .ref (ev_ad E 49))]) [0] rfl ?_
    obtain ⟨kf, h⟩ := h
    exact t_X10_reads_0 hE Q kf  _ h
  · have h := h.2 hc
    refine pw_aload_n dX10_reads_13 rfl 0 rfl ?_
    refine pw_aload_n dX10_reads_14 rfl 0 rfl ?_
    refine pw_geti (v := G2 49 11) dX10_reads_15 fa_X10_129 ly_49 rfl rfl ?_
    refine pw_callV (As := [.int (G2 49 11)]) (rest := []) (s_X10_raw hE h) dX10_reads_18 ly_49 rfl (Or.inl ml_X10_132) cm_X10_raw rfl (rm_ok (by decide)) rm_0 (Nat.le_of_ble_eq_true rfl) ?_
    rintro _ G4 ⟨r3, rfl, h⟩
    refine pw_bipush (v := (10 : Int32)) dX10_reads_21 (by decide) ?_
    refine pw_icmp_ne (tgt := 39) dX10_reads_23 (by decide) (fun hc => ?_) (fun hc => ?_)
    · have h := h.1 hc
      refine pw_aload_n dX10_reads_39 rfl 0 rfl ?_
      refine pw_aload_n dX10_reads_40 rfl 0 rfl ?_
      refine pw_geti (v := G4 49 11) dX10_reads_41 fa_X10_129 ly_49 rfl rfl ?_
      refine pw_puti dX10_reads_44 fp_X10_135 ly_49 rfl ?_
      refine pw_aload_n dX10_reads_47 rfl 0 rfl ?_
      refine pw_iconst (v := (1 : Int32)) dX10_reads_48 (by decide) ?_
      refine pw_puti dX10_reads_49 fp_X10_138 ly_49 rfl ?_
      refine pw_aload_n dX10_reads_52 rfl 0 rfl ?_
      refine pw_aload_n dX10_reads_53 rfl 0 rfl ?_
      refine pw_geti (v := G4 49 11) dX10_reads_54 fa_X10_129 ly_49 rfl rfl ?_
      refine pw_callV (As := [.int (G4 49 11)]) (rest := []) (s_X10_raw hE h) dX10_reads_57 ly_49 rfl (Or.inl ml_X10_132) cm_X10_raw rfl (rm_ok (by decide)) rm_0 (Nat.le_of_ble_eq_true rfl) ?_
      rintro _ G6 ⟨r5, rfl, h⟩
      refine pw_istore_n (lv' := [(1, .int r5), (0, .ref (ev_ad E 49))]) dX10_reads_60 rfl (by decide) rfl ?_
      refine pw_iload_n dX10_reads_61 rfl 0 rfl ?_
      refine pw_iconst (v := (-1 : Int32)) dX10_reads_62 (by decide) ?_
      refine pw_icmp_ne (tgt := 72) dX10_reads_63 (by decide) (fun hc => ?_) (fun hc => ?_)
      · have h := h.1 hc
        refine pw_aload_n dX10_reads_72 rfl 1 rfl ?_
        refine pw_aload_n dX10_reads_73 rfl 1 rfl ?_
        refine pw_geti (v := G6 49 11) dX10_reads_74 fa_X10_129 ly_49 rfl rfl ?_
        refine pw_iconst (v := (1 : Int32)) dX10_reads_77 (by decide) ?_
        refine pw_iadd dX10_reads_78 ?_
        refine pw_puti dX10_reads_79 fp_X10_129 ly_49 rfl ?_
        refine pw_aload_n dX10_reads_82 rfl 1 rfl ?_
        refine pw_iload_n dX10_reads_83 rfl 0 rfl ?_
        refine pw_puti dX10_reads_84 fp_X10_141 ly_49 rfl ?_
        refine pw_aload_n dX10_reads_87 rfl 1 rfl ?_
        refine pw_iload_n dX10_reads_88 rfl 0 rfl ?_
        refine pw_callV (As := [.int r5]) (rest := []) (s_X10_isLetter hE h) dX10_reads_89 ly_49 rfl (Or.inl ml_X10_144) cm_X10_isLetter rfl (rm_ok (by decide)) rm_0 (Nat.le_of_ble_eq_true rfl) ?_
        rintro _ G8 ⟨r7, rfl, h⟩
        refine pw_if_eq (tgt := 155) dX10_reads_92 (by decide) (fun hc => ?_) (fun hc => ?_)
        · have h := h.1 hc
          refine pw_aload_n dX10_reads_155 rfl 1 rfl ?_
          refine pw_iload_n dX10_reads_156 rfl 0 rfl ?_
          refine pw_callV (As := [.int r5]) (rest := []) (s_X10_isDigit hE h) dX10_reads_157 ly_49 rfl (Or.inl ml_X10_151) cm_X10_isDigit rfl (rm_ok (by decide)) rm_0 (Nat.le_of_ble_eq_true rfl) ?_
          rintro _ G10 ⟨r9, rfl, h⟩
          refine pw_if_eq (tgt := 260) dX10_reads_160 (by decide) (fun hc => ?_) (fun hc => ?_)
          · have h := h.1 hc
            refine pw_aload_n dX10_reads_260 rfl 1 rfl ?_
            refine pw_iload_n dX10_reads_261 rfl 0 rfl ?_
            refine pw_callV (As := [.int r5]) (rest := []) (s_X10_isMarkSign hE h) dX10_reads_262 ly_49 rfl (Or.inl ml_X10_154) cm_X10_isMarkSign rfl (rm_ok (by decide)) rm_0 (Nat.le_of_ble_eq_true rfl) ?_
            rintro _ G12 ⟨r11, rfl, h⟩
            refine pw_if_eq (tgt := 273) dX10_reads_265 (by decide) (fun hc => ?_) (fun hc => ?_)
            · have h := h.1 hc
              exact pw_return dX10_reads_273 rfl ⟨rfl, h⟩
            · have h := h.2 hc
              refine pw_aload_n dX10_reads_268 rfl 1 rfl ?_
              refine pw_iconst (v := (4 : Int32)) dX10_reads_269 (by decide) ?_
              refine pw_puti dX10_reads_270 fp_X10_138 ly_49 rfl ?_
              exact pw_return dX10_reads_273 rfl ⟨rfl, h⟩
          · have h := h.2 hc
            refine pw_aload_n dX10_reads_163 rfl 1 rfl ?_
            refine pw_iload_n dX10_reads_164 rfl 0 rfl ?_
            refine pw_bipush (v := (48 : Int32)) dX10_reads_165 (by decide) ?_
            refine pw_isub dX10_reads_167 ?_
            refine pw_puti dX10_reads_168 fp_X10_141 ly_49 rfl ?_
            refine pw_loc (lv' := [(0, .ref (ev_ad E 49))]) [1] rfl ?_
            obtain ⟨kf, h⟩ := h
            exact t_X10_reads_171 hE Q kf  _ h
        · have h := h.2 hc
          refine pw_loc (lv' := [(0, .ref (ev_ad E 49))]) [1] rfl ?_
          obtain ⟨kf, h⟩ := h
          exact t_X10_reads_95 hE Q kf  _ h
      · have h := h.2 hc
        refine pw_aload_n dX10_reads_66 rfl 1 rfl ?_
        refine pw_iconst (v := (0 : Int32)) dX10_reads_67 (by decide) ?_
        refine pw_puti dX10_reads_68 fp_X10_138 ly_49 rfl ?_
        exact pw_return dX10_reads_71 rfl ⟨rfl, h⟩
    · have h := h.2 hc
      refine pw_aload_n dX10_reads_26 rfl 0 rfl ?_
      refine pw_aload_n dX10_reads_27 rfl 0 rfl ?_
      refine pw_geti (v := G4 49 11) dX10_reads_28 fa_X10_129 ly_49 rfl rfl ?_
      refine pw_iconst (v := (1 : Int32)) dX10_reads_31 (by decide) ?_
      refine pw_iadd dX10_reads_32 ?_
      refine pw_puti dX10_reads_33 fp_X10_129 ly_49 rfl ?_
      refine pw_goto (tgt := 0) dX10_reads_36 (by decide) ?_
      refine pw_loc (lv' := [(0, .ref (ev_ad E 49))]) [0] rfl ?_
      obtain ⟨kf, h⟩ := h
      exact t_X10_reads_0 hE Q kf  _ h
def wp_X10_errs (a1 : Int32) (G : GS) (Q : Int32 → GS → Prop) : Prop := Q (-1 : Int32) (gu_ (gu_ G 49 26 a1) 49 27 (G 49 12))
set_option maxRecDepth 100000 in
set_option maxHeartbeats 4000000 in
theorem s_X10_errs {E : EV} (hE : EI_ E) {a1 : Int32} {G : GS} {Q : Int32 → GS → Prop} (h : wp_X10_errs a1 G Q) : PMet E mi_X10_errs 1 [.ref (ev_ad E 49), .int a1] G (qi_ Q) := by
  refine pm_of hE (by decide) (Nat.le_of_ble_eq_true rfl) ?_
  refine pw_loc (lv' := [(0, .ref (ev_ad E 49)), (1, .int a1)]) [0, 1] rfl ?_
  refine pw_aload_n dX10_errs_0 rfl 0 rfl ?_
  refine pw_iload_n dX10_errs_1 rfl 1 rfl ?_
  refine pw_puti dX10_errs_2 fp_X10_157 ly_49 rfl ?_
  refine pw_aload_n dX10_errs_5 rfl 0 rfl ?_
  refine pw_aload_n dX10_errs_6 rfl 0 rfl ?_
  refine pw_geti (v := G 49 12) dX10_errs_7 fa_X10_135 ly_49 rfl rfl ?_
  refine pw_puti dX10_errs_10 fp_X10_160 ly_49 rfl ?_
  refine pw_iconst (v := (-1 : Int32)) dX10_errs_13 (by decide) ?_
  exact pw_ireturn dX10_errs_14 rfl rfl ⟨_, rfl, h⟩
def wp_X10_isWord (a1 : Int32) (G : GS) (Q : Int32 → GS → Prop) : Prop := ((¬ (G 49 13) = (2 : Int32) → Q (0 : Int32) G) ∧ ((G 49 13) = (2 : Int32) → ((¬ (G 49 14) = a1 → Q (0 : Int32) G) ∧ ((G 49 14) = a1 → Q (1 : Int32) G))))
set_option maxRecDepth 100000 in
set_option maxHeartbeats 4000000 in
theorem s_X10_isWord {E : EV} (hE : EI_ E) {a1 : Int32} {G : GS} {Q : Int32 → GS → Prop} (h : wp_X10_isWord a1 G Q) : PMet E mi_X10_isWord 1 [.ref (ev_ad E 49), .int a1] G (qi_ Q) := by
  refine pm_of hE (by decide) (Nat.le_of_ble_eq_true rfl) ?_
  refine pw_loc (lv' := [(0, .ref (ev_ad E 49)), (1, .int a1)]) [0, 1] rfl ?_
  refine pw_aload_n dX10_isWord_0 rfl 0 rfl ?_
  refine pw_geti (v := G 49 13) dX10_isWord_1 fa_X10_138 ly_49 rfl rfl ?_
  refine pw_iconst (v := (2 : Int32)) dX10_isWord_4 (by decide) ?_
  refine pw_icmp_ne (tgt := 20) dX10_isWord_5 (by decide) (fun hc => ?_) (fun hc => ?_)
  · have h := h.1 hc
    refine pw_iconst (v := (0 : Int32)) dX10_isWord_20 (by decide) ?_
    exact pw_ireturn dX10_isWord_21 rfl rfl ⟨_, rfl, h⟩
  · have h := h.2 hc
    refine pw_aload_n dX10_isWord_8 rfl 0 rfl ?_
    refine pw_geti (v := G 49 14) dX10_isWord_9 fa_X10_141 ly_49 rfl rfl ?_
    refine pw_iload_n dX10_isWord_12 rfl 1 rfl ?_
    refine pw_icmp_ne (tgt := 20) dX10_isWord_13 (by decide) (fun hc => ?_) (fun hc => ?_)
    · have h := h.1 hc
      refine pw_iconst (v := (0 : Int32)) dX10_isWord_20 (by decide) ?_
      exact pw_ireturn dX10_isWord_21 rfl rfl ⟨_, rfl, h⟩
    · have h := h.2 hc
      refine pw_iconst (v := (1 : Int32)) dX10_isWord_16 (by decide) ?_
      refine pw_goto (tgt := 21) dX10_isWord_17 (by decide) ?_
      exact pw_ireturn dX10_isWord_21 rfl rfl ⟨_, rfl, h⟩
def wp_X10_emits (a1 : Int32) (a2 : Int32) (G : GS) (Q : Int32 → GS → Prop) : Prop := (vp_in ((400 : Int32) + (G 49 22)) 800 ∧ Q 0 (gu_ (gu_ (gu_ G 59 (((400 : Int32) + (G 49 22)).toNatClampNeg) a1) 60 (((400 : Int32) + (G 49 22)).toNatClampNeg) a2) 49 22 ((G 49 22) + (1 : Int32))))
set_option maxRecDepth 100000 in
set_option maxHeartbeats 4000000 in
theorem s_X10_emits {E : EV} (hE : EI_ E) {a1 : Int32} {a2 : Int32} {G : GS} {Q : Int32 → GS → Prop} (h : wp_X10_emits a1 a2 G Q) : PMet E mi_X10_emits 1 [.ref (ev_ad E 49), .int a1, .int a2] G (qv_ Q) := by
  refine pm_of hE (by decide) (Nat.le_of_ble_eq_true rfl) ?_
  refine pw_loc (lv' := [(0, .ref (ev_ad E 49)), (1, .int a1), (2, .int a2)]) [0, 1, 2] rfl ?_
  refine pw_aload_n dX10_emits_0 rfl 0 rfl ?_
  refine pw_getr (q := 59) dX10_emits_1 fa_X10_37 ly_49 rfl ?_
  refine pw_sipush (v := (400 : Int32)) dX10_emits_4 (by decide) ?_
  refine pw_aload_n dX10_emits_7 rfl 0 rfl ?_
  refine pw_geti (v := G 49 22) dX10_emits_8 fa_X10_163 ly_49 rfl rfl ?_
  refine pw_iadd dX10_emits_11 ?_
  refine pw_iload_n dX10_emits_12 rfl 1 rfl ?_
  obtain ⟨hv1, h⟩ := h
  refine pw_iast (z := (((400 : Int32) + (G 49 22)).toNatClampNeg)) dX10_emits_13 ly_59 hv1 rfl ?_
  refine pw_aload_n dX10_emits_14 rfl 0 rfl ?_
  refine pw_getr (q := 60) dX10_emits_15 fa_X10_40 ly_49 rfl ?_
  refine pw_sipush (v := (400 : Int32)) dX10_emits_18 (by decide) ?_
  refine pw_aload_n dX10_emits_21 rfl 0 rfl ?_
  refine pw_geti (v := G 49 22) dX10_emits_22 fa_X10_163 ly_49 rfl rfl ?_
  refine pw_iadd dX10_emits_25 ?_
  refine pw_iload_n dX10_emits_26 rfl 2 rfl ?_
  refine pw_iast (z := (((400 : Int32) + (G 49 22)).toNatClampNeg)) dX10_emits_27 ly_60 hv1 rfl ?_
  refine pw_aload_n dX10_emits_28 rfl 0 rfl ?_
  refine pw_aload_n dX10_emits_29 rfl 0 rfl ?_
  refine pw_geti (v := G 49 22) dX10_emits_30 fa_X10_163 ly_49 rfl rfl ?_
  refine pw_iconst (v := (1 : Int32)) dX10_emits_33 (by decide) ?_
  refine pw_iadd dX10_emits_34 ?_
  refine pw_puti dX10_emits_35 fp_X10_163 ly_49 rfl ?_
  exact pw_return dX10_emits_38 rfl ⟨rfl, h⟩
def lp_X10_settles_0 (Q : Int32 → GS → Prop)  : Nat → Int32 → GS → Prop
  | 0, _, _ => False
  | n + 1, x1, G => (((G 49 25) ≤ 0 → Q 0 G) ∧ (¬ (G 49 25) ≤ 0 → (vp_in ((G 49 25) - (1 : Int32)) 40 ∧ ((¬ (G 61 (((G 49 25) - (1 : Int32)).toNatClampNeg)) = x1 → Q 0 G) ∧ ((G 61 (((G 49 25) - (1 : Int32)).toNatClampNeg)) = x1 → wp_X10_emits x1 (0 : Int32) (gu_ G 49 25 ((G 49 25) - (1 : Int32))) (fun _ G6 => ((¬ x1 = (9 : Int32) → lp_X10_settles_0 Q n x1 G6) ∧ (x1 = (9 : Int32) → lp_X10_settles_0 Q n x1 (gu_ G6 49 23 ((G6 49 23) - (1 : Int32)))))))))))
set_option maxRecDepth 100000 in
set_option maxHeartbeats 4000000 in
theorem t_X10_settles_0 {E : EV} (hE : EI_ E) (Q : Int32 → GS → Prop)  : ∀ (n : Nat) (x1 : Int32) (G : GS), lp_X10_settles_0 Q n x1 G → PW_ E mi_X10_settles (rm_ 2) 0 0 0 [(0, .ref (ev_ad E 49)), (1, .int x1)] [] G (qv_ Q) := by
  intro n
  induction n with
  | zero => intro x1 G h; exact h.elim
  | succ n ih =>
    intro x1 G h
    refine pw_aload_n dX10_settles_0 rfl 0 rfl ?_
    refine pw_geti (v := G 49 25) dX10_settles_1 fa_X10_189 ly_49 rfl rfl ?_
    refine pw_if_le (tgt := 57) dX10_settles_4 (by decide) (fun hc => ?_) (fun hc => ?_)
    · have h := h.1 hc
      exact pw_return dX10_settles_57 rfl ⟨rfl, h⟩
    · have h := h.2 hc
      refine pw_aload_n dX10_settles_7 rfl 0 rfl ?_
      refine pw_getr (q := 61) dX10_settles_8 fa_X10_43 ly_49 rfl ?_
      refine pw_aload_n dX10_settles_11 rfl 0 rfl ?_
      refine pw_geti (v := G 49 25) dX10_settles_12 fa_X10_189 ly_49 rfl rfl ?_
      refine pw_iconst (v := (1 : Int32)) dX10_settles_15 (by decide) ?_
      refine pw_isub dX10_settles_16 ?_
      obtain ⟨hv4, h⟩ := h
      refine pw_iald (v := G 61 (((G 49 25) - (1 : Int32)).toNatClampNeg)) dX10_settles_17 ly_61 hv4 rfl ?_
      refine pw_iload_n dX10_settles_18 rfl 1 rfl ?_
      refine pw_icmp_ne (tgt := 57) dX10_settles_19 (by decide) (fun hc => ?_) (fun hc => ?_)
      · have h := h.1 hc
        exact pw_return dX10_settles_57 rfl ⟨rfl, h⟩
      · have h := h.2 hc
        refine pw_aload_n dX10_settles_22 rfl 0 rfl ?_
        refine pw_aload_n dX10_settles_23 rfl 0 rfl ?_
        refine pw_geti (v := G 49 25) dX10_settles_24 fa_X10_189 ly_49 rfl rfl ?_
        refine pw_iconst (v := (1 : Int32)) dX10_settles_27 (by decide) ?_
        refine pw_isub dX10_settles_28 ?_
        refine pw_puti dX10_settles_29 fp_X10_189 ly_49 rfl ?_
        refine pw_aload_n dX10_settles_32 rfl 0 rfl ?_
        refine pw_iload_n dX10_settles_33 rfl 1 rfl ?_
        refine pw_iconst (v := (0 : Int32)) dX10_settles_34 (by decide) ?_
        refine pw_callV (As := [.int x1, .int (0 : Int32)]) (rest := []) (s_X10_emits hE h) dX10_settles_35 ly_49 rfl (Or.inl ml_X10_169) cm_X10_emits rfl (rm_ok (by decide)) rm_0 (Nat.le_of_ble_eq_true rfl) ?_
        rintro _ G6 ⟨rfl, h⟩
        refine pw_iload_n dX10_settles_38 rfl 1 rfl ?_
        refine pw_bipush (v := (9 : Int32)) dX10_settles_39 (by decide) ?_
        refine pw_icmp_ne (tgt := 0) dX10_settles_41 (by decide) (fun hc => ?_) (fun hc => ?_)
        · have h := h.1 hc
          refine pw_loc (lv' := [(0, .ref (ev_ad E 49)), (1, .int x1)]) [0, 1] rfl ?_
          exact ih _ _ h
        · have h := h.2 hc
          refine pw_aload_n dX10_settles_44 rfl 0 rfl ?_
          refine pw_aload_n dX10_settles_45 rfl 0 rfl ?_
          refine pw_geti (v := G6 49 23) dX10_settles_46 fa_X10_192 ly_49 rfl rfl ?_
          refine pw_iconst (v := (1 : Int32)) dX10_settles_49 (by decide) ?_
          refine pw_isub dX10_settles_50 ?_
          refine pw_puti dX10_settles_51 fp_X10_192 ly_49 rfl ?_
          refine pw_goto (tgt := 0) dX10_settles_54 (by decide) ?_
          refine pw_loc (lv' := [(0, .ref (ev_ad E 49)), (1, .int x1)]) [0, 1] rfl ?_
          exact ih _ _ h
def wp_X10_settles (a1 : Int32) (G : GS) (Q : Int32 → GS → Prop) : Prop := (((G 49 25) ≤ 0 → Q 0 G) ∧ (¬ (G 49 25) ≤ 0 → (vp_in ((G 49 25) - (1 : Int32)) 40 ∧ ((¬ (G 61 (((G 49 25) - (1 : Int32)).toNatClampNeg)) = a1 → Q 0 G) ∧ ((G 61 (((G 49 25) - (1 : Int32)).toNatClampNeg)) = a1 → wp_X10_emits a1 (0 : Int32) (gu_ G 49 25 ((G 49 25) - (1 : Int32))) (fun _ G3 => ((¬ a1 = (9 : Int32) → (∃ kf, lp_X10_settles_0 Q kf a1 G3)) ∧ (a1 = (9 : Int32) → (∃ kf, lp_X10_settles_0 Q kf a1 (gu_ G3 49 23 ((G3 49 23) - (1 : Int32))))))))))))
set_option maxRecDepth 100000 in
set_option maxHeartbeats 4000000 in
theorem s_X10_settles {E : EV} (hE : EI_ E) {a1 : Int32} {G : GS} {Q : Int32 → GS → Prop} (h : wp_X10_settles a1 G Q) : PMet E mi_X10_settles 2 [.ref (ev_ad E 49), .int a1] G (qv_ Q) := by
  refine pm_of hE (by decide) (Nat.le_of_ble_eq_true rfl) ?_
  refine pw_loc (lv' := [(0, .ref (ev_ad E 49)), (1, .int a1)]) [0, 1] rfl ?_
  refine pw_aload_n dX10_settles_0 rfl 0 rfl ?_
  refine pw_geti (v := G 49 25) dX10_settles_1 fa_X10_189 ly_49 rfl rfl ?_
  refine pw_if_le (tgt := 57) dX10_settles_4 (by decide) (fun hc => ?_) (fun hc => ?_)
  · have h := h.1 hc
    exact pw_return dX10_settles_57 rfl ⟨rfl, h⟩
  · have h := h.2 hc
    refine pw_aload_n dX10_settles_7 rfl 0 rfl ?_
    refine pw_getr (q := 61) dX10_settles_8 fa_X10_43 ly_49 rfl ?_
    refine pw_aload_n dX10_settles_11 rfl 0 rfl ?_
    refine pw_geti (v := G 49 25) dX10_settles_12 fa_X10_189 ly_49 rfl rfl ?_
    refine pw_iconst (v := (1 : Int32)) dX10_settles_15 (by decide) ?_
    refine pw_isub dX10_settles_16 ?_
    obtain ⟨hv1, h⟩ := h
    refine pw_iald (v := G 61 (((G 49 25) - (1 : Int32)).toNatClampNeg)) dX10_settles_17 ly_61 hv1 rfl ?_
    refine pw_iload_n dX10_settles_18 rfl 1 rfl ?_
    refine pw_icmp_ne (tgt := 57) dX10_settles_19 (by decide) (fun hc => ?_) (fun hc => ?_)
    · have h := h.1 hc
      exact pw_return dX10_settles_57 rfl ⟨rfl, h⟩
    · have h := h.2 hc
      refine pw_aload_n dX10_settles_22 rfl 0 rfl ?_
      refine pw_aload_n dX10_settles_23 rfl 0 rfl ?_
      refine pw_geti (v := G 49 25) dX10_settles_24 fa_X10_189 ly_49 rfl rfl ?_
      refine pw_iconst (v := (1 : Int32)) dX10_settles_27 (by decide) ?_
      refine pw_isub dX10_settles_28 ?_
      refine pw_puti dX10_settles_29 fp_X10_189 ly_49 rfl ?_
      refine pw_aload_n dX10_settles_32 rfl 0 rfl ?_
      refine pw_iload_n dX10_settles_33 rfl 1 rfl ?_
      refine pw_iconst (v := (0 : Int32)) dX10_settles_34 (by decide) ?_
      refine pw_callV (As := [.int a1, .int (0 : Int32)]) (rest := []) (s_X10_emits hE h) dX10_settles_35 ly_49 rfl (Or.inl ml_X10_169) cm_X10_emits rfl (rm_ok (by decide)) rm_0 (Nat.le_of_ble_eq_true rfl) ?_
      rintro _ G3 ⟨rfl, h⟩
      refine pw_iload_n dX10_settles_38 rfl 1 rfl ?_
      refine pw_bipush (v := (9 : Int32)) dX10_settles_39 (by decide) ?_
      refine pw_icmp_ne (tgt := 0) dX10_settles_41 (by decide) (fun hc => ?_) (fun hc => ?_)
      · have h := h.1 hc
        refine pw_loc (lv' := [(0, .ref (ev_ad E 49)), (1, .int a1)]) [0, 1] rfl ?_
        obtain ⟨kf, h⟩ := h
        exact t_X10_settles_0 hE Q kf _ _ h
      · have h := h.2 hc
        refine pw_aload_n dX10_settles_44 rfl 0 rfl ?_
        refine pw_aload_n dX10_settles_45 rfl 0 rfl ?_
        refine pw_geti (v := G3 49 23) dX10_settles_46 fa_X10_192 ly_49 rfl rfl ?_
        refine pw_iconst (v := (1 : Int32)) dX10_settles_49 (by decide) ?_
        refine pw_isub dX10_settles_50 ?_
        refine pw_puti dX10_settles_51 fp_X10_192 ly_49 rfl ?_
        refine pw_goto (tgt := 0) dX10_settles_54 (by decide) ?_
        refine pw_loc (lv' := [(0, .ref (ev_ad E 49)), (1, .int a1)]) [0, 1] rfl ?_
        obtain ⟨kf, h⟩ := h
        exact t_X10_settles_0 hE Q kf _ _ h
def wp_X10_isSign (a1 : Int32) (G : GS) (Q : Int32 → GS → Prop) : Prop := ((¬ (G 49 13) = (4 : Int32) → Q (0 : Int32) G) ∧ ((G 49 13) = (4 : Int32) → ((¬ (G 49 14) = a1 → Q (0 : Int32) G) ∧ ((G 49 14) = a1 → Q (1 : Int32) G))))
set_option maxRecDepth 100000 in
set_option maxHeartbeats 4000000 in
theorem s_X10_isSign {E : EV} (hE : EI_ E) {a1 : Int32} {G : GS} {Q : Int32 → GS → Prop} (h : wp_X10_isSign a1 G Q) : PMet E mi_X10_isSign 1 [.ref (ev_ad E 49), .int a1] G (qi_ Q) := by
  refine pm_of hE (by decide) (Nat.le_of_ble_eq_true rfl) ?_
  refine pw_loc (lv' := [(0, .ref (ev_ad E 49)), (1, .int a1)]) [0, 1] rfl ?_
  refine pw_aload_n dX10_isSign_0 rfl 0 rfl ?_
  refine pw_geti (v := G 49 13) dX10_isSign_1 fa_X10_138 ly_49 rfl rfl ?_
  refine pw_iconst (v := (4 : Int32)) dX10_isSign_4 (by decide) ?_
  refine pw_icmp_ne (tgt := 20) dX10_isSign_5 (by decide) (fun hc => ?_) (fun hc => ?_)
  · have h := h.1 hc
    refine pw_iconst (v := (0 : Int32)) dX10_isSign_20 (by decide) ?_
    exact pw_ireturn dX10_isSign_21 rfl rfl ⟨_, rfl, h⟩
  · have h := h.2 hc
    refine pw_aload_n dX10_isSign_8 rfl 0 rfl ?_
    refine pw_geti (v := G 49 14) dX10_isSign_9 fa_X10_141 ly_49 rfl rfl ?_
    refine pw_iload_n dX10_isSign_12 rfl 1 rfl ?_
    refine pw_icmp_ne (tgt := 20) dX10_isSign_13 (by decide) (fun hc => ?_) (fun hc => ?_)
    · have h := h.1 hc
      refine pw_iconst (v := (0 : Int32)) dX10_isSign_20 (by decide) ?_
      exact pw_ireturn dX10_isSign_21 rfl rfl ⟨_, rfl, h⟩
    · have h := h.2 hc
      refine pw_iconst (v := (1 : Int32)) dX10_isSign_16 (by decide) ?_
      refine pw_goto (tgt := 21) dX10_isSign_17 (by decide) ?_
      exact pw_ireturn dX10_isSign_21 rfl rfl ⟨_, rfl, h⟩
def wp_X10_waits (a1 : Int32) (G : GS) (Q : Int32 → GS → Prop) : Prop := (vp_in (G 49 25) 40 ∧ Q 0 (gu_ (gu_ G 61 ((G 49 25).toNatClampNeg) a1) 49 25 ((G 49 25) + (1 : Int32))))
set_option maxRecDepth 100000 in
set_option maxHeartbeats 4000000 in
theorem s_X10_waits {E : EV} (hE : EI_ E) {a1 : Int32} {G : GS} {Q : Int32 → GS → Prop} (h : wp_X10_waits a1 G Q) : PMet E mi_X10_waits 1 [.ref (ev_ad E 49), .int a1] G (qv_ Q) := by
  refine pm_of hE (by decide) (Nat.le_of_ble_eq_true rfl) ?_
  refine pw_loc (lv' := [(0, .ref (ev_ad E 49)), (1, .int a1)]) [0, 1] rfl ?_
  refine pw_aload_n dX10_waits_0 rfl 0 rfl ?_
  refine pw_getr (q := 61) dX10_waits_1 fa_X10_43 ly_49 rfl ?_
  refine pw_aload_n dX10_waits_4 rfl 0 rfl ?_
  refine pw_geti (v := G 49 25) dX10_waits_5 fa_X10_189 ly_49 rfl rfl ?_
  refine pw_iload_n dX10_waits_8 rfl 1 rfl ?_
  obtain ⟨hv1, h⟩ := h
  refine pw_iast (z := ((G 49 25).toNatClampNeg)) dX10_waits_9 ly_61 hv1 rfl ?_
  refine pw_aload_n dX10_waits_10 rfl 0 rfl ?_
  refine pw_aload_n dX10_waits_11 rfl 0 rfl ?_
  refine pw_geti (v := G 49 25) dX10_waits_12 fa_X10_189 ly_49 rfl rfl ?_
  refine pw_iconst (v := (1 : Int32)) dX10_waits_15 (by decide) ?_
  refine pw_iadd dX10_waits_16 ?_
  refine pw_puti dX10_waits_17 fp_X10_189 ly_49 rfl ?_
  exact pw_return dX10_waits_20 rfl ⟨rfl, h⟩
def bk_X10_readUnit_51 (Q : Int32 → GS → Prop)  (x1 : Int32) (z0 : Int32) (G : GS) : Prop := ((x1 = 0 → wp_X10_emits z0 (G 49 14) G (fun _ G4 => wp_X10_reads G4 (fun _ G6 => Q (0 : Int32) G6))) ∧ (¬ x1 = 0 → wp_X10_emits z0 ((G 49 14) - (6 : Int32)) G (fun _ G8 => wp_X10_reads G8 (fun _ G10 => Q (0 : Int32) G10))))
set_option maxRecDepth 100000 in
set_option maxHeartbeats 4000000 in
theorem t_X10_readUnit_51 {E : EV} (hE : EI_ E) (Q : Int32 → GS → Prop)  {x1 : Int32} {z0 : Int32} {G : GS} (h : bk_X10_readUnit_51 Q x1 z0 G) : PW_ E mi_X10_readUnit (rm_ 4) 0 0 51 [(0, .ref (ev_ad E 49)), (1, .int x1)] [.int z0, .ref (ev_ad E 49)] G (qi_ Q) := by
  refine pw_iload_n dX10_readUnit_51 rfl 1 rfl ?_
  refine pw_if_eq (tgt := 65) dX10_readUnit_52 (by decide) (fun hc => ?_) (fun hc => ?_)
  · have h := h.1 hc
    refine pw_aload_n dX10_readUnit_65 rfl 0 rfl ?_
    refine pw_geti (v := G 49 14) dX10_readUnit_66 fa_X10_141 ly_49 rfl rfl ?_
    refine pw_callV (As := [.int z0, .int (G 49 14)]) (rest := []) (s_X10_emits hE h) dX10_readUnit_69 ly_49 rfl (Or.inl ml_X10_169) cm_X10_emits rfl (rm_ok (by decide)) rm_0 (Nat.le_of_ble_eq_true rfl) ?_
    rintro _ G4 ⟨rfl, h⟩
    refine pw_aload_n dX10_readUnit_72 rfl 0 rfl ?_
    refine pw_callV (As := []) (rest := []) (s_X10_reads hE h) dX10_readUnit_73 ly_49 rfl (Or.inl ml_X10_173) cm_X10_reads rfl (rm_ok (by decide)) rm_0 (Nat.le_of_ble_eq_true rfl) ?_
    rintro _ G6 ⟨rfl, h⟩
    refine pw_iconst (v := (0 : Int32)) dX10_readUnit_76 (by decide) ?_
    exact pw_ireturn dX10_readUnit_77 rfl rfl ⟨_, rfl, h⟩
  · have h := h.2 hc
    refine pw_aload_n dX10_readUnit_55 rfl 0 rfl ?_
    refine pw_geti (v := G 49 14) dX10_readUnit_56 fa_X10_141 ly_49 rfl rfl ?_
    refine pw_bipush (v := (6 : Int32)) dX10_readUnit_59 (by decide) ?_
    refine pw_isub dX10_readUnit_61 ?_
    refine pw_goto (tgt := 69) dX10_readUnit_62 (by decide) ?_
    refine pw_callV (As := [.int z0, .int ((G 49 14) - (6 : Int32))]) (rest := []) (s_X10_emits hE h) dX10_readUnit_69 ly_49 rfl (Or.inl ml_X10_169) cm_X10_emits rfl (rm_ok (by decide)) rm_0 (Nat.le_of_ble_eq_true rfl) ?_
    rintro _ G8 ⟨rfl, h⟩
    refine pw_aload_n dX10_readUnit_72 rfl 0 rfl ?_
    refine pw_callV (As := []) (rest := []) (s_X10_reads hE h) dX10_readUnit_73 ly_49 rfl (Or.inl ml_X10_173) cm_X10_reads rfl (rm_ok (by decide)) rm_0 (Nat.le_of_ble_eq_true rfl) ?_
    rintro _ G10 ⟨rfl, h⟩
    refine pw_iconst (v := (0 : Int32)) dX10_readUnit_76 (by decide) ?_
    exact pw_ireturn dX10_readUnit_77 rfl rfl ⟨_, rfl, h⟩
def bk_X10_readUnit_22 (Q : Int32 → GS → Prop)  (z0 : Int32) (G : GS) : Prop := ((¬ z0 = 0 → ((z0 = 0 → bk_X10_readUnit_51 Q z0 (0 : Int32) G) ∧ (¬ z0 = 0 → bk_X10_readUnit_51 Q z0 (1 : Int32) G))) ∧ (z0 = 0 → (((G 49 13) = (3 : Int32) → ((z0 = 0 → bk_X10_readUnit_51 Q z0 (0 : Int32) G) ∧ (¬ z0 = 0 → bk_X10_readUnit_51 Q z0 (1 : Int32) G))) ∧ (¬ (G 49 13) = (3 : Int32) → wp_X10_errs (1 : Int32) G (fun r1 G2 => Q r1 G2)))))
set_option maxRecDepth 100000 in
set_option maxHeartbeats 4000000 in
theorem t_X10_readUnit_22 {E : EV} (hE : EI_ E) (Q : Int32 → GS → Prop)  {z0 : Int32} {G : GS} (h : bk_X10_readUnit_22 Q z0 G) : PW_ E mi_X10_readUnit (rm_ 4) 0 0 22 [(0, .ref (ev_ad E 49))] [.int z0] G (qi_ Q) := by
  refine pw_istore_n (lv' := [(1, .int z0), (0, .ref (ev_ad E 49))]) dX10_readUnit_22 rfl (by decide) rfl ?_
  refine pw_iload_n dX10_readUnit_23 rfl 0 rfl ?_
  refine pw_if_ne (tgt := 41) dX10_readUnit_24 (by decide) (fun hc => ?_) (fun hc => ?_)
  · have h := h.1 hc
    refine pw_aload_n dX10_readUnit_41 rfl 1 rfl ?_
    refine pw_iload_n dX10_readUnit_42 rfl 0 rfl ?_
    refine pw_if_eq (tgt := 50) dX10_readUnit_43 (by decide) (fun hc => ?_) (fun hc => ?_)
    · have h := h.1 hc
      refine pw_iconst (v := (0 : Int32)) dX10_readUnit_50 (by decide) ?_
      refine pw_loc (lv' := [(0, .ref (ev_ad E 49)), (1, .int z0)]) [1, 0] rfl ?_
      exact t_X10_readUnit_51 hE Q h
    · have h := h.2 hc
      refine pw_iconst (v := (1 : Int32)) dX10_readUnit_46 (by decide) ?_
      refine pw_goto (tgt := 51) dX10_readUnit_47 (by decide) ?_
      refine pw_loc (lv' := [(0, .ref (ev_ad E 49)), (1, .int z0)]) [1, 0] rfl ?_
      exact t_X10_readUnit_51 hE Q h
  · have h := h.2 hc
    refine pw_aload_n dX10_readUnit_27 rfl 1 rfl ?_
    refine pw_geti (v := G 49 13) dX10_readUnit_28 fa_X10_138 ly_49 rfl rfl ?_
    refine pw_iconst (v := (3 : Int32)) dX10_readUnit_31 (by decide) ?_
    refine pw_icmp_eq (tgt := 41) dX10_readUnit_32 (by decide) (fun hc => ?_) (fun hc => ?_)
    · have h := h.1 hc
      refine pw_aload_n dX10_readUnit_41 rfl 1 rfl ?_
      refine pw_iload_n dX10_readUnit_42 rfl 0 rfl ?_
      refine pw_if_eq (tgt := 50) dX10_readUnit_43 (by decide) (fun hc => ?_) (fun hc => ?_)
      · have h := h.1 hc
        refine pw_iconst (v := (0 : Int32)) dX10_readUnit_50 (by decide) ?_
        refine pw_loc (lv' := [(0, .ref (ev_ad E 49)), (1, .int z0)]) [1, 0] rfl ?_
        exact t_X10_readUnit_51 hE Q h
      · have h := h.2 hc
        refine pw_iconst (v := (1 : Int32)) dX10_readUnit_46 (by decide) ?_
        refine pw_goto (tgt := 51) dX10_readUnit_47 (by decide) ?_
        refine pw_loc (lv' := [(0, .ref (ev_ad E 49)), (1, .int z0)]) [1, 0] rfl ?_
        exact t_X10_readUnit_51 hE Q h
    · have h := h.2 hc
      refine pw_aload_n dX10_readUnit_35 rfl 1 rfl ?_
      refine pw_iconst (v := (1 : Int32)) dX10_readUnit_36 (by decide) ?_
      refine pw_callV (As := [.int (1 : Int32)]) (rest := []) (s_X10_errs hE h) dX10_readUnit_37 ly_49 rfl (Or.inl ml_X10_166) cm_X10_errs rfl (rm_ok (by decide)) rm_0 (Nat.le_of_ble_eq_true rfl) ?_
      rintro _ G2 ⟨r1, rfl, h⟩
      exact pw_ireturn dX10_readUnit_40 rfl rfl ⟨_, rfl, h⟩
def wp_X10_readUnit  (G : GS) (Q : Int32 → GS → Prop) : Prop := ((¬ (G 49 13) = (2 : Int32) → bk_X10_readUnit_22 Q (0 : Int32) G) ∧ ((G 49 13) = (2 : Int32) → (((G 49 14) < (6 : Int32) → bk_X10_readUnit_22 Q (0 : Int32) G) ∧ (¬ (G 49 14) < (6 : Int32) → bk_X10_readUnit_22 Q (1 : Int32) G))))
set_option maxRecDepth 100000 in
set_option maxHeartbeats 4000000 in
theorem s_X10_readUnit {E : EV} (hE : EI_ E)  {G : GS} {Q : Int32 → GS → Prop} (h : wp_X10_readUnit  G Q) : PMet E mi_X10_readUnit 4 [.ref (ev_ad E 49)] G (qi_ Q) := by
  refine pm_of hE (by decide) (Nat.le_of_ble_eq_true rfl) ?_
  refine pw_loc (lv' := [(0, .ref (ev_ad E 49))]) [0] rfl ?_
  refine pw_aload_n dX10_readUnit_0 rfl 0 rfl ?_
  refine pw_geti (v := G 49 13) dX10_readUnit_1 fa_X10_138 ly_49 rfl rfl ?_
  refine pw_iconst (v := (2 : Int32)) dX10_readUnit_4 (by decide) ?_
  refine pw_icmp_ne (tgt := 21) dX10_readUnit_5 (by decide) (fun hc => ?_) (fun hc => ?_)
  · have h := h.1 hc
    refine pw_iconst (v := (0 : Int32)) dX10_readUnit_21 (by decide) ?_
    refine pw_loc (lv' := [(0, .ref (ev_ad E 49))]) [0] rfl ?_
    exact t_X10_readUnit_22 hE Q h
  · have h := h.2 hc
    refine pw_aload_n dX10_readUnit_8 rfl 0 rfl ?_
    refine pw_geti (v := G 49 14) dX10_readUnit_9 fa_X10_141 ly_49 rfl rfl ?_
    refine pw_bipush (v := (6 : Int32)) dX10_readUnit_12 (by decide) ?_
    refine pw_icmp_lt (tgt := 21) dX10_readUnit_14 (by decide) (fun hc => ?_) (fun hc => ?_)
    · have h := h.1 hc
      refine pw_iconst (v := (0 : Int32)) dX10_readUnit_21 (by decide) ?_
      refine pw_loc (lv' := [(0, .ref (ev_ad E 49))]) [0] rfl ?_
      exact t_X10_readUnit_22 hE Q h
    · have h := h.2 hc
      refine pw_iconst (v := (1 : Int32)) dX10_readUnit_17 (by decide) ?_
      refine pw_goto (tgt := 22) dX10_readUnit_18 (by decide) ?_
      refine pw_loc (lv' := [(0, .ref (ev_ad E 49))]) [0] rfl ?_
      exact t_X10_readUnit_22 hE Q h
def bk_X10_readProduct_74 (Q : Int32 → GS → Prop) (R10 : GS → Prop)  (x1 : Int32) (G : GS) : Prop := wp_X10_readUnit G (fun r17 G18 => ((¬ r17 = (-1 : Int32) → ((x1 = 0 → wp_X10_emits (5 : Int32) (0 : Int32) G18 (fun _ G20 => R10 G20)) ∧ (¬ x1 = 0 → wp_X10_emits (4 : Int32) (0 : Int32) G18 (fun _ G22 => R10 G22)))) ∧ (r17 = (-1 : Int32) → Q (-1 : Int32) G18)))
set_option maxRecDepth 100000 in
set_option maxHeartbeats 4000000 in
theorem t_X10_readProduct_74 {E : EV} (hE : EI_ E) (Q : Int32 → GS → Prop) (R10 : GS → Prop) (hR10 : ∀  (G : GS), R10 G → PW_ E mi_X10_readProduct (rm_ 5) 0 0 10 [(0, .ref (ev_ad E 49))] [] G (qi_ Q))  {x1 : Int32} {G : GS} (h : bk_X10_readProduct_74 Q R10 x1 G) : PW_ E mi_X10_readProduct (rm_ 5) 0 0 74 [(0, .ref (ev_ad E 49)), (1, .int x1)] [] G (qi_ Q) := by
  refine pw_aload_n dX10_readProduct_74 rfl 0 rfl ?_
  refine pw_callV (As := []) (rest := []) (s_X10_readUnit hE h) dX10_readProduct_75 ly_49 rfl (Or.inl ml_X10_176) cm_X10_readUnit rfl (rm_ok (by decide)) rm_0 (Nat.le_of_ble_eq_true rfl) ?_
  rintro _ G18 ⟨r17, rfl, h⟩
  refine pw_iconst (v := (-1 : Int32)) dX10_readProduct_78 (by decide) ?_
  refine pw_icmp_ne (tgt := 84) dX10_readProduct_79 (by decide) (fun hc => ?_) (fun hc => ?_)
  · have h := h.1 hc
    refine pw_aload_n dX10_readProduct_84 rfl 0 rfl ?_
    refine pw_iload_n dX10_readProduct_85 rfl 1 rfl ?_
    refine pw_if_eq (tgt := 93) dX10_readProduct_86 (by decide) (fun hc => ?_) (fun hc => ?_)
    · have h := h.1 hc
      refine pw_iconst (v := (5 : Int32)) dX10_readProduct_93 (by decide) ?_
      refine pw_iconst (v := (0 : Int32)) dX10_readProduct_94 (by decide) ?_
      refine pw_callV (As := [.int (5 : Int32), .int (0 : Int32)]) (rest := []) (s_X10_emits hE h) dX10_readProduct_95 ly_49 rfl (Or.inl ml_X10_169) cm_X10_emits rfl (rm_ok (by decide)) rm_0 (Nat.le_of_ble_eq_true rfl) ?_
      rintro _ G20 ⟨rfl, h⟩
      refine pw_goto (tgt := 10) dX10_readProduct_98 (by decide) ?_
      refine pw_loc (lv' := [(0, .ref (ev_ad E 49))]) [0] rfl ?_
      exact hR10  _ h
    · have h := h.2 hc
      refine pw_iconst (v := (4 : Int32)) dX10_readProduct_89 (by decide) ?_
      refine pw_goto (tgt := 94) dX10_readProduct_90 (by decide) ?_
      refine pw_iconst (v := (0 : Int32)) dX10_readProduct_94 (by decide) ?_
      refine pw_callV (As := [.int (4 : Int32), .int (0 : Int32)]) (rest := []) (s_X10_emits hE h) dX10_readProduct_95 ly_49 rfl (Or.inl ml_X10_169) cm_X10_emits rfl (rm_ok (by decide)) rm_0 (Nat.le_of_ble_eq_true rfl) ?_
      rintro _ G22 ⟨rfl, h⟩
      refine pw_goto (tgt := 10) dX10_readProduct_98 (by decide) ?_
      refine pw_loc (lv' := [(0, .ref (ev_ad E 49))]) [0] rfl ?_
      exact hR10  _ h
  · have h := h.2 hc
    refine pw_iconst (v := (-1 : Int32)) dX10_readProduct_82 (by decide) ?_
    exact pw_ireturn dX10_readProduct_83 rfl rfl ⟨_, rfl, h⟩
def bk_X10_readProduct_28 (Q : Int32 → GS → Prop) (R10 : GS → Prop)   (G : GS) : Prop := wp_X10_isSign (42 : Int32) G (fun r7 G8 => wp_X10_reads G8 (fun _ G10 => ((¬ r7 = 0 → ((¬ r7 = 0 → bk_X10_readProduct_74 Q R10 r7 G10) ∧ (r7 = 0 → ((¬ (G10 49 14) = 0 → bk_X10_readProduct_74 Q R10 r7 G10) ∧ ((G10 49 14) = 0 → wp_X10_errs (2 : Int32) G10 (fun r11 G12 => Q r11 G12)))))) ∧ (r7 = 0 → (((G10 49 13) = (3 : Int32) → ((¬ r7 = 0 → bk_X10_readProduct_74 Q R10 r7 G10) ∧ (r7 = 0 → ((¬ (G10 49 14) = 0 → bk_X10_readProduct_74 Q R10 r7 G10) ∧ ((G10 49 14) = 0 → wp_X10_errs (2 : Int32) G10 (fun r13 G14 => Q r13 G14)))))) ∧ (¬ (G10 49 13) = (3 : Int32) → wp_X10_errs (1 : Int32) G10 (fun r15 G16 => Q r15 G16)))))))
set_option maxRecDepth 100000 in
set_option maxHeartbeats 4000000 in
theorem t_X10_readProduct_28 {E : EV} (hE : EI_ E) (Q : Int32 → GS → Prop) (R10 : GS → Prop) (hR10 : ∀  (G : GS), R10 G → PW_ E mi_X10_readProduct (rm_ 5) 0 0 10 [(0, .ref (ev_ad E 49))] [] G (qi_ Q))   {G : GS} (h : bk_X10_readProduct_28 Q R10 G) : PW_ E mi_X10_readProduct (rm_ 5) 0 0 28 [(0, .ref (ev_ad E 49))] [] G (qi_ Q) := by
  refine pw_aload_n dX10_readProduct_28 rfl 0 rfl ?_
  refine pw_bipush (v := (42 : Int32)) dX10_readProduct_29 (by decide) ?_
  refine pw_callV (As := [.int (42 : Int32)]) (rest := []) (s_X10_isSign hE h) dX10_readProduct_31 ly_49 rfl (Or.inl ml_X10_180) cm_X10_isSign rfl (rm_ok (by decide)) rm_0 (Nat.le_of_ble_eq_true rfl) ?_
  rintro _ G8 ⟨r7, rfl, h⟩
  refine pw_istore_n (lv' := [(1, .int r7), (0, .ref (ev_ad E 49))]) dX10_readProduct_34 rfl (by decide) rfl ?_
  refine pw_aload_n dX10_readProduct_35 rfl 1 rfl ?_
  refine pw_callV (As := []) (rest := []) (s_X10_reads hE h) dX10_readProduct_36 ly_49 rfl (Or.inl ml_X10_173) cm_X10_reads rfl (rm_ok (by decide)) rm_0 (Nat.le_of_ble_eq_true rfl) ?_
  rintro _ G10 ⟨rfl, h⟩
  refine pw_iload_n dX10_readProduct_39 rfl 0 rfl ?_
  refine pw_if_ne (tgt := 57) dX10_readProduct_40 (by decide) (fun hc => ?_) (fun hc => ?_)
  · have h := h.1 hc
    refine pw_iload_n dX10_readProduct_57 rfl 0 rfl ?_
    refine pw_if_ne (tgt := 74) dX10_readProduct_58 (by decide) (fun hc => ?_) (fun hc => ?_)
    · have h := h.1 hc
      refine pw_loc (lv' := [(0, .ref (ev_ad E 49)), (1, .int r7)]) [1, 0] rfl ?_
      exact t_X10_readProduct_74 hE Q R10 hR10 h
    · have h := h.2 hc
      refine pw_aload_n dX10_readProduct_61 rfl 1 rfl ?_
      refine pw_geti (v := G10 49 14) dX10_readProduct_62 fa_X10_141 ly_49 rfl rfl ?_
      refine pw_if_ne (tgt := 74) dX10_readProduct_65 (by decide) (fun hc => ?_) (fun hc => ?_)
      · have h := h.1 hc
        refine pw_loc (lv' := [(0, .ref (ev_ad E 49)), (1, .int r7)]) [1, 0] rfl ?_
        exact t_X10_readProduct_74 hE Q R10 hR10 h
      · have h := h.2 hc
        refine pw_aload_n dX10_readProduct_68 rfl 1 rfl ?_
        refine pw_iconst (v := (2 : Int32)) dX10_readProduct_69 (by decide) ?_
        refine pw_callV (As := [.int (2 : Int32)]) (rest := []) (s_X10_errs hE h) dX10_readProduct_70 ly_49 rfl (Or.inl ml_X10_166) cm_X10_errs rfl (rm_ok (by decide)) rm_0 (Nat.le_of_ble_eq_true rfl) ?_
        rintro _ G12 ⟨r11, rfl, h⟩
        exact pw_ireturn dX10_readProduct_73 rfl rfl ⟨_, rfl, h⟩
  · have h := h.2 hc
    refine pw_aload_n dX10_readProduct_43 rfl 1 rfl ?_
    refine pw_geti (v := G10 49 13) dX10_readProduct_44 fa_X10_138 ly_49 rfl rfl ?_
    refine pw_iconst (v := (3 : Int32)) dX10_readProduct_47 (by decide) ?_
    refine pw_icmp_eq (tgt := 57) dX10_readProduct_48 (by decide) (fun hc => ?_) (fun hc => ?_)
    · have h := h.1 hc
      refine pw_iload_n dX10_readProduct_57 rfl 0 rfl ?_
      refine pw_if_ne (tgt := 74) dX10_readProduct_58 (by decide) (fun hc => ?_) (fun hc => ?_)
      · have h := h.1 hc
        refine pw_loc (lv' := [(0, .ref (ev_ad E 49)), (1, .int r7)]) [1, 0] rfl ?_
        exact t_X10_readProduct_74 hE Q R10 hR10 h
      · have h := h.2 hc
        refine pw_aload_n dX10_readProduct_61 rfl 1 rfl ?_
        refine pw_geti (v := G10 49 14) dX10_readProduct_62 fa_X10_141 ly_49 rfl rfl ?_
        refine pw_if_ne (tgt := 74) dX10_readProduct_65 (by decide) (fun hc => ?_) (fun hc => ?_)
        · have h := h.1 hc
          refine pw_loc (lv' := [(0, .ref (ev_ad E 49)), (1, .int r7)]) [1, 0] rfl ?_
          exact t_X10_readProduct_74 hE Q R10 hR10 h
        · have h := h.2 hc
          refine pw_aload_n dX10_readProduct_68 rfl 1 rfl ?_
          refine pw_iconst (v := (2 : Int32)) dX10_readProduct_69 (by decide) ?_
          refine pw_callV (As := [.int (2 : Int32)]) (rest := []) (s_X10_errs hE h) dX10_readProduct_70 ly_49 rfl (Or.inl ml_X10_166) cm_X10_errs rfl (rm_ok (by decide)) rm_0 (Nat.le_of_ble_eq_true rfl) ?_
          rintro _ G14 ⟨r13, rfl, h⟩
          exact pw_ireturn dX10_readProduct_73 rfl rfl ⟨_, rfl, h⟩
    · have h := h.2 hc
      refine pw_aload_n dX10_readProduct_51 rfl 1 rfl ?_
      refine pw_iconst (v := (1 : Int32)) dX10_readProduct_52 (by decide) ?_
      refine pw_callV (As := [.int (1 : Int32)]) (rest := []) (s_X10_errs hE h) dX10_readProduct_53 ly_49 rfl (Or.inl ml_X10_166) cm_X10_errs rfl (rm_ok (by decide)) rm_0 (Nat.le_of_ble_eq_true rfl) ?_
      rintro _ G16 ⟨r15, rfl, h⟩
      exact pw_ireturn dX10_readProduct_56 rfl rfl ⟨_, rfl, h⟩
def lp_X10_readProduct_10 (Q : Int32 → GS → Prop)  : Nat → GS → Prop
  | 0, _ => False
  | n + 1, G => wp_X10_isSign (42 : Int32) G (fun r3 G4 => ((¬ r3 = 0 → bk_X10_readProduct_28 Q (fun G => lp_X10_readProduct_10 Q n G) G4) ∧ (r3 = 0 → wp_X10_isSign (47 : Int32) G4 (fun r5 G6 => ((r5 = 0 → Q (0 : Int32) G6) ∧ (¬ r5 = 0 → bk_X10_readProduct_28 Q (fun G => lp_X10_readProduct_10 Q n G) G6))))))
set_option maxRecDepth 100000 in
set_option maxHeartbeats 4000000 in
theorem t_X10_readProduct_10 {E : EV} (hE : EI_ E) (Q : Int32 → GS → Prop)  : ∀ (n : Nat)  (G : GS), lp_X10_readProduct_10 Q n G → PW_ E mi_X10_readProduct (rm_ 5) 0 0 10 [(0, .ref (ev_ad E 49))] [] G (qi_ Q) := by
  intro n
  induction n with
  | zero => intro G h; exact h.elim
  | succ n ih =>
    intro G h
    refine pw_aload_n dX10_readProduct_10 rfl 0 rfl ?_
    refine pw_bipush (v := (42 : Int32)) dX10_readProduct_11 (by decide) ?_
    refine pw_callV (As := [.int (42 : Int32)]) (rest := []) (s_X10_isSign hE h) dX10_readProduct_13 ly_49 rfl (Or.inl ml_X10_180) cm_X10_isSign rfl (rm_ok (by decide)) rm_0 (Nat.le_of_ble_eq_true rfl) ?_
    rintro _ G4 ⟨r3, rfl, h⟩
    refine pw_if_ne (tgt := 28) dX10_readProduct_16 (by decide) (fun hc => ?_) (fun hc => ?_)
    · have h := h.1 hc
      refine pw_loc (lv' := [(0, .ref (ev_ad E 49))]) [0] rfl ?_
      exact t_X10_readProduct_28 hE Q (fun G => lp_X10_readProduct_10 Q n G) ih h
    · have h := h.2 hc
      refine pw_aload_n dX10_readProduct_19 rfl 0 rfl ?_
      refine pw_bipush (v := (47 : Int32)) dX10_readProduct_20 (by decide) ?_
      refine pw_callV (As := [.int (47 : Int32)]) (rest := []) (s_X10_isSign hE h) dX10_readProduct_22 ly_49 rfl (Or.inl ml_X10_180) cm_X10_isSign rfl (rm_ok (by decide)) rm_0 (Nat.le_of_ble_eq_true rfl) ?_
      rintro _ G6 ⟨r5, rfl, h⟩
      refine pw_if_eq (tgt := 101) dX10_readProduct_25 (by decide) (fun hc => ?_) (fun hc => ?_)
      · have h := h.1 hc
        refine pw_iconst (v := (0 : Int32)) dX10_readProduct_101 (by decide) ?_
        exact pw_ireturn dX10_readProduct_102 rfl rfl ⟨_, rfl, h⟩
      · have h := h.2 hc
        refine pw_loc (lv' := [(0, .ref (ev_ad E 49))]) [0] rfl ?_
        exact t_X10_readProduct_28 hE Q (fun G => lp_X10_readProduct_10 Q n G) ih h
def wp_X10_readProduct  (G : GS) (Q : Int32 → GS → Prop) : Prop := wp_X10_readUnit G (fun r1 G2 => ((¬ r1 = (-1 : Int32) → (∃ kf, lp_X10_readProduct_10 Q kf G2)) ∧ (r1 = (-1 : Int32) → Q (-1 : Int32) G2)))
set_option maxRecDepth 100000 in
set_option maxHeartbeats 4000000 in
theorem s_X10_readProduct {E : EV} (hE : EI_ E)  {G : GS} {Q : Int32 → GS → Prop} (h : wp_X10_readProduct  G Q) : PMet E mi_X10_readProduct 5 [.ref (ev_ad E 49)] G (qi_ Q) := by
  refine pm_of hE (by decide) (Nat.le_of_ble_eq_true rfl) ?_
  refine pw_loc (lv' := [(0, .ref (ev_ad E 49))]) [0] rfl ?_
  refine pw_aload_n dX10_readProduct_0 rfl 0 rfl ?_
  refine pw_callV (As := []) (rest := []) (s_X10_readUnit hE h) dX10_readProduct_1 ly_49 rfl (Or.inl ml_X10_176) cm_X10_readUnit rfl (rm_ok (by decide)) rm_0 (Nat.le_of_ble_eq_true rfl) ?_
  rintro _ G2 ⟨r1, rfl, h⟩
  refine pw_iconst (v := (-1 : Int32)) dX10_readProduct_4 (by decide) ?_
  refine pw_icmp_ne (tgt := 10) dX10_readProduct_5 (by decide) (fun hc => ?_) (fun hc => ?_)
  · have h := h.1 hc
    refine pw_loc (lv' := [(0, .ref (ev_ad E 49))]) [0] rfl ?_
    obtain ⟨kf, h⟩ := h
    exact t_X10_readProduct_10 hE Q kf  _ h
  · have h := h.2 hc
    refine pw_iconst (v := (-1 : Int32)) dX10_readProduct_8 (by decide) ?_
    exact pw_ireturn dX10_readProduct_9 rfl rfl ⟨_, rfl, h⟩
def bk_X10_readSum_42 (Q : Int32 → GS → Prop) (R10 : GS → Prop)  (z0 : Int32) (G : GS) : Prop := wp_X10_reads G (fun _ G8 => wp_X10_readProduct G8 (fun r9 G10 => ((¬ r9 = (-1 : Int32) → wp_X10_emits z0 (0 : Int32) G10 (fun _ G12 => R10 G12)) ∧ (r9 = (-1 : Int32) → Q (-1 : Int32) G10))))
set_option maxRecDepth 100000 in
set_option maxHeartbeats 4000000 in
theorem t_X10_readSum_42 {E : EV} (hE : EI_ E) (Q : Int32 → GS → Prop) (R10 : GS → Prop) (hR10 : ∀  (G : GS), R10 G → PW_ E mi_X10_readSum (rm_ 6) 0 0 10 [(0, .ref (ev_ad E 49))] [] G (qi_ Q))  {z0 : Int32} {G : GS} (h : bk_X10_readSum_42 Q R10 z0 G) : PW_ E mi_X10_readSum (rm_ 6) 0 0 42 [(0, .ref (ev_ad E 49))] [.int z0] G (qi_ Q) := by
  refine pw_istore_n (lv' := [(1, .int z0), (0, .ref (ev_ad E 49))]) dX10_readSum_42 rfl (by decide) rfl ?_
  refine pw_aload_n dX10_readSum_43 rfl 1 rfl ?_
  refine pw_callV (As := []) (rest := []) (s_X10_reads hE h) dX10_readSum_44 ly_49 rfl (Or.inl ml_X10_173) cm_X10_reads rfl (rm_ok (by decide)) rm_0 (Nat.le_of_ble_eq_true rfl) ?_
  rintro _ G8 ⟨rfl, h⟩
  refine pw_aload_n dX10_readSum_47 rfl 1 rfl ?_
  refine pw_callV (As := []) (rest := []) (s_X10_readProduct hE h) dX10_readSum_48 ly_49 rfl (Or.inl ml_X10_183) cm_X10_readProduct rfl (rm_ok (by decide)) rm_0 (Nat.le_of_ble_eq_true rfl) ?_
  rintro _ G10 ⟨r9, rfl, h⟩
  refine pw_iconst (v := (-1 : Int32)) dX10_readSum_51 (by decide) ?_
  refine pw_icmp_ne (tgt := 57) dX10_readSum_52 (by decide) (fun hc => ?_) (fun hc => ?_)
  · have h := h.1 hc
    refine pw_aload_n dX10_readSum_57 rfl 1 rfl ?_
    refine pw_iload_n dX10_readSum_58 rfl 0 rfl ?_
    refine pw_iconst (v := (0 : Int32)) dX10_readSum_59 (by decide) ?_
    refine pw_callV (As := [.int z0, .int (0 : Int32)]) (rest := []) (s_X10_emits hE h) dX10_readSum_60 ly_49 rfl (Or.inl ml_X10_169) cm_X10_emits rfl (rm_ok (by decide)) rm_0 (Nat.le_of_ble_eq_true rfl) ?_
    rintro _ G12 ⟨rfl, h⟩
    refine pw_goto (tgt := 10) dX10_readSum_63 (by decide) ?_
    refine pw_loc (lv' := [(0, .ref (ev_ad E 49))]) [1] rfl ?_
    exact hR10  _ h
  · have h := h.2 hc
    refine pw_iconst (v := (-1 : Int32)) dX10_readSum_55 (by decide) ?_
    exact pw_ireturn dX10_readSum_56 rfl rfl ⟨_, rfl, h⟩
def lp_X10_readSum_10 (Q : Int32 → GS → Prop)  : Nat → GS → Prop
  | 0, _ => False
  | n + 1, G => wp_X10_isSign (43 : Int32) G (fun r3 G4 => ((¬ r3 = 0 → ((¬ (G4 49 14) = (43 : Int32) → bk_X10_readSum_42 Q (fun G => lp_X10_readSum_10 Q n G) (3 : Int32) G4) ∧ ((G4 49 14) = (43 : Int32) → bk_X10_readSum_42 Q (fun G => lp_X10_readSum_10 Q n G) (2 : Int32) G4))) ∧ (r3 = 0 → wp_X10_isSign (45 : Int32) G4 (fun r5 G6 => ((r5 = 0 → Q (0 : Int32) G6) ∧ (¬ r5 = 0 → ((¬ (G6 49 14) = (43 : Int32) → bk_X10_readSum_42 Q (fun G => lp_X10_readSum_10 Q n G) (3 : Int32) G6) ∧ ((G6 49 14) = (43 : Int32) → bk_X10_readSum_42 Q (fun G => lp_X10_readSum_10 Q n G) (2 : Int32) G6))))))))
set_option maxRecDepth 100000 in
set_option maxHeartbeats 4000000 in
theorem t_X10_readSum_10 {E : EV} (hE : EI_ E) (Q : Int32 → GS → Prop)  : ∀ (n : Nat)  (G : GS), lp_X10_readSum_10 Q n G → PW_ E mi_X10_readSum (rm_ 6) 0 0 10 [(0, .ref (ev_ad E 49))] [] G (qi_ Q) := by
  intro n
  induction n with
  | zero => intro G h; exact h.elim
  | succ n ih =>
    intro G h
    refine pw_aload_n dX10_readSum_10 rfl 0 rfl ?_
    refine pw_bipush (v := (43 : Int32)) dX10_readSum_11 (by decide) ?_
    refine pw_callV (As := [.int (43 : Int32)]) (rest := []) (s_X10_isSign hE h) dX10_readSum_13 ly_49 rfl (Or.inl ml_X10_180) cm_X10_isSign rfl (rm_ok (by decide)) rm_0 (Nat.le_of_ble_eq_true rfl) ?_
    rintro _ G4 ⟨r3, rfl, h⟩
    refine pw_if_ne (tgt := 28) dX10_readSum_16 (by decide) (fun hc => ?_) (fun hc => ?_)
    · have h := h.1 hc
      refine pw_aload_n dX10_readSum_28 rfl 0 rfl ?_
      refine pw_geti (v := G4 49 14) dX10_readSum_29 fa_X10_141 ly_49 rfl rfl ?_
      refine pw_bipush (v := (43 : Int32)) dX10_readSum_32 (by decide) ?_
      refine pw_icmp_ne (tgt := 41) dX10_readSum_34 (by decide) (fun hc => ?_) (fun hc => ?_)
      · have h := h.1 hc
        refine pw_iconst (v := (3 : Int32)) dX10_readSum_41 (by decide) ?_
        refine pw_loc (lv' := [(0, .ref (ev_ad E 49))]) [0] rfl ?_
        exact t_X10_readSum_42 hE Q (fun G => lp_X10_readSum_10 Q n G) ih h
      · have h := h.2 hc
        refine pw_iconst (v := (2 : Int32)) dX10_readSum_37 (by decide) ?_
        refine pw_goto (tgt := 42) dX10_readSum_38 (by decide) ?_
        refine pw_loc (lv' := [(0, .ref (ev_ad E 49))]) [0] rfl ?_
        exact t_X10_readSum_42 hE Q (fun G => lp_X10_readSum_10 Q n G) ih h
    · have h := h.2 hc
      refine pw_aload_n dX10_readSum_19 rfl 0 rfl ?_
      refine pw_bipush (v := (45 : Int32)) dX10_readSum_20 (by decide) ?_
      refine pw_callV (As := [.int (45 : Int32)]) (rest := []) (s_X10_isSign hE h) dX10_readSum_22 ly_49 rfl (Or.inl ml_X10_180) cm_X10_isSign rfl (rm_ok (by decide)) rm_0 (Nat.le_of_ble_eq_true rfl) ?_
      rintro _ G6 ⟨r5, rfl, h⟩
      refine pw_if_eq (tgt := 66) dX10_readSum_25 (by decide) (fun hc => ?_) (fun hc => ?_)
      · have h := h.1 hc
        refine pw_iconst (v := (0 : Int32)) dX10_readSum_66 (by decide) ?_
        exact pw_ireturn dX10_readSum_67 rfl rfl ⟨_, rfl, h⟩
      · have h := h.2 hc
        refine pw_aload_n dX10_readSum_28 rfl 0 rfl ?_
        refine pw_geti (v := G6 49 14) dX10_readSum_29 fa_X10_141 ly_49 rfl rfl ?_
        refine pw_bipush (v := (43 : Int32)) dX10_readSum_32 (by decide) ?_
        refine pw_icmp_ne (tgt := 41) dX10_readSum_34 (by decide) (fun hc => ?_) (fun hc => ?_)
        · have h := h.1 hc
          refine pw_iconst (v := (3 : Int32)) dX10_readSum_41 (by decide) ?_
          refine pw_loc (lv' := [(0, .ref (ev_ad E 49))]) [0] rfl ?_
          exact t_X10_readSum_42 hE Q (fun G => lp_X10_readSum_10 Q n G) ih h
        · have h := h.2 hc
          refine pw_iconst (v := (2 : Int32)) dX10_readSum_37 (by decide) ?_
          refine pw_goto (tgt := 42) dX10_readSum_38 (by decide) ?_
          refine pw_loc (lv' := [(0, .ref (ev_ad E 49))]) [0] rfl ?_
          exact t_X10_readSum_42 hE Q (fun G => lp_X10_readSum_10 Q n G) ih h
def wp_X10_readSum  (G : GS) (Q : Int32 → GS → Prop) : Prop := wp_X10_readProduct G (fun r1 G2 => ((¬ r1 = (-1 : Int32) → (∃ kf, lp_X10_readSum_10 Q kf G2)) ∧ (r1 = (-1 : Int32) → Q (-1 : Int32) G2)))
set_option maxRecDepth 100000 in
set_option maxHeartbeats 4000000 in
theorem s_X10_readSum {E : EV} (hE : EI_ E)  {G : GS} {Q : Int32 → GS → Prop} (h : wp_X10_readSum  G Q) : PMet E mi_X10_readSum 6 [.ref (ev_ad E 49)] G (qi_ Q) := by
  refine pm_of hE (by decide) (Nat.le_of_ble_eq_true rfl) ?_
  refine pw_loc (lv' := [(0, .ref (ev_ad E 49))]) [0] rfl ?_
  refine pw_aload_n dX10_readSum_0 rfl 0 rfl ?_
  refine pw_callV (As := []) (rest := []) (s_X10_readProduct hE h) dX10_readSum_1 ly_49 rfl (Or.inl ml_X10_183) cm_X10_readProduct rfl (rm_ok (by decide)) rm_0 (Nat.le_of_ble_eq_true rfl) ?_
  rintro _ G2 ⟨r1, rfl, h⟩
  refine pw_iconst (v := (-1 : Int32)) dX10_readSum_4 (by decide) ?_
  refine pw_icmp_ne (tgt := 10) dX10_readSum_5 (by decide) (fun hc => ?_) (fun hc => ?_)
  · have h := h.1 hc
    refine pw_loc (lv' := [(0, .ref (ev_ad E 49))]) [0] rfl ?_
    obtain ⟨kf, h⟩ := h
    exact t_X10_readSum_10 hE Q kf  _ h
  · have h := h.2 hc
    refine pw_iconst (v := (-1 : Int32)) dX10_readSum_8 (by decide) ?_
    exact pw_ireturn dX10_readSum_9 rfl rfl ⟨_, rfl, h⟩
def bk_X10_readCompared_73 (Q : Int32 → GS → Prop)  (z0 : Int32) (G : GS) : Prop := wp_X10_reads G (fun _ G12 => wp_X10_readSum G12 (fun r13 G14 => ((¬ r13 = (-1 : Int32) → wp_X10_emits z0 (0 : Int32) G14 (fun _ G16 => Q (0 : Int32) G16)) ∧ (r13 = (-1 : Int32) → Q (-1 : Int32) G14))))
set_option maxRecDepth 100000 in
set_option maxHeartbeats 4000000 in
theorem t_X10_readCompared_73 {E : EV} (hE : EI_ E) (Q : Int32 → GS → Prop)  {z0 : Int32} {G : GS} (h : bk_X10_readCompared_73 Q z0 G) : PW_ E mi_X10_readCompared (rm_ 7) 0 0 73 [(0, .ref (ev_ad E 49))] [.int z0] G (qi_ Q) := by
  refine pw_istore_n (lv' := [(1, .int z0), (0, .ref (ev_ad E 49))]) dX10_readCompared_73 rfl (by decide) rfl ?_
  refine pw_aload_n dX10_readCompared_74 rfl 1 rfl ?_
  refine pw_callV (As := []) (rest := []) (s_X10_reads hE h) dX10_readCompared_75 ly_49 rfl (Or.inl ml_X10_173) cm_X10_reads rfl (rm_ok (by decide)) rm_0 (Nat.le_of_ble_eq_true rfl) ?_
  rintro _ G12 ⟨rfl, h⟩
  refine pw_aload_n dX10_readCompared_78 rfl 1 rfl ?_
  refine pw_callV (As := []) (rest := []) (s_X10_readSum hE h) dX10_readCompared_79 ly_49 rfl (Or.inl ml_X10_186) cm_X10_readSum rfl (rm_ok (by decide)) rm_0 (Nat.le_of_ble_eq_true rfl) ?_
  rintro _ G14 ⟨r13, rfl, h⟩
  refine pw_iconst (v := (-1 : Int32)) dX10_readCompared_82 (by decide) ?_
  refine pw_icmp_ne (tgt := 88) dX10_readCompared_83 (by decide) (fun hc => ?_) (fun hc => ?_)
  · have h := h.1 hc
    refine pw_aload_n dX10_readCompared_88 rfl 1 rfl ?_
    refine pw_iload_n dX10_readCompared_89 rfl 0 rfl ?_
    refine pw_iconst (v := (0 : Int32)) dX10_readCompared_90 (by decide) ?_
    refine pw_callV (As := [.int z0, .int (0 : Int32)]) (rest := []) (s_X10_emits hE h) dX10_readCompared_91 ly_49 rfl (Or.inl ml_X10_169) cm_X10_emits rfl (rm_ok (by decide)) rm_0 (Nat.le_of_ble_eq_true rfl) ?_
    rintro _ G16 ⟨rfl, h⟩
    refine pw_iconst (v := (0 : Int32)) dX10_readCompared_94 (by decide) ?_
    exact pw_ireturn dX10_readCompared_95 rfl rfl ⟨_, rfl, h⟩
  · have h := h.2 hc
    refine pw_iconst (v := (-1 : Int32)) dX10_readCompared_86 (by decide) ?_
    exact pw_ireturn dX10_readCompared_87 rfl rfl ⟨_, rfl, h⟩
def bk_X10_readCompared_43 (Q : Int32 → GS → Prop)   (G : GS) : Prop := ((¬ (G 49 14) = (60 : Int32) → ((¬ (G 49 14) = (61 : Int32) → bk_X10_readCompared_73 Q (8 : Int32) G) ∧ ((G 49 14) = (61 : Int32) → bk_X10_readCompared_73 Q (7 : Int32) G))) ∧ ((G 49 14) = (60 : Int32) → bk_X10_readCompared_73 Q (6 : Int32) G))
set_option maxRecDepth 100000 in
set_option maxHeartbeats 4000000 in
theorem t_X10_readCompared_43 {E : EV} (hE : EI_ E) (Q : Int32 → GS → Prop)   {G : GS} (h : bk_X10_readCompared_43 Q G) : PW_ E mi_X10_readCompared (rm_ 7) 0 0 43 [(0, .ref (ev_ad E 49))] [] G (qi_ Q) := by
  refine pw_aload_n dX10_readCompared_43 rfl 0 rfl ?_
  refine pw_geti (v := G 49 14) dX10_readCompared_44 fa_X10_141 ly_49 rfl rfl ?_
  refine pw_bipush (v := (60 : Int32)) dX10_readCompared_47 (by decide) ?_
  refine pw_icmp_ne (tgt := 57) dX10_readCompared_49 (by decide) (fun hc => ?_) (fun hc => ?_)
  · have h := h.1 hc
    refine pw_aload_n dX10_readCompared_57 rfl 0 rfl ?_
    refine pw_geti (v := G 49 14) dX10_readCompared_58 fa_X10_141 ly_49 rfl rfl ?_
    refine pw_bipush (v := (61 : Int32)) dX10_readCompared_61 (by decide) ?_
    refine pw_icmp_ne (tgt := 71) dX10_readCompared_63 (by decide) (fun hc => ?_) (fun hc => ?_)
    · have h := h.1 hc
      refine pw_bipush (v := (8 : Int32)) dX10_readCompared_71 (by decide) ?_
      refine pw_loc (lv' := [(0, .ref (ev_ad E 49))]) [0] rfl ?_
      exact t_X10_readCompared_73 hE Q h
    · have h := h.2 hc
      refine pw_bipush (v := (7 : Int32)) dX10_readCompared_66 (by decide) ?_
      refine pw_goto (tgt := 73) dX10_readCompared_68 (by decide) ?_
      refine pw_loc (lv' := [(0, .ref (ev_ad E 49))]) [0] rfl ?_
      exact t_X10_readCompared_73 hE Q h
  · have h := h.2 hc
    refine pw_bipush (v := (6 : Int32)) dX10_readCompared_52 (by decide) ?_
    refine pw_goto (tgt := 73) dX10_readCompared_54 (by decide) ?_
    refine pw_loc (lv' := [(0, .ref (ev_ad E 49))]) [0] rfl ?_
    exact t_X10_readCompared_73 hE Q h
def wp_X10_readCompared  (G : GS) (Q : Int32 → GS → Prop) : Prop := wp_X10_readSum G (fun r1 G2 => ((¬ r1 = (-1 : Int32) → wp_X10_isSign (60 : Int32) G2 (fun r3 G4 => ((¬ r3 = 0 → bk_X10_readCompared_43 Q G4) ∧ (r3 = 0 → wp_X10_isSign (61 : Int32) G4 (fun r5 G6 => ((¬ r5 = 0 → bk_X10_readCompared_43 Q G6) ∧ (r5 = 0 → wp_X10_isSign (62 : Int32) G6 (fun r7 G8 => ((¬ r7 = 0 → bk_X10_readCompared_43 Q G8) ∧ (r7 = 0 → wp_X10_errs (1 : Int32) G8 (fun r9 G10 => Q r9 G10))))))))))) ∧ (r1 = (-1 : Int32) → Q (-1 : Int32) G2)))
set_option maxRecDepth 100000 in
set_option maxHeartbeats 4000000 in
theorem s_X10_readCompared {E : EV} (hE : EI_ E)  {G : GS} {Q : Int32 → GS → Prop} (h : wp_X10_readCompared  G Q) : PMet E mi_X10_readCompared 7 [.ref (ev_ad E 49)] G (qi_ Q) := by
  refine pm_of hE (by decide) (Nat.le_of_ble_eq_true rfl) ?_
  refine pw_loc (lv' := [(0, .ref (ev_ad E 49))]) [0] rfl ?_
  refine pw_aload_n dX10_readCompared_0 rfl 0 rfl ?_
  refine pw_callV (As := []) (rest := []) (s_X10_readSum hE h) dX10_readCompared_1 ly_49 rfl (Or.inl ml_X10_186) cm_X10_readSum rfl (rm_ok (by decide)) rm_0 (Nat.le_of_ble_eq_true rfl) ?_
  rintro _ G2 ⟨r1, rfl, h⟩
  refine pw_iconst (v := (-1 : Int32)) dX10_readCompared_4 (by decide) ?_
  refine pw_icmp_ne (tgt := 10) dX10_readCompared_5 (by decide) (fun hc => ?_) (fun hc => ?_)
  · have h := h.1 hc
    refine pw_aload_n dX10_readCompared_10 rfl 0 rfl ?_
    refine pw_bipush (v := (60 : Int32)) dX10_readCompared_11 (by decide) ?_
    refine pw_callV (As := [.int (60 : Int32)]) (rest := []) (s_X10_isSign hE h) dX10_readCompared_13 ly_49 rfl (Or.inl ml_X10_180) cm_X10_isSign rfl (rm_ok (by decide)) rm_0 (Nat.le_of_ble_eq_true rfl) ?_
    rintro _ G4 ⟨r3, rfl, h⟩
    refine pw_if_ne (tgt := 43) dX10_readCompared_16 (by decide) (fun hc => ?_) (fun hc => ?_)
    · have h := h.1 hc
      refine pw_loc (lv' := [(0, .ref (ev_ad E 49))]) [0] rfl ?_
      exact t_X10_readCompared_43 hE Q h
    · have h := h.2 hc
      refine pw_aload_n dX10_readCompared_19 rfl 0 rfl ?_
      refine pw_bipush (v := (61 : Int32)) dX10_readCompared_20 (by decide) ?_
      refine pw_callV (As := [.int (61 : Int32)]) (rest := []) (s_X10_isSign hE h) dX10_readCompared_22 ly_49 rfl (Or.inl ml_X10_180) cm_X10_isSign rfl (rm_ok (by decide)) rm_0 (Nat.le_of_ble_eq_true rfl) ?_
      rintro _ G6 ⟨r5, rfl, h⟩
      refine pw_if_ne (tgt := 43) dX10_readCompared_25 (by decide) (fun hc => ?_) (fun hc => ?_)
      · have h := h.1 hc
        refine pw_loc (lv' := [(0, .ref (ev_ad E 49))]) [0] rfl ?_
        exact t_X10_readCompared_43 hE Q h
      · have h := h.2 hc
        refine pw_aload_n dX10_readCompared_28 rfl 0 rfl ?_
        refine pw_bipush (v := (62 : Int32)) dX10_readCompared_29 (by decide) ?_
        refine pw_callV (As := [.int (62 : Int32)]) (rest := []) (s_X10_isSign hE h) dX10_readCompared_31 ly_49 rfl (Or.inl ml_X10_180) cm_X10_isSign rfl (rm_ok (by decide)) rm_0 (Nat.le_of_ble_eq_true rfl) ?_
        rintro _ G8 ⟨r7, rfl, h⟩
        refine pw_if_ne (tgt := 43) dX10_readCompared_34 (by decide) (fun hc => ?_) (fun hc => ?_)
        · have h := h.1 hc
          refine pw_loc (lv' := [(0, .ref (ev_ad E 49))]) [0] rfl ?_
          exact t_X10_readCompared_43 hE Q h
        · have h := h.2 hc
          refine pw_aload_n dX10_readCompared_37 rfl 0 rfl ?_
          refine pw_iconst (v := (1 : Int32)) dX10_readCompared_38 (by decide) ?_
          refine pw_callV (As := [.int (1 : Int32)]) (rest := []) (s_X10_errs hE h) dX10_readCompared_39 ly_49 rfl (Or.inl ml_X10_166) cm_X10_errs rfl (rm_ok (by decide)) rm_0 (Nat.le_of_ble_eq_true rfl) ?_
          rintro _ G10 ⟨r9, rfl, h⟩
          exact pw_ireturn dX10_readCompared_42 rfl rfl ⟨_, rfl, h⟩
  · have h := h.2 hc
    refine pw_iconst (v := (-1 : Int32)) dX10_readCompared_8 (by decide) ?_
    exact pw_ireturn dX10_readCompared_9 rfl rfl ⟨_, rfl, h⟩
