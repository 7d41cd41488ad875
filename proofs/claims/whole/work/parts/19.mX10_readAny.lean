def bk_X10_readAny_65 (Q : Int32 → GS → Prop) (R9 : Int32 → Int32 → GS → Prop)  (x1 : Int32) (x2 : Int32) (x3 : Int32) (G : GS) : Prop := ((x3 = 0 → wp_X10_waits (12 : Int32) G (fun _ G42 => wp_X10_reads G42 (fun _ G44 => R9 x1 x2 G44))) ∧ (¬ x3 = 0 → wp_X10_waits (9 : Int32) G (fun _ G46 => wp_X10_reads G46 (fun _ G48 => R9 x1 x2 G48))))
set_option maxRecDepth 100000 in
set_option maxHeartbeats 4000000 in
theorem t_X10_readAny_65 {E : EV} (hE : EI_ E) (Q : Int32 → GS → Prop) (R9 : Int32 → Int32 → GS → Prop) (hR9 : ∀ (x1 : Int32) (x2 : Int32) (G : GS), R9 x1 x2 G → PW_ E mi_X10_readAny (rm_ 8) 0 0 9 [(0, .ref (ev_ad E 49)), (1, .int x1), (2, .int x2)] [] G (qi_ Q))  {x1 : Int32} {x2 : Int32} {x3 : Int32} {G : GS} (h : bk_X10_readAny_65 Q R9 x1 x2 x3 G) : PW_ E mi_X10_readAny (rm_ 8) 0 0 65 [(0, .ref (ev_ad E 49)), (1, .int x1), (2, .int x2), (3, .int x3)] [] G (qi_ Q) := by
  refine pw_aload_n dX10_readAny_65 rfl 0 rfl ?_
  refine pw_iload_n dX10_readAny_66 rfl 3 rfl ?_
  refine pw_if_eq (tgt := 75) dX10_readAny_67 (by decide) (fun hc => ?_) (fun hc => ?_)
  · have h := h.1 hc
    refine pw_bipush (v := (12 : Int32)) dX10_readAny_75 (by decide) ?_
    refine pw_callV (As := [.int (12 : Int32)]) (rest := []) (s_X10_waits hE h) dX10_readAny_77 ly_49 rfl (Or.inl ml_X10_198) cm_X10_waits rfl (rm_ok (by decide)) rm_0 (Nat.le_of_ble_eq_true rfl) ?_
    rintro _ G42 ⟨rfl, h⟩
    refine pw_aload_n dX10_readAny_80 rfl 0 rfl ?_
    refine pw_callV (As := []) (rest := []) (s_X10_reads hE h) dX10_readAny_81 ly_49 rfl (Or.inl ml_X10_173) cm_X10_reads rfl (rm_ok (by decide)) rm_0 (Nat.le_of_ble_eq_true rfl) ?_
    rintro _ G44 ⟨rfl, h⟩
    refine pw_goto (tgt := 9) dX10_readAny_84 (by decide) ?_
    refine pw_loc (lv' := [(0, .ref (ev_ad E 49)), (1, .int x1), (2, .int x2)]) [0, 1, 2] rfl ?_
    exact hR9 _ _ _ h
  · have h := h.2 hc
    refine pw_bipush (v := (9 : Int32)) dX10_readAny_70 (by decide) ?_
    refine pw_goto (tgt := 77) dX10_readAny_72 (by decide) ?_
    refine pw_callV (As := [.int (9 : Int32)]) (rest := []) (s_X10_waits hE h) dX10_readAny_77 ly_49 rfl (Or.inl ml_X10_198) cm_X10_waits rfl (rm_ok (by decide)) rm_0 (Nat.le_of_ble_eq_true rfl) ?_
    rintro _ G46 ⟨rfl, h⟩
    refine pw_aload_n dX10_readAny_80 rfl 0 rfl ?_
    refine pw_callV (As := []) (rest := []) (s_X10_reads hE h) dX10_readAny_81 ly_49 rfl (Or.inl ml_X10_173) cm_X10_reads rfl (rm_ok (by decide)) rm_0 (Nat.le_of_ble_eq_true rfl) ?_
    rintro _ G48 ⟨rfl, h⟩
    refine pw_goto (tgt := 9) dX10_readAny_84 (by decide) ?_
    refine pw_loc (lv' := [(0, .ref (ev_ad E 49)), (1, .int x1), (2, .int x2)]) [0, 1, 2] rfl ?_
    exact hR9 _ _ _ h
def bk_X10_readAny_32 (Q : Int32 → GS → Prop) (R9 : Int32 → Int32 → GS → Prop)  (x1 : Int32) (x2 : Int32) (x3 : Int32) (G : GS) : Prop := ((¬ (G 49 23) = (8 : Int32) → ((¬ x3 = 0 → bk_X10_readAny_65 Q R9 x1 x2 x3 (gu_ G 49 23 ((G 49 23) + (1 : Int32)))) ∧ (x3 = 0 → bk_X10_readAny_65 Q R9 (x1 + (1 : Int32)) x2 x3 (gu_ G 49 23 ((G 49 23) + (1 : Int32)))))) ∧ ((G 49 23) = (8 : Int32) → wp_X10_errs (3 : Int32) G (fun r39 G40 => Q r39 G40)))
set_option maxRecDepth 100000 in
set_option maxHeartbeats 4000000 in
theorem t_X10_readAny_32 {E : EV} (hE : EI_ E) (Q : Int32 → GS → Prop) (R9 : Int32 → Int32 → GS → Prop) (hR9 : ∀ (x1 : Int32) (x2 : Int32) (G : GS), R9 x1 x2 G → PW_ E mi_X10_readAny (rm_ 8) 0 0 9 [(0, .ref (ev_ad E 49)), (1, .int x1), (2, .int x2)] [] G (qi_ Q))  {x1 : Int32} {x2 : Int32} {x3 : Int32} {G : GS} (h : bk_X10_readAny_32 Q R9 x1 x2 x3 G) : PW_ E mi_X10_readAny (rm_ 8) 0 0 32 [(0, .ref (ev_ad E 49)), (1, .int x1), (2, .int x2), (3, .int x3)] [] G (qi_ Q) := by
  refine pw_aload_n dX10_readAny_32 rfl 0 rfl ?_
  refine pw_geti (v := G 49 23) dX10_readAny_33 fa_X10_192 ly_49 rfl rfl ?_
  refine pw_bipush (v := (8 : Int32)) dX10_readAny_36 (by decide) ?_
  refine pw_icmp_ne (tgt := 47) dX10_readAny_38 (by decide) (fun hc => ?_) (fun hc => ?_)
  · have h := h.1 hc
    refine pw_aload_n dX10_readAny_47 rfl 0 rfl ?_
    refine pw_aload_n dX10_readAny_48 rfl 0 rfl ?_
    refine pw_geti (v := G 49 23) dX10_readAny_49 fa_X10_192 ly_49 rfl rfl ?_
    refine pw_iconst (v := (1 : Int32)) dX10_readAny_52 (by decide) ?_
    refine pw_iadd dX10_readAny_53 ?_
    refine pw_puti dX10_readAny_54 fp_X10_192 ly_49 rfl ?_
    refine pw_iload_n dX10_readAny_57 rfl 3 rfl ?_
    refine pw_if_ne (tgt := 65) dX10_readAny_58 (by decide) (fun hc => ?_) (fun hc => ?_)
    · have h := h.1 hc
      refine pw_loc (lv' := [(0, .ref (ev_ad E 49)), (1, .int x1), (2, .int x2), (3, .int x3)]) [0, 1, 2, 3] rfl ?_
      exact t_X10_readAny_65 hE Q R9 hR9 h
    · have h := h.2 hc
      refine pw_iload_n dX10_readAny_61 rfl 1 rfl ?_
      refine pw_iconst (v := (1 : Int32)) dX10_readAny_62 (by decide) ?_
      refine pw_iadd dX10_readAny_63 ?_
      refine pw_istore_n (lv' := [(1, .int (x1 + (1 : Int32))), (0, .ref (ev_ad E 49)), (2, .int x2), (3, .int x3)]) dX10_readAny_64 rfl (by decide) rfl ?_
      refine pw_loc (lv' := [(0, .ref (ev_ad E 49)), (1, .int (x1 + (1 : Int32))), (2, .int x2), (3, .int x3)]) [1, 0, 2, 3] rfl ?_
      exact t_X10_readAny_65 hE Q R9 hR9 h
  · have h := h.2 hc
    refine pw_aload_n dX10_readAny_41 rfl 0 rfl ?_
    refine pw_iconst (v := (3 : Int32)) dX10_readAny_42 (by decide) ?_
    refine pw_callV (As := [.int (3 : Int32)]) (rest := []) (s_X10_errs hE h) dX10_readAny_43 ly_49 rfl (Or.inl ml_X10_166) cm_X10_errs rfl (rm_ok (by decide)) rm_0 (Nat.le_of_ble_eq_true rfl) ?_
    rintro _ G40 ⟨r39, rfl, h⟩
    exact pw_ireturn dX10_readAny_46 rfl rfl ⟨_, rfl, h⟩
def lp_X10_readAny_9 (Q : Int32 → GS → Prop)  : Nat → Int32 → Int32 → GS → Prop
  | 0, _, _, _ => False
  | n + 1, x1, x2, G => ((x2 = 0 → wp_X10_isWord (4 : Int32) G (fun r1 G2 => ((r1 = 0 → wp_X10_isWord (3 : Int32) G2 (fun r3 G4 => ((r3 = 0 → wp_X10_settles (10 : Int32) G4 (fun _ G6 => wp_X10_settles (11 : Int32) G6 (fun _ G8 => ((¬ x1 = 0 → wp_X10_isSign (41 : Int32) G8 (fun r9 G10 => ((¬ r9 = 0 → wp_X10_settles (9 : Int32) (gu_ (gu_ G10 49 25 ((G10 49 25) - (1 : Int32))) 49 23 ((G10 49 23) - (1 : Int32))) (fun _ G12 => wp_X10_reads G12 (fun _ G14 => lp_X10_readAny_9 Q n (x1 - (1 : Int32)) x2 G14))) ∧ (r9 = 0 → wp_X10_errs (1 : Int32) G10 (fun r15 G16 => Q r15 G16))))) ∧ (x1 = 0 → Q (0 : Int32) G8))))) ∧ (¬ r3 = 0 → wp_X10_settles (10 : Int32) G4 (fun _ G18 => wp_X10_settles (11 : Int32) G18 (fun _ G20 => wp_X10_waits (11 : Int32) G20 (fun _ G22 => wp_X10_reads G22 (fun _ G24 => lp_X10_readAny_9 Q n x1 (1 : Int32) G24)))))))) ∧ (¬ r1 = 0 → wp_X10_settles (10 : Int32) G2 (fun _ G26 => wp_X10_waits (10 : Int32) G26 (fun _ G28 => wp_X10_reads G28 (fun _ G30 => lp_X10_readAny_9 Q n x1 (1 : Int32) G30))))))) ∧ (¬ x2 = 0 → wp_X10_isWord (5 : Int32) G (fun r31 G32 => ((¬ r31 = 0 → bk_X10_readAny_32 Q (fun y1 y2 G => lp_X10_readAny_9 Q n y1 y2 G) x1 x2 r31 G32) ∧ (r31 = 0 → wp_X10_isSign (40 : Int32) G32 (fun r33 G34 => ((r33 = 0 → wp_X10_readCompared G34 (fun r35 G36 => ((¬ r35 = (-1 : Int32) → wp_X10_settles (9 : Int32) G36 (fun _ G38 => lp_X10_readAny_9 Q n x1 (0 : Int32) G38)) ∧ (r35 = (-1 : Int32) → Q (-1 : Int32) G36)))) ∧ (¬ r33 = 0 → bk_X10_readAny_32 Q (fun y1 y2 G => lp_X10_readAny_9 Q n y1 y2 G) x1 x2 r31 G34))))))))
set_option maxRecDepth 100000 in
set_option maxHeartbeats 4000000 in
theorem t_X10_readAny_9 {E : EV} (hE : EI_ E) (Q : Int32 → GS → Prop)  : ∀ (n : Nat) (x1 : Int32) (x2 : Int32) (G : GS), lp_X10_readAny_9 Q n x1 x2 G → PW_ E mi_X10_readAny (rm_ 8) 0 0 9 [(0, .ref (ev_ad E 49)), (1, .int x1), (2, .int x2)] [] G (qi_ Q) := by
  intro n
  induction n with
  | zero => intro x1 x2 G h; exact h.elim
  | succ n ih =>
    intro x1 x2 G h
    refine pw_iload_n dX10_readAny_9 rfl 2 rfl ?_
    refine pw_if_eq (tgt := 108) dX10_readAny_10 (by decide) (fun hc => ?_) (fun hc => ?_)
    · have h := h.1 hc
      refine pw_aload_n dX10_readAny_108 rfl 0 rfl ?_
      refine pw_iconst (v := (4 : Int32)) dX10_readAny_109 (by decide) ?_
      refine pw_callV (As := [.int (4 : Int32)]) (rest := []) (s_X10_isWord hE h) dX10_readAny_110 ly_49 rfl (Or.inl ml_X10_195) cm_X10_isWord rfl (rm_ok (by decide)) rm_0 (Nat.le_of_ble_eq_true rfl) ?_
      rintro _ G2 ⟨r1, rfl, h⟩
      refine pw_if_eq (tgt := 137) dX10_readAny_113 (by decide) (fun hc => ?_) (fun hc => ?_)
      · have h := h.1 hc
        refine pw_aload_n dX10_readAny_137 rfl 0 rfl ?_
        refine pw_iconst (v := (3 : Int32)) dX10_readAny_138 (by decide) ?_
        refine pw_callV (As := [.int (3 : Int32)]) (rest := []) (s_X10_isWord hE h) dX10_readAny_139 ly_49 rfl (Or.inl ml_X10_195) cm_X10_isWord rfl (rm_ok (by decide)) rm_0 (Nat.le_of_ble_eq_true rfl) ?_
        rintro _ G4 ⟨r3, rfl, h⟩
        refine pw_if_eq (tgt := 172) dX10_readAny_142 (by decide) (fun hc => ?_) (fun hc => ?_)
        · have h := h.1 hc
          refine pw_aload_n dX10_readAny_172 rfl 0 rfl ?_
          refine pw_bipush (v := (10 : Int32)) dX10_readAny_173 (by decide) ?_
          refine pw_callV (As := [.int (10 : Int32)]) (rest := []) (s_X10_settles hE h) dX10_readAny_175 ly_49 rfl (Or.inl ml_X10_204) cm_X10_settles rfl (rm_ok (by decide)) rm_0 (Nat.le_of_ble_eq_true rfl) ?_
          rintro _ G6 ⟨rfl, h⟩
          refine pw_aload_n dX10_readAny_178 rfl 0 rfl ?_
          refine pw_bipush (v := (11 : Int32)) dX10_readAny_179 (by decide) ?_
          refine pw_callV (As := [.int (11 : Int32)]) (rest := []) (s_X10_settles hE h) dX10_readAny_181 ly_49 rfl (Or.inl ml_X10_204) cm_X10_settles rfl (rm_ok (by decide)) rm_0 (Nat.le_of_ble_eq_true rfl) ?_
          rintro _ G8 ⟨rfl, h⟩
          refine pw_iload_n dX10_readAny_184 rfl 1 rfl ?_
          refine pw_if_ne (tgt := 190) dX10_readAny_185 (by decide) (fun hc => ?_) (fun hc => ?_)
          · have h := h.1 hc
            refine pw_aload_n dX10_readAny_190 rfl 0 rfl ?_
            refine pw_bipush (v := (41 : Int32)) dX10_readAny_191 (by decide) ?_
            refine pw_callV (As := [.int (41 : Int32)]) (rest := []) (s_X10_isSign hE h) dX10_readAny_193 ly_49 rfl (Or.inl ml_X10_180) cm_X10_isSign rfl (rm_ok (by decide)) rm_0 (Nat.le_of_ble_eq_true rfl) ?_
            rintro _ G10 ⟨r9, rfl, h⟩
            refine pw_if_ne (tgt := 205) dX10_readAny_196 (by decide) (fun hc => ?_) (fun hc => ?_)
            · have h := h.1 hc
              refine pw_aload_n dX10_readAny_205 rfl 0 rfl ?_
              refine pw_aload_n dX10_readAny_206 rfl 0 rfl ?_
              refine pw_geti (v := G10 49 25) dX10_readAny_207 fa_X10_189 ly_49 rfl rfl ?_
              refine pw_iconst (v := (1 : Int32)) dX10_readAny_210 (by decide) ?_
              refine pw_isub dX10_readAny_211 ?_
              refine pw_puti dX10_readAny_212 fp_X10_189 ly_49 rfl ?_
              refine pw_iload_n dX10_readAny_215 rfl 1 rfl ?_
              refine pw_iconst (v := (1 : Int32)) dX10_readAny_216 (by decide) ?_
              refine pw_isub dX10_readAny_217 ?_
              refine pw_istore_n (lv' := [(1, .int (x1 - (1 : Int32))), (0, .ref (ev_ad E 49)), (2, .int x2)]) dX10_readAny_218 rfl (by decide) rfl ?_
              refine pw_aload_n dX10_readAny_219 rfl 1 rfl ?_
              refine pw_aload_n dX10_readAny_220 rfl 1 rfl ?_
              refine pw_geti (v := G10 49 23) dX10_readAny_221 fa_X10_192 ly_49 rfl rfl ?_
              refine pw_iconst (v := (1 : Int32)) dX10_readAny_224 (by decide) ?_
              refine pw_isub dX10_readAny_225 ?_
              refine pw_puti dX10_readAny_226 fp_X10_192 ly_49 rfl ?_
              refine pw_aload_n dX10_readAny_229 rfl 1 rfl ?_
              refine pw_bipush (v := (9 : Int32)) dX10_readAny_230 (by decide) ?_
              refine pw_callV (As := [.int (9 : Int32)]) (rest := []) (s_X10_settles hE h) dX10_readAny_232 ly_49 rfl (Or.inl ml_X10_204) cm_X10_settles rfl (rm_ok (by decide)) rm_0 (Nat.le_of_ble_eq_true rfl) ?_
              rintro _ G12 ⟨rfl, h⟩
              refine pw_aload_n dX10_readAny_235 rfl 1 rfl ?_
              refine pw_callV (As := []) (rest := []) (s_X10_reads hE h) dX10_readAny_236 ly_49 rfl (Or.inl ml_X10_173) cm_X10_reads rfl (rm_ok (by decide)) rm_0 (Nat.le_of_ble_eq_true rfl) ?_
              rintro _ G14 ⟨rfl, h⟩
              refine pw_goto (tgt := 9) dX10_readAny_239 (by decide) ?_
              refine pw_loc (lv' := [(0, .ref (ev_ad E 49)), (1, .int (x1 - (1 : Int32))), (2, .int x2)]) [1, 0, 2] rfl ?_
              exact ih _ _ _ h
            · have h := h.2 hc
              refine pw_aload_n dX10_readAny_199 rfl 0 rfl ?_
              refine pw_iconst (v := (1 : Int32)) dX10_readAny_200 (by decide) ?_
              refine pw_callV (As := [.int (1 : Int32)]) (rest := []) (s_X10_errs hE h) dX10_readAny_201 ly_49 rfl (Or.inl ml_X10_166) cm_X10_errs rfl (rm_ok (by decide)) rm_0 (Nat.le_of_ble_eq_true rfl) ?_
              rintro _ G16 ⟨r15, rfl, h⟩
              exact pw_ireturn dX10_readAny_204 rfl rfl ⟨_, rfl, h⟩
          · have h := h.2 hc
            refine pw_iconst (v := (0 : Int32)) dX10_readAny_188 (by decide) ?_
            exact pw_ireturn dX10_readAny_189 rfl rfl ⟨_, rfl, h⟩
        · have h := h.2 hc
          refine pw_aload_n dX10_readAny_145 rfl 0 rfl ?_
          refine pw_bipush (v := (10 : Int32)) dX10_readAny_146 (by decide) ?_
          refine pw_callV (As := [.int (10 : Int32)]) (rest := []) (s_X10_settles hE h) dX10_readAny_148 ly_49 rfl (Or.inl ml_X10_204) cm_X10_settles rfl (rm_ok (by decide)) rm_0 (Nat.le_of_ble_eq_true rfl) ?_
          rintro _ G18 ⟨rfl, h⟩
          refine pw_aload_n dX10_readAny_151 rfl 0 rfl ?_
          refine pw_bipush (v := (11 : Int32)) dX10_readAny_152 (by decide) ?_
          refine pw_callV (As := [.int (11 : Int32)]) (rest := []) (s_X10_settles hE h) dX10_readAny_154 ly_49 rfl (Or.inl ml_X10_204) cm_X10_settles rfl (rm_ok (by decide)) rm_0 (Nat.le_of_ble_eq_true rfl) ?_
          rintro _ G20 ⟨rfl, h⟩
          refine pw_aload_n dX10_readAny_157 rfl 0 rfl ?_
          refine pw_bipush (v := (11 : Int32)) dX10_readAny_158 (by decide) ?_
          refine pw_callV (As := [.int (11 : Int32)]) (rest := []) (s_X10_waits hE h) dX10_readAny_160 ly_49 rfl (Or.inl ml_X10_198) cm_X10_waits rfl (rm_ok (by decide)) rm_0 (Nat.le_of_ble_eq_true rfl) ?_
          rintro _ G22 ⟨rfl, h⟩
          refine pw_aload_n dX10_readAny_163 rfl 0 rfl ?_
          refine pw_callV (As := []) (rest := []) (s_X10_reads hE h) dX10_readAny_164 ly_49 rfl (Or.inl ml_X10_173) cm_X10_reads rfl (rm_ok (by decide)) rm_0 (Nat.le_of_ble_eq_true rfl) ?_
          rintro _ G24 ⟨rfl, h⟩
          refine pw_iconst (v := (1 : Int32)) dX10_readAny_167 (by decide) ?_
          refine pw_istore_n (lv' := [(2, .int (1 : Int32)), (0, .ref (ev_ad E 49)), (1, .int x1)]) dX10_readAny_168 rfl (by decide) rfl ?_
          refine pw_goto (tgt := 9) dX10_readAny_169 (by decide) ?_
          refine pw_loc (lv' := [(0, .ref (ev_ad E 49)), (1, .int x1), (2, .int (1 : Int32))]) [1, 2, 0] rfl ?_
          exact ih _ _ _ h
      · have h := h.2 hc
        refine pw_aload_n dX10_readAny_116 rfl 0 rfl ?_
        refine pw_bipush (v := (10 : Int32)) dX10_readAny_117 (by decide) ?_
        refine pw_callV (As := [.int (10 : Int32)]) (rest := []) (s_X10_settles hE h) dX10_readAny_119 ly_49 rfl (Or.inl ml_X10_204) cm_X10_settles rfl (rm_ok (by decide)) rm_0 (Nat.le_of_ble_eq_true rfl) ?_
        rintro _ G26 ⟨rfl, h⟩
        refine pw_aload_n dX10_readAny_122 rfl 0 rfl ?_
        refine pw_bipush (v := (10 : Int32)) dX10_readAny_123 (by decide) ?_
        refine pw_callV (As := [.int (10 : Int32)]) (rest := []) (s_X10_waits hE h) dX10_readAny_125 ly_49 rfl (Or.inl ml_X10_198) cm_X10_waits rfl (rm_ok (by decide)) rm_0 (Nat.le_of_ble_eq_true rfl) ?_
        rintro _ G28 ⟨rfl, h⟩
        refine pw_aload_n dX10_readAny_128 rfl 0 rfl ?_
        refine pw_callV (As := []) (rest := []) (s_X10_reads hE h) dX10_readAny_129 ly_49 rfl (Or.inl ml_X10_173) cm_X10_reads rfl (rm_ok (by decide)) rm_0 (Nat.le_of_ble_eq_true rfl) ?_
        rintro _ G30 ⟨rfl, h⟩
        refine pw_iconst (v := (1 : Int32)) dX10_readAny_132 (by decide) ?_
        refine pw_istore_n (lv' := [(2, .int (1 : Int32)), (0, .ref (ev_ad E 49)), (1, .int x1)]) dX10_readAny_133 rfl (by decide) rfl ?_
        refine pw_goto (tgt := 9) dX10_readAny_134 (by decide) ?_
        refine pw_loc (lv' := [(0, .ref (ev_ad E 49)), (1, .int x1), (2, .int (1 : Int32))]) [1, 2, 0] rfl ?_
        exact ih _ _ _ h
    · have h := h.2 hc
      refine pw_aload_n dX10_readAny_13 rfl 0 rfl ?_
      refine pw_iconst (v := (5 : Int32)) dX10_readAny_14 (by decide) ?_
      refine pw_callV (As := [.int (5 : Int32)]) (rest := []) (s_X10_isWord hE h) dX10_readAny_15 ly_49 rfl (Or.inl ml_X10_195) cm_X10_isWord rfl (rm_ok (by decide)) rm_0 (Nat.le_of_ble_eq_true rfl) ?_
      rintro _ G32 ⟨r31, rfl, h⟩
      refine pw_istore_n (lv' := [(3, .int r31), (0, .ref (ev_ad E 49)), (1, .int x1), (2, .int x2)]) dX10_readAny_18 rfl (by decide) rfl ?_
      refine pw_iload_n dX10_readAny_19 rfl 0 rfl ?_
      refine pw_if_ne (tgt := 32) dX10_readAny_20 (by decide) (fun hc => ?_) (fun hc => ?_)
      · have h := h.1 hc
        refine pw_loc (lv' := [(0, .ref (ev_ad E 49)), (1, .int x1), (2, .int x2), (3, .int r31)]) [1, 2, 3, 0] rfl ?_
        exact t_X10_readAny_32 hE Q (fun y1 y2 G => lp_X10_readAny_9 Q n y1 y2 G) ih h
      · have h := h.2 hc
        refine pw_aload_n dX10_readAny_23 rfl 1 rfl ?_
        refine pw_bipush (v := (40 : Int32)) dX10_readAny_24 (by decide) ?_
        refine pw_callV (As := [.int (40 : Int32)]) (rest := []) (s_X10_isSign hE h) dX10_readAny_26 ly_49 rfl (Or.inl ml_X10_180) cm_X10_isSign rfl (rm_ok (by decide)) rm_0 (Nat.le_of_ble_eq_true rfl) ?_
        rintro _ G34 ⟨r33, rfl, h⟩
        refine pw_if_eq (tgt := 87) dX10_readAny_29 (by decide) (fun hc => ?_) (fun hc => ?_)
        · have h := h.1 hc
          refine pw_aload_n dX10_readAny_87 rfl 1 rfl ?_
          refine pw_callV (As := []) (rest := []) (s_X10_readCompared hE h) dX10_readAny_88 ly_49 rfl (Or.inl ml_X10_201) cm_X10_readCompared rfl (rm_ok (by decide)) rm_0 (Nat.le_of_ble_eq_true rfl) ?_
          rintro _ G36 ⟨r35, rfl, h⟩
          refine pw_iconst (v := (-1 : Int32)) dX10_readAny_91 (by decide) ?_
          refine pw_icmp_ne (tgt := 97) dX10_readAny_92 (by decide) (fun hc => ?_) (fun hc => ?_)
          · have h := h.1 hc
            refine pw_aload_n dX10_readAny_97 rfl 1 rfl ?_
            refine pw_bipush (v := (9 : Int32)) dX10_readAny_98 (by decide) ?_
            refine pw_callV (As := [.int (9 : Int32)]) (rest := []) (s_X10_settles hE h) dX10_readAny_100 ly_49 rfl (Or.inl ml_X10_204) cm_X10_settles rfl (rm_ok (by decide)) rm_0 (Nat.le_of_ble_eq_true rfl) ?_
            rintro _ G38 ⟨rfl, h⟩
            refine pw_iconst (v := (0 : Int32)) dX10_readAny_103 (by decide) ?_
            refine pw_istore_n (lv' := [(2, .int (0 : Int32)), (3, .int r31), (0, .ref (ev_ad E 49)), (1, .int x1)]) dX10_readAny_104 rfl (by decide) rfl ?_
            refine pw_goto (tgt := 9) dX10_readAny_105 (by decide) ?_
            refine pw_loc (lv' := [(0, .ref (ev_ad E 49)), (1, .int x1), (2, .int (0 : Int32))]) [2, 3, 0] rfl ?_
            exact ih _ _ _ h
          · have h := h.2 hc
            refine pw_iconst (v := (-1 : Int32)) dX10_readAny_95 (by decide) ?_
            exact pw_ireturn dX10_readAny_96 rfl rfl ⟨_, rfl, h⟩
        · have h := h.2 hc
          refine pw_loc (lv' := [(0, .ref (ev_ad E 49)), (1, .int x1), (2, .int x2), (3, .int r31)]) [1, 2, 3, 0] rfl ?_
          exact t_X10_readAny_32 hE Q (fun y1 y2 G => lp_X10_readAny_9 Q n y1 y2 G) ih h
def wp_X10_readAny  (G : GS) (Q : Int32 → GS → Prop) : Prop := (∃ kf, lp_X10_readAny_9 Q kf (0 : Int32) (1 : Int32) (gu_ G 49 25 (0 : Int32)))
set_option maxRecDepth 100000 in
set_option maxHeartbeats 4000000 in
theorem s_X10_readAny {E : EV} (hE : EI_ E)  {G : GS} {Q : Int32 → GS → Prop} (h : wp_X10_readAny  G Q) : PMet E mi_X10_readAny 8 [.ref (ev_ad E 49)] G (qi_ Q) := by
  refine pm_of hE (by decide) (Nat.le_of_ble_eq_true rfl) ?_
  refine pw_loc (lv' := [(0, .ref (ev_ad E 49))]) [0] rfl ?_
  refine pw_iconst (v := (0 : Int32)) dX10_readAny_0 (by decide) ?_
  refine pw_istore_n (lv' := [(1, .int (0 : Int32)), (0, .ref (ev_ad E 49))]) dX10_readAny_1 rfl (by decide) rfl ?_
  refine pw_aload_n dX10_readAny_2 rfl 1 rfl ?_
  refine pw_iconst (v := (0 : Int32)) dX10_readAny_3 (by decide) ?_
  refine pw_puti dX10_readAny_4 fp_X10_189 ly_49 rfl ?_
  refine pw_iconst (v := (1 : Int32)) dX10_readAny_7 (by decide) ?_
  refine pw_istore_n (lv' := [(2, .int (1 : Int32)), (1, .int (0 : Int32)), (0, .ref (ev_ad E 49))]) dX10_readAny_8 rfl (by decide) rfl ?_
  refine pw_loc (lv' := [(0, .ref (ev_ad E 49)), (1, .int (0 : Int32)), (2, .int (1 : Int32))]) [2, 1, 0] rfl ?_
  obtain ⟨kf, h⟩ := h
  exact t_X10_readAny_9 hE Q kf _ _ _ h
def bk_X10_readText_81 (Q : Int32 → GS → Prop) (R2 : Int32 → GS → Prop)  (x1 : Int32) (x2 : Int32) (G : GS) : Prop := (vp_in x2 32 ∧ wp_X10_isSign (59 : Int32) (gu_ G 58 x2.toNatClampNeg (G 49 22)) (fun r17 G18 => ((¬ r17 = 0 → wp_X10_reads G18 (fun _ G20 => R2 (x1 + (1 : Int32)) G20)) ∧ (r17 = 0 → wp_X10_errs (1 : Int32) G18 (fun r21 G22 => Q r21 G22)))))
set_option maxRecDepth 100000 in
set_option maxHeartbeats 4000000 in
theorem t_X10_readText_81 {E : EV} (hE : EI_ E) (Q : Int32 → GS → Prop) (R2 : Int32 → GS → Prop) (hR2 : ∀ (x1 : Int32) (G : GS), R2 x1 G → PW_ E mi_X10_readText (rm_ 9) 0 0 2 [(0, .ref (ev_ad E 49)), (1, .int x1)] [] G (qi_ Q))  {x1 : Int32} {x2 : Int32} {G : GS} (h : bk_X10_readText_81 Q R2 x1 x2 G) : PW_ E mi_X10_readText (rm_ 9) 0 0 81 [(0, .ref (ev_ad E 49)), (1, .int x1), (2, .int x2)] [] G (qi_ Q) := by
  refine pw_aload_n dX10_readText_81 rfl 0 rfl ?_
  refine pw_getr (q := 58) dX10_readText_82 fa_X10_34 ly_49 rfl ?_
  refine pw_iload_n dX10_readText_85 rfl 2 rfl ?_
  refine pw_aload_n dX10_readText_86 rfl 0 rfl ?_
  refine pw_geti (v := G 49 22) dX10_readText_87 fa_X10_163 ly_49 rfl rfl ?_
  obtain ⟨hv16, h⟩ := h
  refine pw_iast (z := x2.toNatClampNeg) dX10_readText_90 ly_58 hv16 rfl ?_
  refine pw_aload_n dX10_readText_91 rfl 0 rfl ?_
  refine pw_bipush (v := (59 : Int32)) dX10_readText_92 (by decide) ?_
  refine pw_callV (As := [.int (59 : Int32)]) (rest := []) (s_X10_isSign hE h) dX10_readText_94 ly_49 rfl (Or.inl ml_X10_180) cm_X10_isSign rfl (rm_ok (by decide)) rm_0 (Nat.le_of_ble_eq_true rfl) ?_
  rintro _ G18 ⟨r17, rfl, h⟩
  refine pw_if_ne (tgt := 106) dX10_readText_97 (by decide) (fun hc => ?_) (fun hc => ?_)
  · have h := h.1 hc
    refine pw_aload_n dX10_readText_106 rfl 0 rfl ?_
    refine pw_callV (As := []) (rest := []) (s_X10_reads hE h) dX10_readText_107 ly_49 rfl (Or.inl ml_X10_173) cm_X10_reads rfl (rm_ok (by decide)) rm_0 (Nat.le_of_ble_eq_true rfl) ?_
    rintro _ G20 ⟨rfl, h⟩
    refine pw_iload_n dX10_readText_110 rfl 1 rfl ?_
    refine pw_iconst (v := (1 : Int32)) dX10_readText_111 (by decide) ?_
    refine pw_iadd dX10_readText_112 ?_
    refine pw_istore_n (lv' := [(1, .int (x1 + (1 : Int32))), (0, .ref (ev_ad E 49)), (2, .int x2)]) dX10_readText_113 rfl (by decide) rfl ?_
    refine pw_goto (tgt := 2) dX10_readText_114 (by decide) ?_
    refine pw_loc (lv' := [(0, .ref (ev_ad E 49)), (1, .int (x1 + (1 : Int32)))]) [1, 0] rfl ?_
    exact hR2 _ _ h
  · have h := h.2 hc
    refine pw_aload_n dX10_readText_100 rfl 0 rfl ?_
    refine pw_iconst (v := (1 : Int32)) dX10_readText_101 (by decide) ?_
    refine pw_callV (As := [.int (1 : Int32)]) (rest := []) (s_X10_errs hE h) dX10_readText_102 ly_49 rfl (Or.inl ml_X10_166) cm_X10_errs rfl (rm_ok (by decide)) rm_0 (Nat.le_of_ble_eq_true rfl) ?_
    rintro _ G22 ⟨r21, rfl, h⟩
    exact pw_ireturn dX10_readText_105 rfl rfl ⟨_, rfl, h⟩
def lp_X10_readText_2 (Q : Int32 → GS → Prop)  : Nat → Int32 → GS → Prop
  | 0, _, _ => False
  | n + 1, x1, G => ((¬ (G 49 13) = (2 : Int32) → ((¬ (G 49 13) = 0 → wp_X10_errs (1 : Int32) G (fun r1 G2 => Q r1 G2)) ∧ ((G 49 13) = 0 → Q x1 G))) ∧ ((G 49 13) = (2 : Int32) → (((1 : Int32) < (G 49 14) → ((¬ (G 49 13) = 0 → wp_X10_errs (1 : Int32) G (fun r3 G4 => Q r3 G4)) ∧ ((G 49 13) = 0 → Q x1 G))) ∧ (¬ (1 : Int32) < (G 49 14) → ((¬ x1 = (16 : Int32) → (vp_in ((16 : Int32) + x1) 32 ∧ wp_X10_reads (gu_ G 56 (((16 : Int32) + x1).toNatClampNeg) (G 49 14)) (fun _ G7 => wp_X10_isWord (2 : Int32) (gu_ G7 57 (((16 : Int32) + x1).toNatClampNeg) (G7 49 22)) (fun r8 G9 => ((r8 = 0 → bk_X10_readText_81 Q (fun y1 G => lp_X10_readText_2 Q n y1 G) x1 ((16 : Int32) + x1) G9) ∧ (¬ r8 = 0 → wp_X10_reads G9 (fun _ G11 => wp_X10_readAny G11 (fun r12 G13 => ((¬ r12 = (-1 : Int32) → bk_X10_readText_81 Q (fun y1 G => lp_X10_readText_2 Q n y1 G) x1 ((16 : Int32) + x1) G13) ∧ (r12 = (-1 : Int32) → Q (-1 : Int32) G13)))))))))) ∧ (x1 = (16 : Int32) → wp_X10_errs (3 : Int32) G (fun r14 G15 => Q r14 G15)))))))
set_option maxRecDepth 100000 in
set_option maxHeartbeats 4000000 in
theorem t_X10_readText_2 {E : EV} (hE : EI_ E) (Q : Int32 → GS → Prop)  : ∀ (n : Nat) (x1 : Int32) (G : GS), lp_X10_readText_2 Q n x1 G → PW_ E mi_X10_readText (rm_ 9) 0 0 2 [(0, .ref (ev_ad E 49)), (1, .int x1)] [] G (qi_ Q) := by
  intro n
  induction n with
  | zero => intro x1 G h; exact h.elim
  | succ n ih =>
    intro x1 G h
    refine pw_aload_n dX10_readText_2 rfl 0 rfl ?_
    refine pw_geti (v := G 49 13) dX10_readText_3 fa_X10_138 ly_49 rfl rfl ?_
    refine pw_iconst (v := (2 : Int32)) dX10_readText_6 (by decide) ?_
    refine pw_icmp_ne (tgt := 117) dX10_readText_7 (by decide) (fun hc => ?_) (fun hc => ?_)
    · have h := h.1 hc
      refine pw_aload_n dX10_readText_117 rfl 0 rfl ?_
      refine pw_geti (v := G 49 13) dX10_readText_118 fa_X10_138 ly_49 rfl rfl ?_
      refine pw_if_ne (tgt := 128) dX10_readText_121 (by decide) (fun hc => ?_) (fun hc => ?_)
      · have h := h.1 hc
        refine pw_aload_n dX10_readText_128 rfl 0 rfl ?_
        refine pw_iconst (v := (1 : Int32)) dX10_readText_129 (by decide) ?_
        refine pw_callV (As := [.int (1 : Int32)]) (rest := []) (s_X10_errs hE h) dX10_readText_130 ly_49 rfl (Or.inl ml_X10_166) cm_X10_errs rfl (rm_ok (by decide)) rm_0 (Nat.le_of_ble_eq_true rfl) ?_
        rintro _ G2 ⟨r1, rfl, h⟩
        exact pw_ireturn dX10_readText_133 rfl rfl ⟨_, rfl, h⟩
      · have h := h.2 hc
        refine pw_iload_n dX10_readText_124 rfl 1 rfl ?_
        refine pw_goto (tgt := 133) dX10_readText_125 (by decide) ?_
        exact pw_ireturn dX10_readText_133 rfl rfl ⟨_, rfl, h⟩
    · have h := h.2 hc
      refine pw_aload_n dX10_readText_10 rfl 0 rfl ?_
      refine pw_geti (v := G 49 14) dX10_readText_11 fa_X10_141 ly_49 rfl rfl ?_
      refine pw_iconst (v := (1 : Int32)) dX10_readText_14 (by decide) ?_
      refine pw_icmp_gt (tgt := 117) dX10_readText_15 (by decide) (fun hc => ?_) (fun hc => ?_)
      · have h := h.1 hc
        refine pw_aload_n dX10_readText_117 rfl 0 rfl ?_
        refine pw_geti (v := G 49 13) dX10_readText_118 fa_X10_138 ly_49 rfl rfl ?_
        refine pw_if_ne (tgt := 128) dX10_readText_121 (by decide) (fun hc => ?_) (fun hc => ?_)
        · have h := h.1 hc
          refine pw_aload_n dX10_readText_128 rfl 0 rfl ?_
          refine pw_iconst (v := (1 : Int32)) dX10_readText_129 (by decide) ?_
          refine pw_callV (As := [.int (1 : Int32)]) (rest := []) (s_X10_errs hE h) dX10_readText_130 ly_49 rfl (Or.inl ml_X10_166) cm_X10_errs rfl (rm_ok (by decide)) rm_0 (Nat.le_of_ble_eq_true rfl) ?_
          rintro _ G4 ⟨r3, rfl, h⟩
          exact pw_ireturn dX10_readText_133 rfl rfl ⟨_, rfl, h⟩
        · have h := h.2 hc
          refine pw_iload_n dX10_readText_124 rfl 1 rfl ?_
          refine pw_goto (tgt := 133) dX10_readText_125 (by decide) ?_
          exact pw_ireturn dX10_readText_133 rfl rfl ⟨_, rfl, h⟩
      · have h := h.2 hc
        refine pw_iload_n dX10_readText_18 rfl 1 rfl ?_
        refine pw_bipush (v := (16 : Int32)) dX10_readText_19 (by decide) ?_
        refine pw_icmp_ne (tgt := 30) dX10_readText_21 (by decide) (fun hc => ?_) (fun hc => ?_)
        · have h := h.1 hc
          refine pw_bipush (v := (16 : Int32)) dX10_readText_30 (by decide) ?_
          refine pw_iload_n dX10_readText_32 rfl 1 rfl ?_
          refine pw_iadd dX10_readText_33 ?_
          refine pw_istore_n (lv' := [(2, .int ((16 : Int32) + x1)), (0, .ref (ev_ad E 49)), (1, .int x1)]) dX10_readText_34 rfl (by decide) rfl ?_
          refine pw_aload_n dX10_readText_35 rfl 1 rfl ?_
          refine pw_getr (q := 56) dX10_readText_36 fa_X10_28 ly_49 rfl ?_
          refine pw_iload_n dX10_readText_39 rfl 0 rfl ?_
          refine pw_aload_n dX10_readText_40 rfl 1 rfl ?_
          refine pw_geti (v := G 49 14) dX10_readText_41 fa_X10_141 ly_49 rfl rfl ?_
          obtain ⟨hv5, h⟩ := h
          refine pw_iast (z := (((16 : Int32) + x1).toNatClampNeg)) dX10_readText_44 ly_56 hv5 rfl ?_
          refine pw_aload_n dX10_readText_45 rfl 1 rfl ?_
          refine pw_callV (As := []) (rest := []) (s_X10_reads hE h) dX10_readText_46 ly_49 rfl (Or.inl ml_X10_173) cm_X10_reads rfl (rm_ok (by decide)) rm_0 (Nat.le_of_ble_eq_true rfl) ?_
          rintro _ G7 ⟨rfl, h⟩
          refine pw_aload_n dX10_readText_49 rfl 1 rfl ?_
          refine pw_getr (q := 57) dX10_readText_50 fa_X10_31 ly_49 rfl ?_
          refine pw_iload_n dX10_readText_53 rfl 0 rfl ?_
          refine pw_aload_n dX10_readText_54 rfl 1 rfl ?_
          refine pw_geti (v := G7 49 22) dX10_readText_55 fa_X10_163 ly_49 rfl rfl ?_
          refine pw_iast (z := (((16 : Int32) + x1).toNatClampNeg)) dX10_readText_58 ly_57 hv5 rfl ?_
          refine pw_aload_n dX10_readText_59 rfl 1 rfl ?_
          refine pw_iconst (v := (2 : Int32)) dX10_readText_60 (by decide) ?_
          refine pw_callV (As := [.int (2 : Int32)]) (rest := []) (s_X10_isWord hE h) dX10_readText_61 ly_49 rfl (Or.inl ml_X10_195) cm_X10_isWord rfl (rm_ok (by decide)) rm_0 (Nat.le_of_ble_eq_true rfl) ?_
          rintro _ G9 ⟨r8, rfl, h⟩
          refine pw_if_eq (tgt := 81) dX10_readText_64 (by decide) (fun hc => ?_) (fun hc => ?_)
          · have h := h.1 hc
            refine pw_loc (lv' := [(0, .ref (ev_ad E 49)), (1, .int x1), (2, .int ((16 : Int32) + x1))]) [1, 2, 0] rfl ?_
            exact t_X10_readText_81 hE Q (fun y1 G => lp_X10_readText_2 Q n y1 G) ih h
          · have h := h.2 hc
            refine pw_aload_n dX10_readText_67 rfl 1 rfl ?_
            refine pw_callV (As := []) (rest := []) (s_X10_reads hE h) dX10_readText_68 ly_49 rfl (Or.inl ml_X10_173) cm_X10_reads rfl (rm_ok (by decide)) rm_0 (Nat.le_of_ble_eq_true rfl) ?_
            rintro _ G11 ⟨rfl, h⟩
            refine pw_aload_n dX10_readText_71 rfl 1 rfl ?_
            refine pw_callV (As := []) (rest := []) (s_X10_readAny hE h) dX10_readText_72 ly_49 rfl (Or.inl ml_X10_207) cm_X10_readAny rfl (rm_ok (by decide)) rm_0 (Nat.le_of_ble_eq_true rfl) ?_
            rintro _ G13 ⟨r12, rfl, h⟩
            refine pw_iconst (v := (-1 : Int32)) dX10_readText_75 (by decide) ?_
            refine pw_icmp_ne (tgt := 81) dX10_readText_76 (by decide) (fun hc => ?_) (fun hc => ?_)
            · have h := h.1 hc
              refine pw_loc (lv' := [(0, .ref (ev_ad E 49)), (1, .int x1), (2, .int ((16 : Int32) + x1))]) [1, 2, 0] rfl ?_
              exact t_X10_readText_81 hE Q (fun y1 G => lp_X10_readText_2 Q n y1 G) ih h
            · have h := h.2 hc
              refine pw_iconst (v := (-1 : Int32)) dX10_readText_79 (by decide) ?_
              exact pw_ireturn dX10_readText_80 rfl rfl ⟨_, rfl, h⟩
        · have h := h.2 hc
          refine pw_aload_n dX10_readText_24 rfl 0 rfl ?_
          refine pw_iconst (v := (3 : Int32)) dX10_readText_25 (by decide) ?_
          refine pw_callV (As := [.int (3 : Int32)]) (rest := []) (s_X10_errs hE h) dX10_readText_26 ly_49 rfl (Or.inl ml_X10_166) cm_X10_errs rfl (rm_ok (by decide)) rm_0 (Nat.le_of_ble_eq_true rfl) ?_
          rintro _ G15 ⟨r14, rfl, h⟩
          exact pw_ireturn dX10_readText_29 rfl rfl ⟨_, rfl, h⟩
def wp_X10_readText  (G : GS) (Q : Int32 → GS → Prop) : Prop := (∃ kf, lp_X10_readText_2 Q kf (0 : Int32) G)
set_option maxRecDepth 100000 in
set_option maxHeartbeats 4000000 in
theorem s_X10_readText {E : EV} (hE : EI_ E)  {G : GS} {Q : Int32 → GS → Prop} (h : wp_X10_readText  G Q) : PMet E mi_X10_readText 9 [.ref (ev_ad E 49)] G (qi_ Q) := by
  refine pm_of hE (by decide) (Nat.le_of_ble_eq_true rfl) ?_
  refine pw_loc (lv' := [(0, .ref (ev_ad E 49))]) [0] rfl ?_
  refine pw_iconst (v := (0 : Int32)) dX10_readText_0 (by decide) ?_
  refine pw_istore_n (lv' := [(1, .int (0 : Int32)), (0, .ref (ev_ad E 49))]) dX10_readText_1 rfl (by decide) rfl ?_
  refine pw_loc (lv' := [(0, .ref (ev_ad E 49)), (1, .int (0 : Int32))]) [1, 0] rfl ?_
  obtain ⟨kf, h⟩ := h
  exact t_X10_readText_2 hE Q kf _ _ h
def lp_X10_text_127 (Q : Int32 → GS → Prop)  : Nat → Int32 → Int32 → GS → Prop
  | 0, _, _, _ => False
  | n + 1, x1, x2, G => (((G 49 22) ≤ x2 → Q x1 (gu_ G 49 16 x1)) ∧ (¬ (G 49 22) ≤ x2 → (vp_in ((400 : Int32) + x2) 800 ∧ (vp_in x2 800 ∧ lp_X10_text_127 Q n x1 (x2 + 1) (gu_ (gu_ G 59 x2.toNatClampNeg (G 59 (((400 : Int32) + x2).toNatClampNeg))) 60 x2.toNatClampNeg (G 60 (((400 : Int32) + x2).toNatClampNeg)))))))
set_option maxRecDepth 100000 in
set_option maxHeartbeats 4000000 in
theorem t_X10_text_127 {E : EV} (hE : EI_ E) (Q : Int32 → GS → Prop)  : ∀ (n : Nat) (x1 : Int32) (x2 : Int32) (G : GS), lp_X10_text_127 Q n x1 x2 G → PW_ E mi_X10_text (rm_ 10) 0 0 127 [(0, .ref (ev_ad E 49)), (1, .int x1), (2, .int x2)] [] G (qi_ Q) := by
  intro n
  induction n with
  | zero => intro x1 x2 G h; exact h.elim
  | succ n ih =>
    intro x1 x2 G h
    refine pw_iload_n dX10_text_127 rfl 2 rfl ?_
    refine pw_aload_n dX10_text_128 rfl 0 rfl ?_
    refine pw_geti (v := G 49 22) dX10_text_129 fa_X10_163 ly_49 rfl rfl ?_
    refine pw_icmp_ge (tgt := 173) dX10_text_132 (by decide) (fun hc => ?_) (fun hc => ?_)
    · have h := h.1 hc
      refine pw_aload_n dX10_text_173 rfl 0 rfl ?_
      refine pw_iload_n dX10_text_174 rfl 1 rfl ?_
      refine pw_puti dX10_text_175 fp_X10_216 ly_49 rfl ?_
      refine pw_iload_n dX10_text_178 rfl 1 rfl ?_
      exact pw_ireturn dX10_text_179 rfl rfl ⟨_, rfl, h⟩
    · have h := h.2 hc
      refine pw_aload_n dX10_text_135 rfl 0 rfl ?_
      refine pw_getr (q := 59) dX10_text_136 fa_X10_37 ly_49 rfl ?_
      refine pw_iload_n dX10_text_139 rfl 2 rfl ?_
      refine pw_aload_n dX10_text_140 rfl 0 rfl ?_
      refine pw_getr (q := 59) dX10_text_141 fa_X10_37 ly_49 rfl ?_
      refine pw_sipush (v := (400 : Int32)) dX10_text_144 (by decide) ?_
      refine pw_iload_n dX10_text_147 rfl 2 rfl ?_
      refine pw_iadd dX10_text_148 ?_
      obtain ⟨hv7, h⟩ := h
      refine pw_iald (v := G 59 (((400 : Int32) + x2).toNatClampNeg)) dX10_text_149 ly_59 hv7 rfl ?_
      obtain ⟨hv8, h⟩ := h
      refine pw_iast (z := x2.toNatClampNeg) dX10_text_150 ly_59 hv8 rfl ?_
      refine pw_aload_n dX10_text_151 rfl 0 rfl ?_
      refine pw_getr (q := 60) dX10_text_152 fa_X10_40 ly_49 rfl ?_
      refine pw_iload_n dX10_text_155 rfl 2 rfl ?_
      refine pw_aload_n dX10_text_156 rfl 0 rfl ?_
      refine pw_getr (q := 60) dX10_text_157 fa_X10_40 ly_49 rfl ?_
      refine pw_sipush (v := (400 : Int32)) dX10_text_160 (by decide) ?_
      refine pw_iload_n dX10_text_163 rfl 2 rfl ?_
      refine pw_iadd dX10_text_164 ?_
      refine pw_iald (v := G 60 (((400 : Int32) + x2).toNatClampNeg)) dX10_text_165 ly_60 hv7 rfl ?_
      refine pw_iast (z := x2.toNatClampNeg) dX10_text_166 ly_60 hv8 rfl ?_
      refine pw_iinc (k := 2) (v := x2 + 1) (lv' := [(2, .int (x2 + 1)), (0, .ref (ev_ad E 49)), (1, .int x1)]) dX10_text_167 rfl rfl (by decide) rfl ?_
      refine pw_goto (tgt := 127) dX10_text_170 (by decide) ?_
      refine pw_loc (lv' := [(0, .ref (ev_ad E 49)), (1, .int x1), (2, .int (x2 + 1))]) [1, 2, 0] rfl ?_
      exact ih _ _ _ h
def lp_X10_text_69 (Q : Int32 → GS → Prop)  : Nat → Int32 → Int32 → GS → Prop
  | 0, _, _, _ => False
  | n + 1, x1, x2, G => ((x1 ≤ x2 → (∃ kf, lp_X10_text_127 Q kf x1 (0 : Int32) G)) ∧ (¬ x1 ≤ x2 → (vp_in ((16 : Int32) + x2) 32 ∧ (vp_in x2 32 ∧ lp_X10_text_69 Q n x1 (x2 + 1) (gu_ (gu_ (gu_ G 56 x2.toNatClampNeg (G 56 (((16 : Int32) + x2).toNatClampNeg))) 57 x2.toNatClampNeg (G 57 (((16 : Int32) + x2).toNatClampNeg))) 58 x2.toNatClampNeg (G 58 (((16 : Int32) + x2).toNatClampNeg)))))))
set_option maxRecDepth 100000 in
set_option maxHeartbeats 4000000 in
theorem t_X10_text_69 {E : EV} (hE : EI_ E) (Q : Int32 → GS → Prop)  : ∀ (n : Nat) (x1 : Int32) (x2 : Int32) (G : GS), lp_X10_text_69 Q n x1 x2 G → PW_ E mi_X10_text (rm_ 10) 0 0 69 [(0, .ref (ev_ad E 49)), (1, .int x1), (2, .int x2)] [] G (qi_ Q) := by
  intro n
  induction n with
  | zero => intro x1 x2 G h; exact h.elim
  | succ n ih =>
    intro x1 x2 G h
    refine pw_iload_n dX10_text_69 rfl 2 rfl ?_
    refine pw_iload_n dX10_text_70 rfl 1 rfl ?_
    refine pw_icmp_ge (tgt := 125) dX10_text_71 (by decide) (fun hc => ?_) (fun hc => ?_)
    · have h := h.1 hc
      refine pw_iconst (v := (0 : Int32)) dX10_text_125 (by decide) ?_
      refine pw_istore_n (lv' := [(2, .int (0 : Int32)), (0, .ref (ev_ad E 49)), (1, .int x1)]) dX10_text_126 rfl (by decide) rfl ?_
      refine pw_loc (lv' := [(0, .ref (ev_ad E 49)), (1, .int x1), (2, .int (0 : Int32))]) [1, 2, 0] rfl ?_
      obtain ⟨kf, h⟩ := h
      exact t_X10_text_127 hE Q kf _ _ _ h
    · have h := h.2 hc
      refine pw_aload_n dX10_text_74 rfl 0 rfl ?_
      refine pw_getr (q := 56) dX10_text_75 fa_X10_28 ly_49 rfl ?_
      refine pw_iload_n dX10_text_78 rfl 2 rfl ?_
      refine pw_aload_n dX10_text_79 rfl 0 rfl ?_
      refine pw_getr (q := 56) dX10_text_80 fa_X10_28 ly_49 rfl ?_
      refine pw_bipush (v := (16 : Int32)) dX10_text_83 (by decide) ?_
      refine pw_iload_n dX10_text_85 rfl 2 rfl ?_
      refine pw_iadd dX10_text_86 ?_
      obtain ⟨hv5, h⟩ := h
      refine pw_iald (v := G 56 (((16 : Int32) + x2).toNatClampNeg)) dX10_text_87 ly_56 hv5 rfl ?_
      obtain ⟨hv6, h⟩ := h
      refine pw_iast (z := x2.toNatClampNeg) dX10_text_88 ly_56 hv6 rfl ?_
      refine pw_aload_n dX10_text_89 rfl 0 rfl ?_
      refine pw_getr (q := 57) dX10_text_90 fa_X10_31 ly_49 rfl ?_
      refine pw_iload_n dX10_text_93 rfl 2 rfl ?_
      refine pw_aload_n dX10_text_94 rfl 0 rfl ?_
      refine pw_getr (q := 57) dX10_text_95 fa_X10_31 ly_49 rfl ?_
      refine pw_bipush (v := (16 : Int32)) dX10_text_98 (by decide) ?_
      refine pw_iload_n dX10_text_100 rfl 2 rfl ?_
      refine pw_iadd dX10_text_101 ?_
      refine pw_iald (v := G 57 (((16 : Int32) + x2).toNatClampNeg)) dX10_text_102 ly_57 hv5 rfl ?_
      refine pw_iast (z := x2.toNatClampNeg) dX10_text_103 ly_57 hv6 rfl ?_
      refine pw_aload_n dX10_text_104 rfl 0 rfl ?_
      refine pw_getr (q := 58) dX10_text_105 fa_X10_34 ly_49 rfl ?_
      refine pw_iload_n dX10_text_108 rfl 2 rfl ?_
      refine pw_aload_n dX10_text_109 rfl 0 rfl ?_
      refine pw_getr (q := 58) dX10_text_110 fa_X10_34 ly_49 rfl ?_
      refine pw_bipush (v := (16 : Int32)) dX10_text_113 (by decide) ?_
      refine pw_iload_n dX10_text_115 rfl 2 rfl ?_
      refine pw_iadd dX10_text_116 ?_
      refine pw_iald (v := G 58 (((16 : Int32) + x2).toNatClampNeg)) dX10_text_117 ly_58 hv5 rfl ?_
      refine pw_iast (z := x2.toNatClampNeg) dX10_text_118 ly_58 hv6 rfl ?_
      refine pw_iinc (k := 2) (v := x2 + 1) (lv' := [(2, .int (x2 + 1)), (0, .ref (ev_ad E 49)), (1, .int x1)]) dX10_text_119 rfl rfl (by decide) rfl ?_
      refine pw_goto (tgt := 69) dX10_text_122 (by decide) ?_
      refine pw_loc (lv' := [(0, .ref (ev_ad E 49)), (1, .int x1), (2, .int (x2 + 1))]) [1, 2, 0] rfl ?_
      exact ih _ _ _ h
def wp_X10_text  (G : GS) (Q : Int32 → GS → Prop) : Prop := wp_X10_reads (gu_ (gu_ (gu_ (gu_ (gu_ (gu_ G 49 0 (0 : Int32)) 49 28 (0 : Int32)) 49 29 (-1 : Int32)) 49 11 (0 : Int32)) 49 22 (0 : Int32)) 49 23 (0 : Int32)) (fun _ G2 => wp_X10_readText G2 (fun r3 G4 => ((¬ r3 = (-1 : Int32) → (∃ kf, lp_X10_text_69 Q kf r3 (0 : Int32) (gu_ G4 49 10 (0 : Int32)))) ∧ (r3 = (-1 : Int32) → Q (-1 : Int32) (gu_ (gu_ (gu_ G4 49 10 (0 : Int32)) 49 28 (G4 49 26)) 49 29 (G4 49 27))))))
set_option maxRecDepth 100000 in
set_option maxHeartbeats 4000000 in
theorem s_X10_text {E : EV} (hE : EI_ E)  {G : GS} {Q : Int32 → GS → Prop} (h : wp_X10_text  G Q) : PMet E mi_X10_text 10 [.ref (ev_ad E 49)] G (qi_ Q) := by
  refine pm_of hE (by decide) (Nat.le_of_ble_eq_true rfl) ?_
  refine pw_loc (lv' := [(0, .ref (ev_ad E 49))]) [0] rfl ?_
  refine pw_aload_n dX10_text_0 rfl 0 rfl ?_
  refine pw_iconst (v := (0 : Int32)) dX10_text_1 (by decide) ?_
  refine pw_puti dX10_text_2 fp_X10_90 ly_49 rfl ?_
  refine pw_aload_n dX10_text_5 rfl 0 rfl ?_
  refine pw_iconst (v := (0 : Int32)) dX10_text_6 (by decide) ?_
  refine pw_puti dX10_text_7 fp_X10_210 ly_49 rfl ?_
  refine pw_aload_n dX10_text_10 rfl 0 rfl ?_
  refine pw_iconst (v := (-1 : Int32)) dX10_text_11 (by decide) ?_
  refine pw_puti dX10_text_12 fp_X10_46 ly_49 rfl ?_
  refine pw_aload_n dX10_text_15 rfl 0 rfl ?_
  refine pw_iconst (v := (0 : Int32)) dX10_text_16 (by decide) ?_
  refine pw_puti dX10_text_17 fp_X10_129 ly_49 rfl ?_
  refine pw_aload_n dX10_text_20 rfl 0 rfl ?_
  refine pw_iconst (v := (0 : Int32)) dX10_text_21 (by decide) ?_
  refine pw_puti dX10_text_22 fp_X10_163 ly_49 rfl ?_
  refine pw_aload_n dX10_text_25 rfl 0 rfl ?_
  refine pw_iconst (v := (0 : Int32)) dX10_text_26 (by decide) ?_
  refine pw_puti dX10_text_27 fp_X10_192 ly_49 rfl ?_
  refine pw_aload_n dX10_text_30 rfl 0 rfl ?_
  refine pw_callV (As := []) (rest := []) (s_X10_reads hE h) dX10_text_31 ly_49 rfl (Or.inl ml_X10_173) cm_X10_reads rfl (rm_ok (by decide)) rm_0 (Nat.le_of_ble_eq_true rfl) ?_
  rintro _ G2 ⟨rfl, h⟩
  refine pw_aload_n dX10_text_34 rfl 0 rfl ?_
  refine pw_callV (As := []) (rest := []) (s_X10_readText hE h) dX10_text_35 ly_49 rfl (Or.inl ml_X10_213) cm_X10_readText rfl (rm_ok (by decide)) rm_0 (Nat.le_of_ble_eq_true rfl) ?_
  rintro _ G4 ⟨r3, rfl, h⟩
  refine pw_istore_n (lv' := [(1, .int r3), (0, .ref (ev_ad E 49))]) dX10_text_38 rfl (by decide) rfl ?_
  refine pw_aload_n dX10_text_39 rfl 1 rfl ?_
  refine pw_iconst (v := (0 : Int32)) dX10_text_40 (by decide) ?_
  refine pw_puti dX10_text_41 fp_X10_122 ly_49 rfl ?_
  refine pw_iload_n dX10_text_44 rfl 0 rfl ?_
  refine pw_iconst (v := (-1 : Int32)) dX10_text_45 (by decide) ?_
  refine pw_icmp_ne (tgt := 67) dX10_text_46 (by decide) (fun hc => ?_) (fun hc => ?_)
  · have h := h.1 hc
    refine pw_iconst (v := (0 : Int32)) dX10_text_67 (by decide) ?_
    refine pw_istore_n (lv' := [(2, .int (0 : Int32)), (1, .int r3), (0, .ref (ev_ad E 49))]) dX10_text_68 rfl (by decide) rfl ?_
    refine pw_loc (lv' := [(0, .ref (ev_ad E 49)), (1, .int r3), (2, .int (0 : Int32))]) [2, 1, 0] rfl ?_
    obtain ⟨kf, h⟩ := h
    exact t_X10_text_69 hE Q kf _ _ _ h
  · have h := h.2 hc
    refine pw_aload_n dX10_text_49 rfl 1 rfl ?_
    refine pw_aload_n dX10_text_50 rfl 1 rfl ?_
    refine pw_geti (v := G4 49 26) dX10_text_51 fa_X10_157 ly_49 rfl rfl ?_
    refine pw_puti dX10_text_54 fp_X10_210 ly_49 rfl ?_
    refine pw_aload_n dX10_text_57 rfl 1 rfl ?_
    refine pw_aload_n dX10_text_58 rfl 1 rfl ?_
    refine pw_geti (v := G4 49 27) dX10_text_59 fa_X10_160 ly_49 rfl rfl ?_
    refine pw_puti dX10_text_62 fp_X10_46 ly_49 rfl ?_
    refine pw_iconst (v := (-1 : Int32)) dX10_text_65 (by decide) ?_
    exact pw_ireturn dX10_text_66 rfl rfl ⟨_, rfl, h⟩
def wp_X10_fault (a1 : Int32) (G : GS) (Q : Int32 → GS → Prop) : Prop := ((¬ a1 = 0 → ((¬ a1 = (1 : Int32) → Q (-1 : Int32) (gu_ G 49 0 (0 : Int32))) ∧ (a1 = (1 : Int32) → Q (G 49 29) (gu_ G 49 0 (0 : Int32))))) ∧ (a1 = 0 → Q (G 49 28) (gu_ G 49 0 (0 : Int32))))
set_option maxRecDepth 100000 in
set_option maxHeartbeats 4000000 in
theorem s_X10_fault {E : EV} (hE : EI_ E) {a1 : Int32} {G : GS} {Q : Int32 → GS → Prop} (h : wp_X10_fault a1 G Q) : PMet E mi_X10_fault 1 [.ref (ev_ad E 49), .int a1] G (qi_ Q) := by
  refine pm_of hE (by decide) (Nat.le_of_ble_eq_true rfl) ?_
  refine pw_loc (lv' := [(0, .ref (ev_ad E 49)), (1, .int a1)]) [0, 1] rfl ?_
  refine pw_aload_n dX10_fault_0 rfl 0 rfl ?_
  refine pw_iconst (v := (0 : Int32)) dX10_fault_1 (by decide) ?_
  refine pw_puti dX10_fault_2 fp_X10_90 ly_49 rfl ?_
  refine pw_iload_n dX10_fault_5 rfl 1 rfl ?_
  refine pw_if_ne (tgt := 16) dX10_fault_6 (by decide) (fun hc => ?_) (fun hc => ?_)
  · have h := h.1 hc
    refine pw_iload_n dX10_fault_16 rfl 1 rfl ?_
    refine pw_iconst (v := (1 : Int32)) dX10_fault_17 (by decide) ?_
    refine pw_icmp_ne (tgt := 28) dX10_fault_18 (by decide) (fun hc => ?_) (fun hc => ?_)
    · have h := h.1 hc
      refine pw_iconst (v := (-1 : Int32)) dX10_fault_28 (by decide) ?_
      exact pw_ireturn dX10_fault_29 rfl rfl ⟨_, rfl, h⟩
    · have h := h.2 hc
      refine pw_aload_n dX10_fault_21 rfl 0 rfl ?_
      refine pw_geti (v := G 49 29) dX10_fault_22 fa_X10_46 ly_49 rfl rfl ?_
      refine pw_goto (tgt := 29) dX10_fault_25 (by decide) ?_
      exact pw_ireturn dX10_fault_29 rfl rfl ⟨_, rfl, h⟩
  · have h := h.2 hc
    refine pw_aload_n dX10_fault_9 rfl 0 rfl ?_
    refine pw_geti (v := G 49 28) dX10_fault_10 fa_X10_210 ly_49 rfl rfl ?_
    refine pw_goto (tgt := 29) dX10_fault_13 (by decide) ?_
    exact pw_ireturn dX10_fault_29 rfl rfl ⟨_, rfl, h⟩
def lp_X10_keepsAhead_55 (Q : Int32 → GS → Prop)  : Nat → Int32 → GS → Prop
  | 0, _, _ => False
  | n + 1, x1, G => (((13 : Int32) ≤ x1 → Q 0 (gu_ G 49 3 ((G 49 3) + (1 : Int32)))) ∧ (¬ (13 : Int32) ≤ x1 → (vp_in x1 13 ∧ (vp_in (((13 : Int32) * (G 49 3)) + x1) 104 ∧ lp_X10_keepsAhead_55 Q n (x1 + 1) (gu_ G 51 ((((13 : Int32) * (G 49 3)) + x1).toNatClampNeg) (G 50 x1.toNatClampNeg))))))
set_option maxRecDepth 100000 in
set_option maxHeartbeats 4000000 in
theorem t_X10_keepsAhead_55 {E : EV} (hE : EI_ E) (Q : Int32 → GS → Prop)  : ∀ (n : Nat) (x1 : Int32) (G : GS), lp_X10_keepsAhead_55 Q n x1 G → PW_ E mi_X10_keepsAhead (rm_ 1) 0 0 55 [(0, .ref (ev_ad E 49)), (1, .int x1)] [] G (qv_ Q) := by
  intro n
  induction n with
  | zero => intro x1 G h; exact h.elim
  | succ n ih =>
    intro x1 G h
    refine pw_iload_n dX10_keepsAhead_55 rfl 1 rfl ?_
    refine pw_bipush (v := (13 : Int32)) dX10_keepsAhead_56 (by decide) ?_
    refine pw_icmp_ge (tgt := 87) dX10_keepsAhead_58 (by decide) (fun hc => ?_) (fun hc => ?_)
    · have h := h.1 hc
      refine pw_aload_n dX10_keepsAhead_87 rfl 0 rfl ?_
      refine pw_aload_n dX10_keepsAhead_88 rfl 0 rfl ?_
      refine pw_geti (v := G 49 3) dX10_keepsAhead_89 fa_X10_93 ly_49 rfl rfl ?_
      refine pw_iconst (v := (1 : Int32)) dX10_keepsAhead_92 (by decide) ?_
      refine pw_iadd dX10_keepsAhead_93 ?_
      refine pw_puti dX10_keepsAhead_94 fp_X10_93 ly_49 rfl ?_
      exact pw_return dX10_keepsAhead_97 rfl ⟨rfl, h⟩
    · have h := h.2 hc
      refine pw_aload_n dX10_keepsAhead_61 rfl 0 rfl ?_
      refine pw_getr (q := 51) dX10_keepsAhead_62 fa_X10_13 ly_49 rfl ?_
      refine pw_bipush (v := (13 : Int32)) dX10_keepsAhead_65 (by decide) ?_
      refine pw_aload_n dX10_keepsAhead_67 rfl 0 rfl ?_
      refine pw_geti (v := G 49 3) dX10_keepsAhead_68 fa_X10_93 ly_49 rfl rfl ?_
      refine pw_imul dX10_keepsAhead_71 ?_
      refine pw_iload_n dX10_keepsAhead_72 rfl 1 rfl ?_
      refine pw_iadd dX10_keepsAhead_73 ?_
      refine pw_aload_n dX10_keepsAhead_74 rfl 0 rfl ?_
      refine pw_getr (q := 50) dX10_keepsAhead_75 fa_X10_7 ly_49 rfl ?_
      refine pw_iload_n dX10_keepsAhead_78 rfl 1 rfl ?_
      obtain ⟨hv3, h⟩ := h
      refine pw_iald (v := G 50 x1.toNatClampNeg) dX10_keepsAhead_79 ly_50 hv3 rfl ?_
      obtain ⟨hv4, h⟩ := h
      refine pw_iast (z := ((((13 : Int32) * (G 49 3)) + x1).toNatClampNeg)) dX10_keepsAhead_80 ly_51 hv4 rfl ?_
      refine pw_iinc (k := 1) (v := x1 + 1) (lv' := [(1, .int (x1 + 1)), (0, .ref (ev_ad E 49))]) dX10_keepsAhead_81 rfl rfl (by decide) rfl ?_
      refine pw_goto (tgt := 55) dX10_keepsAhead_84 (by decide) ?_
      refine pw_loc (lv' := [(0, .ref (ev_ad E 49)), (1, .int (x1 + 1))]) [1, 0] rfl ?_
      exact ih _ _ h
def lp_X10_keepsAhead_21 (Q : Int32 → GS → Prop)  : Nat → Int32 → GS → Prop
  | 0, _, _ => False
  | n + 1, x1, G => ((((13 : Int32) * (G 49 3)) ≤ x1 → (∃ kf, lp_X10_keepsAhead_55 Q kf (0 : Int32) G)) ∧ (¬ ((13 : Int32) * (G 49 3)) ≤ x1 → (vp_in (x1 + (13 : Int32)) 104 ∧ (vp_in x1 104 ∧ lp_X10_keepsAhead_21 Q n (x1 + 1) (gu_ G 51 x1.toNatClampNeg (G 51 ((x1 + (13 : Int32)).toNatClampNeg)))))))
set_option maxRecDepth 100000 in
set_option maxHeartbeats 4000000 in
theorem t_X10_keepsAhead_21 {E : EV} (hE : EI_ E) (Q : Int32 → GS → Prop)  : ∀ (n : Nat) (x1 : Int32) (G : GS), lp_X10_keepsAhead_21 Q n x1 G → PW_ E mi_X10_keepsAhead (rm_ 1) 0 0 21 [(0, .ref (ev_ad E 49)), (1, .int x1)] [] G (qv_ Q) := by
  intro n
  induction n with
  | zero => intro x1 G h; exact h.elim
  | succ n ih =>
    intro x1 G h
    refine pw_iload_n dX10_keepsAhead_21 rfl 1 rfl ?_
    refine pw_bipush (v := (13 : Int32)) dX10_keepsAhead_22 (by decide) ?_
    refine pw_aload_n dX10_keepsAhead_24 rfl 0 rfl ?_
    refine pw_geti (v := G 49 3) dX10_keepsAhead_25 fa_X10_93 ly_49 rfl rfl ?_
    refine pw_imul dX10_keepsAhead_28 ?_
    refine pw_icmp_ge (tgt := 53) dX10_keepsAhead_29 (by decide) (fun hc => ?_) (fun hc => ?_)
    · have h := h.1 hc
      refine pw_iconst (v := (0 : Int32)) dX10_keepsAhead_53 (by decide) ?_
      refine pw_istore_n (lv' := [(1, .int (0 : Int32)), (0, .ref (ev_ad E 49))]) dX10_keepsAhead_54 rfl (by decide) rfl ?_
      refine pw_loc (lv' := [(0, .ref (ev_ad E 49)), (1, .int (0 : Int32))]) [1, 0] rfl ?_
      obtain ⟨kf, h⟩ := h
      exact t_X10_keepsAhead_55 hE Q kf _ _ h
    · have h := h.2 hc
      refine pw_aload_n dX10_keepsAhead_32 rfl 0 rfl ?_
      refine pw_getr (q := 51) dX10_keepsAhead_33 fa_X10_13 ly_49 rfl ?_
      refine pw_iload_n dX10_keepsAhead_36 rfl 1 rfl ?_
      refine pw_aload_n dX10_keepsAhead_37 rfl 0 rfl ?_
      refine pw_getr (q := 51) dX10_keepsAhead_38 fa_X10_13 ly_49 rfl ?_
      refine pw_iload_n dX10_keepsAhead_41 rfl 1 rfl ?_
      refine pw_bipush (v := (13 : Int32)) dX10_keepsAhead_42 (by decide) ?_
      refine pw_iadd dX10_keepsAhead_44 ?_
      obtain ⟨hv1, h⟩ := h
      refine pw_iald (v := G 51 ((x1 + (13 : Int32)).toNatClampNeg)) dX10_keepsAhead_45 ly_51 hv1 rfl ?_
      obtain ⟨hv2, h⟩ := h
      refine pw_iast (z := x1.toNatClampNeg) dX10_keepsAhead_46 ly_51 hv2 rfl ?_
      refine pw_iinc (k := 1) (v := x1 + 1) (lv' := [(1, .int (x1 + 1)), (0, .ref (ev_ad E 49))]) dX10_keepsAhead_47 rfl rfl (by decide) rfl ?_
      refine pw_goto (tgt := 21) dX10_keepsAhead_50 (by decide) ?_
      refine pw_loc (lv' := [(0, .ref (ev_ad E 49)), (1, .int (x1 + 1))]) [1, 0] rfl ?_
      exact ih _ _ h
def wp_X10_keepsAhead  (G : GS) (Q : Int32 → GS → Prop) : Prop := ((¬ (G 49 3) = (8 : Int32) → (∃ kf, lp_X10_keepsAhead_55 Q kf (0 : Int32) G)) ∧ ((G 49 3) = (8 : Int32) → (∃ kf, lp_X10_keepsAhead_21 Q kf (0 : Int32) (gu_ G 49 3 ((G 49 3) - (1 : Int32))))))
set_option maxRecDepth 100000 in
set_option maxHeartbeats 4000000 in
theorem s_X10_keepsAhead {E : EV} (hE : EI_ E)  {G : GS} {Q : Int32 → GS → Prop} (h : wp_X10_keepsAhead  G Q) : PMet E mi_X10_keepsAhead 1 [.ref (ev_ad E 49)] G (qv_ Q) := by
  refine pm_of hE (by decide) (Nat.le_of_ble_eq_true rfl) ?_
  refine pw_loc (lv' := [(0, .ref (ev_ad E 49))]) [0] rfl ?_
  refine pw_aload_n dX10_keepsAhead_0 rfl 0 rfl ?_
  refine pw_geti (v := G 49 3) dX10_keepsAhead_1 fa_X10_93 ly_49 rfl rfl ?_
  refine pw_bipush (v := (8 : Int32)) dX10_keepsAhead_4 (by decide) ?_
  refine pw_icmp_ne (tgt := 53) dX10_keepsAhead_6 (by decide) (fun hc => ?_) (fun hc => ?_)
  · have h := h.1 hc
    refine pw_iconst (v := (0 : Int32)) dX10_keepsAhead_53 (by decide) ?_
    refine pw_istore_n (lv' := [(1, .int (0 : Int32)), (0, .ref (ev_ad E 49))]) dX10_keepsAhead_54 rfl (by decide) rfl ?_
    refine pw_loc (lv' := [(0, .ref (ev_ad E 49)), (1, .int (0 : Int32))]) [1, 0] rfl ?_
    obtain ⟨kf, h⟩ := h
    exact t_X10_keepsAhead_55 hE Q kf _ _ h
  · have h := h.2 hc
    refine pw_aload_n dX10_keepsAhead_9 rfl 0 rfl ?_
    refine pw_aload_n dX10_keepsAhead_10 rfl 0 rfl ?_
    refine pw_geti (v := G 49 3) dX10_keepsAhead_11 fa_X10_93 ly_49 rfl rfl ?_
    refine pw_iconst (v := (1 : Int32)) dX10_keepsAhead_14 (by decide) ?_
    refine pw_isub dX10_keepsAhead_15 ?_
    refine pw_puti dX10_keepsAhead_16 fp_X10_93 ly_49 rfl ?_
    refine pw_iconst (v := (0 : Int32)) dX10_keepsAhead_19 (by decide) ?_
    refine pw_istore_n (lv' := [(1, .int (0 : Int32)), (0, .ref (ev_ad E 49))]) dX10_keepsAhead_20 rfl (by decide) rfl ?_
    refine pw_loc (lv' := [(0, .ref (ev_ad E 49)), (1, .int (0 : Int32))]) [1, 0] rfl ?_
    obtain ⟨kf, h⟩ := h
    exact t_X10_keepsAhead_21 hE Q kf _ _ h
def wp_X10_without (a1 : Int32) (G : GS) (Q : Int32 → GS → Prop) : Prop := ((0 ≤ a1 → Q a1 G) ∧ (¬ 0 ≤ a1 → Q (-a1) G))
set_option maxRecDepth 100000 in
set_option maxHeartbeats 4000000 in
theorem s_X10_without {E : EV} (hE : EI_ E) {a1 : Int32} {G : GS} {Q : Int32 → GS → Prop} (h : wp_X10_without a1 G Q) : PMet E mi_X10_without 1 [.ref (ev_ad E 49), .int a1] G (qi_ Q) := by
  refine pm_of hE (by decide) (Nat.le_of_ble_eq_true rfl) ?_
  refine pw_loc (lv' := [(0, .ref (ev_ad E 49)), (1, .int a1)]) [0, 1] rfl ?_
  refine pw_iload_n dX10_without_0 rfl 1 rfl ?_
  refine pw_if_ge (tgt := 9) dX10_without_1 (by decide) (fun hc => ?_) (fun hc => ?_)
  · have h := h.1 hc
    refine pw_iload_n dX10_without_9 rfl 1 rfl ?_
    exact pw_ireturn dX10_without_10 rfl rfl ⟨_, rfl, h⟩
  · have h := h.2 hc
    refine pw_iload_n dX10_without_4 rfl 1 rfl ?_
    refine pw_ineg dX10_without_5 ?_
    refine pw_goto (tgt := 10) dX10_without_6 (by decide) ?_
    exact pw_ireturn dX10_without_10 rfl rfl ⟨_, rfl, h⟩
def bk_X10_notes_56 (Q : Int32 → GS → Prop)  (x1 : Int32) (x2 : Int32) (x3 : Int32) (x4 : Int32) (z0 : Int32) (z1 : Int32) (G : GS) : Prop := (vp_in z1 500 ∧ wp_X10_humOf x1 (gu_ G 53 z1.toNatClampNeg z0) (fun r3 G4 => wp_X10_humOf x2 G4 (fun r5 G6 => wp_X10_without (r3 - r5) G6 (fun r7 G8 => (vp_in (((5 : Int32) * x4) + (2 : Int32)) 500 ∧ (vp_in (((5 : Int32) * x4) + (3 : Int32)) 500 ∧ (vp_in (((5 : Int32) * x4) + (4 : Int32)) 500 ∧ Q 0 (gu_ (gu_ (gu_ (gu_ G8 53 ((((5 : Int32) * x4) + (2 : Int32)).toNatClampNeg) r7) 53 ((((5 : Int32) * x4) + (3 : Int32)).toNatClampNeg) (G8 50 11)) 53 ((((5 : Int32) * x4) + (4 : Int32)).toNatClampNeg) x3) 50 10 (x4 + (1 : Int32))))))))))
set_option maxRecDepth 100000 in
set_option maxHeartbeats 4000000 in
theorem t_X10_notes_56 {E : EV} (hE : EI_ E) (Q : Int32 → GS → Prop)  {x1 : Int32} {x2 : Int32} {x3 : Int32} {x4 : Int32} {z0 : Int32} {z1 : Int32} {G : GS} (h : bk_X10_notes_56 Q x1 x2 x3 x4 z0 z1 G) : PW_ E mi_X10_notes (rm_ 2) 0 0 56 [(0, .ref (ev_ad E 49)), (1, .int x1), (2, .int x2), (3, .int x3), (4, .int x4)] [.int z0, .int z1, .ref (ev_ad E 53)] G (qv_ Q) := by
  obtain ⟨hv2, h⟩ := h
  refine pw_iast (z := z1.toNatClampNeg) dX10_notes_56 ly_53 hv2 rfl ?_
  refine pw_aload_n dX10_notes_57 rfl 0 rfl ?_
  refine pw_getr (q := 53) dX10_notes_58 fa_X10_19 ly_49 rfl ?_
  refine pw_iconst (v := (5 : Int32)) dX10_notes_61 (by decide) ?_
  refine pw_iload dX10_notes_62 4 rfl ?_
  refine pw_imul dX10_notes_64 ?_
  refine pw_iconst (v := (2 : Int32)) dX10_notes_65 (by decide) ?_
  refine pw_iadd dX10_notes_66 ?_
  refine pw_aload_n dX10_notes_67 rfl 0 rfl ?_
  refine pw_aload_n dX10_notes_68 rfl 0 rfl ?_
  refine pw_iload_n dX10_notes_69 rfl 1 rfl ?_
  refine pw_callV (As := [.int x1]) (rest := [.ref (ev_ad E 49), .int (((5 : Int32) * x4) + (2 : Int32)), .ref (ev_ad E 53)]) (s_X10_humOf hE h) dX10_notes_70 ly_49 rfl (Or.inl ml_X10_109) cm_X10_humOf rfl (rm_ok (by decide)) rm_0 (Nat.le_of_ble_eq_true rfl) ?_
  rintro _ G4 ⟨r3, rfl, h⟩
  refine pw_aload_n dX10_notes_73 rfl 0 rfl ?_
  refine pw_iload_n dX10_notes_74 rfl 2 rfl ?_
  refine pw_callV (As := [.int x2]) (rest := [.int r3, .ref (ev_ad E 49), .int (((5 : Int32) * x4) + (2 : Int32)), .ref (ev_ad E 53)]) (s_X10_humOf hE h) dX10_notes_75 ly_49 rfl (Or.inl ml_X10_109) cm_X10_humOf rfl (rm_ok (by decide)) rm_0 (Nat.le_of_ble_eq_true rfl) ?_
  rintro _ G6 ⟨r5, rfl, h⟩
  refine pw_isub dX10_notes_78 ?_
  refine pw_callV (As := [.int (r3 - r5)]) (rest := [.int (((5 : Int32) * x4) + (2 : Int32)), .ref (ev_ad E 53)]) (s_X10_without hE h) dX10_notes_79 ly_49 rfl (Or.inl ml_X10_223) cm_X10_without rfl (rm_ok (by decide)) rm_0 (Nat.le_of_ble_eq_true rfl) ?_
  rintro _ G8 ⟨r7, rfl, h⟩
  obtain ⟨hv9, h⟩ := h
  refine pw_iast (z := ((((5 : Int32) * x4) + (2 : Int32)).toNatClampNeg)) dX10_notes_82 ly_53 hv9 rfl ?_
  refine pw_aload_n dX10_notes_83 rfl 0 rfl ?_
  refine pw_getr (q := 53) dX10_notes_84 fa_X10_19 ly_49 rfl ?_
  refine pw_iconst (v := (5 : Int32)) dX10_notes_87 (by decide) ?_
  refine pw_iload dX10_notes_88 4 rfl ?_
  refine pw_imul dX10_notes_90 ?_
  refine pw_iconst (v := (3 : Int32)) dX10_notes_91 (by decide) ?_
  refine pw_iadd dX10_notes_92 ?_
  refine pw_aload_n dX10_notes_93 rfl 0 rfl ?_
  refine pw_getr (q := 50) dX10_notes_94 fa_X10_7 ly_49 rfl ?_
  refine pw_bipush (v := (11 : Int32)) dX10_notes_97 (by decide) ?_
  refine pw_iald (v := G8 50 11) dX10_notes_99 ly_50 (by unfold vp_in; decide) rfl ?_
  obtain ⟨hv10, h⟩ := h
  refine pw_iast (z := ((((5 : Int32) * x4) + (3 : Int32)).toNatClampNeg)) dX10_notes_100 ly_53 hv10 rfl ?_
  refine pw_aload_n dX10_notes_101 rfl 0 rfl ?_
  refine pw_getr (q := 53) dX10_notes_102 fa_X10_19 ly_49 rfl ?_
  refine pw_iconst (v := (5 : Int32)) dX10_notes_105 (by decide) ?_
  refine pw_iload dX10_notes_106 4 rfl ?_
  refine pw_imul dX10_notes_108 ?_
  refine pw_iconst (v := (4 : Int32)) dX10_notes_109 (by decide) ?_
  refine pw_iadd dX10_notes_110 ?_
  refine pw_iload_n dX10_notes_111 rfl 3 rfl ?_
  obtain ⟨hv11, h⟩ := h
  refine pw_iast (z := ((((5 : Int32) * x4) + (4 : Int32)).toNatClampNeg)) dX10_notes_112 ly_53 hv11 rfl ?_
  refine pw_aload_n dX10_notes_113 rfl 0 rfl ?_
  refine pw_getr (q := 50) dX10_notes_114 fa_X10_7 ly_49 rfl ?_
  refine pw_bipush (v := (10 : Int32)) dX10_notes_117 (by decide) ?_
  refine pw_iload dX10_notes_119 4 rfl ?_
  refine pw_iconst (v := (1 : Int32)) dX10_notes_121 (by decide) ?_
  refine pw_iadd dX10_notes_122 ?_
  refine pw_iast (z := 10) dX10_notes_123 ly_50 (by unfold vp_in; decide) rfl ?_
  exact pw_return dX10_notes_124 rfl ⟨rfl, h⟩
def bk_X10_notes_35 (Q : Int32 → GS → Prop)  (x1 : Int32) (x2 : Int32) (x3 : Int32) (x4 : Int32) (z0 : Int32) (z1 : Int32) (G : GS) : Prop := (vp_in z1 500 ∧ ((x2 ≤ x1 → bk_X10_notes_56 Q x1 x2 x3 x4 x1 (((5 : Int32) * x4) + (1 : Int32)) (gu_ G 53 z1.toNatClampNeg z0)) ∧ (¬ x2 ≤ x1 → bk_X10_notes_56 Q x1 x2 x3 x4 x2 (((5 : Int32) * x4) + (1 : Int32)) (gu_ G 53 z1.toNatClampNeg z0))))
set_option maxRecDepth 100000 in
set_option maxHeartbeats 4000000 in
theorem t_X10_notes_35 {E : EV} (hE : EI_ E) (Q : Int32 → GS → Prop)  {x1 : Int32} {x2 : Int32} {x3 : Int32} {x4 : Int32} {z0 : Int32} {z1 : Int32} {G : GS} (h : bk_X10_notes_35 Q x1 x2 x3 x4 z0 z1 G) : PW_ E mi_X10_notes (rm_ 2) 0 0 35 [(0, .ref (ev_ad E 49)), (1, .int x1), (2, .int x2), (3, .int x3), (4, .int x4)] [.int z0, .int z1, .ref (ev_ad E 53)] G (qv_ Q) := by
  obtain ⟨hv1, h⟩ := h
  refine pw_iast (z := z1.toNatClampNeg) dX10_notes_35 ly_53 hv1 rfl ?_
  refine pw_aload_n dX10_notes_36 rfl 0 rfl ?_
  refine pw_getr (q := 53) dX10_notes_37 fa_X10_19 ly_49 rfl ?_
  refine pw_iconst (v := (5 : Int32)) dX10_notes_40 (by decide) ?_
  refine pw_iload dX10_notes_41 4 rfl ?_
  refine pw_imul dX10_notes_43 ?_
  refine pw_iconst (v := (1 : Int32)) dX10_notes_44 (by decide) ?_
  refine pw_iadd dX10_notes_45 ?_
  refine pw_iload_n dX10_notes_46 rfl 1 rfl ?_
  refine pw_iload_n dX10_notes_47 rfl 2 rfl ?_
  refine pw_icmp_ge (tgt := 55) dX10_notes_48 (by decide) (fun hc => ?_) (fun hc => ?_)
  · have h := h.1 hc
    refine pw_iload_n dX10_notes_55 rfl 1 rfl ?_
    refine pw_loc (lv' := [(0, .ref (ev_ad E 49)), (1, .int x1), (2, .int x2), (3, .int x3), (4, .int x4)]) [0, 1, 2, 3, 4] rfl ?_
    exact t_X10_notes_56 hE Q h
  · have h := h.2 hc
    refine pw_iload_n dX10_notes_51 rfl 2 rfl ?_
    refine pw_goto (tgt := 56) dX10_notes_52 (by decide) ?_
    refine pw_loc (lv' := [(0, .ref (ev_ad E 49)), (1, .int x1), (2, .int x2), (3, .int x3), (4, .int x4)]) [0, 1, 2, 3, 4] rfl ?_
    exact t_X10_notes_56 hE Q h
def wp_X10_notes (a1 : Int32) (a2 : Int32) (a3 : Int32) (G : GS) (Q : Int32 → GS → Prop) : Prop := ((¬ (G 50 10) = (100 : Int32) → ((a2 ≤ a1 → bk_X10_notes_35 Q a1 a2 a3 (G 50 10) a2 ((5 : Int32) * (G 50 10)) G) ∧ (¬ a2 ≤ a1 → bk_X10_notes_35 Q a1 a2 a3 (G 50 10) a1 ((5 : Int32) * (G 50 10)) G))) ∧ ((G 50 10) = (100 : Int32) → Q 0 G))
set_option maxRecDepth 100000 in
set_option maxHeartbeats 4000000 in
theorem s_X10_notes {E : EV} (hE : EI_ E) {a1 : Int32} {a2 : Int32} {a3 : Int32} {G : GS} {Q : Int32 → GS → Prop} (h : wp_X10_notes a1 a2 a3 G Q) : PMet E mi_X10_notes 2 [.ref (ev_ad E 49), .int a1, .int a2, .int a3] G (qv_ Q) := by
  refine pm_of hE (by decide) (Nat.le_of_ble_eq_true rfl) ?_
  refine pw_loc (lv' := [(0, .ref (ev_ad E 49)), (1, .int a1), (2, .int a2), (3, .int a3)]) [0, 1, 2, 3] rfl ?_
  refine pw_aload_n dX10_notes_0 rfl 0 rfl ?_
  refine pw_getr (q := 50) dX10_notes_1 fa_X10_7 ly_49 rfl ?_
  refine pw_bipush (v := (10 : Int32)) dX10_notes_4 (by decide) ?_
  refine pw_iald (v := G 50 10) dX10_notes_6 ly_50 (by unfold vp_in; decide) rfl ?_
  refine pw_istore (lv' := [(4, .int (G 50 10)), (0, .ref (ev_ad E 49)), (1, .int a1), (2, .int a2), (3, .int a3)]) dX10_notes_7 (by decide) rfl ?_
  refine pw_iload dX10_notes_9 0 rfl ?_
  refine pw_bipush (v := (100 : Int32)) dX10_notes_11 (by decide) ?_
  refine pw_icmp_ne (tgt := 17) dX10_notes_13 (by decide) (fun hc => ?_) (fun hc => ?_)
  · have h := h.1 hc
    refine pw_aload_n dX10_notes_17 rfl 1 rfl ?_
    refine pw_getr (q := 53) dX10_notes_18 fa_X10_19 ly_49 rfl ?_
    refine pw_iconst (v := (5 : Int32)) dX10_notes_21 (by decide) ?_
    refine pw_iload dX10_notes_22 0 rfl ?_
    refine pw_imul dX10_notes_24 ?_
    refine pw_iload_n dX10_notes_25 rfl 2 rfl ?_
    refine pw_iload_n dX10_notes_26 rfl 3 rfl ?_
    refine pw_icmp_ge (tgt := 34) dX10_notes_27 (by decide) (fun hc => ?_) (fun hc => ?_)
    · have h := h.1 hc
      refine pw_iload_n dX10_notes_34 rfl 3 rfl ?_
      refine pw_loc (lv' := [(0, .ref (ev_ad E 49)), (1, .int a1), (2, .int a2), (3, .int a3), (4, .int (G 50 10))]) [1, 2, 3, 4, 0] rfl ?_
      exact t_X10_notes_35 hE Q h
    · have h := h.2 hc
      refine pw_iload_n dX10_notes_30 rfl 2 rfl ?_
      refine pw_goto (tgt := 35) dX10_notes_31 (by decide) ?_
      refine pw_loc (lv' := [(0, .ref (ev_ad E 49)), (1, .int a1), (2, .int a2), (3, .int a3), (4, .int (G 50 10))]) [1, 2, 3, 4, 0] rfl ?_
      exact t_X10_notes_35 hE Q h
  · have h := h.2 hc
    exact pw_return dX10_notes_16 rfl ⟨rfl, h⟩
def lp_X10_ones_4 (Q : Int32 → GS → Prop)  : Nat → Int32 → Int32 → GS → Prop
  | 0, _, _, _ => False
  | n + 1, x2, x3, G => ((x3 = 0 → Q x2 G) ∧ (¬ x3 = 0 → lp_X10_ones_4 Q n (x2 + (1 : Int32)) (x3 &&& (x3 - (1 : Int32))) G))
set_option maxRecDepth 100000 in
set_option maxHeartbeats 4000000 in
theorem t_X10_ones_4 {E : EV} (hE : EI_ E) (Q : Int32 → GS → Prop)  : ∀ (n : Nat) (x2 : Int32) (x3 : Int32) (G : GS), lp_X10_ones_4 Q n x2 x3 G → PW_ E mi_X10_ones (rm_ 1) 0 0 4 [(2, .int x2), (3, .int x3)] [] G (qi_ Q) := by
  intro n
  induction n with
  | zero => intro x2 x3 G h; exact h.elim
  | succ n ih =>
    intro x2 x3 G h
    refine pw_iload_n dX10_ones_4 rfl 1 rfl ?_
    refine pw_if_eq (tgt := 21) dX10_ones_5 (by decide) (fun hc => ?_) (fun hc => ?_)
    · have h := h.1 hc
      refine pw_iload_n dX10_ones_21 rfl 0 rfl ?_
      exact pw_ireturn dX10_ones_22 rfl rfl ⟨_, rfl, h⟩
    · have h := h.2 hc
      refine pw_iload_n dX10_ones_8 rfl 0 rfl ?_
      refine pw_iconst (v := (1 : Int32)) dX10_ones_9 (by decide) ?_
      refine pw_iadd dX10_ones_10 ?_
      refine pw_istore_n (lv' := [(2, .int (x2 + (1 : Int32))), (3, .int x3)]) dX10_ones_11 rfl (by decide) rfl ?_
      refine pw_iload_n dX10_ones_12 rfl 1 rfl ?_
      refine pw_iload_n dX10_ones_13 rfl 1 rfl ?_
      refine pw_iconst (v := (1 : Int32)) dX10_ones_14 (by decide) ?_
      refine pw_isub dX10_ones_15 ?_
      refine pw_iand dX10_ones_16 ?_
      refine pw_istore_n (lv' := [(3, .int (x3 &&& (x3 - (1 : Int32)))), (2, .int (x2 + (1 : Int32)))]) dX10_ones_17 rfl (by decide) rfl ?_
      refine pw_goto (tgt := 4) dX10_ones_18 (by decide) ?_
      refine pw_loc (lv' := [(2, .int (x2 + (1 : Int32))), (3, .int (x3 &&& (x3 - (1 : Int32))))]) [1, 0] rfl ?_
      exact ih _ _ _ h
def wp_X10_ones (a1 : Int32) (G : GS) (Q : Int32 → GS → Prop) : Prop := (∃ kf, lp_X10_ones_4 Q kf (0 : Int32) a1 G)
set_option maxRecDepth 100000 in
set_option maxHeartbeats 4000000 in
theorem s_X10_ones {E : EV} (hE : EI_ E) {a1 : Int32} {G : GS} {Q : Int32 → GS → Prop} (h : wp_X10_ones a1 G Q) : PMet E mi_X10_ones 1 [.ref (ev_ad E 49), .int a1] G (qi_ Q) := by
  refine pm_of hE (by decide) (Nat.le_of_ble_eq_true rfl) ?_
  refine pw_loc (lv' := [(0, .ref (ev_ad E 49)), (1, .int a1)]) [0, 1] rfl ?_
  refine pw_iconst (v := (0 : Int32)) dX10_ones_0 (by decide) ?_
  refine pw_istore_n (lv' := [(2, .int (0 : Int32)), (0, .ref (ev_ad E 49)), (1, .int a1)]) dX10_ones_1 rfl (by decide) rfl ?_
  refine pw_iload_n dX10_ones_2 rfl 2 rfl ?_
  refine pw_istore_n (lv' := [(3, .int a1), (2, .int (0 : Int32)), (0, .ref (ev_ad E 49)), (1, .int a1)]) dX10_ones_3 rfl (by decide) rfl ?_
  refine pw_loc (lv' := [(2, .int (0 : Int32)), (3, .int a1)]) [1, 0] rfl ?_
  obtain ⟨kf, h⟩ := h
  exact t_X10_ones_4 hE Q kf _ _ _ h
def wp_X10_twoOf (a1 : Int32) (a2 : Int32) (a3 : Int32) (G : GS) (Q : Int32 → GS → Prop) : Prop := ((¬ a1 = (2 : Int32) → ((¬ a1 = (3 : Int32) → ((¬ a1 = (4 : Int32) → ((¬ a1 = (5 : Int32) → ((¬ a1 = (6 : Int32) → ((¬ a1 = (7 : Int32) → ((¬ a1 = (8 : Int32) → ((¬ a1 = (10 : Int32) → (((a2 + a3) ≤ 0 → Q (0 : Int32) G) ∧ (¬ (a2 + a3) ≤ 0 → Q (1 : Int32) G))) ∧ (a1 = (10 : Int32) → Q (a2 * a3) G))) ∧ (a1 = (8 : Int32) → ((a2 ≤ a3 → Q (0 : Int32) G) ∧ (¬ a2 ≤ a3 → Q (1 : Int32) G))))) ∧ (a1 = (7 : Int32) → ((¬ a2 = a3 → Q (0 : Int32) G) ∧ (a2 = a3 → Q (1 : Int32) G))))) ∧ (a1 = (6 : Int32) → ((a3 ≤ a2 → Q (0 : Int32) G) ∧ (¬ a3 ≤ a2 → Q (1 : Int32) G))))) ∧ (a1 = (5 : Int32) → ((¬ a3 = 0) ∧ Q (a2 / a3) G)))) ∧ (a1 = (4 : Int32) → Q (a2 * a3) G))) ∧ (a1 = (3 : Int32) → Q (a2 - a3) G))) ∧ (a1 = (2 : Int32) → Q (a2 + a3) G))
set_option maxRecDepth 100000 in
set_option maxHeartbeats 4000000 in
theorem s_X10_twoOf {E : EV} (hE : EI_ E) {a1 : Int32} {a2 : Int32} {a3 : Int32} {G : GS} {Q : Int32 → GS → Prop} (h : wp_X10_twoOf a1 a2 a3 G Q) : PMet E mi_X10_twoOf 1 [.ref (ev_ad E 49), .int a1, .int a2, .int a3] G (qi_ Q) := by
  refine pm_of hE (by decide) (Nat.le_of_ble_eq_true rfl) ?_
  refine pw_loc (lv' := [(0, .ref (ev_ad E 49)), (1, .int a1), (2, .int a2), (3, .int a3)]) [0, 1, 2, 3] rfl ?_
  refine pw_iload_n dX10_twoOf_0 rfl 1 rfl ?_
  refine pw_iconst (v := (2 : Int32)) dX10_twoOf_1 (by decide) ?_
  refine pw_icmp_ne (tgt := 9) dX10_twoOf_2 (by decide) (fun hc => ?_) (fun hc => ?_)
  · have h := h.1 hc
    refine pw_iload_n dX10_twoOf_9 rfl 1 rfl ?_
    refine pw_iconst (v := (3 : Int32)) dX10_twoOf_10 (by decide) ?_
    refine pw_icmp_ne (tgt := 18) dX10_twoOf_11 (by decide) (fun hc => ?_) (fun hc => ?_)
    · have h := h.1 hc
      refine pw_iload_n dX10_twoOf_18 rfl 1 rfl ?_
      refine pw_iconst (v := (4 : Int32)) dX10_twoOf_19 (by decide) ?_
      refine pw_icmp_ne (tgt := 27) dX10_twoOf_20 (by decide) (fun hc => ?_) (fun hc => ?_)
      · have h := h.1 hc
        refine pw_iload_n dX10_twoOf_27 rfl 1 rfl ?_
        refine pw_iconst (v := (5 : Int32)) dX10_twoOf_28 (by decide) ?_
        refine pw_icmp_ne (tgt := 36) dX10_twoOf_29 (by decide) (fun hc => ?_) (fun hc => ?_)
        · have h := h.1 hc
          refine pw_iload_n dX10_twoOf_36 rfl 1 rfl ?_
          refine pw_bipush (v := (6 : Int32)) dX10_twoOf_37 (by decide) ?_
          refine pw_icmp_ne (tgt := 53) dX10_twoOf_39 (by decide) (fun hc => ?_) (fun hc => ?_)
          · have h := h.1 hc
            refine pw_iload_n dX10_twoOf_53 rfl 1 rfl ?_
            refine pw_bipush (v := (7 : Int32)) dX10_twoOf_54 (by decide) ?_
            refine pw_icmp_ne (tgt := 70) dX10_twoOf_56 (by decide) (fun hc => ?_) (fun hc => ?_)
            · have h := h.1 hc
              refine pw_iload_n dX10_twoOf_70 rfl 1 rfl ?_
              refine pw_bipush (v := (8 : Int32)) dX10_twoOf_71 (by decide) ?_
              refine pw_icmp_ne (tgt := 87) dX10_twoOf_73 (by decide) (fun hc => ?_) (fun hc => ?_)
              · have h := h.1 hc
                refine pw_iload_n dX10_twoOf_87 rfl 1 rfl ?_
                refine pw_bipush (v := (10 : Int32)) dX10_twoOf_88 (by decide) ?_
                refine pw_icmp_ne (tgt := 99) dX10_twoOf_90 (by decide) (fun hc => ?_) (fun hc => ?_)
                · have h := h.1 hc
                  refine pw_iload_n dX10_twoOf_99 rfl 2 rfl ?_
                  refine pw_iload_n dX10_twoOf_100 rfl 3 rfl ?_
                  refine pw_iadd dX10_twoOf_101 ?_
                  refine pw_if_le (tgt := 109) dX10_twoOf_102 (by decide) (fun hc => ?_) (fun hc => ?_)
                  · have h := h.1 hc
                    refine pw_iconst (v := (0 : Int32)) dX10_twoOf_109 (by decide) ?_
                    exact pw_ireturn dX10_twoOf_110 rfl rfl ⟨_, rfl, h⟩
                  · have h := h.2 hc
                    refine pw_iconst (v := (1 : Int32)) dX10_twoOf_105 (by decide) ?_
                    refine pw_goto (tgt := 110) dX10_twoOf_106 (by decide) ?_
                    exact pw_ireturn dX10_twoOf_110 rfl rfl ⟨_, rfl, h⟩
                · have h := h.2 hc
                  refine pw_iload_n dX10_twoOf_93 rfl 2 rfl ?_
                  refine pw_iload_n dX10_twoOf_94 rfl 3 rfl ?_
                  refine pw_imul dX10_twoOf_95 ?_
                  refine pw_goto (tgt := 110) dX10_twoOf_96 (by decide) ?_
                  exact pw_ireturn dX10_twoOf_110 rfl rfl ⟨_, rfl, h⟩
              · have h := h.2 hc
                refine pw_iload_n dX10_twoOf_76 rfl 2 rfl ?_
                refine pw_iload_n dX10_twoOf_77 rfl 3 rfl ?_
                refine pw_icmp_le (tgt := 85) dX10_twoOf_78 (by decide) (fun hc => ?_) (fun hc => ?_)
                · have h := h.1 hc
                  refine pw_iconst (v := (0 : Int32)) dX10_twoOf_85 (by decide) ?_
                  exact pw_ireturn dX10_twoOf_86 rfl rfl ⟨_, rfl, h⟩
                · have h := h.2 hc
                  refine pw_iconst (v := (1 : Int32)) dX10_twoOf_81 (by decide) ?_
                  refine pw_goto (tgt := 86) dX10_twoOf_82 (by decide) ?_
                  exact pw_ireturn dX10_twoOf_86 rfl rfl ⟨_, rfl, h⟩
            · have h := h.2 hc
              refine pw_iload_n dX10_twoOf_59 rfl 2 rfl ?_
              refine pw_iload_n dX10_twoOf_60 rfl 3 rfl ?_
              refine pw_icmp_ne (tgt := 68) dX10_twoOf_61 (by decide) (fun hc => ?_) (fun hc => ?_)
              · have h := h.1 hc
                refine pw_iconst (v := (0 : Int32)) dX10_twoOf_68 (by decide) ?_
                exact pw_ireturn dX10_twoOf_69 rfl rfl ⟨_, rfl, h⟩
              · have h := h.2 hc
                refine pw_iconst (v := (1 : Int32)) dX10_twoOf_64 (by decide) ?_
                refine pw_goto (tgt := 69) dX10_twoOf_65 (by decide) ?_
                exact pw_ireturn dX10_twoOf_69 rfl rfl ⟨_, rfl, h⟩
          · have h := h.2 hc
            refine pw_iload_n dX10_twoOf_42 rfl 2 rfl ?_
            refine pw_iload_n dX10_twoOf_43 rfl 3 rfl ?_
            refine pw_icmp_ge (tgt := 51) dX10_twoOf_44 (by decide) (fun hc => ?_) (fun hc => ?_)
            · have h := h.1 hc
              refine pw_iconst (v := (0 : Int32)) dX10_twoOf_51 (by decide) ?_
              exact pw_ireturn dX10_twoOf_52 rfl rfl ⟨_, rfl, h⟩
            · have h := h.2 hc
              refine pw_iconst (v := (1 : Int32)) dX10_twoOf_47 (by decide) ?_
              refine pw_goto (tgt := 52) dX10_twoOf_48 (by decide) ?_
              exact pw_ireturn dX10_twoOf_52 rfl rfl ⟨_, rfl, h⟩
        · have h := h.2 hc
          refine pw_iload_n dX10_twoOf_32 rfl 2 rfl ?_
          refine pw_iload_n dX10_twoOf_33 rfl 3 rfl ?_
          obtain ⟨hv1, h⟩ := h
          refine pw_idiv dX10_twoOf_34 hv1 ?_
          exact pw_ireturn dX10_twoOf_35 rfl rfl ⟨_, rfl, h⟩
      · have h := h.2 hc
        refine pw_iload_n dX10_twoOf_23 rfl 2 rfl ?_
        refine pw_iload_n dX10_twoOf_24 rfl 3 rfl ?_
        refine pw_imul dX10_twoOf_25 ?_
        exact pw_ireturn dX10_twoOf_26 rfl rfl ⟨_, rfl, h⟩
    · have h := h.2 hc
      refine pw_iload_n dX10_twoOf_14 rfl 2 rfl ?_
      refine pw_iload_n dX10_twoOf_15 rfl 3 rfl ?_
      refine pw_isub dX10_twoOf_16 ?_
      exact pw_ireturn dX10_twoOf_17 rfl rfl ⟨_, rfl, h⟩
  · have h := h.2 hc
    refine pw_iload_n dX10_twoOf_5 rfl 2 rfl ?_
    refine pw_iload_n dX10_twoOf_6 rfl 3 rfl ?_
    refine pw_iadd dX10_twoOf_7 ?_
    exact pw_ireturn dX10_twoOf_8 rfl rfl ⟨_, rfl, h⟩
