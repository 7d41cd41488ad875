/-! THE CLAIM OUT OF ONE WALK OF THE LAW'S BODY. Your part is whole_start (and what it stands on); all else here is the same for every law, but numbers. -/
def R_law : String := "HearDifferenceLaw"
def lw_P (b : Addr) (xs : List Int32) (args : Array Value) (s : State) : Prop := args = #[.ref b] ∧ s.IntsAt b xs ∧ xs.length ≤ 3072 ∧ (Jvm.Cond.and given_1 narrow_1).before args s = true
def lw_Q (_ : Array Value) (s : State) (o : Outcome) (t : State) : Prop := o = .returned (some (.int 1)) ∧ Framed s o t [] 600000 7302250
def lw_Z (below : List Frame) (a : Array Value) (s : State) : State → Prop := fun t => ∃ o, t.status = .running ∧ Ended t below o ∧ lw_Q a s o t
/-- the law's own end, with 1 on the stack, nothing written that was there before, its room as the claim has it -/
theorem lw_ret {p : Program} {l : Launch} {e : Env} {s : State} {m : MethodId} {below : List Frame} {meth : Method} {c : Code} {b : Nat} (hx : p.tables.exec = Jvm.exec) (hb : c.code = code) (hr : meth.sig.returnType = ret) (hlocks : meth.locks = false) {pc : Nat} {H : Heap} {ls : Array Slot} (hdg : decode code pc = .ok (.ireturn, 1)) : W p l e room_1 s m #[Value.ref b] below meth c H [] 600000 7302250 (lw_Z below #[Value.ref b] s) (F0 m pc ls [.int 1]) := by
  intro T hT X
  obtain ⟨fs, hret, hrun, hended, hW, hframe⟩ := X.leave (v := some (.int 1)) (hlocks := hlocks) (fun h => by rw [hr] at h; cases h)
  have hmeth' : T.vm.method? m = some meth := X.method'
  refine ⟨T.setFrames fs, ?_, .returned (some (.int 1)), hrun, hended, rfl, ⟨_, rfl⟩, hW, hframe⟩
  jvm_step X.here [X.here.top, hx, hb, hdg, hmeth', hr, ret, narrow_b1]
  (try refine ⟨rfl, ?_⟩); (try refine ⟨rfl, ?_⟩)
  first | (intro acts; rw [hret _ acts rfl rfl rfl]) | rw [hret _ _ rfl rfl rfl]
  exact Steps.refl _
/-- what holds at the law's entry: the machine, the code, the tables' words (any of lw_tbl by 'hts w (by decide +kernel)'), the script of L ints xs at the cell b, what the Statement gives of the start (any of its parts by flat_of_before) -/
def lw_At (p : Program) (s : State) (m : MethodId) (meth : Method) (c : Code) (b L : Nat) (xs : Nat → Int32) : Prop :=
  p.tables.exec = Jvm.exec ∧ c.code = code ∧ meth.sig.returnType = ret ∧ c.maxLocals = 4 ∧ s.vm.findClass R_law = some m.cls ∧ (∀ w ∈ lw_tbl, w.before #[Value.ref b] s = true) ∧ va_X b L xs s s.heap ∧ b < s.heap.size ∧ meth.locks = false ∧ (Jvm.Cond.and given_1 narrow_1).before #[Value.ref b] s = true

theorem fx_ex : ∀ i, i < nk_ → Cond.exactly (.string "HearDifference$Reader" (kx_.getD i 0)) "java/lang/String" ∈ flatC (Jvm.Cond.and given_1 narrow_1) := by decide +kernel
theorem fx_co : ∀ i, i < nk_ → Cond.eq (.field (.string "HearDifference$Reader" (kx_.getD i 0)) "java/lang/String" "coder" "B") (.int 0) ∈ flatC (Jvm.Cond.and given_1 narrow_1) := by decide +kernel
theorem fx_ar : ∀ i, i < nk_ → Cond.arrayOf (.field (.string "HearDifference$Reader" (kx_.getD i 0)) "java/lang/String" "value" "[B") .byte ∈ flatC (Jvm.Cond.and given_1 narrow_1) := by decide +kernel
theorem fx_le : ∀ i, i < nk_ → Cond.eq (.length (.field (.string "HearDifference$Reader" (kx_.getD i 0)) "java/lang/String" "value" "[B")) (.int (Int32.ofNat (kl_.getD i 0))) ∈ flatC (Jvm.Cond.and given_1 narrow_1) := by decide +kernel
theorem fx_el : ∀ i, i < nk_ → ∀ j, j < kl_.getD i 0 → Cond.eq (.elem (.field (.string "HearDifference$Reader" (kx_.getD i 0)) "java/lang/String" "value" "[B") (.int (Int32.ofNat j))) (.int ((kb_.getD i []).getD j 0)) ∈ flatC (Jvm.Cond.and given_1 narrow_1) := by decide +kernel
def nl_ : List (Nat × Nat × Nat) := [(0, 1, 49), (0, 2, 58), (1, 2, 59), (0, 3, 66), (1, 3, 67), (2, 3, 68), (0, 4, 76), (1, 4, 77), (2, 4, 78), (3, 4, 79), (0, 5, 87), (1, 5, 88), (2, 5, 89), (3, 5, 90), (4, 5, 91), (0, 6, 99), (1, 6, 100), (2, 6, 101), (3, 6, 102), (4, 6, 103), (5, 6, 104), (0, 7, 113), (1, 7, 114), (2, 7, 115), (3, 7, 116), (4, 7, 117), (5, 7, 118), (6, 7, 119), (0, 8, 129), (1, 8, 130), (2, 8, 131), (3, 8, 132), (4, 8, 133), (5, 8, 134), (6, 8, 135), (7, 8, 136), (0, 9, 144), (1, 9, 145), (2, 9, 146), (3, 9, 147), (4, 9, 148), (5, 9, 149), (6, 9, 150), (7, 9, 151), (8, 9, 152), (0, 10, 161), (1, 10, 162), (2, 10, 163), (3, 10, 164), (4, 10, 165), (5, 10, 166), (6, 10, 167), (7, 10, 168), (8, 10, 169), (9, 10, 170), (0, 11, 179), (1, 11, 180), (2, 11, 181), (3, 11, 182), (4, 11, 183), (5, 11, 184), (6, 11, 185), (7, 11, 186), (8, 11, 187), (9, 11, 188), (10, 11, 189), (0, 12, 199), (1, 12, 200), (2, 12, 201), (3, 12, 202), (4, 12, 203), (5, 12, 204), (6, 12, 205), (7, 12, 206), (8, 12, 207), (9, 12, 208), (10, 12, 209), (11, 12, 210), (0, 13, 219), (1, 13, 220), (2, 13, 221), (3, 13, 222), (4, 13, 223), (5, 13, 224), (6, 13, 225), (7, 13, 226), (8, 13, 227), (9, 13, 228), (10, 13, 229), (11, 13, 230), (12, 13, 231), (0, 14, 239), (1, 14, 240), (2, 14, 241), (3, 14, 242), (4, 14, 243), (5, 14, 244), (6, 14, 245), (7, 14, 246), (8, 14, 247), (9, 14, 248), (10, 14, 249), (11, 14, 250), (12, 14, 251), (13, 14, 252), (0, 15, 257), (1, 15, 258), (2, 15, 259), (3, 15, 260), (4, 15, 261), (5, 15, 262), (6, 15, 263), (7, 15, 264), (8, 15, 265), (9, 15, 266), (10, 15, 267), (11, 15, 268), (12, 15, 269), (13, 15, 270), (14, 15, 271), (0, 16, 286), (1, 16, 287), (2, 16, 288), (3, 16, 289), (4, 16, 290), (5, 16, 291), (6, 16, 292), (7, 16, 293), (8, 16, 294), (9, 16, 295), (10, 16, 296), (11, 16, 297), (12, 16, 298), (13, 16, 299), (14, 16, 300), (15, 16, 301)]
theorem fx_n1 : ∀ t ∈ nl_, (flatC (Jvm.Cond.and given_1 narrow_1))[t.2.2]? = some (Cond.not (.eq (.string "HearDifference$Reader" (kx_.getD t.1 0)) (.string "HearDifference$Reader" (kx_.getD t.2.1 0)))) := by decide +kernel
theorem fx_n2 : ∀ i, i < nk_ → ∀ j, j < nk_ → i ≠ j → ∃ t ∈ nl_, (t.1 = i ∧ t.2.1 = j) ∨ (t.1 = j ∧ t.2.1 = i) := by decide +kernel
theorem fx_ne : ∀ i, i < nk_ → ∀ j, j < nk_ → i ≠ j → Cond.not (.eq (.string "HearDifference$Reader" (kx_.getD i 0)) (.string "HearDifference$Reader" (kx_.getD j 0))) ∈ flatC (Jvm.Cond.and given_1 narrow_1) ∨ Cond.not (.eq (.string "HearDifference$Reader" (kx_.getD j 0)) (.string "HearDifference$Reader" (kx_.getD i 0))) ∈ flatC (Jvm.Cond.and given_1 narrow_1) := by
  intro i hi j hj hij
  obtain ⟨t, ht, h⟩ := fx_n2 i hi j hj hij
  have h1 := List.mem_of_getElem? (fx_n1 t ht)
  rcases h with ⟨e1, e2⟩ | ⟨e1, e2⟩
  · rw [e1, e2] at h1; exact Or.inl h1
  · rw [e1, e2] at h1; exact Or.inr h1
theorem fx_cs : Cond.eq (.static "java/lang/String" "COMPACT_STRINGS" "Z") (.int 1) ∈ flatC (Jvm.Cond.and given_1 narrow_1) := by decide +kernel
theorem fx_fm : Cond.isRef (.static "jdk/internal/util/Preconditions" "SIOOBE_FORMATTER" "Ljava/util/function/BiFunction;") ∈ flatC (Jvm.Cond.and given_1 narrow_1) := by decide +kernel
theorem fx_ra : Cond.arrayOf (.static "HearDifference" "RULERS" "[I") .int ∈ flatC (Jvm.Cond.and given_1 narrow_1) := by decide +kernel
theorem fx_rl : Cond.eq (.length (.static "HearDifference" "RULERS" "[I")) (.int (Int32.ofNat 21)) ∈ flatC (Jvm.Cond.and given_1 narrow_1) := by decide +kernel
theorem fx_re : ∀ j, j < 21 → Cond.eq (.elem (.static "HearDifference" "RULERS" "[I") (.int (Int32.ofNat j))) (.int (ru_.getD j 0)) ∈ flatC (Jvm.Cond.and given_1 narrow_1) := by decide +kernel
theorem fx_ls : ∀ q ∈ [("java/lang/String", "COMPACT_STRINGS", "Z"), ("HearDifference", "RULERS", "[I"), ("jdk/internal/util/Preconditions", "SIOOBE_FORMATTER", "Ljava/util/function/BiFunction;")], Cond.laysStatic q.1 q.2.1 q.2.2 ∈ tables_1 ∧ Cond.initialized q.1 ∈ tables_1 := by decide +kernel
theorem fx_sr : ∀ i, i < nk_ → Cond.stringRef "HearDifference$Reader" (kx_.getD i 0) (ks_.getD i "") ∈ tables_1 := by decide +kernel
theorem fx_ac : ∀ t ∈ [FieldType.int, FieldType.byte, FieldType.boolean], Cond.arrayClass t ∈ tables_1 := by decide +kernel
theorem w0_fst (cA : Nat → ClassId) (as : List Nat) : (w0_ cA as).map Prod.fst = (List.range 75).map (fun k => as.getD k 0) := rfl
theorem w0_len (cA : Nat → ClassId) (as : List Nat) : (w0_ cA as).length = 75 := rfl
theorem w0_ad {cA : Nat → ClassId} {as : List Nat} {k : Nat} (hk : k < 75) : ∃ q : Nat × va_E, (w0_ cA as)[k]? = some q ∧ q.1 = as.getD k 0 := by
  have hl : k < (w0_ cA as).length := by rw [w0_len]; exact hk
  refine ⟨(w0_ cA as)[k], List.getElem?_eq_getElem hl, ?_⟩
  have h1 : ((w0_ cA as).map Prod.fst)[k]? = some ((w0_ cA as)[k]).1 := by rw [List.getElem?_map, List.getElem?_eq_getElem hl]; rfl
  rw [w0_fst, List.getElem?_map, List.getElem?_range hk] at h1
  exact (Option.some.inj h1).symm
theorem lay_len : Lay.length = 75 := rfl
set_option maxRecDepth 100000 in
set_option maxHeartbeats 4000000 in
/-- the claim's walk, out of the pure fact -/
theorem start_of (hpure : ∀ E : EV, ev_L E ≤ 3072 → ∃ n, lp_L_law_18 E (fun r _ => r = 1) n 0 G0_) {p : Program} {e : Env} {s : State} {m : MethodId} {below : List Frame} {meth : Method} {c : Code} (l : Launch) {b L : Nat} {xs : Nat → Int32} (hL : L ≤ 3072) (C0 : lw_At p s m meth c b L xs) : W p l e room_1 s m #[Value.ref b] below meth c s.heap [] 0 0 (lw_Z below #[Value.ref b] s) (entryFrame m ([Value.ref b] : List Value).toArray 4) := by
  obtain ⟨hx, hb, hr, hml, hown, hts, hX, hbl, hlocks, hgv⟩ := C0
  have hTB : ∀ w ∈ TB, w.before #[Value.ref b] s = true := fun w h => hts w (List.mem_filter.mp h).1
  have htt : ∀ w ∈ tables_1, w.before #[Value.ref b] s = true := fun w h => hts w (List.mem_append_right _ h)
  have hs := flat_of_before _ hgv
  have hA0 : ∀ a : Nat, a < s.heap.size → ¬ (fun q : Nat => s.heap.size ≤ q) a := fun a h => Nat.not_le.mpr h
  obtain ⟨c0, i0, hK0⟩ := u_known (C := RX0) (T := TX0) (N := 2) (n := 2) hTB ub_X0 (hTB (.instantiable RX0 2) (tb_t (List.mem_of_getElem? (i := 69) (by decide +kernel)) rfl))
  obtain ⟨c1, i1, hK1⟩ := u_known (C := RX1) (T := TX1) (N := 1) (n := 1) hTB ub_X1 (hTB (.instantiable RX1 1) (tb_t (List.mem_of_getElem? (i := 320) (by decide +kernel)) rfl))
  obtain ⟨c2, i2, hK2⟩ := u_known (C := RX2) (T := TX2) (N := 10) (n := 10) hTB ub_X2 (hTB (.instantiable RX2 10) (tb_t (List.mem_of_getElem? (i := 249) (by decide +kernel)) rfl))
  obtain ⟨c3, i3, hK3⟩ := u_known (C := RX3) (T := TX3) (N := 4) (n := 4) hTB ub_X3 (hTB (.instantiable RX3 4) (tb_t (List.mem_of_getElem? (i := 300) (by decide +kernel)) rfl))
  obtain ⟨c4, i4, hK4⟩ := u_known (C := RX4) (T := TX4) (N := 5) (n := 5) hTB ub_X4 (hTB (.instantiable RX4 5) (tb_t (List.mem_of_getElem? (i := 40) (by decide +kernel)) rfl))
  obtain ⟨c5, i5, hK5⟩ := u_known (C := RX5) (T := TX5) (N := 6) (n := 6) hTB ub_X5 (hTB (.instantiable RX5 6) (tb_t (List.mem_of_getElem? (i := 164) (by decide +kernel)) rfl))
  obtain ⟨c6, i6, hK6⟩ := u_known (C := RX6) (T := TX6) (N := 15) (n := 15) hTB ub_X6 (hTB (.instantiable RX6 15) (tb_t (List.mem_of_getElem? (i := 190) (by decide +kernel)) rfl))
  obtain ⟨c7, i7, hK7⟩ := u_known (C := RX7) (T := TX7) (N := 2) (n := 2) hTB ub_X7 (hTB (.instantiable RX7 2) (tb_t (List.mem_of_getElem? (i := 286) (by decide +kernel)) rfl))
  obtain ⟨c8, i8, hK8⟩ := u_known (C := RX8) (T := TX8) (N := 16) (n := 16) hTB ub_X8 (hTB (.instantiable RX8 16) (tb_t (List.mem_of_getElem? (i := 31) (by decide +kernel)) rfl))
  obtain ⟨c9, i9, hK9⟩ := u_known (C := RX9) (T := TX9) (N := 12) (n := 12) hTB ub_X9 (hTB (.instantiable RX9 12) (tb_t (List.mem_of_getElem? (i := 23) (by decide +kernel)) rfl))
  obtain ⟨c10, i10, hK10⟩ := u_known (C := RX10) (T := TX10) (N := 48) (n := 48) hTB ub_X10 (hTB (.instantiable RX10 48) (tb_t (List.mem_of_getElem? (i := 949) (by decide +kernel)) rfl))
  obtain ⟨dC, dI, hKc⟩ : ∃ (dC : Nat → ClassId) (dI : Nat → Nat → Nat), ∀ (k : Nat) (q : vw_C), vwCl[k]? = some q → u_Kn s q.1 q.2.1 q.2.2 (dC k) (dI k) := by
    refine ⟨fun k => [c0, c1, c2, c3, c4, c5, c6, c7, c8, c9, c10].getD k c0, fun k => [i0, i1, i2, i3, i4, i5, i6, i7, i8, i9, i10].getD k i0, ?_⟩
    intro k q hq
    match k, hq with
    | 0, hq => cases hq; exact hK0
    | 1, hq => cases hq; exact hK1
    | 2, hq => cases hq; exact hK2
    | 3, hq => cases hq; exact hK3
    | 4, hq => cases hq; exact hK4
    | 5, hq => cases hq; exact hK5
    | 6, hq => cases hq; exact hK6
    | 7, hq => cases hq; exact hK7
    | 8, hq => cases hq; exact hK8
    | 9, hq => cases hq; exact hK9
    | 10, hq => cases hq; exact hK10
    | k + 11, hq => exact absurd (List.getElem?_eq_some_iff.mp hq).1 (by show ¬ (k + 11 < 11); omega)
  obtain ⟨cI, kI, oI, hI1, hI2, hI3⟩ := Cond.arrayClass_spec (htt (.arrayClass .int) (fx_ac _ (by decide)))
  obtain ⟨cB, kB, oB, hB1, hB2, hB3⟩ := Cond.arrayClass_spec (htt (.arrayClass .byte) (fx_ac _ (by decide)))
  obtain ⟨cZ, kZ, oZ, hZ1, hZ2, hZ3⟩ := Cond.arrayClass_spec (htt (.arrayClass .boolean) (fx_ac _ (by decide)))
  obtain ⟨cA, e0, e1, e2⟩ : ∃ cA : Nat → ClassId, cA 0 = cI ∧ cA 1 = cB ∧ cA 2 = cZ := ⟨fun t => [cI, cB, cZ].getD t cI, rfl, rfl, rfl⟩
  have hK : va_K (dC, dI) vwCl (tk_ cA) s := by
    refine ⟨hKc, fun k q hq => ?_⟩
    match k, hq with
    | 0, hq => cases hq; rw [e0]; exact ⟨fun n z => ⟨fun k h => (by cases h), kI, hI2, oI, hI3⟩, hI1⟩
    | 1, hq => cases hq; rw [e1]; exact ⟨fun n z => ⟨fun k h => (by cases h), kB, hB2, oB, hB3⟩, hB1⟩
    | 2, hq => cases hq; rw [e2]; exact ⟨fun n z => ⟨fun k h => (by cases h), kZ, hZ2, oZ, hZ3⟩, hZ1⟩
    | k + 3, hq => exact absurd (List.getElem?_eq_some_iff.mp hq).1 (by show ¬ (k + 3 < 3); omega)
  obtain ⟨aK, aV, hSt, hSe⟩ := vk_Sof (args := #[Value.ref b]) (s := s) (N := nk_) (tm := fun i => Term.string "HearDifference$Reader" (kx_.getD i 0)) (len := kl_) (byt := kb_) (A := fun q : Nat => s.heap.size ≤ q) (fun i hi => by have := (st_len i hi).2.2; omega) (fun i hi => hs _ (fx_ex i hi)) (fun i hi => hs _ (fx_co i hi)) (fun i hi => hs _ (fx_ar i hi)) (fun i hi => hs _ (fx_le i hi)) (fun i hi j hj => hs _ (fx_el i hi j hj)) (fun i j hi hj hij => (fx_ne i hi j hj hij).elim (fun h => Or.inl (hs _ h)) (fun h => Or.inr (hs _ h))) hA0
  have hcs := va_Zof (A := fun q : Nat => s.heap.size ≤ q) (htt _ (fx_ls _ (List.mem_cons_self)).1) (htt _ (fx_ls _ (List.mem_cons_self)).2) (va_eqi (hs _ fx_cs)) hA0
  obtain ⟨ru, hru, hrT⟩ := va_Tof (tm := .static "HearDifference" "RULERS" "[I") (ty := .int) (N := 21) (f := fun j => .int (ru_.getD j 0)) (A := fun q : Nat => s.heap.size ≤ q) (by decide) (hs _ fx_ra) (va_eqt (hs _ fx_rl)) (fun j hj => va_eqt (hs _ (fx_re j hj))) hA0
  have hrZ := va_Zof (A := fun q : Nat => s.heap.size ≤ q) (htt _ (fx_ls _ (List.mem_cons_of_mem _ List.mem_cons_self)).1) (htt _ (fx_ls _ (List.mem_cons_of_mem _ List.mem_cons_self)).2) hru hA0
  obtain ⟨fm, hfm⟩ : ∃ fm : Option Nat, va_Z "jdk/internal/util/Preconditions" "SIOOBE_FORMATTER" "Ljava/util/function/BiFunction;" (va_rf fm) (fun q : Nat => s.heap.size ≤ q) s s.heap := by
    rcases va_Zqof (A := fun q : Nat => s.heap.size ≤ q) (htt _ (fx_ls _ (List.mem_cons_of_mem _ (List.mem_cons_of_mem _ List.mem_cons_self))).1) (htt _ (fx_ls _ (List.mem_cons_of_mem _ (List.mem_cons_of_mem _ List.mem_cons_self))).2) (hs _ fx_fm) hA0 with h | ⟨t, h⟩
    · exact ⟨none, h⟩
    · exact ⟨some t, h⟩
  have hNF : ∀ a i b' n d h, Cond.fieldLinkNest a i b' n d h ∈ tables_1 → va_Nw (.fieldLinkNest a i b' n d h) s := fun a i b' n d h hm => va_Nw.of rfl (htt _ hm)
  have hNM : ∀ a i x h, Cond.methodLinkNest a i x h ∈ tables_1 → va_Nw (.methodLinkNest a i x h) s := fun a i x h hm => va_Nw.of rfl (htt _ hm)
  have mid : ∀ as : List Nat, KW_ (l, (dC, dI), cA) (fun p' e' s' m' args' below' meth' c' A' Qz' => p' = p ∧ e' = e ∧ s' = s ∧ m' = m ∧ args' = #[Value.ref b] ∧ below' = below ∧ meth' = meth ∧ c' = c ∧ A' = (fun q : Nat => s.heap.size ≤ q) ∧ Qz' = lw_Z below #[Value.ref b] s) mi_L_law room_1 0 0 75 8317 18 [(0, .ref b), (1, .ref (as.getD 0 0)), (2, .ref (as.getD 49 0)), (3, .int 0)] [] (w0_ cA as) (fun _ => False) := by
    intro as p' e' s' m' args' below' meth' c' A' Qz' C hp _ H locs ls hP hD hS hl
    obtain ⟨rfl, rfl, rfl, rfl, rfl, rfl, rfl, rfl, rfl, rfl⟩ := hp
    obtain ⟨E, hE⟩ : ∃ E : EV, E = (l, (dC, dI), (fun k => as.getD k 0), cA, aK, aV, ru, fm, b, L, xs) := ⟨_, rfl⟩
    have hEI : EI_ E := by
      intro i j hi hj hij
      rw [lay_len] at hi hj
      obtain ⟨q1, h1, h2⟩ := w0_ad (cA := cA) (as := as) hi
      obtain ⟨q2, h3, h4⟩ := w0_ad (cA := cA) (as := as) hj
      refine hD.1 i j q1 q2 h1 h3 ?_
      rw [h2, h4]
      rw [hE] at hij
      exact hij
    have hPw : va_P (ev_D E) vwCl (wo_ E G0_) H := by
      intro k q hk
      have hlt := (wo_get hk).1
      obtain ⟨sh, hsh⟩ : ∃ sh, Lay[k]? = some sh := ⟨_, List.getElem?_eq_getElem hlt⟩
      rw [wo_at hsh] at hk
      cases hk
      have h1 := w0_at (E := E) (H := H) (as := as) (by rw [hE]) (by rw [hE]; exact hP) k sh hsh
      have h2 : ev_ad E k = as.getD k 0 := by rw [hE]
      rw [h2]
      exact h1
    have hEX : EX_ E (fun q : Nat => s'.heap.size ≤ q) s' := by
      rw [hE]
      exact ⟨hNF, hNM, fun i hi => vk_R.of (htt _ (fx_sr i hi)) (hSe i hi), hSt, hcs, hrZ, hrT, hfm, hX, Nat.not_le.mpr hbl, hbl⟩
    have hCx : Cx_ E mi_L_law p' s' m' #[Value.ref b] c' (fun q : Nat => s'.heap.size ≤ q) := by
      refine ⟨hx, hb, hml, hown, hTB, ?_, ?_, hEI, hEX⟩
      · rw [hE]; exact hK
      · intro k hk
        rw [lay_len] at hk
        obtain ⟨q1, h1, h2⟩ := w0_ad (cA := cA) (as := as) hk
        have h3 := hD.2 k q1 h1
        rw [h2] at h3
        rw [hE]
        exact h3
    obtain ⟨n, hn⟩ := hpure E (by rw [hE]; exact hL)
    have hfin := t_L_law_18 hEI (fun r _ => r = 1) n 0 G0_ hn p' e' s' m' #[Value.ref b] below' meth' c' (fun q : Nat => s'.heap.size ≤ q) (lw_Z below' #[Value.ref b] s') hCx
    rw [hE] at hfin
    refine hfin ?_ H locs ls (by rw [← hE]; exact hPw) hS hl
    intro r G' H2 locs2 pc' ls2 st' hq hrt hP2 hS2
    obtain ⟨v, rfl, rfl⟩ := hq
    rcases hrt with ⟨v, ty, h1, h2, h3, h4, h5⟩ | ⟨h1, h3, h4, h5⟩ | ⟨a, n', h1, h3, h4, h5⟩
    · cases h4
      subst h5
      refine va_forget (fun q hq => hS2.2.2 q hq) ?_
      refine W.widen (k := 600000) (n := 7302250) (Nat.le_of_ble_eq_true rfl) (Nat.le_of_ble_eq_true rfl) ?_
      exact lw_ret hx hb hr hlocks h3
    · cases h4
    · cases h4
  rw [lg_entry_eq]
  have hl := lv_entry ([.ref b]) (n := 4) (Nat.le_of_ble_eq_true rfl)
  have hpre := law_pre (K := (l, (dC, dI), cA)) (b := b) (fun p0 q0 q1 q2 q3 q4 q5 q6 q7 q8 q9 q10 q11 q12 q13 q14 q15 q16 q17 q18 q19 q20 q21 q22 q23 q24 q25 q26 q27 q28 q29 q30 q31 q32 q33 q34 q35 q36 q37 q38 q39 q40 q41 q42 q43 q44 q45 q46 q47 p1 q48 q49 q50 q51 q52 q53 q54 q55 q56 q57 q58 q59 q60 q61 q62 q63 q64 q65 q66 q67 q68 q69 q70 q71 q72 => mid [p0, q0, q1, q2, q3, q4, q5, q6, q7, q8, q9, q10, q11, q12, q13, q14, q15, q16, q17, q18, q19, q20, q21, q22, q23, q24, q25, q26, q27, q28, q29, q30, q31, q32, q33, q34, q35, q36, q37, q38, q39, q40, q41, q42, q43, q44, q45, q46, q47, p1, q48, q49, q50, q51, q52, q53, q54, q55, q56, q57, q58, q59, q60, q61, q62, q63, q64, q65, q66, q67, q68, q69, q70, q71, q72]) p e s m #[Value.ref b] below meth c (fun q : Nat => s.heap.size ≤ q) (lw_Z below #[Value.ref b] s) ⟨hx, hb, hml, hown, hTB, hK, fun _ h => h, hNM, fun h => absurd h (by decide)⟩ ⟨rfl, rfl, rfl, rfl, rfl, rfl, rfl, rfl, rfl, rfl⟩
  exact hpre (fun ws' H locs pc' ls hq => hq.elim) s.heap [] _ (fun k q h => by simp at h) ⟨fun i j p q h => by simp at h, fun k q h => by simp at h⟩ va_S.rf hl
