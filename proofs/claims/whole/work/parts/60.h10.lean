/-! what can be undone, entry by entry: eh hums, ed draws, eo hour, eb lines -/
def CR_ (next count : Int32) (ph pd po pb : Nat → Int32) (nx T : Nat) (eh : Nat → Nat → Nat) (ed : Nat → Int32) (eo eb : Nat → Nat) : Prop :=
  nx < 8 ∧ next = nI nx ∧ count = nI (min T 8) ∧ ∀ k, k < min T 8 → (∀ i, i < 10 → ph (10 * ((nx + 8 - min T 8 + k) % 8) + i) = nI (eh (T - min T 8 + k) i) - 1) ∧ pd ((nx + 8 - min T 8 + k) % 8) = ed (T - min T 8 + k) ∧ po ((nx + 8 - min T 8 + k) % 8) = nI (eo (T - min T 8 + k)) ∧ pb ((nx + 8 - min T 8 + k) % 8) = nI (eb (T - min T 8 + k))
def RR_ (und : Int32) (rw : Nat → Int32) (T : Nat) (eh : Nat → Nat → Nat) (ed : Nat → Int32) (eo eb : Nat → Nat) : Prop :=
  und = nI (min T 8) ∧ ∀ k, k < min T 8 → (∀ i, i < 10 → rw (13 * k + i) = nI (eh (T - min T 8 + k) i)) ∧ rw (13 * k + 12) = ed (T - min T 8 + k) ∧ rw (13 * k + 11) = nI (eo (T - min T 8 + k)) ∧ rw (13 * k + 10) = nI (eb (T - min T 8 + k))
def GD_ (V T m : Nat) (eh : Nat → Nat → Nat) (eo eb : Nat → Nat) : Prop :=
  ∀ e, e < T → (∀ i, i < 10 → eh e i ≤ 61 ∧ (V.testBit i = true → eh e i ≠ 0)) ∧ eo e ≤ 9999 ∧ eb e ≤ m ∧ ∀ e', e ≤ e' → e' < T → eb e ≤ eb e'
theorem RU_to {next count und bl : Int32} {ph pd po pb rw : Nat → Int32} {V m : Nat} (h : RU_ next count und bl ph pd po pb rw) (hm : bl = nI m) (hm1 : m ≤ 100) (hu : UV_ (nI V) und rw) (hV : V < 1024) : ∃ nx T eh ed eo eb, CR_ next count ph pd po pb nx T eh ed eo eb ∧ RR_ und rw T eh ed eo eb ∧ GD_ V T m eh eo eb := by
  obtain ⟨nx, c, bs, h1, h2, h3, h4, h5, h6, h7, h8⟩ := h
  have e8 : min c 8 = c := Nat.min_eq_left h2
  have ez : ∀ k, c - c + k = k := fun k => by omega
  have em : bs c = m := (nI_eq (by omega) (by omega)).mp (h7.symm.trans hm)
  have mono : ∀ d k, k + d ≤ c → bs k ≤ bs (k + d) := by
    intro d
    induction d with
    | zero => intro k _; exact Nat.le_refl _
    | succ d ih =>
      intro k hk
      have i1 := ih k (by omega)
      have i2 := (h8 (k + d) (by omega)).2.2.2.1
      have : k + (d + 1) = k + d + 1 := by omega
      rw [this]; omega
  refine ⟨nx, c, fun k i => (rw (13 * k + i)).toNatClampNeg, fun k => rw (13 * k + 12), fun k => (rw (13 * k + 11)).toNatClampNeg, bs, ⟨h1, h4, by rw [e8]; exact h5, fun k hk => ?_⟩, ⟨by rw [e8]; exact h6, fun k hk => ?_⟩, fun k hk => ?_⟩
  · rw [e8] at hk ⊢
    rw [ez]
    obtain ⟨b1, b2, ⟨o, b3, b4, b5⟩, b6, b7, b8⟩ := h8 k hk
    refine ⟨fun i hi => ?_, b2.symm, ?_, b8⟩
    · obtain ⟨x, x1, x2, x3⟩ := b1 i hi
      show _ = nI (rw (13 * k + i)).toNatClampNeg - 1
      rw [x3, x2, nI_clamp (by omega)]
    · show _ = nI (rw (13 * k + 11)).toNatClampNeg
      rw [b5, b4, nI_clamp (by omega)]
  · rw [e8] at hk ⊢
    rw [ez]
    obtain ⟨b1, b2, ⟨o, b3, b4, b5⟩, b6, b7, b8⟩ := h8 k hk
    refine ⟨fun i hi => ?_, rfl, ?_, b7⟩
    · obtain ⟨x, x1, x2, x3⟩ := b1 i hi
      show _ = nI (rw (13 * k + i)).toNatClampNeg
      rw [x2, nI_clamp (by omega)]
    · show _ = nI (rw (13 * k + 11)).toNatClampNeg
      rw [b4, nI_clamp (by omega)]
  · obtain ⟨b1, b2, ⟨o, b3, b4, b5⟩, b6, b7, b8⟩ := h8 k hk
    refine ⟨fun i hi => ⟨?_, fun hb z => ?_⟩, ?_, ?_, fun e' h1 h2 => ?_⟩
    · obtain ⟨x, x1, x2, x3⟩ := b1 i hi
      show (rw (13 * k + i)).toNatClampNeg ≤ 61
      rw [x2, nI_clamp (by omega)]; exact x1
    · obtain ⟨x, x1, x2, x3⟩ := b1 i hi
      refine hu k (by rw [h6, nI_clamp (by omega)]; exact hk) i hi (by rw [nI_clamp (by omega)]; exact hb) ?_
      have z : (rw (13 * k + i)).toNatClampNeg = 0 := z
      rw [x2, nI_clamp (by omega)] at z
      rw [x2, z]; rfl
    · show (rw (13 * k + 11)).toNatClampNeg ≤ 9999
      rw [b4, nI_clamp (by omega)]; exact b3
    · have := mono (c - k) k (by omega)
      rw [show k + (c - k) = c by omega, em] at this
      exact this
    · have := mono (e' - k) k (by omega)
      rw [show k + (e' - k) = e' by omega] at this
      exact this
theorem RU_of {next count und bl : Int32} {ph pd po pb rw : Nat → Int32} {V m nx T : Nat} {eh : Nat → Nat → Nat} {ed : Nat → Int32} {eo eb : Nat → Nat} (hc : CR_ next count ph pd po pb nx T eh ed eo eb) (hr : RR_ und rw T eh ed eo eb) (hg : GD_ V T m eh eo eb) (hm : bl = nI m) (hm1 : m ≤ 100) (hV : V < 1024) : RU_ next count und bl ph pd po pb rw ∧ UV_ (nI V) und rw := by
  obtain ⟨c1, c2, c3, c4⟩ := hc
  obtain ⟨r1, r2⟩ := hr
  constructor
  · refine ⟨nx, min T 8, fun k => if k = min T 8 then m else eb (T - min T 8 + k), c1, by omega, ?_, c2, c3, r1, ?_, fun k hk => ?_⟩
    · show (if min T 8 = min T 8 then m else _) ≤ 100
      rw [if_pos rfl]; exact hm1
    · show bl = nI (if min T 8 = min T 8 then m else _)
      rw [if_pos rfl]; exact hm
    · obtain ⟨g1, g2, g3, g4⟩ := hg (T - min T 8 + k) (by omega)
      obtain ⟨a1, a2, a3, a4⟩ := c4 k hk
      obtain ⟨b1, b2, b3, b4⟩ := r2 k hk
      have ek : (if k = min T 8 then m else eb (T - min T 8 + k)) = eb (T - min T 8 + k) := if_neg (by omega)
      refine ⟨fun i hi => ⟨eh (T - min T 8 + k) i, (g1 i hi).1, b1 i hi, a1 i hi⟩, b2.trans a2.symm, ⟨eo (T - min T 8 + k), g2, b3, a3⟩, ?_, ?_, ?_⟩
      · show (if k = min T 8 then m else eb (T - min T 8 + k)) ≤ if k + 1 = min T 8 then m else eb (T - min T 8 + (k + 1))
        rw [ek]
        split
        · exact g3
        · exact g4 _ (by omega) (by omega)
      · show _ = nI (if k = min T 8 then m else eb (T - min T 8 + k))
        rw [ek]; exact b4
      · show _ = nI (if k = min T 8 then m else eb (T - min T 8 + k))
        rw [ek]; exact a4
  · intro k hk i hi hb
    rw [r1, nI_clamp (by omega)] at hk
    rw [nI_clamp (by omega)] at hb
    obtain ⟨b1, -⟩ := r2 k hk
    obtain ⟨g1, -⟩ := hg (T - min T 8 + k) (by omega)
    rw [b1 i hi]
    exact nI_ne0 (by have := (g1 i hi).2 hb; omega) (by have := (g1 i hi).1; omega)
/-- an entry more -/
def at_ {α : Type} (T : Nat) (x : α) (f : Nat → α) : Nat → α := fun e => if e = T then x else f e
theorem at_h {α : Type} (T : Nat) (x : α) (f : Nat → α) : at_ T x f T = x := if_pos rfl
theorem at_n {α : Type} {T e : Nat} (x : α) (f : Nat → α) (h : e ≠ T) : at_ T x f e = f e := if_neg h
theorem GD_k {V T m o : Nat} {eh : Nat → Nat → Nat} {eo eb : Nat → Nat} {h : Nat → Nat} (hg : GD_ V T m eh eo eb) (hh : ∀ i, i < 10 → h i ≤ 61 ∧ (V.testBit i = true → h i ≠ 0)) (ho : o ≤ 9999) : GD_ V (T + 1) m (at_ T h eh) (at_ T o eo) (at_ T m eb) := by
  intro e he
  by_cases c : e = T
  · subst c
    refine ⟨fun i hi => by rw [at_h]; exact hh i hi, by rw [at_h]; exact ho, by rw [at_h]; exact Nat.le_refl _, fun e' h1 h2 => ?_⟩
    have : e' = e := by omega
    rw [this]; exact Nat.le_refl _
  · obtain ⟨g1, g2, g3, g4⟩ := hg e (by omega)
    refine ⟨fun i hi => by rw [at_n _ _ c]; exact g1 i hi, by rw [at_n _ _ c]; exact g2, by rw [at_n _ _ c]; exact g3, fun e' h1 h2 => ?_⟩
    rw [at_n _ _ c]
    by_cases c2 : e' = T
    · rw [c2, at_h]; exact g3
    · rw [at_n _ _ c2]; exact g4 e' h1 (by omega)
theorem GD_m {V T m m' : Nat} {eh : Nat → Nat → Nat} {eo eb : Nat → Nat} (hg : GD_ V T m eh eo eb) (h : m ≤ m') : GD_ V T m' eh eo eb := fun e he => by
  obtain ⟨g1, g2, g3, g4⟩ := hg e he
  exact ⟨g1, g2, by omega, g4⟩
set_option maxHeartbeats 1000000 in
theorem CR_k {next count : Int32} {ph pd po pb hm : Nat → Int32} {nx T m o : Nat} {d : Int32} {eh : Nat → Nat → Nat} {ed : Nat → Int32} {eo eb : Nat → Nat} {h : Nat → Nat} (hc : CR_ next count ph pd po pb nx T eh ed eo eb) (hh : ∀ i, i < 10 → hm i = nI (h i) - 1) :
    CR_ (next + 1 - (next + 1) / 8 * 8) (if (8 : Int32) < count + 1 then 8 else count + 1) (va_cpy hm ph 0 (10 * nx) 10) (upd pd nx d) (upd po nx (nI o)) (upd pb nx (nI m)) ((nx + 1) % 8) (T + 1) (at_ T h eh) (at_ T d ed) (at_ T o eo) (at_ T m eb) := by
  obtain ⟨c1, c2, c3, c4⟩ := hc
  subst c2 c3
  refine ⟨Nat.mod_lt _ (by omega), by rw [nI_1, rm8 (by omega)], ?_, fun k hk => ?_⟩
  · rw [nI_1]
    by_cases c : T < 8
    · rw [if_neg (show ¬ (8 : Int32) < nI (min T 8 + 1) from nI_nlt (a := 8) (b := min T 8 + 1) (by omega) (by omega))]; congr 1; omega
    · rw [if_pos (show (8 : Int32) < nI (min T 8 + 1) from nI_lt (a := 8) (b := min T 8 + 1) (by omega) (by omega)), show min (T + 1) 8 = 8 by omega]; rfl
  · by_cases c : T + 1 - min (T + 1) 8 + k = T
    · have es : ((nx + 1) % 8 + 8 - min (T + 1) 8 + k) % 8 = nx := by omega
      rw [es, c, at_h, at_h, at_h, at_h]
      refine ⟨fun i hi => ?_, up_hit _ _ _, up_hit _ _ _, up_hit _ _ _⟩
      rw [cy_in (by omega) (by omega), show 0 + (10 * nx + i - 10 * nx) = i by omega]
      exact hh i hi
    · have hk2 : k + 1 - (min (T + 1) 8 - min T 8) < min T 8 := by omega
      obtain ⟨a1, a2, a3, a4⟩ := c4 (k + 1 - (min (T + 1) 8 - min T 8)) hk2
      have es : (nx + 8 - min T 8 + (k + 1 - (min (T + 1) 8 - min T 8))) % 8 = ((nx + 1) % 8 + 8 - min (T + 1) 8 + k) % 8 := by omega
      have ee : T - min T 8 + (k + 1 - (min (T + 1) 8 - min T 8)) = T + 1 - min (T + 1) 8 + k := by omega
      have en : ((nx + 1) % 8 + 8 - min (T + 1) 8 + k) % 8 ≠ nx := by omega
      rw [es, ee] at a1 a2 a3 a4
      rw [at_n _ _ c, at_n _ _ c, at_n _ _ c, at_n _ _ c, up_miss _ _ en, up_miss _ _ en, up_miss _ _ en]
      refine ⟨fun i hi => ?_, a2, a3, a4⟩
      rw [pk_cpy_out (by omega)]
      exact a1 i hi
theorem RR_k {und : Int32} {rw f nw : Nat → Int32} {T m o : Nat} {d : Int32} {eh : Nat → Nat → Nat} {ed : Nat → Int32} {eo eb : Nat → Nat} {h : Nat → Nat} (hr : RR_ und rw T eh ed eo eb) (hh : ∀ i, i < 10 → nw i = nI (h i)) (h10 : nw 10 = nI m) (h11 : nw 11 = nI o) (h12 : nw 12 = d)
    (f1 : ∀ j, j < 13 * min (min T 8) 7 → f j = rw (j + if min T 8 = 8 then 13 else 0)) (f2 : ∀ k, k < 13 → f (13 * min (min T 8) 7 + k) = nw k) :
    RR_ (nI (min (min T 8) 7 + 1)) f (T + 1) (at_ T h eh) (at_ T d ed) (at_ T o eo) (at_ T m eb) := by
  obtain ⟨r1, r2⟩ := hr
  refine ⟨by congr 1; omega, fun k hk => ?_⟩
  by_cases c : T + 1 - min (T + 1) 8 + k = T
  · have ek : k = min (min T 8) 7 := by omega
    rw [c, at_h, at_h, at_h, at_h, ek]
    exact ⟨fun i hi => (f2 i (by omega)).trans (hh i hi), (f2 12 (by omega)).trans h12, (f2 11 (by omega)).trans h11, (f2 10 (by omega)).trans h10⟩
  · rw [at_n _ _ c, at_n _ _ c, at_n _ _ c, at_n _ _ c]
    by_cases c8 : min T 8 = 8
    · rw [if_pos c8] at f1
      obtain ⟨b1, b2, b3, b4⟩ := r2 (k + 1) (by omega)
      have ee : T - min T 8 + (k + 1) = T + 1 - min (T + 1) 8 + k := by omega
      rw [ee] at b1 b2 b3 b4
      refine ⟨fun i hi => ?_, ?_, ?_, ?_⟩
      · rw [f1 _ (by omega), ← b1 i hi]; congr 1; omega
      · rw [f1 _ (by omega), ← b2, show 13 * k + 12 + 13 = 13 * (k + 1) + 12 by omega]
      · rw [f1 _ (by omega), ← b3, show 13 * k + 11 + 13 = 13 * (k + 1) + 11 by omega]
      · rw [f1 _ (by omega), ← b4, show 13 * k + 10 + 13 = 13 * (k + 1) + 10 by omega]
    · rw [if_neg c8] at f1
      obtain ⟨b1, b2, b3, b4⟩ := r2 k (by omega)
      have ee : T - min T 8 + k = T + 1 - min (T + 1) 8 + k := by omega
      rw [ee] at b1 b2 b3 b4
      refine ⟨fun i hi => ?_, ?_, ?_, ?_⟩
      · rw [f1 _ (by omega)]; exact b1 i hi
      · rw [f1 _ (by omega)]; exact b2
      · rw [f1 _ (by omega)]; exact b3
      · rw [f1 _ (by omega)]; exact b4
/-! frames -/
def FR (L : List Nat) (G G' : GS) : Prop := ∀ k, k ∉ L → G' k = G k
theorem FR.rf (L : List Nat) (G : GS) : FR L G G := fun _ _ => rfl
theorem FR.tr {L : List Nat} {G G' G2 : GS} (h : FR L G G') (h2 : FR L G' G2) : FR L G G2 := fun k hk => (h2 k hk).trans (h k hk)
theorem FR.gf {L : List Nat} {G G' : GS} (h : FR L G G') {k : Nat} (f : Nat → Int32) (hk : k ∈ L) : FR L G (gf_ G' k f) := fun a ha => (gf_ne G' f (show a ≠ k from fun e => ha (by rw [e]; exact hk))).trans (h a ha)
theorem FR.gu {L : List Nat} {G G' : GS} (h : FR L G G') {k j : Nat} (v : Int32) (hk : k ∈ L) : FR L G (gu_ G' k j v) := h.gf _ hk
theorem FR.sub {L L2 : List Nat} {G G' : GS} (h : FR L G G') (hs : ∀ k, k ∈ L → k ∈ L2) : FR L2 G G' := fun k hk => h k (fun z => hk (hs k z))
section KEE
variable {Q : Int32 → GS → Prop} {G : GS}
set_option maxHeartbeats 1000000 in
theorem kee_c {nx T m o : Nat} {d : Int32} {eh : Nat → Nat → Nat} {ed : Nat → Int32} {eo eb : Nat → Nat} {h : Nat → Nat} (hc : CR_ (G 27 0) (G 27 1) (G 28) (G 29) (G 30) (G 31) nx T eh ed eo eb) (hh : ∀ i, i < 10 → G 2 i = nI (h i) - 1) (hd : G 1 0 = d) (ho : G 1 6 = nI o) (hm : G 12 0 = nI m)
    (hQ : ∀ G', FR [27, 28, 29, 30, 31] G G' → CR_ (G' 27 0) (G' 27 1) (G' 28) (G' 29) (G' 30) (G' 31) ((nx + 1) % 8) (T + 1) (at_ T h eh) (at_ T d ed) (at_ T o eo) (at_ T m eb) → Q 0 G') : wp_X5_keep G Q := by
  have hk := CR_k (d := d) (o := o) (m := m) hc hh
  obtain ⟨c1, c2, -⟩ := hc
  have e10 : (nI nx * (10 : Int32)) = nI (10 * nx) := by rw [show (10 : Int32) = nI 10 from rfl, pk_mul, Nat.mul_comm]
  have ecl : (nI (10 * nx)).toNatClampNeg = 10 * nx := nI_clamp (by omega)
  unfold wp_X5_keep
  rw [c2, e10, ecl, nI_clamp (by omega), hd, ho, hm]
  refine ⟨⟨by decide, nI_pos (by omega), by decide, ?_, ?_⟩, vp_in_nI (by omega) (by omega), ?_⟩
  · show (0 : Int32).toNatClampNeg + (10 : Int32).toNatClampNeg ≤ 10
    decide
  · rw [ecl, show (10 : Int32).toNatClampNeg = 10 from by decide]; omega
  · refine hQ _ ?_ ?_
    · exact ((((((FR.rf _ G).gf _ (by decide)).gu _ (by decide)).gu _ (by decide)).gu _ (by decide)).gu _ (by decide)).gu _ (by decide)
    · rw [c2] at hk
      exact hk
set_option maxHeartbeats 1000000 in
theorem kee_r {T m o : Nat} {d : Int32} {eh : Nat → Nat → Nat} {ed : Nat → Int32} {eo eb : Nat → Nat} {h : Nat → Nat} (hr : RR_ (G 49 3) (G 51) T eh ed eo eb) (hh : ∀ i, i < 10 → G 50 i = nI (h i)) (hd : G 50 12 = d) (ho : G 50 11 = nI o) (hm : G 50 10 = nI m)
    (hQ : ∀ G', FR [49, 51] G G' → (∀ j, j ≠ 3 → G' 49 j = G 49 j) → RR_ (G' 49 3) (G' 51) (T + 1) (at_ T h eh) (at_ T d ed) (at_ T o eo) (at_ T m eb) → Q 0 G') : wp_X10_keepsAhead G Q := by
  have r1 := hr.1
  generalize hu : min T 8 = u at r1
  have hu8 : u ≤ 8 := by omega
  have fin : ∀ (H : GS) (f : Nat → Int32), (∀ k, H 50 k = G 50 k) → (∀ k, k ≠ 49 → k ≠ 51 → H k = G k) → (∀ j, j ≠ 3 → H 49 j = G 49 j) → H 49 3 = nI (min u 7) → (∀ j, j < 13 * min u 7 → f j = G 51 (j + if u = 8 then 13 else 0)) →
      ∀ (r i : Nat) (f' : Nat → Int32), i + r = 13 → (∀ j, j < 13 * min u 7 → f' j = f j) → (∀ k, k < i → f' (13 * min u 7 + k) = G 50 k) → lp_X10_keepsAhead_55 Q (r + 1) (nI i) (gf_ H 51 f') := by
    intro H f g50 gk g49 g3 f1 r
    induction r with
    | zero =>
      intro i f' hi a1 a2
      have : i = 13 := by omega
      subst this
      refine ⟨fun _ => hQ _ ?_ ?_ ?_, fun z => absurd (Int32.le_refl _) z⟩
      · intro k hk
        simp only [List.mem_cons, List.not_mem_nil, or_false, not_or] at hk
        show gf_ (gf_ H 51 f') 49 _ k = G k
        rw [gf_ne _ _ hk.1, gf_ne _ _ hk.2]
        exact gk k hk.1 hk.2
      · intro j hj
        show upd (H 49) 3 _ j = G 49 j
        rw [up_miss _ _ hj]; exact g49 j hj
      · show RR_ (H 49 3 + 1) f' _ _ _ _ _
        rw [g3, nI_1]
        have := RR_k (f := f') (nw := G 50) hr hh hm ho hd (by rw [hu]; intro j hj; exact (a1 j hj).trans (f1 j hj)) (by rw [hu]; exact a2)
        rw [hu] at this
        exact this
    | succ r ih =>
      intro i f' hi a1 a2
      have e49 : (gf_ H 51 f') 49 3 = nI (min u 7) := g3
      have e50 : (gf_ H 51 f') 50 = H 50 := rfl
      have e13 : (13 : Int32) * nI (min u 7) + nI i = nI (13 * min u 7 + i) := by rw [show (13 : Int32) = nI 13 from rfl, pk_mul, nI_add]
      refine ⟨fun z => absurd z (nI_ge (b := 13) (by omega) (by omega)), fun _ => ⟨vp_in_nI (by omega) (by omega), ?_⟩⟩
      rw [e49, e13, e50, nI_clamp (by omega), nI_clamp (by omega), gf_u, nI_1, g50]
      refine ⟨vp_in_nI (by omega) (by omega), ?_⟩
      refine ih (i + 1) _ (by omega) (fun j hj => ?_) (fun k hk => ?_)
      · rw [up_miss _ _ (by omega)]; exact a1 j hj
      · by_cases c : k = i
        · rw [c, up_hit]
        · rw [up_miss _ _ (by omega)]; exact a2 k (by omega)
  refine ⟨fun z => ?_, fun z => ?_⟩
  · have hu7 : u < 8 := by
      rcases Nat.lt_or_ge u 8 with h | h
      · exact h
      · exact absurd (by rw [r1, show u = 8 by omega]; rfl) z
    have hm7 : min u 7 = u := by omega
    have := fin G (G 51) (fun _ => rfl) (fun _ _ _ => rfl) (fun _ _ => rfl) (by rw [hm7]; exact r1) (fun j hj => by rw [if_neg (by omega), Nat.add_zero]) 13 0 (G 51) (by omega) (fun _ _ => rfl) (fun k hk => absurd hk (by omega))
    rw [gf_id] at this
    exact ⟨14, this⟩
  · have hu7 : u = 8 := by
      rw [r1] at z
      exact (nI_eq (b := 8) (by omega) (by omega)).mp z
    subst hu7
    rw [z]
    have hm7 : min 8 7 = 7 := by decide
    have key : ∀ (r i : Nat) (f : Nat → Int32), i + r = 91 → (∀ j, j < i → f j = G 51 (j + 13)) → (∀ j, i ≤ j → f j = G 51 j) → lp_X10_keepsAhead_21 Q (r + 1) (nI i) (gf_ (gu_ G 49 3 7) 51 f) := by
      intro r
      induction r with
      | zero =>
        intro i f hi a1 a2
        have : i = 91 := by omega
        subst this
        refine ⟨fun _ => ⟨14, ?_⟩, fun z => absurd (by show (13 : Int32) * 7 ≤ nI 91; decide) z⟩
        exact fin (gu_ G 49 3 7) f (fun _ => rfl) (fun k h1 h2 => gf_ne _ _ h1) (fun j hj => up_miss _ _ hj) rfl (fun j hj => by rw [if_pos rfl]; exact a1 j (by omega)) 13 0 f (by omega) (fun _ _ => rfl) (fun k hk => absurd hk (by omega))
      | succ r ih =>
        intro i f hi a1 a2
        refine ⟨fun z => absurd z ?_, fun _ => ?_⟩
        · show ¬ (13 : Int32) * 7 ≤ nI i
          exact nI_ge (b := 91) (by omega) (by omega)
        have e13 : nI i + (13 : Int32) = nI (i + 13) := by rw [show (13 : Int32) = nI 13 from rfl, nI_add]
        have e51 : (gf_ (gu_ G 49 3 7) 51 f) 51 = f := rfl
        rw [e13, e51, nI_clamp (by omega), nI_clamp (by omega), gf_u, nI_1, a2 _ (by omega)]
        refine ⟨vp_in_nI (by omega) (by omega), vp_in_nI (by omega) (by omega), ?_⟩
        refine ih (i + 1) _ (by omega) (fun j hj => ?_) (fun j hj => ?_)
        · by_cases c : j = i
          · rw [c, up_hit]
          · rw [up_miss _ _ c]; exact a1 j (by omega)
        · rw [up_miss _ _ (by omega)]; exact a2 j (by omega)
    have := key 91 0 ((gu_ G 49 3 7) 51) (by omega) (fun j hj => absurd hj (by omega)) (fun _ _ => rfl)
    rw [gf_id] at this
    exact ⟨92, this⟩
end KEE
