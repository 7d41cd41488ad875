def eS (G : GS) (c f : Nat → Int32) : GS := gf_ (gf_ G 38 c) 39 f
def rS (G : GS) (c f : Nat → Int32) : GS := gf_ (gf_ G 62 c) 63 f
def rT (G : GS) (c f g : Nat → Int32) : GS := gf_ (gf_ (gf_ G 62 c) 63 f) 64 g
theorem eS_eS (G : GS) (c f c' f' : Nat → Int32) : eS (eS G c f) c' f' = eS G c' f' := by
  unfold eS
  rw [gf_sw _ _ _ (by decide), gf_gf, gf_sw _ _ _ (by decide), gf_gf, gf_sw _ _ _ (by decide)]
theorem eS_g (G : GS) (d c f : Nat → Int32) : eS (gf_ G 38 d) c f = eS G c f := by unfold eS; rw [gf_gf]
theorem eS_id (G : GS) : eS G (G 38) (G 39) = G := by unfold eS; rw [gf_id, gf_id]
theorem rS_id (G : GS) : rS G (G 62) (G 63) = G := by unfold rS; rw [gf_id, gf_id]
theorem rS_rS (G : GS) (c f c' f' : Nat → Int32) : rS (rS G c f) c' f' = rS G c' f' := by
  unfold rS
  rw [gf_sw _ _ _ (by decide), gf_gf, gf_sw _ _ _ (by decide), gf_gf, gf_sw _ _ _ (by decide)]
theorem rT_id (G : GS) : rT G (G 62) (G 63) (G 64) = G := by unfold rT; rw [gf_id, gf_id, gf_id]
theorem rS_rT (G : GS) (c f g c' f' : Nat → Int32) : rS (rT G c f g) c' f' = rT G c' f' g := by
  show rS (gf_ (rS G c f) 64 g) c' f' = gf_ (rS G c' f') 64 g
  rw [← rS_rS G c f c' f']
  unfold rS
  rw [gf_sw _ g c' (by decide), gf_sw _ g f' (by decide)]
theorem rT_u (G : GS) (c f g : Nat → Int32) (j : Nat) (v : Int32) : gu_ (rT G c f g) 64 j v = rT G c f (upd g j v) := gf_u _ _ _ _ _
/-- whether q hears a and b -/
def hn_ (G : GS) (q V a b : Nat) : Int32 := hv_ G q a b V (hm_ G a) (hm_ G b)
theorem hn_sw {G : GS} {q a b V : Nat} (hV : V < 1024) (hq : q < 10) (ha : a < 10) (hb : b < 10) : hn_ G q V a b = hn_ G q V b a := hv_sw hV hq ha hb
section HN
variable {Q : Int32 → GS → Prop} {G : GS} {P V V0 q a b : Nat}
theorem hnw_c (hF : HF_ G P V0) (hq : q < P) (ha : a < P) (hb : b < P) (hV : V < 1024) (h : ∀ c f, Q (hn_ G q V a b) (eS G c f)) : wp_X2_hearsNow (nI q) (nI V) (nI a) (nI b) G Q := by
  have hF' := hF
  obtain ⟨hP, -, -, hm, -⟩ := hF'
  obtain ⟨-, -, -, f4, f5, -⟩ := pf_ ha hP
  obtain ⟨-, -, -, f6, f7, -⟩ := pf_ hb hP
  refine ⟨f4, f6, ?_⟩
  rw [f5, f7, (hm a (by omega)).2.2, (hm b (by omega)).2.2]
  refine at_c hF ha hb (hm a (by omega)).1 (hm b (by omega)).1 (fun d hA => ?_)
  refine ht_c (G := gf_ G 38 d) hF hA hq ha hb hV (hm a (by omega)).1 (hm b (by omega)).1 (fun c f _ => ⟨hv_01 _ _ _ _ _ _ _, ?_⟩)
  rw [gf_gf]
  exact h c f
theorem hnw_r (hF : HF_ G P V0) (hq : q < P) (ha : a < P) (hb : b < P) (hV : V < 1024) (h : ∀ c f, Q (hn_ G q V a b) (rS G c f)) : wp_X10_hearsNow (nI q) (nI a) (nI b) (nI V) G Q := by
  have hF' := hF
  obtain ⟨hP, -, -, hm, -⟩ := hF'
  refine ho_ (by omega) (hm a (by omega)).2.1 ?_
  refine ho_ (by omega) (hm b (by omega)).2.1 ?_
  exact dh_r hF hq ha hb hV (hm a (by omega)).1 (hm b (by omega)).1 (fun c f => ⟨hv_01 _ _ _ _ _ _ _, h c f⟩)
end HN
def smN (f : Nat → Nat) : Nat → Nat
  | 0 => 0
  | n + 1 => smN f n + f n
theorem smN_add (f g : Nat → Nat) : ∀ n, smN (fun i => f i + g i) n = smN f n + smN g n
  | 0 => rfl
  | n + 1 => by
    show smN (fun i => f i + g i) n + (f n + g n) = smN f n + f n + (smN g n + g n)
    rw [smN_add f g n]; omega
theorem smN_cg {f g : Nat → Nat} : ∀ n, (∀ i, i < n → f i = g i) → smN f n = smN g n
  | 0, _ => rfl
  | n + 1, h => by
    show smN f n + f n = smN g n + g n
    rw [smN_cg n (fun i hi => h i (by omega)), h n (by omega)]
/-- couples by the greater one, and by the lesser one -/
theorem sm_ex (T : Nat → Nat → Nat) : ∀ n, smN (fun a => smN (fun b => T b a) a) n = smN (fun a => smN (fun b => if a < b then T a b else 0) n) n
  | 0 => rfl
  | n + 1 => by
    show smN (fun a => smN (fun b => T b a) a) n + smN (fun b => T b n) n = smN (fun a => smN (fun b => if a < b then T a b else 0) (n + 1)) n + smN (fun b => if n < b then T n b else 0) (n + 1)
    have e1 : smN (fun b => if n < b then T n b else 0) (n + 1) = 0 := by
      have : ∀ m, m ≤ n + 1 → smN (fun b => if n < b then T n b else 0) m = 0 := by
        intro m
        induction m with
        | zero => intro _; rfl
        | succ m ih =>
          intro hm
          show smN _ m + (if n < m then T n m else 0) = 0
          rw [ih (by omega), if_neg (by omega)]
      exact this _ (Nat.le_refl _)
    have e2 : smN (fun a => smN (fun b => if a < b then T a b else 0) (n + 1)) n = smN (fun a => smN (fun b => if a < b then T a b else 0) n + T a n) n := by
      refine smN_cg n (fun i hi => ?_)
      show smN _ n + (if i < n then T i n else 0) = _
      rw [if_pos hi]
    rw [e1, e2, smN_add, sm_ex T n]
    rfl
theorem smN_le {f : Nat → Nat} {c : Nat} (h : ∀ i, f i ≤ c) : ∀ n, smN f n ≤ n * c
  | 0 => by show 0 ≤ _; omega
  | n + 1 => by
    have h1 := smN_le h n
    have h2 := h n
    show smN f n + f n ≤ _
    rw [Nat.succ_mul]; omega
theorem tb_2 {W a b : Nat} (hW : W < 1024) (ha : a < 10) (hb : b < 10) : (((nI W >>> (nI a &&& 31)) &&& (nI W >>> (nI b &&& 31))) &&& (1 : Int32) = 1) ↔ (W.testBit a = true ∧ W.testBit b = true) := by
  have hs : ∀ l, l < 32 → ((nI l &&& 31).toBitVec.smod 32).toNat = l := by decide +kernel
  rw [pk_shrN (by omega) (nI a &&& 31) a (hs a (by omega)), pk_shrN (by omega) (nI b &&& 31) b (hs b (by omega)), na_]
  have hle : W / 2 ^ a &&& W / 2 ^ b ≤ W := Nat.le_trans Nat.and_le_left (Nat.div_le_self _ _)
  rw [pk_andN (by omega) 1 (by decide)]
  have e : (W / 2 ^ a &&& W / 2 ^ b) % 2 ^ 1 = W / 2 ^ a % 2 ^ 1 &&& W / 2 ^ b % 2 ^ 1 := Nat.and_mod_two_pow
  rw [e, Nat.testBit_eq_decide_div_mod_eq, Nat.testBit_eq_decide_div_mod_eq, decide_eq_true_iff, decide_eq_true_iff, Nat.pow_one]
  rcases Nat.mod_two_eq_zero_or_one (W / 2 ^ a) with h1 | h1 <;> rcases Nat.mod_two_eq_zero_or_one (W / 2 ^ b) with h2 | h2 <;> rw [h1, h2] <;> decide
theorem tb_0 {W a : Nat} (hW : W < 1024) (ha : a < 10) : ((nI W >>> (nI a &&& 31)) &&& (1 : Int32) = 0) ↔ ¬ W.testBit a = true := by
  rw [tb_ (by omega) (by omega), Nat.testBit_eq_decide_div_mod_eq, decide_eq_true_iff]
  rcases Nat.mod_two_eq_zero_or_one (W / 2 ^ a) with h1 | h1 <;> rw [h1] <;> decide
/-- a couple that q hears, as 0 or 1 -/
def tt_ (G : GS) (q V a b : Nat) : Nat := if ((clrN V q).testBit a = true ∧ (clrN V q).testBit b = true) ∧ hn_ G q V a b = 1 then 1 else 0
theorem tt_sw {G : GS} {q V a b : Nat} (hV : V < 1024) (hq : q < 10) (ha : a < 10) (hb : b < 10) : tt_ G q V a b = tt_ G q V b a := by
  unfold tt_
  rw [hn_sw hV hq ha hb]
  simp only [and_comm (a := (clrN V q).testBit a = true)]
theorem tt_1 (G : GS) (q V a b : Nat) : tt_ G q V a b ≤ 1 := by unfold tt_; split <;> omega
def CN_ (G : GS) (q V P : Nat) : Nat := smN (fun a => smN (fun b => tt_ G q V a b) a) P
theorem CN_le (G : GS) (q V P : Nat) (hP : P ≤ 10) : CN_ G q V P ≤ 100 := by
  have h : CN_ G q V P ≤ P * 10 := by
    unfold CN_
    have : ∀ n, n ≤ 10 → smN (fun a => smN (fun b => tt_ G q V a b) a) n ≤ n * 10 := by
      intro n
      induction n with
      | zero => intro _; exact Nat.zero_le _
      | succ n ih =>
        intro hn
        have h1 := ih (by omega)
        have h2 := smN_le (f := fun b => tt_ G q V n b) (c := 1) (fun i => tt_1 G q V n i) n
        show smN _ n + smN (fun b => tt_ G q V n b) n ≤ _
        omega
    exact this P hP
  omega
theorem CN_r {G : GS} {q V P : Nat} (hP : P ≤ 10) (hq : q < 10) (hV : V < 1024) : CN_ G q V P = smN (fun a => smN (fun b => if a < b then tt_ G q V a b else 0) P) P := by
  have : CN_ G q V P = smN (fun a => smN (fun b => tt_ G q V b a) a) P := by
    unfold CN_
    refine smN_cg P (fun a ha => smN_cg a (fun b hb => ?_))
    exact tt_sw hV hq (by omega) (by omega)
  rw [this, sm_ex]
section COU
variable {Q : Int32 → GS → Prop} {G : GS} {P V V0 q : Nat}
set_option maxHeartbeats 1000000 in
theorem cou_c1 (hF : HF_ G P V0) (hq : q < P) (hV : V < 1024) {a n : Nat} (ha : a < P) {R : Int32 → Int32 → Int32 → Int32 → Int32 → GS → Prop} (h : ∀ c f, R (nI q) (nI V) (nI (n + smN (fun b => tt_ G q V a b) a)) (nI (clrN V q)) (nI (a + 1)) (eS G c f)) :
    ∀ (r b : Nat) (c f : Nat → Int32), b + r = a → lp_X2_couplesHeard_27 Q R (r + 1) (nI q) (nI V) (nI (n + smN (fun b => tt_ G q V a b) b)) (nI (clrN V q)) (nI a) (nI b) (eS G c f) := by
  have hP := hF.1
  have hW := (bn_3 q (by omega) V hV).1
  intro r
  induction r with
  | zero =>
    intro b c f hb
    have : b = a := by omega
    subst this
    refine ⟨fun _ => ?_, fun z => absurd (Int32.le_refl _) z⟩
    rw [nI_1]
    exact h c f
  | succ r ih =>
    intro b c f hb
    have hs : smN (fun b => tt_ G q V a b) (b + 1) = smN (fun b => tt_ G q V a b) b + tt_ G q V a b := rfl
    have no : tt_ G q V a b = 0 → ∀ c f, lp_X2_couplesHeard_27 Q R (r + 1) (nI q) (nI V) (nI (n + smN (fun b => tt_ G q V a b) b)) (nI (clrN V q)) (nI a) (nI b + 1) (eS G c f) := by
      intro ht c f
      have := ih (b + 1) c f (by omega)
      rw [hs, ht, Nat.add_zero] at this
      rw [nI_1]; exact this
    refine ⟨fun z => absurd z (nI_ge (by omega) (by omega)), fun _ => ?_⟩
    rw [tb_2 hW (by omega) (by omega)]
    refine ⟨fun z => no (by unfold tt_; rw [if_neg (fun y => z y.1)]) c f, fun z => ?_⟩
    refine hnw_c (G := eS G c f) hF hq ha (by omega) hV (fun c' f' => ?_)
    rw [eS_eS]
    refine ⟨fun y => no (by unfold tt_; rw [if_neg (fun x => absurd (x.2.symm.trans y) (by decide))]) c' f', fun y => ?_⟩
    have ht : tt_ G q V a b = 1 := by
      unfold tt_
      rw [if_pos ⟨z, (hv_01 G q a b V _ _).resolve_left y⟩]
    have := ih (b + 1) c' f' (by omega)
    rw [hs, ht, ← Nat.add_assoc] at this
    rw [nI_1, nI_1]; exact this
theorem cou_c (hF : HF_ G P V0) (hq : q < P) (hV : V < 1024) (h : ∀ c f, Q (nI (CN_ G q V P)) (eS G c f)) : wp_X2_couplesHeard (nI q) (nI V) G Q := by
  have hP := hF.1
  have p1 := hF.2.1
  unfold wp_X2_couplesHeard
  rw [bc_1 hV (by omega)]
  refine ⟨P + 1, ?_⟩
  have key : ∀ (r a : Nat) (c f : Nat → Int32), a + r = P → lp_X2_couplesHeard_15 Q (r + 1) (nI q) (nI V) (nI (smN (fun a => smN (fun b => tt_ G q V a b) a) a)) (nI (clrN V q)) (nI a) (eS G c f) := by
    intro r
    induction r with
    | zero =>
      intro a c f ha
      have : a = P := by omega
      subst this
      refine ⟨fun _ => h c f, fun z => absurd ?_ z⟩
      show G 1 1 ≤ nI a
      rw [p1]; exact Int32.le_refl _
    | succ r ih =>
      intro a c f ha
      refine ⟨fun z => absurd z ?_, fun _ => ⟨a + 1, ?_⟩⟩
      · show ¬ G 1 1 ≤ nI a
        rw [p1]; exact nI_ge (by omega) (by omega)
      · exact cou_c1 (n := smN (fun a => smN (fun b => tt_ G q V a b) a) a) hF hq hV (by omega) (fun c f => ih (a + 1) c f (by omega)) a 0 c f (by omega)
  have := key P 0 (G 38) (G 39) (by omega)
  rw [eS_id] at this
  exact this
/-- the words of the couples that q hears -/
def WS_ (G : GS) (q V P w : Nat) : Prop := ∃ a b, b < a ∧ a < P ∧ tt_ G q V a b = 1 ∧ w = hm_ G a - hm_ G b + (hm_ G b - hm_ G a)
end COU
