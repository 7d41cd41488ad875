def hm_ (G : GS) (i : Nat) : Nat := (G 50 i).toNatClampNeg
def ld_ (G : GS) (i : Nat) : Nat := (G 52 i + 5).toNatClampNeg
def av_ (X Y h D c hr q : Nat) : Nat → Int32 := fun k => match k with
  | 0 => nI (min X Y) - 1 | 1 => nI (max X Y) - 1 | 2 => nI (max X Y - min X Y) | 3 => nI h - 1 | 4 => nI (min (X - h + (h - X)) (Y - h + (h - Y))) | 5 => nI D | 6 => nI c | 7 => nI hr | _ => nI q
def cr_ (V q a b : Nat) : Nat := clrN (clrN (clrN V q) a) b
/-- whether q hears X and Y that a and b sing, V sounding -/
def hv_ (G : GS) (q a b V X Y : Nat) : Int32 := if G 50 q = 0 then 0 else lv_ (av_ X Y (hm_ G q) (ld_ G a + ld_ G b) (pn_ 32 (cr_ V q a b)) (hm_ G 11) q) (G 59) (G 60) (G 57) (G 58) (G 56) (G 49 16).toNatClampNeg 0
theorem hv_01 (G : GS) (q a b V X Y : Nat) : hv_ G q a b V X Y = 0 ∨ hv_ G q a b V X Y = 1 := by
  unfold hv_
  split
  · exact Or.inl rfl
  · exact lv_01 _ _ _ _ _ _ _ _
theorem clr_sw : ∀ a, a < 10 → ∀ b, b < 10 → ∀ V, V < 1024 → clrN (clrN V a) b = V &&& ((4294967295 - 2 ^ a) &&& (4294967295 - 2 ^ b)) := by
  intro a ha b hb V hV
  rw [← bn_1 a ha V hV, ← bn_1 b hb _ (by rw [bn_1 a ha V hV]; exact (bn_3 a ha V hV).1), Nat.and_assoc]
theorem cr_lt {V q a b : Nat} (hV : V < 1024) (hq : q < 10) (ha : a < 10) (hb : b < 10) : cr_ V q a b < 1024 :=
  (bn_3 b hb _ (bn_3 a ha _ (bn_3 q hq V hV).1).1).1
theorem cr_sw {V q a b : Nat} (hV : V < 1024) (hq : q < 10) (ha : a < 10) (hb : b < 10) : cr_ V q a b = cr_ V q b a := by
  have h := (bn_3 q hq V hV).1
  unfold cr_
  rw [clr_sw a ha b hb _ h, clr_sw b hb a ha _ h, Nat.and_comm (4294967295 - 2 ^ a)]
/-- it doesn't matter which of the two sings which -/
theorem hv_sw {G : GS} {q a b V X Y : Nat} (hV : V < 1024) (hq : q < 10) (ha : a < 10) (hb : b < 10) : hv_ G q a b V X Y = hv_ G q b a V Y X := by
  have e : av_ X Y (hm_ G q) (ld_ G a + ld_ G b) (pn_ 32 (cr_ V q a b)) (hm_ G 11) q = av_ Y X (hm_ G q) (ld_ G b + ld_ G a) (pn_ 32 (cr_ V q b a)) (hm_ G 11) q := by
    rw [cr_sw hV hq ha hb, Nat.add_comm (ld_ G a)]
    funext k
    unfold av_
    rw [Nat.min_comm X Y, Nat.max_comm X Y]
    split <;> first | rfl | (rw [Nat.min_comm])
  unfold hv_
  rw [e]
theorem mn_ {X Y : Nat} (hX : X < 100000) (hY : Y < 100000) : (if nI Y < nI X then nI Y else nI X) = nI (min X Y) := by
  by_cases h : Y < X
  · rw [if_pos (nI_lt h (by omega)), Nat.min_eq_right (by omega)]
  · rw [if_neg (nI_nlt (by omega) (by omega)), Nat.min_eq_left (by omega)]
theorem mx_ {X Y : Nat} (hX : X < 100000) (hY : Y < 100000) : (if nI X < nI Y then nI Y else nI X) = nI (max X Y) := by
  by_cases h : X < Y
  · rw [if_pos (nI_lt h (by omega)), Nat.max_eq_right (by omega)]
  · rw [if_neg (nI_nlt (by omega) (by omega)), Nat.max_eq_left (by omega)]
theorem shf_ {X Y : Nat} (hX : X < 100000) (hY : Y < 100000) : (nI X - 1 < nI Y - 1 ↔ X < Y) ∧ (nI X - 1 ≤ nI Y - 1 ↔ X ≤ Y) ∧ nI X - 1 - (nI Y - 1) = nI X - nI Y := by
  have a : (nI X - 1).toInt = (X : Int) - 1 := pk_sub_toInt (b := 1) (by omega) (by omega)
  have b : (nI Y - 1).toInt = (Y : Int) - 1 := pk_sub_toInt (b := 1) (by omega) (by omega)
  refine ⟨?_, ?_, by grind⟩
  · rw [iL, a, b]; omega
  · rw [iE, a, b]; omega
theorem mn1_ {X Y : Nat} (hX : X < 100000) (hY : Y < 100000) : (if nI Y - 1 < nI X - 1 then nI Y - 1 else nI X - 1) = nI (min X Y) - 1 := by
  by_cases h : Y < X
  · rw [if_pos ((shf_ hY hX).1.mpr h), Nat.min_eq_right (by omega)]
  · rw [if_neg (fun z => h ((shf_ hY hX).1.mp z)), Nat.min_eq_left (by omega)]
theorem mx1_ {X Y : Nat} (hX : X < 100000) (hY : Y < 100000) : (if nI X - 1 < nI Y - 1 then nI Y - 1 else nI X - 1) = nI (max X Y) - 1 := by
  by_cases h : X < Y
  · rw [if_pos ((shf_ hX hY).1.mpr h), Nat.max_eq_right (by omega)]
  · rw [if_neg (fun z => h ((shf_ hX hY).1.mp z)), Nat.max_eq_left (by omega)]
theorem su_ge {X Y : Nat} (hX : X < 100000) (hY : Y < 100000) (h : Y ≤ X) : 0 ≤ nI X - nI Y ∧ nI X - nI Y = nI (X - Y + (Y - X)) := by
  rw [pk_sub h]
  refine ⟨nI_le (a := 0) (by omega) (by omega), by congr 1; omega⟩
theorem su_lt {X Y : Nat} (hX : X < 100000) (hY : Y < 100000) (h : X < Y) : ¬ 0 ≤ nI X - nI Y ∧ -(nI X - nI Y) = nI (X - Y + (Y - X)) ∧ 0 - (nI X - nI Y) = nI (X - Y + (Y - X)) := by
  have e : -(nI X - nI Y) = nI (X - Y + (Y - X)) := by
    rw [Int32.neg_sub, pk_sub (by omega)]; congr 1; omega
  refine ⟨?_, e, by rw [Int32.zero_sub]; exact e⟩
  have := pk_sneg (a := X) (b := Y) (by omega) h
  grind
theorem ab_ {X Y : Nat} (hX : X < 100000) (hY : Y < 100000) : (if 0 ≤ nI X - nI Y then nI X - nI Y else 0 - (nI X - nI Y)) = nI (X - Y + (Y - X)) := by
  by_cases h : Y ≤ X
  · rw [if_pos (su_ge hX hY h).1, (su_ge hX hY h).2]
  · rw [if_neg (su_lt hX hY (by omega)).1, (su_lt hX hY (by omega)).2.2]
theorem wou_ {G : GS} {Q : Int32 → GS → Prop} {X Y : Nat} (hX : X < 100000) (hY : Y < 100000) (h : Q (nI (X - Y + (Y - X))) G) : wp_X10_without (nI X - nI Y) G Q := by
  by_cases c : Y ≤ X
  · obtain ⟨e1, e2⟩ := su_ge hX hY c
    exact ⟨fun _ => by rw [e2]; exact h, fun z => absurd e1 z⟩
  · obtain ⟨e1, e2, -⟩ := su_lt hX hY (by omega)
    exact ⟨fun z => absurd z e1, fun _ => by rw [e2]; exact h⟩
theorem ho_ {G : GS} {Q : Int32 → GS → Prop} {i h : Nat} (hi : i < 13) (e : G 50 i = nI h) (k : Q (nI h - 1) G) : wp_X10_humOf (nI i) G Q := by
  unfold wp_X10_humOf
  rw [Int32.zero_add, nI_clamp (by omega), e]
  exact ⟨vp_in_nI hi (by omega), k⟩
theorem dm_ (x y : Int32) : (x ||| y) ^^^ (-1 : Int32) = (x ^^^ (-1 : Int32)) &&& (y ^^^ (-1 : Int32)) := by
  rw [Int32.xor_neg_one, Int32.xor_neg_one, Int32.xor_neg_one]
  apply Int32.toBitVec_inj.mp
  show ~~~(x.toBitVec ||| y.toBitVec) = ~~~x.toBitVec &&& ~~~y.toBitVec
  ext i
  simp
theorem crw {V q a b : Nat} (hV : V < 1024) (hq : q < 10) (ha : a < 10) (hb : b < 10) : ((nI V &&& (((1 : Int32) <<< (nI q &&& 31)) ^^^ (-1 : Int32))) &&& (((1 : Int32) <<< (nI a &&& 31)) ^^^ (-1 : Int32))) &&& (((1 : Int32) <<< (nI b &&& 31)) ^^^ (-1 : Int32)) = nI (cr_ V q a b) := by
  rw [bc_1 hV hq, bc_1 (bn_3 q hq V hV).1 ha, bc_1 (bn_3 a ha _ (bn_3 q hq V hV).1).1 hb]
  rfl
/-- what the world says of those who hear -/
def HF_ (G : GS) (P V : Nat) : Prop := P ≤ 10 ∧ G 1 1 = nI P ∧ G 49 4 = nI P ∧ (∀ i, i < 10 → hm_ G i ≤ 61 ∧ G 50 i = nI (hm_ G i) ∧ G 2 i = nI (hm_ G i) - 1) ∧ (∀ i, i < 10 → ld_ G i ≤ 9 ∧ G 3 i = nI (ld_ G i) ∧ G 52 i = nI (ld_ G i) - 5) ∧ (hm_ G 11 ≤ 9999 ∧ G 50 11 = nI (hm_ G 11) ∧ G 1 6 = nI (hm_ G 11)) ∧ (V < 1024 ∧ G 1 4 = nI V ∧ G 49 5 = nI V ∧ ∀ i, i < 10 → V.testBit i = true → i < P ∧ hm_ G i ≠ 0) ∧ ∃ N M e, LL_ G N M e ∧ e 0 = 0 ∧ G 9 0 = nI N ∧ G 49 16 = nI N ∧ G 9 1 = nI M
theorem hf_of {G : GS} (hW : WR_ G (rs_ G) (rf_ G)) : ∃ P V, HF_ G P V := by
  obtain ⟨⟨P, hP, p1, p2⟩, ⟨V, hV, v1, v2⟩, hC, ⟨hr, hh, r1, r2⟩, hE, hF, ⟨P2, hP2, g1, hG⟩, hH, hIt, hJ, hK, ⟨N, M, e, l1, l2, l3, l4, l5, l6, l7, l8, l9, l10⟩, hVH⟩ := hW
  have hvh : ∀ i, i < 10 → V.testBit i = true → i < P ∧ hm_ G i ≠ 0 := by
    intro i hi hb
    obtain ⟨w1, w2⟩ := hVH i hi (by rw [v2, nI_clamp (by omega)]; exact hb)
    rw [p2, nI_ltI (by omega) (by omega)] at w1
    refine ⟨w1, fun z => w2 ?_⟩
    obtain ⟨h, a1, a2, -⟩ := hF i hi
    rw [a2]
    have a2 : G 50 i = nI h := a2
    unfold hm_ at z
    rw [a2, nI_clamp (by omega)] at z
    rw [z]; rfl
  refine ⟨P, V, hP, p1, p2, ?_, ?_, ?_, ⟨hV, v1, v2, hvh⟩, N, M, e, ⟨l1, l2, l8, l9, l10⟩, l7, l3, l4, l6⟩
  · intro i hi
    obtain ⟨h, a1, a2, a3⟩ := hF i hi
    have a2 : G 50 i = nI h := a2
    have e : hm_ G i = h := by unfold hm_; rw [a2, nI_clamp (by omega)]
    rw [e]
    exact ⟨a1, a2, a3⟩
  · intro i hi
    obtain ⟨d, a1, a2, a3, -⟩ := hG i hi
    have a3 : G 52 i = nI d - 5 := a3
    have e : ld_ G i = d := by unfold ld_; rw [a3, Int32.sub_add_cancel, nI_clamp (by omega)]
    rw [e]
    exact ⟨a1, a2, a3⟩
  · have r2 : G 50 11 = nI hr := r2
    have e : hm_ G 11 = hr := by unfold hm_; rw [r2, nI_clamp (by omega)]
    rw [e]
    exact ⟨hh, r2, r1⟩
theorem hf_eq {G : GS} {P V P2 : Nat} (h : HF_ G P V) (e : G 1 1 = nI P2) (h2 : P2 ≤ 10) : P2 = P := by
  obtain ⟨h1, h3, -⟩ := h
  exact (nI_eq (by omega) (by omega)).mp (e.symm.trans h3)
theorem gu_id (G : GS) (k j : Nat) : gu_ G k j (G k j) = G := by
  unfold gu_
  have : upd (G k) j (G k j) = G k := by
    funext i
    unfold upd
    by_cases h : i = j
    · rw [if_pos h, h]
    · rw [if_neg h]
  rw [this, gf_id]
section HE2
variable {Q : Int32 → GS → Prop} {G : GS} {P V V0 q a b X Y : Nat}
theorem hh_ (hF : HF_ G P V0) {i : Nat} (hi : i < P) (h1 : hm_ G i ≠ 0 → Q 1 G) (h0 : hm_ G i = 0 → Q 0 G) : wp_X8_hasHum (nI i) G Q := by
  obtain ⟨hP, p1, -, hm, -⟩ := hF
  obtain ⟨f1, f2, f3, f4, f5, -⟩ := pf_ hi hP
  obtain ⟨m1, -, m3⟩ := hm i (by omega)
  refine ⟨fun z => absurd z f1, fun _ => ⟨fun z => absurd z (by rw [p1]; exact f2), fun _ => ⟨fun z => absurd z f3, fun _ => ⟨fun z => absurd z (by decide), fun _ => ⟨f4, ?_⟩⟩⟩⟩⟩
  rw [f5, m3]
  by_cases c : hm_ G i = 0
  · rw [c]
    exact ⟨fun _ => h0 c, fun z => absurd rfl z⟩
  · refine ⟨fun z => absurd z ?_, fun _ => h1 c⟩
    obtain ⟨k, hk⟩ : ∃ k, hm_ G i = k + 1 := ⟨hm_ G i - 1, by omega⟩
    rw [hk, nI_pred]
    intro z
    exact nI_pos (n := k) (by omega) (by rw [z]; decide)
theorem rp_ {i : Nat} (hF : HF_ G P V0) (hi : i < P) (h1 : Q 1 G) : wp_X10_isPerson (nI i) G Q := by
  obtain ⟨hP, p1, p2, -⟩ := hF
  obtain ⟨f1, f2, -⟩ := pf_ hi hP
  exact ⟨fun z => absurd z f1, fun _ => ⟨fun z => absurd z (by rw [p2]; exact f2), fun _ => h1⟩⟩
theorem cpp_ {i : Nat} (hF : HF_ G P V0) (hi : i < P) (h1 : Q 1 G) : wp_X8_isPerson (nI i) G Q := by
  obtain ⟨hP, p1, p2, -⟩ := hF
  obtain ⟨f1, f2, f3, -⟩ := pf_ hi hP
  exact ⟨fun z => absurd z f1, fun _ => ⟨fun z => absurd z (by rw [p1]; exact f2), fun _ => ⟨fun z => absurd z f3, fun _ => h1⟩⟩⟩
/-- the ear attends to X and Y that a and b sing -/
def AT_ (G : GS) (a b X Y : Nat) (c : Nat → Int32) : Prop := c 2 = nI (min X Y) - 1 ∧ c 3 = nI (max X Y) - 1 ∧ c 4 = ((1 : Int32) <<< (nI a &&& 31)) ||| ((1 : Int32) <<< (nI b &&& 31)) ∧ c 5 = nI (ld_ G a + ld_ G b) ∧ c 6 = nI (hm_ G 11)
theorem at_c (hF : HF_ G P V0) (ha : a < P) (hb : b < P) (hX : X ≤ 61) (hY : Y ≤ 61) (h : ∀ c, AT_ G a b X Y c → Q 0 (gf_ G 38 c)) : wp_X2_attend (nI a) (nI b) (nI X - 1) (nI Y - 1) G Q := by
  obtain ⟨hP, p1, p2, hm, hld, ⟨hr1, hr2, hr3⟩, -⟩ := hF
  obtain ⟨-, -, -, f6, f7, -⟩ := pf_ ha hP
  obtain ⟨-, -, -, f8, f9, -⟩ := pf_ hb hP
  obtain ⟨d1, d2, -⟩ := hld a (by omega)
  obtain ⟨d3, d4, -⟩ := hld b (by omega)
  refine ⟨f6, f8, ?_⟩
  rw [f7, f9, d2, d4, nI_add, mn1_ (by omega) (by omega), mx1_ (by omega) (by omega), hr3, show gu_ G 38 2 (nI (min X Y) - 1) = gf_ G 38 (upd (G 38) 2 (nI (min X Y) - 1)) from rfl, gf_u, gf_u, gf_u, gf_u]
  exact h _ ⟨rfl, rfl, rfl, rfl, rfl⟩
theorem sng_ {i : Nat} (hi : i < 10) (ha : a < 10) (hb : b < 10) : ((((((1 : Int32) <<< (nI a &&& 31)) ||| ((1 : Int32) <<< (nI b &&& 31))) >>> (nI i &&& 31)) &&& (1 : Int32)) = (1 : Int32)) ↔ (i = a ∨ i = b) := by
  have e : ∀ q, q < 10 → (2 ^ q).testBit i = decide (i = q) := fun q hq => (by decide +kernel : ∀ q : Nat, q < 10 → ∀ i : Nat, i < 10 → ((2 : Nat) ^ q).testBit i = decide (i = q)) q hq i hi
  have l : ∀ q : Nat, q < 10 → 2 ^ q < 2 ^ 31 := fun q hq => Nat.pow_lt_pow_right (by decide) (by omega)
  rw [(bc_0 a ha).1, (bc_0 b hb).1, no_, tb_1 (Nat.or_lt_two_pow (l a ha) (l b hb)) (by omega), Nat.testBit_or, e a ha, e b hb, Bool.or_eq_true, decide_eq_true_iff, decide_eq_true_iff]
theorem sin_c {i : Nat} (hA : AT_ G a b X Y (G 38)) (hi : i < 10) (ha : a < 10) (hb : b < 10) (h1 : (i = a ∨ i = b) → Q 1 G) (h0 : ¬ (i = a ∨ i = b) → Q 0 G) : wp_X2_isSinger (nI i) G Q := by
  unfold wp_X2_isSinger
  rw [hA.2.2.1, sng_ hi ha hb]
  exact ⟨h0, h1⟩
theorem ax_ (v x y z : Int32) : v &&& ((x &&& y) &&& z) = ((v &&& z) &&& x) &&& y := by
  rw [Int32.and_comm (x &&& y) z, ← Int32.and_assoc, ← Int32.and_assoc]
set_option maxHeartbeats 2000000 in
theorem ht_c (hF : HF_ G P V0) (hA : AT_ G a b X Y (G 38)) (hq : q < P) (ha : a < P) (hb : b < P) (hV : V < 1024) (hX : X ≤ 61) (hY : Y ≤ 61) (h : ∀ c f, AT_ G a b X Y c → Q (hv_ G q a b V X Y) (gf_ (gf_ G 38 c) 39 f)) : wp_X2_hearsThem (nI q) (nI V) G Q := by
  refine hh_ hF hq (fun c => ?_) (fun c => ?_)
  · have hF' := hF
    obtain ⟨hP, p1, p2, hm, hld, ⟨hr1, hr2, hr3⟩, -, N, M, e, hL, e0, n1, n2, n3⟩ := hF
    obtain ⟨-, -, -, f4, f5, -⟩ := pf_ hq hP
    refine ⟨fun _ => ⟨f4, ?_⟩, fun z => absurd z (by decide)⟩
    obtain ⟨m1, m2, m3⟩ := hm q (by omega)
    obtain ⟨k, hk⟩ : ∃ k, hm_ G q = k + 1 := ⟨hm_ G q - 1, by omega⟩
    obtain ⟨a2, a3, a4, a5, a6⟩ := hA
    rw [a4, f5, m3, hk, dm_, dm_, ax_, crw hV (by omega) (by omega) (by omega)]
    refine bc32 (Nat.lt_of_lt_of_le (cr_lt hV (by omega) (by omega) (by omega)) (by decide)) ?_
    refine ⟨N + 1, ?_⟩
    rw [show gu_ G 38 7 (nI q) = gf_ G 38 (upd (G 38) 7 (nI q)) from rfl, gf_u, gf_u]
    generalize hc0 : upd (upd (upd (G 38) 7 (nI q)) 8 (nI (k + 1) - 1)) 9 (nI (pn_ 32 (cr_ V q a b))) = c0
    have v2 : c0 2 = nI (min X Y) - 1 := by rw [← hc0]; exact a2
    have v3 : c0 3 = nI (max X Y) - 1 := by rw [← hc0]; exact a3
    have v4 : c0 4 = ((1 : Int32) <<< (nI a &&& 31)) ||| ((1 : Int32) <<< (nI b &&& 31)) := by rw [← hc0]; exact a4
    have v5 : c0 5 = nI (ld_ G a + ld_ G b) := by rw [← hc0]; exact a5
    have v6 : c0 6 = nI (hm_ G 11) := by rw [← hc0]; exact a6
    have v7 : c0 7 = nI q := by rw [← hc0]; rfl
    have v8 : c0 8 = nI (k + 1) - 1 := by rw [← hc0]; rfl
    have v9 : c0 9 = nI (pn_ 32 (cr_ V q a b)) := by rw [← hc0]; rfl
    have hS : gf_ G 38 c0 = gu_ (gf_ (gf_ G 38 c0) 39 ((gf_ G 38 c0) 39)) 38 1 ((gf_ (gf_ G 38 c0) 39 ((gf_ G 38 c0) 39)) 38 1) := by rw [gu_id, gf_id]
    rw [hS]
    have eN : (G 49 16).toNatClampNeg = N := by rw [n2, nI_clamp (by have := hL.1; omega)]
    have hz : (0 : Int32) = nI (e 0) := by rw [e0]; rfl
    conv => arg 3; rw [hz]
    refine hl_c (G := gf_ G 38 c0) (N := N) (M := M) (e := e) (as := av_ X Y (hm_ G q) (ld_ G a + ld_ G b) (pn_ 32 (cr_ V q a b)) (hm_ G 11) q) hL n1 n3 ?_ ?_ N 0 _ _ (by omega) rfl
    · intro j hj
      have g2 : (gf_ G 38 c0) 38 2 = nI (min X Y) - 1 := v2
      have g3 : (gf_ G 38 c0) 38 3 = nI (max X Y) - 1 := v3
      have g5 : (gf_ G 38 c0) 38 5 = nI (ld_ G a + ld_ G b) := v5
      have g6 : (gf_ G 38 c0) 38 6 = nI (hm_ G 11) := v6
      have g7 : (gf_ G 38 c0) 38 7 = nI q := v7
      have g8 : (gf_ G 38 c0) 38 8 = nI (k + 1) - 1 := v8
      have g9 : (gf_ G 38 c0) 38 9 = nI (pn_ 32 (cr_ V q a b)) := v9
      rw [hk]
      rcases (show j = 0 ∨ j = 1 ∨ j = 2 ∨ j = 3 ∨ j = 4 ∨ j = 5 ∨ j = 6 ∨ j = 7 ∨ j = 8 by omega) with rfl | rfl | rfl | rfl | rfl | rfl | rfl | rfl | rfl
      · exact g2.symm
      · exact g3.symm
      · show nI (max X Y - min X Y) = (gf_ G 38 c0) 38 3 - (gf_ G 38 c0) 38 2
        rw [g2, g3, (shf_ (by omega) (by omega)).2.2, pk_sub (by omega)]
      · exact g8.symm
      · unfold ca_ av_
        rw [g2, g3, g8, (shf_ (X := max X Y) (Y := k + 1) (by omega) (by omega)).2.2, (shf_ (X := min X Y) (Y := k + 1) (by omega) (by omega)).2.2, ab_ (X := max X Y) (Y := k + 1) (by omega) (by omega), ab_ (X := min X Y) (Y := k + 1) (by omega) (by omega), mn_ (by omega) (by omega)]
        show nI (min (X - (k + 1) + ((k + 1) - X)) (Y - (k + 1) + ((k + 1) - Y))) = nI _
        refine congrArg nI ?_
        omega
      · exact g5.symm
      · exact g9.symm
      · exact g6.symm
      · exact g7.symm
    · intro f n
      have h2 := h (upd c0 1 n) f ⟨v2, v3, v4, v5, v6⟩
      unfold hv_ at h2
      rw [if_neg (by rw [m2]; exact nI_ne0 (by omega) (by omega)), eN] at h2
      have es : gu_ (gf_ (gf_ G 38 c0) 39 f) 38 1 n = gf_ (gf_ G 38 (upd c0 1 n)) 39 f := by
        show gf_ (gf_ (gf_ G 38 c0) 39 f) 38 (upd c0 1 n) = _
        rw [gf_sw _ _ _ (by decide), gf_gf]
      rw [es]
      exact h2
  · refine ⟨fun z => absurd rfl z, fun _ => ?_⟩
    have h2 := h (G 38) (G 39) hA
    unfold hv_ at h2
    obtain ⟨hP, p1, p2, hm, -⟩ := hF
    obtain ⟨-, m2, -⟩ := hm q (by omega)
    rw [m2, c, gf_id, gf_id] at h2
    exact h2
set_option maxHeartbeats 2000000 in
theorem dh_r (hF : HF_ G P V0) (hq : q < P) (ha : a < P) (hb : b < P) (hV : V < 1024) (hX : X ≤ 61) (hY : Y ≤ 61) (h : ∀ c f, Q (hv_ G q a b V X Y) (gf_ (gf_ G 62 c) 63 f)) : wp_X10_doesHear (nI q) (nI a) (nI b) (nI X - 1) (nI Y - 1) (nI V) G Q := by
  have hF' := hF
  obtain ⟨hP, p1, p2, hm, hld, ⟨hr1, hr2, hr3⟩, -, N, M, e, hL, e0, n1, n2, n3⟩ := hF
  obtain ⟨m1, m2, m3⟩ := hm q (by omega)
  obtain ⟨-, -, -, f4, f5, -⟩ := pf_ hq hP
  obtain ⟨-, -, -, f6, f7, -⟩ := pf_ ha hP
  obtain ⟨-, -, -, f8, f9, -⟩ := pf_ hb hP
  obtain ⟨d1, -, d2⟩ := hld a (by omega)
  obtain ⟨d3, -, d4⟩ := hld b (by omega)
  have eN : (G 49 16).toNatClampNeg = N := by rw [n2, nI_clamp (by have := hL.1; omega)]
  refine ho_ (by omega) m2 ?_
  by_cases c : hm_ G q = 0
  · refine ⟨fun z => absurd (by rw [c]; rfl) z, fun _ => ?_⟩
    have h2 := h (G 62) (G 63)
    unfold hv_ at h2
    rw [m2, c, gf_id, gf_id] at h2
    exact h2
  · obtain ⟨k, hk⟩ : ∃ k, hm_ G q = k + 1 := ⟨hm_ G q - 1, by omega⟩
    have m2' : G 50 q = nI (k + 1) := by rw [m2, hk]
    rw [hk]
    refine ⟨fun _ => ?_, fun z => absurd z (fun z => nI_pos (n := k) (by omega) (by rw [← nI_pred, z]; decide))⟩
    refine ho_ (by omega) m2' ?_
    rw [(shf_ (by omega) (by omega)).2.2]
    refine wou_ (by omega) (by omega) ?_
    refine ho_ (by omega) m2' ?_
    rw [(shf_ (by omega) (by omega)).2.2]
    refine wou_ (by omega) (by omega) ?_
    have fin : ∀ c5 : Nat → Int32, c5 0 = nI (min X Y) - 1 → c5 1 = nI (max X Y) - 1 → bk_X10_doesHear_78 Q (nI q) (nI a) (nI b) (nI X - 1) (nI Y - 1) (nI V) (nI (X - (k + 1) + ((k + 1) - X))) (nI (Y - (k + 1) + ((k + 1) - Y))) (c5 1) 1 (gf_ G 62 c5) := by
      intro c5 w0 w1
      refine ⟨vp_in_nI (n := 1) (by omega) (by omega), ?_⟩
      rw [show (1 : Int32).toNatClampNeg = 1 from by decide, gf_u, (shf_ (by omega) (by omega)).2.2]
      refine wou_ (by omega) (by omega) ?_
      rw [gf_u]
      refine ho_ (by omega) (h := k + 1) m2' ?_
      rw [gf_u]
      generalize hc6 : upd (upd (upd c5 1 (c5 1)) 2 (nI (X - Y + (Y - X)))) 3 (nI (k + 1) - 1) = c6
      have u0 : c6 0 = nI (min X Y) - 1 := by rw [← hc6]; exact w0
      have u1 : c6 1 = nI (max X Y) - 1 := by rw [← hc6]; exact w1
      have u2 : c6 2 = nI (X - Y + (Y - X)) := by rw [← hc6]; rfl
      have u3 : c6 3 = nI (k + 1) - 1 := by rw [← hc6]; rfl
      have fin2 : bk_X10_doesHear_124 Q (nI q) (nI a) (nI b) (nI V) (nI (min (X - (k + 1) + ((k + 1) - X)) (Y - (k + 1) + ((k + 1) - Y)))) 4 (gf_ G 62 c6) := by
        refine ⟨vp_in_nI (n := 4) (by omega) (by omega), f6, f8, ?_⟩
        rw [show (4 : Int32).toNatClampNeg = 4 from by decide, gf_u, gf_u, f7, f9, crw hV (by omega) (by omega) (by omega)]
        refine on_ (Nat.lt_of_lt_of_le (cr_lt hV (by omega) (by omega) (by omega)) (by decide)) ?_
        refine ⟨N + 1, ?_⟩
        rw [gf_u, gf_u, gf_u]
        have e52 : (gf_ G 62 c6) 52 a + (gf_ G 62 c6) 52 b + 10 = nI (ld_ G a + ld_ G b) := by
          show G 52 a + G 52 b + 10 = _
          rw [d2, d4, ← nI_add]
          generalize nI (ld_ G a) = s
          generalize nI (ld_ G b) = t
          have : s - 5 + (t - 5) + 10 = s + t + ((-5) + (-5) + 10) := by
            rw [Int32.sub_eq_add_neg, Int32.sub_eq_add_neg]
            ac_rfl
          rw [this, show ((-5 : Int32) + (-5) + 10) = 0 from by decide, Int32.add_zero]
        rw [e52]
        have e50 : ∀ c : Nat → Int32, (gf_ G 62 c) 50 11 = nI (hm_ G 11) := fun _ => hr2
        rw [e50]
        generalize hc9 : upd (upd (upd (upd (upd c6 4 (nI (min (X - (k + 1) + ((k + 1) - X)) (Y - (k + 1) + ((k + 1) - Y))))) 5 (nI (ld_ G a + ld_ G b))) 6 (nI (pn_ 32 (cr_ V q a b)))) 7 (nI (hm_ G 11))) 8 (nI q) = c9
        have hS : gf_ G 62 c9 = gf_ (gf_ G 62 c9) 63 ((gf_ G 62 c9) 63) := by rw [gf_id]
        rw [hS]
        have hc : ∀ j, j < 9 → c9 j = av_ X Y (hm_ G q) (ld_ G a + ld_ G b) (pn_ 32 (cr_ V q a b)) (hm_ G 11) q j := by
          intro j hj
          rw [hk, ← hc9]
          rcases (show j = 0 ∨ j = 1 ∨ j = 2 ∨ j = 3 ∨ j = 4 ∨ j = 5 ∨ j = 6 ∨ j = 7 ∨ j = 8 by omega) with rfl | rfl | rfl | rfl | rfl | rfl | rfl | rfl | rfl
          · exact u0
          · exact u1
          · exact u2.trans (by show nI _ = nI (max X Y - min X Y); refine congrArg nI ?_; omega)
          · exact u3
          · rfl
          · rfl
          · rfl
          · rfl
          · rfl
        have hlv : ∀ r l, l + r ≤ N → lv_ c9 (G 59) (G 60) (G 57) (G 58) (G 56) r l = lv_ (av_ X Y (hm_ G q) (ld_ G a + ld_ G b) (pn_ 32 (cr_ V q a b)) (hm_ G 11) q) (G 59) (G 60) (G 57) (G 58) (G 56) r l := by
          intro r
          induction r with
          | zero => intro l _; rfl
          | succ r ih =>
            intro l hl
            obtain ⟨-, k2, k3, -, k5, -⟩ := hL.2.2.2.2 l (by omega)
            have q1 := hL.2.2.1 l (by omega)
            have q2 := hL.2.2.2.1 (l + 1) (by omega)
            unfold lv_
            rw [ih (l + 1) (by omega), k2, k3, nI_clamp (by omega), nI_clamp (by omega), es_cg (op := G 59) (ar := G 60) (b := e l) hc _ (fun j h1 h2 => sr_co (k5 j h1 (by omega)))]
        refine hl_r (G := gf_ G 62 c9) (N := N) (M := M) (e := e) hL n2 ?_ N 0 _ (by omega) rfl
        intro f
        have h2 := h c9 f
        unfold hv_ at h2
        rw [if_neg (by rw [m2]; exact nI_ne0 (by omega) (by omega)), eN, ← hlv N 0 (by omega)] at h2
        exact h2
      refine ⟨fun c => ?_, fun c => ?_⟩
      · rw [nI_leI (by omega) (by omega)] at c
        rw [Nat.min_eq_right (by omega)] at fin2
        exact fin2
      · rw [nI_leI (by omega) (by omega)] at c
        rw [Nat.min_eq_left (by omega)] at fin2
        exact fin2
    by_cases hxy : Y ≤ X
    · have t : nI Y - 1 ≤ nI X - 1 := (shf_ (by omega) (by omega)).2.1.mpr hxy
      refine ⟨fun _ => ⟨fun _ => ?_, fun z => absurd t z⟩, fun z => absurd t z⟩
      have e3 : gu_ G 62 0 (nI Y - 1) = gu_ (gu_ G 62 0 (nI Y - 1)) 62 1 (G 62 1) := (gu_id (gu_ G 62 0 (nI Y - 1)) 62 1).symm
      have := fin (upd (upd (G 62) 0 (nI Y - 1)) 1 (nI X - 1)) (by rw [Nat.min_eq_right hxy]; rfl) (by rw [Nat.max_eq_left hxy]; rfl)
      refine ⟨vp_in_nI (n := 1) (by omega) (by omega), ?_⟩
      have e4 : ∀ v, gu_ (gf_ G 62 (upd (upd (G 62) 0 (nI Y - 1)) 1 (nI X - 1))) 62 1 v = gu_ (gu_ G 62 0 (nI Y - 1)) 62 1 v := by
        intro v
        rw [show gf_ G 62 (upd (upd (G 62) 0 (nI Y - 1)) 1 (nI X - 1)) = gu_ (gu_ G 62 0 (nI Y - 1)) 62 1 (nI X - 1) from by rw [show gu_ G 62 0 (nI Y - 1) = gf_ G 62 (upd (G 62) 0 (nI Y - 1)) from rfl, gf_u], gu_u]
      have t2 := this.2
      rw [show (1 : Int32).toNatClampNeg = 1 from by decide, e4] at t2
      exact t2
    · have t : ¬ nI Y - 1 ≤ nI X - 1 := fun z => hxy ((shf_ (by omega) (by omega)).2.1.mp z)
      refine ⟨fun z => absurd z t, fun _ => ⟨fun z => absurd z t, fun _ => ?_⟩⟩
      have := fin (upd (upd (G 62) 0 (nI X - 1)) 1 (nI Y - 1)) (by rw [Nat.min_eq_left (by omega)]; rfl) (by rw [Nat.max_eq_right (by omega)]; rfl)
      refine ⟨vp_in_nI (n := 1) (by omega) (by omega), ?_⟩
      have e4 : ∀ v, gu_ (gf_ G 62 (upd (upd (G 62) 0 (nI X - 1)) 1 (nI Y - 1))) 62 1 v = gu_ (gu_ G 62 0 (nI X - 1)) 62 1 v := by
        intro v
        rw [show gf_ G 62 (upd (upd (G 62) 0 (nI X - 1)) 1 (nI Y - 1)) = gu_ (gu_ G 62 0 (nI X - 1)) 62 1 (nI Y - 1) from by rw [show gu_ G 62 0 (nI X - 1) = gf_ G 62 (upd (G 62) 0 (nI X - 1)) from rfl, gf_u], gu_u]
      have t2 := this.2
      rw [show (1 : Int32).toNatClampNeg = 1 from by decide, e4] at t2
      exact t2
end HE2
