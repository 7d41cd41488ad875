/-! the reference's reading beside the machine -/
def pcd_ (s : Nat) : Int32 := if s = 205 then 9 else if s = 204 then 10 else if s = 203 then 11 else 12
def rfl_ : List Nat := [11, 12, 13, 14, 22, 23, 25, 26, 27]
def RFf_ (G0 G : GS) : Prop := FR [49, 56, 57, 58, 59, 60, 61] G0 G ∧ (∀ j, j ∉ rfl_ → G 49 j = G0 49 j) ∧ (∀ l, l < 16 → G 56 l = G0 56 l ∧ G 57 l = G0 57 l ∧ G 58 l = G0 58 l) ∧ ∀ j, j < 400 → G 59 j = G0 59 j ∧ G 60 j = G0 60 j
def RP_ (w : List Nat) (c : List Cd) (ls : List (Nat × List Cd)) (G : GS) : Prop :=
  G 49 22 = nI (fl2_ ls ++ c).length ∧ (∀ j, j < (fl2_ ls ++ c).length → G 59 (400 + j) = ((fl2_ ls ++ c).getD j (0, 0)).1 ∧ G 60 (400 + j) = ((fl2_ ls ++ c).getD j (0, 0)).2) ∧ G 49 23 = nI (opn_ w) ∧ G 49 25 = nI w.length ∧ (∀ i, i < w.length → G 61 i = pcd_ (w.getD (w.length - 1 - i) 0)) ∧ ∀ l, l < ls.length → G 56 (16 + l) = nI (ls.getD l (0, [])).1 ∧ G 57 (16 + l) = nI (ed_ ls l) ∧ G 58 (16 + l) = nI (ed_ ls (l + 1))
def RTk_ (b : Nat → Nat) (T p : Nat) (G : GS) : Prop := G 49 12 = nI (tq_ b T p) ∧ G 49 11 = nI (tn_ b T (tq_ b T p)) ∧ LK_ (tK_ b T (tq_ b T p)) (tv_ b T (tq_ b T p)) G
def RS_ (b : Nat → Nat) (T : Nat) (G0 : GS) (w : List Nat) (c : List Cd) (ls : List (Nat × List Cd)) (p : Nat) (G : GS) : Prop := RFf_ G0 G ∧ RP_ w c ls G ∧ RTk_ b T p G
def SF_ (G G' : GS) : Prop := G' 56 = G 56 ∧ G' 57 = G 57 ∧ G' 58 = G 58
theorem SF_.rf (G : GS) : SF_ G G := ⟨rfl, rfl, rfl⟩
theorem SF_.tr {G G' G2 : GS} (h : SF_ G G') (h2 : SF_ G' G2) : SF_ G G2 := ⟨h2.1.trans h.1, h2.2.1.trans h.2.1, h2.2.2.trans h.2.2⟩
theorem RFf_.g49 {G0 G : GS} (h : RFf_ G0 G) {j : Nat} (v : Int32) (hj : j ∈ rfl_) : RFf_ G0 (gu_ G 49 j v) := ⟨h.1.gu _ (by decide), fun i hi => by
  show upd (G 49) j v i = _
  rw [up_miss _ _ (fun e => hi (by rw [e]; exact hj))]; exact h.2.1 i hi, h.2.2.1, h.2.2.2⟩
theorem kcl_ {b : Nat → Nat} {T q : Nat} (hb : ∀ i, i < T → b i < 256) : tK_ b T q = 0 ∨ tK_ b T q = 1 ∨ tK_ b T q = 2 ∨ tK_ b T q ∈ sgs_ ∨ (200 ≤ tK_ b T q ∧ tK_ b T q < 215) := by
  unfold tK_
  split
  · rename_i h
    split
    · rcases kf_c b q (tn_ b T q) with e | ⟨i, hi, -, e⟩ <;> omega
    · split
      · split
        · exact Or.inr (Or.inr (Or.inl rfl))
        · exact Or.inr (Or.inl rfl)
      · split
        · rename_i hs
          exact Or.inr (Or.inr (Or.inr (Or.inl (nsg_ _ (hb q h) hs).2.2.2.2)))
        · exact Or.inr (Or.inl rfl)
  · exact Or.inl rfl
theorem sgl_ : ∀ k, k ∈ sgs_ → k < 200 ∧ k ≠ 0 ∧ k ≠ 1 ∧ k ≠ 2 := by decide
section T8
variable {Q : Int32 → GS → Prop} {b : Nat → Nat} {T : Nat} {G0 G : GS} {w : List Nat} {c : List Cd} {ls : List (Nat × List Cd)} {p k v : Nat}
theorem isg_r {ch : Nat} (hk : k = 0 ∨ k = 1 ∨ k = 2 ∨ k ∈ sgs_ ∨ (200 ≤ k ∧ k < 215)) (h : LK_ k v G) (hc : ch ∈ sgs_) (h1 : k = ch → Q 1 G) (h0 : k ≠ ch → Q 0 G) : wp_X10_isSign (nI ch) G Q := by
  obtain ⟨l0, l1, l2, l3, l4⟩ := h
  have hcs := sgl_ ch hc
  unfold wp_X10_isSign
  rcases hk with e | e | e | e | e
  · rw [l0 e]; exact ⟨fun _ => h0 (by omega), fun z => absurd z (by decide)⟩
  · rw [l1 e]; exact ⟨fun _ => h0 (by omega), fun z => absurd z (by decide)⟩
  · rw [(l2 e).1]; exact ⟨fun _ => h0 (by omega), fun z => absurd z (by decide)⟩
  · have hks := sgl_ k e
    rw [(l4 e).1, (l4 e).2, nI_eq (by omega) (by omega)]
    exact ⟨fun z => absurd rfl z, fun _ => ⟨fun z => h0 z, fun z => h1 z⟩⟩
  · rw [(l3 e.1).1]; exact ⟨fun _ => h0 (by omega), fun z => absurd z (by decide)⟩
theorem iwd_r {m : Nat} (hk : k = 0 ∨ k = 1 ∨ k = 2 ∨ k ∈ sgs_ ∨ (200 ≤ k ∧ k < 215)) (h : LK_ k v G) (hm : m < 15) (h1 : k = 200 + m → Q 1 G) (h0 : k ≠ 200 + m → Q 0 G) : wp_X10_isWord (nI m) G Q := by
  obtain ⟨l0, l1, l2, l3, l4⟩ := h
  unfold wp_X10_isWord
  rcases hk with e | e | e | e | e
  · rw [l0 e]; exact ⟨fun _ => h0 (by omega), fun z => absurd z (by decide)⟩
  · rw [l1 e]; exact ⟨fun _ => h0 (by omega), fun z => absurd z (by decide)⟩
  · rw [(l2 e).1]; exact ⟨fun _ => h0 (by omega), fun z => absurd z (by decide)⟩
  · have hks := sgl_ k e
    rw [(l4 e).1]; exact ⟨fun _ => h0 (by omega), fun z => absurd z (by decide)⟩
  · rw [(l3 e.1).1, (l3 e.1).2, nI_eq (by omega) (by omega)]
    exact ⟨fun z => absurd rfl z, fun _ => ⟨fun z => h0 (by omega), fun z => h1 (by omega)⟩⟩
theorem LK_.cg {G' : GS} (h : LK_ k v G) (e13 : G' 49 13 = G 49 13) (e14 : G' 49 14 = G 49 14) : LK_ k v G' := by
  unfold LK_ at *
  rw [e13, e14]; exact h
theorem emi_r {o a : Int32} (h : RS_ b T G0 w c ls p G) (hl : (fl2_ ls ++ c).length < 400) (hQ : ∀ G', RS_ b T G0 w (c ++ [(o, a)]) ls p G' → SF_ G G' → Q 0 G') : wp_X10_emits o a G Q := by
  obtain ⟨f, ⟨p1, p2, p3, p4, p5, p6⟩, t1, t2, t3⟩ := h
  have ea : (400 : Int32) + nI (fl2_ ls ++ c).length = nI (400 + (fl2_ ls ++ c).length) := by rw [show (400 : Int32) = nI 400 from rfl, nI_add]
  have et : fl2_ ls ++ (c ++ [(o, a)]) = (fl2_ ls ++ c) ++ [(o, a)] := (List.append_assoc _ _ _).symm
  unfold wp_X10_emits
  rw [p1, ea, nI_clamp (by omega), nI_1]
  refine ⟨vp_in_nI (by omega) (by omega), hQ _ ⟨⟨?_, ?_, f.2.2.1, fun j hj => ?_⟩, ⟨?_, ?_, p3, p4, p5, p6⟩, t1, t2, t3.cg rfl rfl⟩ (SF_.rf _)⟩
  · exact ((f.1.gu _ (by decide)).gu _ (by decide)).gu _ (by decide)
  · intro j hj
    show upd (G 49) 22 _ j = _
    rw [up_miss _ _ (fun e => hj (by rw [e]; decide))]; exact f.2.1 j hj
  · show upd (G 59) _ _ j = _ ∧ upd (G 60) _ _ j = _
    rw [up_miss _ _ (by omega), up_miss _ _ (by omega)]; exact f.2.2.2 j hj
  · rw [et]
    exact congrArg nI (List.length_append (as := fl2_ ls ++ c) (bs := [(o, a)])).symm
  · rw [et]
    intro j hj
    rw [List.length_append] at hj
    have hj : j < (fl2_ ls ++ c).length + 1 := hj
    show upd (G 59) (400 + (fl2_ ls ++ c).length) o (400 + j) = _ ∧ upd (G 60) (400 + (fl2_ ls ++ c).length) a (400 + j) = _
    rw [getD_app]
    by_cases e : j = (fl2_ ls ++ c).length
    · rw [e, up_hit, up_hit, if_neg (Nat.lt_irrefl _), if_pos rfl]; exact ⟨rfl, rfl⟩
    · rw [up_miss _ _ (by omega), up_miss _ _ (by omega), if_pos (by omega)]; exact p2 j (by omega)
theorem RP_.cg {G' : GS} (h : RP_ w c ls G) (e22 : G' 49 22 = G 49 22) (e23 : G' 49 23 = G 49 23) (e25 : G' 49 25 = G 49 25) (e56 : G' 56 = G 56) (e57 : G' 57 = G 57) (e58 : G' 58 = G 58) (e59 : G' 59 = G 59) (e60 : G' 60 = G 60) (e61 : G' 61 = G 61) : RP_ w c ls G' := by
  unfold RP_ at *
  rw [e22, e23, e25, e56, e57, e58, e59, e60, e61]; exact h
/-- the next token -/
theorem rd2_r (hb : TB_ b T G0) (e10 : G0 49 10 = nI T) (h55 : G0 55 = wf_) (hp : p ≤ T) (hf : RFf_ G0 G) (hP : RP_ w c ls G) (e11 : G 49 11 = nI p) (hQ : ∀ G', RS_ b T G0 w c ls p G' → SF_ G G' → Q 0 G') : wp_X10_reads G Q := by
  have hTB : TB_ b T G := ⟨hb.1, fun i hi => by rw [hf.1 32 (by decide), hf.1 54 (by decide)]; exact hb.2 i hi⟩
  refine rds_r hTB ((hf.2.1 10 (by decide)).trans e10) ((hf.1 55 (by decide)).trans h55) hp e11 (fun G' k1 q1 q2 q3 => hQ G' ⟨⟨?_, fun j hj => ?_, fun l hl => ?_, fun j hj => ?_⟩, ?_, q1, q2, q3⟩ ⟨k1.1 56 (by decide), k1.1 57 (by decide), k1.1 58 (by decide)⟩)
  · exact hf.1.tr (k1.1.sub (by decide))
  · rw [k1.2 j (fun z => hj ((by decide : ∀ j, j ∈ [11, 12, 13, 14] → j ∈ rfl_) j z))]; exact hf.2.1 j hj
  · rw [k1.1 56 (by decide), k1.1 57 (by decide), k1.1 58 (by decide)]; exact hf.2.2.1 l hl
  · rw [k1.1 59 (by decide), k1.1 60 (by decide)]; exact hf.2.2.2 j hj
  · exact hP.cg (k1.2 22 (by decide)) (k1.2 23 (by decide)) (k1.2 25 (by decide)) (k1.1 56 (by decide)) (k1.1 57 (by decide)) (k1.1 58 (by decide)) (k1.1 59 (by decide)) (k1.1 60 (by decide)) (k1.1 61 (by decide))
theorem rd3_r (hb : TB_ b T G0) (e10 : G0 49 10 = nI T) (h55 : G0 55 = wf_) (hp : p ≤ T) (h : RS_ b T G0 w c ls p G) (hQ : ∀ G', RS_ b T G0 w c ls (tn_ b T (tq_ b T p)) G' → SF_ G G' → Q 0 G') : wp_X10_reads G Q :=
  rd2_r hb e10 h55 (tfa_ (fun i hi => (hb.2 i hi).1) hp).2.2.2.1 h.1 h.2.1 h.2.2.2.1 hQ
/-- a fault -/
def RE_ (G0 : GS) (Q : Int32 → GS → Prop) (f q : Nat) : Prop := ∀ G', RFf_ G0 G' → G' 49 26 = nI f → G' 49 27 = nI q → Q (-1) G'
theorem err_r {f : Nat} (h : RS_ b T G0 w c ls p G) (hQ : RE_ G0 Q f (tq_ b T p)) : wp_X10_errs (nI f) G Q := hQ _ ((h.1.g49 _ (by decide)).g49 _ (by decide)) rfl h.2.2.1
theorem uni_r (hb : TB_ b T G0) (e10 : G0 49 10 = nI T) (h55 : G0 55 = wf_) (hp : p ≤ T) (h : RS_ b T G0 w c ls p G) (hl : (fl2_ ls ++ c).length < 400 ∨ tK_ b T (tq_ b T p) = 0)
    (hx : ∀ x : Cd, (tK_ b T (tq_ b T p) = 2 ∧ x = (0, nI (tv_ b T (tq_ b T p)))) ∨ ((206 ≤ tK_ b T (tq_ b T p) ∧ tK_ b T (tq_ b T p) ≤ 214) ∧ x = (1, nI (tK_ b T (tq_ b T p) - 206))) → ∀ G', RS_ b T G0 w (c ++ [x]) ls (tn_ b T (tq_ b T p)) G' → SF_ G G' → Q 0 G')
    (hf : ¬ (tK_ b T (tq_ b T p) = 2 ∨ (206 ≤ tK_ b T (tq_ b T p) ∧ tK_ b T (tq_ b T p) ≤ 214)) → RE_ G0 Q 1 (tq_ b T p)) : wp_X10_readUnit G Q := by
  have hk := kcl_ (b := b) (T := T) (q := tq_ b T p) (fun i hi => (hb.2 i hi).1)
  have h2 := h
  obtain ⟨f, P, t1, t2, t3⟩ := h2
  generalize hkk : tK_ b T (tq_ b T p) = k at *
  obtain ⟨l0, l1, l2, l3, l4⟩ := t3
  have no : ¬ (k = 2 ∨ (206 ≤ k ∧ k ≤ 214)) → G 49 13 ≠ 3 → bk_X10_readUnit_22 Q 0 G := by
    intro hn h3
    exact ⟨fun z => absurd rfl z, fun _ => ⟨fun z => absurd z h3, fun _ => err_r h (hf hn)⟩⟩
  unfold wp_X10_readUnit
  rcases hk with e | e | e | e | e
  · rw [l0 e]
    exact ⟨fun _ => no (by omega) (by rw [l0 e]; decide), fun z => absurd z (by decide)⟩
  · rw [l1 e]
    exact ⟨fun _ => no (by omega) (by rw [l1 e]; decide), fun z => absurd z (by decide)⟩
  · rw [(l2 e).1]
    refine ⟨fun _ => ⟨fun z => absurd rfl z, fun _ => ⟨fun _ => ⟨fun _ => ⟨fun _ => ?_, fun z => absurd rfl z⟩, fun z => absurd rfl z⟩, fun z => absurd (l2 e).1 z⟩⟩, fun z => absurd z (by decide)⟩
    rw [(l2 e).2]
    refine emi_r h (by omega) (fun G2 r2 s2 => rd3_r hb e10 h55 hp r2 (fun G3 r3 s3 => hx _ (Or.inl ⟨e, rfl⟩) G3 r3 (s2.tr s3)))
  · have hks := sgl_ k e
    rw [(l4 e).1]
    exact ⟨fun _ => no (by omega) (by rw [(l4 e).1]; decide), fun z => absurd z (by decide)⟩
  · rw [(l3 e.1).1, (l3 e.1).2]
    have e6 : nI (k - 200) < 6 ↔ k - 200 < 6 := (nL_ (c := 6) (by omega) (by omega)).1
    rw [e6]
    refine ⟨fun z => absurd rfl z, fun _ => ⟨fun z => no (by omega) (by rw [(l3 e.1).1]; decide), fun z => ?_⟩⟩
    refine ⟨fun _ => ⟨fun z => absurd z (by decide), fun _ => ⟨fun z => absurd z (by decide), fun _ => ?_⟩⟩, fun z => absurd z (by decide)⟩
    have ev : G 49 14 - 6 = nI (k - 206) := by
      rw [(l3 e.1).2, show (6 : Int32) = nI 6 from rfl, pk_sub (by omega), show k - 200 - 6 = k - 206 by omega]
    rw [ev]
    refine emi_r h (by omega) (fun G2 r2 s2 => rd3_r hb e10 h55 hp r2 (fun G3 r3 s3 => hx _ (Or.inr ⟨by omega, rfl⟩) G3 r3 (s2.tr s3)))
end T8
