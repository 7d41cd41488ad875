theorem rm8 {n : Nat} (hn : n < 100) : nI n - nI n / (8 : Int32) * (8 : Int32) = nI (n % 8) := pk_rem (a := n) (d := 8) (by omega) (by omega) (by omega)
theorem cy_in {f g : Nat → Int32} {sp dp n k : Nat} (h1 : dp ≤ k) (h2 : k < dp + n) : va_cpy f g sp dp n k = f (sp + (k - dp)) := pk_cpy_in h1 h2
/-- behind an undoing: the class -/
theorem gb_c {Q : Int32 → GS → Prop} {G : GS} {nx c : Nat} (h8 : nx < 8) (hc : c < 8) (e1 : G 27 0 = nI nx) (e2 : G 27 1 = nI (c + 1)) (h : ∀ f : Nat → Int32, (∀ i, i < 10 → f i = G 28 (10 * ((nx + 7) % 8) + i)) → Q 1 (gu_ (gu_ (gu_ (gf_ (gu_ (gu_ G 27 0 (nI ((nx + 7) % 8))) 27 1 (nI c)) 2 f) 1 0 (G 29 ((nx + 7) % 8))) 1 6 (G 30 ((nx + 7) % 8))) 12 0 (G 31 ((nx + 7) % 8)))) : wp_X5_goBack G Q := by
  have s1 : nI nx + (8 : Int32) - (1 : Int32) = nI (nx + 7) := by
    have e8 : (8 : Int32) = nI 8 := rfl
    rw [e8, nI_add, show nx + 8 = nx + 7 + 1 from rfl, nI_pred]
  have s2 := rm8 (n := nx + 7) (by omega)
  have hm : (nx + 7) % 8 < 8 := Nat.mod_lt _ (by omega)
  have s3 : nI ((nx + 7) % 8) * (10 : Int32) = nI (((nx + 7) % 8) * 10) := pk_mul _ 10
  have s4 : (nI ((nx + 7) % 8)).toNatClampNeg = (nx + 7) % 8 := nI_clamp (by omega)
  have s5 : (nI (((nx + 7) % 8) * 10)).toNatClampNeg = ((nx + 7) % 8) * 10 := nI_clamp (by omega)
  refine ⟨fun _ => ?_, fun z => absurd z (by rw [e2]; exact nI_ne0 (by omega) (by omega))⟩
  rw [e1, e2, s1, s2, s3, s4, s5, nI_pred]
  refine ⟨⟨nI_pos (by omega), by decide, by decide, ?_, by decide⟩, vp_in_nI hm (by omega), ?_⟩
  · rw [s5]
    have : (10 : Int32).toNatClampNeg = 10 := by decide
    omega
  · refine h _ (fun i hi => ?_)
    rw [cy_in (by omega) (by omega)]
    congr 1
    omega
theorem un_loop {Q : Int32 → GS → Prop} {G : GS} {u : Nat} (hu : u < 8) (e : G 49 3 = nI u) (h : ∀ f : Nat → Int32, (∀ i, i < 13 → f i = G 51 (13 * u + i)) → Q 1 (gf_ G 50 f)) : ∀ (r i : Nat), i + r = 13 → ∀ f : Nat → Int32, (∀ q, q < i → f q = G 51 (13 * u + q)) → lp_X10_undo_26 Q (r + 1) (nI i) (gf_ G 50 f) := by
  intro r
  induction r with
  | zero =>
    intro i hi f h1
    have e : i = 13 := by omega
    subst e
    exact ⟨fun _ => h f h1, fun z => absurd (by decide) z⟩
  | succ r ih =>
    intro i hi f h1
    have e1 : (gf_ G 50 f) 49 3 = nI u := e
    have e2 : (13 : Int32) * nI u + nI i = nI (13 * u + i) := by
      have e13 : (13 : Int32) = nI 13 := rfl
      rw [e13, pk_mul, nI_add]
    refine ⟨fun z => absurd z (nI_ge (b := 13) (by omega) (by omega)), fun _ => ?_⟩
    rw [e1, e2, nI_clamp (by omega), nI_clamp (by omega), nI_1]
    refine ⟨vp_in_nI (by omega) (by omega), vp_in_nI (by omega) (by omega), ?_⟩
    have e3 : gu_ (gf_ G 50 f) 50 i ((gf_ G 50 f) 51 (13 * u + i)) = gf_ G 50 (upd f i (G 51 (13 * u + i))) := by
      funext k
      unfold gu_ gf_
      by_cases hk : k = 50
      · subst hk; simp
      · simp [hk]
    rw [e3]
    refine ih (i + 1) (by omega) _ (fun q hq => ?_)
    by_cases hq2 : q = i
    · subst hq2; exact up_hit _ _ _
    · exact (up_miss _ _ hq2).trans (h1 q (by omega))
theorem gf_self (G : GS) (k : Nat) : gf_ G k (G k) = G := by
  funext a
  unfold gf_
  by_cases h : a = k
  · subst h; simp
  · simp [h]
section ST6
variable {G : GS} {K : Int32 → Int32 → GS → Prop}
set_option maxHeartbeats 4000000 in
theorem st_undo (hI : Inv G) (hK : ∀ r G2, Inv G2 → K r r G2) : wp_X9_undo G (fun r G1 => wp_X10_undo G1 (fun r' G2 => K r r' G2)) := by
  have hJ : Inv (gu_ G 49 0 0) := hI
  obtain ⟨⟨hA, hB, hC, hD, hE, hF, hG, ⟨n, hn, n1, n2, hb⟩, hr0⟩, hT, hfa, ⟨nx, c, bs, h8, hc8, hb1, u1, u2, u3, u4, hk⟩, hM, hW⟩ := hI
  cases c with
  | zero =>
    have z1 : nI 0 = (0 : Int32) := nI_0
    simp [wp_X9_undo, wp_X5_goBack, wp_X10_undo, u2, u3, z1, bz_, gu_ap, hK _ _ hJ]
  | succ c =>
    obtain ⟨k1, k2, ⟨ho, k3, k4, k5⟩, k6, k7, k8⟩ := hk c (by omega)
    have er : (nx + 8 - (c + 1) + c) % 8 = (nx + 7) % 8 := by omega
    rw [er] at k1 k2 k5 k8
    have ebn : bs (c + 1) = n := (nI_eq (by omega) (by omega)).mp (u4.symm.trans n1)
    refine gb_c h8 (by omega) u1 u2 (fun f hf => ⟨Or.inr rfl, ?_⟩)
    refine ⟨fun _ => ?_, fun z => absurd (show G 49 3 = 0 from z) (by rw [u3]; exact nI_ne0 (by omega) (by omega))⟩
    have e49 : ∀ z : Int32, nI (c + 1) - 1 = nI c := fun _ => nI_pred c
    generalize hG1 : gu_ (gu_ (gu_ (gf_ (gu_ (gu_ G 27 0 (nI ((nx + 7) % 8))) 27 1 (nI c)) 2 f) 1 0 (G 29 ((nx + 7) % 8))) 1 6 (G 30 ((nx + 7) % 8))) 12 0 (G 31 ((nx + 7) % 8)) = G1
    have q3 : G1 49 3 = nI (c + 1) := by rw [← hG1]; exact u3
    rw [q3, nI_pred]
    have hfin : ∀ f' : Nat → Int32, (∀ i, i < 13 → f' i = (gu_ (gu_ G1 49 0 0) 49 3 (nI c)) 51 (13 * c + i)) → K 1 1 (gf_ (gu_ (gu_ G1 49 0 0) 49 3 (nI c)) 50 f') := by
      intro f' hf'
      refine hK _ _ ?_
      have r51 : ∀ q, G1 51 q = G 51 q := by intro q; rw [← hG1]; rfl
      have f10 : f' 10 = nI (bs c) := by rw [hf' 10 (by omega)]; exact (r51 _).trans k7
      have f11 : f' 11 = nI ho := by rw [hf' 11 (by omega)]; exact (r51 _).trans k4
      have f12 : f' 12 = G 29 ((nx + 7) % 8) := by rw [hf' 12 (by omega)]; exact (r51 _).trans k2
      subst hG1
      refine ⟨⟨hA, hB, hC, ⟨ho, k3, k5, f11⟩, f12.symm, fun i hi => ?_, hG, ⟨bs c, by omega, k8, f10, fun j hj => hb j (by omega)⟩, hr0.1, hr0.2.1, hr0.2.2.1, hr0.2.2.2.1, fun i hi hbt => ⟨(hr0.2.2.2.2 i hi hbt).1, ?_⟩⟩, hT, hfa, ⟨(nx + 7) % 8, c, bs, Nat.mod_lt _ (by omega), by omega, by omega, rfl, rfl, rfl, k8, fun k hk2 => ?_⟩, hM, hW.1, fun k hk2 i hi hbt => ?_⟩
      · obtain ⟨h, h1, h2, h3⟩ := k1 i hi
        refine ⟨h, h1, ?_, (hf i hi).trans h3⟩
        exact (hf' i (by omega)).trans h2
      · show f' i ≠ 0
        rw [hf' i (by omega)]
        exact hW.2 c (by rw [u3, nI_clamp (by omega)]; omega) i hi hbt
      · obtain ⟨b1, b2, b3, b4, b5, b6⟩ := hk k (by omega)
        have er2 : ((nx + 7) % 8 + 8 - c + k) % 8 = (nx + 8 - (c + 1) + k) % 8 := by omega
        rw [er2]
        exact ⟨b1, b2, b3, b4, b5, b6⟩
      · exact hW.2 k (by rw [u3, nI_clamp (by omega)]; have hk2 : k < (nI c).toNatClampNeg := hk2; rw [nI_clamp (by omega)] at hk2; omega) i hi hbt
    have hl := un_loop (Q := fun r' G2 => K 1 r' G2) (G := gu_ (gu_ G1 49 0 0) 49 3 (nI c)) (u := c) (by omega) rfl hfin 13 0 (by omega) ((gu_ (gu_ G1 49 0 0) 49 3 (nI c)) 50) (fun q hq => absurd hq (by omega))
    rw [gf_self] at hl
    exact ⟨14, hl⟩
end ST6
