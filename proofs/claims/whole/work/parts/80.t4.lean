abbrev MS : Type := Nat × Nat × Nat × List Nat × List Cd × List (Nat × List Cd) × Nat
def acV (k v nx lw cm : Nat) (wt : List Nat) (cl : List Cd) (ls : List (Nat × List Cd)) : Nat ⊕ MS :=
  if k = 2 then .inr (5, lw, cm, wt, cl ++ [(0, nI v)], ls, nx) else if 206 ≤ k ∧ k ≤ 214 then .inr (5, lw, cm, wt, cl ++ [(1, nI (k - 206))], ls, nx) else .inl 1
def acT (k nx lw cm : Nat) (wt : List Nat) (cl : List Cd) (ls : List (Nat × List Cd)) : Nat ⊕ MS :=
  if k = 204 ∨ k = 203 then .inr (2, lw, cm, k :: (pp_ (rK_ k) wt cl).1, (pp_ (rK_ k) wt cl).2, ls, nx)
  else if k = 41 ∨ k = 59 then (if (pp_ 1 wt cl).1 = [] then (if k = 59 then .inr (0, lw, cm, [], [], ls ++ [(lw, (pp_ 1 wt cl).2)], nx) else .inl 1) else (if k = 41 then .inr (6, lw, cm, (pp_ 1 wt cl).1.tail, (pp_ 1 wt cl).2, ls, nx) else .inl 1))
  else .inl 1
def acE (k nx lw cm : Nat) (wt : List Nat) (cl : List Cd) (ls : List (Nat × List Cd)) : Nat ⊕ MS :=
  if 5 ≤ rK_ k then .inr (if k = 47 then 4 else 3, lw, cm, k :: (pp_ (rK_ k) wt cl).1, (pp_ (rK_ k) wt cl).2, ls, nx)
  else if cm = 1 then acT k nx lw cm wt cl ls
  else if rK_ k = 4 then .inr (3, lw, 1, k :: (pp_ 4 wt cl).1, (pp_ 4 wt cl).2, ls, nx)
  else .inl 1
def ac_ (k v nx aw lw cm : Nat) (wt : List Nat) (cl : List Cd) (ls : List (Nat × List Cd)) : Nat ⊕ MS := match aw with
  | 0 => if k = 200 ∨ k = 201 then (if ls.length = 16 then .inl 3 else .inr (1, k - 200, cm, wt, cl, ls, nx)) else .inl 1
  | 1 => if k = 202 then .inr (2, lw, cm, wt, cl, ls, nx) else if k = 59 then .inr (0, lw, cm, wt, [], ls ++ [(lw, cl)], nx) else .inl 1
  | 2 => if k = 205 ∨ k = 40 then (if 8 ≤ opn_ wt then .inl 3 else .inr (2, lw, cm, k :: wt, cl, ls, nx)) else acV k v nx lw 0 wt cl ls
  | 3 => acV k v nx lw cm wt cl ls
  | 4 => if k = 2 then (if v = 0 then .inl 2 else acV k v nx lw cm wt cl ls) else .inl 1
  | 5 => acE k nx lw cm wt cl ls
  | _ => acT k nx lw cm wt cl ls
/-- the machine's run: a fault and its place, or the lines -/
noncomputable def rn_ (b : Nat → Nat) (T : Nat) : Nat → MS → Option ((Nat × Nat) ⊕ List (Nat × List Cd))
  | 0, _ => none
  | n + 1, (aw, lw, cm, wt, cl, ls, p) => if tK_ b T (tq_ b T p) = 0 ∧ aw = 0 then some (.inr ls) else match ac_ (tK_ b T (tq_ b T p)) (tv_ b T (tq_ b T p)) (tn_ b T (tq_ b T p)) aw lw cm wt cl ls with
    | .inl f => some (.inl (f, tq_ b T p))
    | .inr st' => rn_ b T n st'
def fl2_ : List (Nat × List Cd) → List Cd
  | [] => []
  | x :: r => x.2 ++ fl2_ r
theorem fl2_app (x : Nat × List Cd) : ∀ l, fl2_ (l ++ [x]) = fl2_ l ++ x.2
  | [] => by show x.2 ++ [] = [] ++ x.2; rw [List.append_nil, List.nil_append]
  | y :: l => by show y.2 ++ fl2_ (l ++ [x]) = (y.2 ++ fl2_ l) ++ x.2; rw [fl2_app x l, List.append_assoc]
def dw_ (r : Nat) : List Nat → List Nat
  | [] => []
  | s :: w => if r ≤ rK_ s then dw_ r w else s :: w
theorem pp_dw {r : Nat} : ∀ (w : List Nat) (c : List Cd), (pp_ r w c).1 = dw_ r w
  | [], _ => rfl
  | s :: w, c => by
    unfold dw_
    by_cases h : r ≤ rK_ s
    · rw [pp_y h, if_pos h]; exact pp_dw w _
    · rw [pp_n h, if_neg h]
theorem dw_hr {r : Nat} (hr : 1 ≤ r) (w : List Nat) : hr_k (dw_ r w) < r := by rw [← pp_dw w []]; exact pp_hr hr w []
theorem dw_id {r : Nat} : ∀ {w : List Nat}, hr_k w < r → dw_ r w = w
  | [], _ => rfl
  | s :: w, h => if_neg (by have h : rK_ s < r := h; omega)
theorem dw_dw {r r' : Nat} (h : r' ≤ r) (w : List Nat) : dw_ r' (dw_ r w) = dw_ r' w := by
  have := congrArg Prod.fst (pp_pp h w [])
  rw [pp_dw, pp_dw, pp_dw] at this
  exact this
def MB_ (T lw cm : Nat) (wt : List Nat) (cl : List Cd) (ls : List (Nat × List Cd)) (p : Nat) : Prop :=
  lw ≤ 1 ∧ cm ≤ 1 ∧ p ≤ T ∧ okW wt ∧ opn_ wt ≤ 8 ∧ (fl2_ ls).length + cl.length + nbr_ wt ≤ p ∧ (∀ x ∈ ls, x.1 ≤ 1 ∧ (x.2 = [] ∨ tys_ x.2 [] = some [1])) ∧ ls.length ≤ 16
def TK_w (wt : List Nat) (cl : List Cd) : Prop := ∃ ks, tys_ cl [] = some ks ∧ kd_ wt ks
def MA_ (aw cm : Nat) (wt : List Nat) (cl : List Cd) (ls : List (Nat × List Cd)) : Prop := match aw with
  | 0 => wt = [] ∧ cl = []
  | 1 => wt = [] ∧ cl = [] ∧ ls.length < 16
  | 2 => ls.length < 16 ∧ hr_k wt ≤ 3 ∧ TK_w wt cl
  | 3 => ls.length < 16 ∧ TK_w wt cl ∧ wt.head? ≠ some 47 ∧ (cm = 1 ↔ hr_k (dw_ 5 wt) = 4)
  | 4 => ls.length < 16 ∧ TK_w wt cl ∧ wt.head? = some 47 ∧ (cm = 1 ↔ hr_k (dw_ 5 wt) = 4)
  | 5 => ls.length < 16 ∧ TN_ wt cl ∧ (cm = 1 ↔ hr_k (dw_ 5 wt) = 4)
  | 6 => ls.length < 16 ∧ TT_ wt cl ∧ hr_k wt ≤ 3
  | _ => False
def MV_ (T : Nat) : MS → Prop
  | (aw, lw, cm, wt, cl, ls, p) => MB_ T lw cm wt cl ls p ∧ MA_ aw cm wt cl ls
theorem okW_29 {w : List Nat} (h : okW w) (h8 : opn_ w ≤ 8) : w.length ≤ 29 := by
  obtain ⟨i1, i2, i2', i3, i4, i5⟩ := okW_len h
  have h6 : hr_k w ≤ 6 := by
    cases w with
    | nil => decide
    | cons a w => exact (by decide : ∀ a, a ∈ wsg_ → rK_ a ≤ 6) a h.1
  rcases Nat.lt_or_ge 3 (hr_k w) with c | c
  · have := i2' c; omega
  · have := i2 c; omega
theorem okW_dw {r : Nat} {w : List Nat} (h : okW w) : okW (dw_ r w) := by rw [← pp_dw w []]; exact pp_ok h
theorem dw_opn {r : Nat} (hr : 1 ≤ r) (w : List Nat) : opn_ (dw_ r w) ≤ opn_ w := by rw [← pp_dw w []]; exact (pp_cnt hr w []).2
/-- with a comparison waiting: what is settled is a truth -/
theorem pp4_t {w : List Nat} {c : List Cd} (hw : okW w) (h8 : opn_ w ≤ 8) (h4 : hr_k (dw_ 5 w) = 4) (h : TN_ w c) : TT_ (pp_ 4 w c).1 (pp_ 4 w c).2 := by
  have h1 := ppn_ (r := 5) (Nat.le_refl _) hw (okW_29 hw h8) h
  rw [← pp_pp (r := 5) (r' := 4) (by omega) w c]
  rw [pp_dw w c] at h1 ⊢
  have ho := okW_dw (r := 5) hw
  have hl := okW_29 ho (by have := dw_opn (r := 5) (by omega) w; omega)
  generalize (pp_ 5 w c).2 = c5 at h1 ⊢
  cases e : dw_ 5 w with
  | nil => rw [e] at h4; exact absurd h4 (by decide)
  | cons s w2 =>
    rw [e] at h1 ho hl h4
    have h4 : rK_ s = 4 := h4
    have := pop_c ho hl h4 h1
    rw [pp_y (show 4 ≤ rK_ s by omega), pp_id (by omega)]
    · exact this
    · have k2 := ho.2.1
      have : cap_ s = 3 := (by decide : ∀ s, s ∈ wsg_ → rK_ s = 4 → cap_ s = 3) s ho.1 h4
      omega
theorem pp4_n {w : List Nat} {c : List Cd} (hw : okW w) (h8 : opn_ w ≤ 8) (h4 : ¬ hr_k (dw_ 5 w) = 4) (h : TN_ w c) : TN_ (pp_ 4 w c).1 (pp_ 4 w c).2 ∧ pp_ 4 w c = pp_ 5 w c := by
  have h1 := ppn_ (r := 5) (Nat.le_refl _) hw (okW_29 hw h8) h
  have e : pp_ 4 w c = pp_ 5 w c := by
    rw [← pp_pp (r := 5) (r' := 4) (by omega) w c, pp_dw, pp_id (by omega)]
    · rw [← pp_dw w c]
    · have := dw_hr (r := 5) (by omega) w; omega
  rw [e]; exact ⟨h1, rfl⟩
theorem hr_dw3 {w : List Nat} (hw : okW w) : hr_k (dw_ 4 w) ≤ 3 := by have := dw_hr (r := 4) (by omega) w; omega
section ACI
variable {T k v nx lw cm p : Nat} {wt : List Nat} {cl : List Cd} {ls : List (Nat × List Cd)} {st' : MS}
theorem acV_inv {c0 : Prop} (h : MB_ T lw cm wt cl ls p) (hl : ls.length < 16) (ht : TK_w wt cl) (h47 : wt.head? = some 47 → k = 2 ∧ v ≠ 0) (hc : cm = 1 ↔ hr_k (dw_ 5 wt) = 4) (hk : k ≠ 0 → p < nx) (hnx : nx ≤ T) (hv : k = 2 → v ≤ 9999) (e : acV k v nx lw cm wt cl ls = .inr st') : MV_ T st' := by
  obtain ⟨a2, a3, a4, a5, a6, a7, a8, a9⟩ := h
  obtain ⟨ks, t1, t2⟩ := ht
  have hkl := kd_len t2
  have hw29 := okW_29 a5 a6
  unfold acV at e
  by_cases k2 : k = 2
  · rw [if_pos k2] at e
    have e := Sum.inr.inj e
    subst e
    have hp := hk (by omega)
    refine ⟨⟨a2, a3, hnx, a5, a6, ?_, a8, a9⟩, hl, ⟨if nI v = 0 then 0 else 2, ks, tys_app (ty1_of rfl ?_) cl [] t1, ?_, fun z => ?_, t2⟩, hc⟩
    · rw [List.length_append]
      show (fl2_ ls).length + (cl.length + 1) + nbr_ wt ≤ nx
      omega
    · show ks.length + 1 ≤ 30; omega
    · split <;> omega
    · rw [if_neg (nI_ne0 (by have := (h47 z).2; omega) (by have := hv k2; omega))]
  · rw [if_neg k2] at e
    by_cases k3 : 206 ≤ k ∧ k ≤ 214
    · rw [if_pos k3] at e
      have e := Sum.inr.inj e
      subst e
      have hp := hk (by omega)
      refine ⟨⟨a2, a3, hnx, a5, a6, ?_, a8, a9⟩, hl, ⟨0, ks, tys_app (ty1_of rfl ?_) cl [] t1, by omega, fun z => absurd (h47 z).1 k2, t2⟩, hc⟩
      · rw [List.length_append]
        show (fl2_ ls).length + (cl.length + 1) + nbr_ wt ≤ nx
        omega
      · show ks.length + 1 ≤ 30; omega
    · rw [if_neg k3] at e
      exact absurd e (by simp)
/-- a sign is held -/
theorem push_ {w : List Nat} {c : List Cd} {cm2 : Nat} (h : MB_ T lw cm wt cl ls p) (hk : k ≠ 0 → p < nx) (hnx : nx ≤ T) (k1 : k ∈ wsg_) (k40 : k ≠ 40) (k205 : k ≠ 205) (ho : okW w) (hc : hr_k w ≤ cap_ k) (hop : opn_ w ≤ opn_ wt) (hcn : c.length + nbr_ w = cl.length + nbr_ wt) (hm : cm2 ≤ 1) : MB_ T lw cm2 (k :: w) c ls nx := by
  obtain ⟨a2, a3, a4, a5, a6, a7, a8, a9⟩ := h
  have hp := hk (fun z => by rw [z] at k1; exact absurd k1 (by decide))
  refine ⟨a2, hm, hnx, ⟨k1, hc, ho⟩, ?_, ?_, a8, a9⟩
  · show (if k = 205 ∨ k = 40 then 1 else 0) + opn_ w ≤ 8
    rw [if_neg (fun z => z.elim k205 k40)]
    omega
  · show (fl2_ ls).length + c.length + ((if k = 40 then 0 else 1) + nbr_ w) ≤ nx
    rw [if_neg k40]; omega
theorem kd_pushn {w r : List Nat} {x : Nat} (hx : x ≠ 1) (hs : k ≠ 205 ∧ k ≠ 40 ∧ k ≠ 203 ∧ k ≠ 204) (h : kd_ w r) : kd_ (k :: w) (x :: r) := by
  unfold kd_
  rw [if_neg (by omega)]
  exact ⟨x, r, rfl, by rw [if_neg (by omega)]; exact hx, h⟩
theorem kd_pusht {w r : List Nat} (hs : k = 203 ∨ k = 204) (h : kd_ w r) : kd_ (k :: w) (1 :: r) := by
  unfold kd_
  rw [if_neg (by omega)]
  exact ⟨1, r, rfl, by rw [if_pos hs], h⟩
theorem rk5 : ∀ k, k < 300 → 5 ≤ rK_ k → k ∈ wsg_ ∧ k ≠ 40 ∧ k ≠ 205 ∧ k ≠ 203 ∧ k ≠ 204 ∧ cap_ k + 1 = rK_ k ∧ (k = 47 ↔ ¬ (k = 43 ∨ k = 45 ∨ k = 42)) := by decide +kernel
theorem rk4 : ∀ k, k < 300 → rK_ k = 4 → k ∈ wsg_ ∧ k ≠ 40 ∧ k ≠ 205 ∧ k ≠ 203 ∧ k ≠ 204 ∧ cap_ k = 3 ∧ k ≠ 47 := by decide +kernel
theorem acT_inv (h : MB_ T lw cm wt cl ls p) (hl : ls.length < 16) (ht : TT_ (pp_ 3 wt cl).1 (pp_ 3 wt cl).2) (hk : k ≠ 0 → p < nx) (hnx : nx ≤ T) (e : acT k nx lw cm wt cl ls = .inr st') : MV_ T st' := by
  have hB := h
  obtain ⟨a2, a3, a4, a5, a6, a7, a8, a9⟩ := h
  have o3 := pp_ok (r := 3) (c := cl) a5
  have n3 := pp_cnt (r := 3) (by omega) wt cl
  have l3 : (pp_ 3 wt cl).1.length ≤ 29 := okW_29 o3 (by omega)
  have h3 := pp_hr (r := 3) (by omega) wt cl
  have red : ∀ r, 1 ≤ r → r ≤ 3 → TT_ (pp_ r wt cl).1 (pp_ r wt cl).2 := fun r r1 r2 => by
    rw [← pp_pp (r := 3) (r' := r) r2 wt cl]
    exact ppt_ r1 o3 l3 (by omega) ht
  unfold acT at e
  by_cases k1 : k = 204 ∨ k = 203
  · rw [if_pos k1] at e
    have e := Sum.inr.inj e
    subst e
    have hr : (k = 204 → rK_ k = 2 ∧ cap_ k = 1) ∧ (k = 203 → rK_ k = 1 ∧ cap_ k = 0) := ⟨fun z => by rw [z]; decide, fun z => by rw [z]; decide⟩
    have hkk : k ∈ wsg_ := by rcases k1 with z | z <;> rw [z] <;> decide
    have hrk : 1 ≤ rK_ k ∧ rK_ k ≤ 3 ∧ cap_ k + 1 = rK_ k := by rcases k1 with z | z <;> rw [z] <;> decide
    have hh := pp_hr (r := rK_ k) hrk.1 wt cl
    have hcn := pp_cnt (r := rK_ k) hrk.1 wt cl
    refine ⟨push_ hB hk hnx hkk (by omega) (by omega) (pp_ok a5) (by omega) hcn.2 hcn.1 a3, hl, ?_, ?_⟩
    · show rK_ k ≤ 3; omega
    · obtain ⟨r, t1, t2⟩ := red (rK_ k) hrk.1 hrk.2.1
      exact ⟨1 :: r, t1, kd_pusht (by omega) t2⟩
  · rw [if_neg k1] at e
    by_cases k2 : k = 41 ∨ k = 59
    · rw [if_pos k2] at e
      have hp := hk (by omega)
      have hcn := pp_cnt (r := 1) (by omega) wt cl
      have h1 := pp_hr (r := 1) (by omega) wt cl
      have o1 := pp_ok (r := 1) (c := cl) a5
      obtain ⟨r, t1, t2⟩ := red 1 (by omega) (by omega)
      by_cases k3 : (pp_ 1 wt cl).1 = []
      · rw [if_pos k3] at e
        by_cases k4 : k = 59
        · rw [if_pos k4] at e
          have e := Sum.inr.inj e
          subst e
          rw [k3] at hcn t2
          have t2 : r = [] := t2
          refine ⟨⟨a2, a3, hnx, trivial, Nat.zero_le _, ?_, fun x hx => ?_, ?_⟩, rfl, rfl⟩
          · rw [fl2_app, List.length_append]
            show (fl2_ ls).length + (pp_ 1 wt cl).2.length + 0 + 0 ≤ nx
            have : (pp_ 1 wt cl).2.length + 0 = cl.length + nbr_ wt := hcn.1
            omega
          · rcases List.mem_append.mp hx with z | z
            · exact a8 x z
            · rw [List.mem_singleton] at z
              rw [z]
              rw [t2] at t1
              exact ⟨a2, Or.inr t1⟩
          · rw [List.length_append]
            show ls.length + 1 ≤ 16
            omega
        · rw [if_neg k4] at e
          exact absurd e (by simp)
      · rw [if_neg k3] at e
        by_cases k4 : k = 41
        · rw [if_pos k4] at e
          have e := Sum.inr.inj e
          subst e
          generalize (pp_ 1 wt cl).2 = c1 at *
          cases ew : (pp_ 1 wt cl).1 with
          | nil => exact absurd ew k3
          | cons s w =>
            rw [ew] at h1 o1 hcn t2
            have hs : s = 40 := by
              rcases ws_cases o1.1 with y | y | y | y | y | y | y | y | y | y | y <;> subst y <;> first | rfl | (exfalso; revert h1; show ¬ rK_ _ < 1; decide)
            subst hs
            have t2 : kd_ w r := by
              unfold kd_ at t2
              rw [if_pos (Or.inr rfl)] at t2
              exact t2
            have hop : 1 + opn_ w ≤ opn_ wt := hcn.2
            have hnb : c1.length + (0 + nbr_ w) = cl.length + nbr_ wt := hcn.1
            refine ⟨⟨a2, a3, hnx, o1.2.2, by show opn_ w ≤ 8; omega, ?_, a8, a9⟩, hl, ⟨r, t1, t2⟩, ?_⟩
            · show (fl2_ ls).length + c1.length + nbr_ w ≤ nx
              omega
            · exact o1.2.1
        · rw [if_neg k4] at e
          exact absurd e (by simp)
    · rw [if_neg k2] at e
      exact absurd e (by simp)
set_option maxHeartbeats 1000000 in
theorem ac_inv {aw : Nat} (h : MV_ T (aw, lw, cm, wt, cl, ls, p)) (hk : k ≠ 0 → p < nx) (hnx : nx ≤ T) (hv : k = 2 → v ≤ 9999) (hk3 : k < 300) (e : ac_ k v nx aw lw cm wt cl ls = .inr st') : MV_ T st' := by
  obtain ⟨hB, hA⟩ := h
  have hB' := hB
  obtain ⟨a2, a3, a4, a5, a6, a7, a8, a9⟩ := hB'
  match aw, hA, e with
  | 0, hA, e =>
    unfold ac_ at e
    by_cases k1 : k = 200 ∨ k = 201
    · rw [if_pos k1] at e
      by_cases k2 : ls.length = 16
      · rw [if_pos k2] at e; exact absurd e (by simp)
      · rw [if_neg k2] at e
        have e := Sum.inr.inj e
        subst e
        have hp := hk (by omega)
        exact ⟨⟨by omega, a3, hnx, a5, a6, by omega, a8, a9⟩, hA.1, hA.2, by omega⟩
    · rw [if_neg k1] at e; exact absurd e (by simp)
  | 1, hA, e =>
    unfold ac_ at e
    obtain ⟨w1, w2, w3⟩ := hA
    subst w1 w2
    by_cases k1 : k = 202
    · rw [if_pos k1] at e
      have e := Sum.inr.inj e
      subst e
      have hp := hk (by omega)
      exact ⟨⟨a2, a3, hnx, a5, a6, by omega, a8, a9⟩, w3, Nat.zero_le _, ⟨[], rfl, rfl⟩⟩
    · rw [if_neg k1] at e
      by_cases k2 : k = 59
      · rw [if_pos k2] at e
        have e := Sum.inr.inj e
        subst e
        have hp := hk (by omega)
        refine ⟨⟨a2, a3, hnx, a5, a6, ?_, fun x hx => ?_, ?_⟩, rfl, rfl⟩
        · rw [fl2_app, List.length_append]
          show (fl2_ ls).length + 0 + 0 + 0 ≤ nx
          have : (fl2_ ls).length + 0 + 0 ≤ p := a7
          omega
        · rcases List.mem_append.mp hx with z | z
          · exact a8 x z
          · rw [List.mem_singleton] at z
            rw [z]
            exact ⟨a2, Or.inl rfl⟩
        · rw [List.length_append]
          show ls.length + 1 ≤ 16
          omega
      · rw [if_neg k2] at e; exact absurd e (by simp)
  | 2, hA, e =>
    unfold ac_ at e
    obtain ⟨w1, w2, w3⟩ := hA
    by_cases k1 : k = 205 ∨ k = 40
    · rw [if_pos k1] at e
      by_cases k2 : 8 ≤ opn_ wt
      · rw [if_pos k2] at e; exact absurd e (by simp)
      · rw [if_neg k2] at e
        have e := Sum.inr.inj e
        subst e
        have hp := hk (by omega)
        have hcap : cap_ k = 3 ∧ k ∈ wsg_ ∧ rK_ k ≤ 3 := by rcases k1 with z | z <;> rw [z] <;> decide
        refine ⟨⟨a2, a3, hnx, ⟨hcap.2.1, by omega, a5⟩, ?_, ?_, a8, a9⟩, w1, hcap.2.2, ?_⟩
        · show (if k = 205 ∨ k = 40 then 1 else 0) + opn_ wt ≤ 8
          rw [if_pos k1]; omega
        · show (fl2_ ls).length + cl.length + ((if k = 40 then 0 else 1) + nbr_ wt) ≤ nx
          have := ite1 (k = 40)
          split <;> omega
        · obtain ⟨ks, t1, t2⟩ := w3
          refine ⟨ks, t1, ?_⟩
          unfold kd_
          rw [if_pos k1]; exact t2
    · rw [if_neg k1] at e
      refine acV_inv (c0 := True) (cm := 0) ⟨a2, by omega, a4, a5, a6, a7, a8, a9⟩ w1 w3 (fun z => ?_) ?_ hk hnx hv e
      · exfalso
        cases wt with
        | nil => exact absurd z (by simp)
        | cons a w =>
          have z : a = 47 := Option.some.inj z
          subst z
          exact absurd w2 (by show ¬ rK_ 47 ≤ 3; decide)
      · rw [dw_id (by omega)]; omega
  | 3, hA, e =>
    obtain ⟨w1, w2, w3, w4⟩ := hA
    exact acV_inv (c0 := True) hB w1 w2 (fun z => absurd z w3) w4 hk hnx hv e
  | 4, hA, e =>
    obtain ⟨w1, w2, w3, w4⟩ := hA
    unfold ac_ at e
    by_cases k1 : k = 2
    · rw [if_pos k1] at e
      by_cases k2 : v = 0
      · rw [if_pos k2] at e; exact absurd e (by simp)
      · rw [if_neg k2] at e
        exact acV_inv (c0 := True) hB w1 w2 (fun _ => ⟨k1, k2⟩) w4 hk hnx hv e
    · rw [if_neg k1] at e; exact absurd e (by simp)
  | 5, hA, e =>
    obtain ⟨w1, w2, w3⟩ := hA
    have e : acE k nx lw cm wt cl ls = .inr st' := e
    unfold acE at e
    by_cases k1 : 5 ≤ rK_ k
    · rw [if_pos k1] at e
      have e := Sum.inr.inj e
      subst e
      obtain ⟨q1, q2, q3, q4, q5, q6, q7⟩ := rk5 k hk3 k1
      have hh := pp_hr (r := rK_ k) (by omega) wt cl
      have hcn := pp_cnt (r := rK_ k) (by omega) wt cl
      obtain ⟨x, r, t1, t2, t3, t4⟩ := ppn_ (r := rK_ k) k1 a5 (okW_29 a5 a6) w2
      have hmb := push_ hB hk hnx q1 q2 q3 (pp_ok (r := rK_ k) (c := cl) a5) (by omega) hcn.2 hcn.1 a3
      have hty : TK_w (k :: (pp_ (rK_ k) wt cl).1) (pp_ (rK_ k) wt cl).2 := ⟨x :: r, t1, kd_pushn t2 ⟨q3, q2, q4, q5⟩ t4⟩
      have hdw : cm = 1 ↔ hr_k (dw_ 5 (k :: (pp_ (rK_ k) wt cl).1)) = 4 := by
        rw [w3]
        have : dw_ 5 (k :: (pp_ (rK_ k) wt cl).1) = dw_ 5 wt := by
          have e1 : dw_ 5 (k :: (pp_ (rK_ k) wt cl).1) = dw_ 5 (pp_ (rK_ k) wt cl).1 := if_pos k1
          rw [e1, pp_dw, dw_dw k1]
        rw [this]
      by_cases k2 : k = 47
      · rw [if_pos k2]
        exact ⟨hmb, w1, hty, by rw [k2]; rfl, hdw⟩
      · rw [if_neg k2]
        exact ⟨hmb, w1, hty, fun z => k2 (Option.some.inj z), hdw⟩
    · rw [if_neg k1] at e
      by_cases k2 : cm = 1
      · rw [if_pos k2] at e
        refine acT_inv hB w1 ?_ hk hnx e
        have h4 := pp4_t a5 a6 (w3.mp k2) w2
        rw [← pp_pp (r := 4) (r' := 3) (by omega) wt cl]
        have o4 := pp_ok (r := 4) (c := cl) a5
        exact ppt_ (by omega) o4 (okW_29 o4 (by have := (pp_cnt (r := 4) (by omega) wt cl).2; omega)) (by have := pp_hr (r := 4) (by omega) wt cl; omega) h4
      · rw [if_neg k2] at e
        by_cases k3 : rK_ k = 4
        · rw [if_pos k3] at e
          have e := Sum.inr.inj e
          subst e
          obtain ⟨q1, q2, q3, q4, q5, q6, q7⟩ := rk4 k hk3 k3
          have hh := pp_hr (r := 4) (by omega) wt cl
          have hcn := pp_cnt (r := 4) (by omega) wt cl
          obtain ⟨x, r, t1, t2, t3, t4⟩ := (pp4_n a5 a6 (fun z => k2 (w3.mpr z)) w2).1
          refine ⟨push_ hB hk hnx q1 q2 q3 (pp_ok (r := 4) (c := cl) a5) (by omega) hcn.2 hcn.1 (by omega), w1, ⟨x :: r, t1, kd_pushn t2 ⟨q3, q2, q4, q5⟩ t4⟩, fun z => q7 (Option.some.inj z), ?_⟩
          have e1 : dw_ 5 (k :: (pp_ 4 wt cl).1) = k :: (pp_ 4 wt cl).1 := if_neg (by omega)
          rw [e1]
          show 1 = 1 ↔ rK_ k = 4
          exact ⟨fun _ => k3, fun _ => rfl⟩
        · rw [if_neg k3] at e
          exact absurd e (by simp)
  | 6, hA, e =>
    obtain ⟨w1, w2, w3⟩ := hA
    have e : acT k nx lw cm wt cl ls = .inr st' := e
    refine acT_inv hB w1 (ppt_ (by omega) a5 (okW_29 a5 a6) w3 w2) hk hnx e
end ACI
