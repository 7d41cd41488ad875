/-! THE INVARIANT between the class's ints and the reference's. Each relation speaks of the ints and rows that it needs. -/
def RA_ (x y : Int32) : Prop := ∃ P : Nat, P ≤ 10 ∧ x = nI P ∧ y = nI P
def RB_ (x y : Int32) : Prop := ∃ V : Nat, V < 1024 ∧ x = nI V ∧ y = nI V
def RC_ (x y : Int32) : Prop := ∃ S : Nat, S ≤ 1000 ∧ x = nI S ∧ y = nI S
def RD_ (x y : Int32) : Prop := ∃ h : Nat, h ≤ 9999 ∧ x = nI h ∧ y = nI h
/-- hums: none is -1 in the class, 0 in the reference -/
def RF_ (hm nw : Nat → Int32) : Prop := ∀ i, i < 10 → ∃ h : Nat, h ≤ 61 ∧ nw i = nI h ∧ hm i = nI h - 1
def RG_ (x : Int32) (lo ld : Nat → Int32) : Prop := ∃ P : Nat, P ≤ 10 ∧ x = nI P ∧ ∀ i, i < 10 → ∃ d : Nat, d ≤ 9 ∧ lo i = nI d ∧ ld i = nI d - 5 ∧ (P ≤ i → d = 5)
def RH_ (x y : Int32) (c b : Nat → Int32) : Prop := ∃ n : Nat, n ≤ 100 ∧ x = nI n ∧ y = nI n ∧ ∀ j, j < 5 * n → c j = b j
def RI_ (tl tn tl' tn' : Nat → Int32) : Prop := ∀ t, t < 4 → ∃ n : Nat, n ≤ 12 ∧ tl t = nI n ∧ tl' t = nI n ∧ ∀ i, i < n → ∃ v : Nat, v ≤ 60 ∧ tn (12 * t + i) = nI v ∧ tn' (12 * t + i) = nI v
def RJ_ (pp x y : Int32) (a b a' b' : Nat → Int32) : Prop := ∃ P n : Nat, P ≤ 10 ∧ pp = nI P ∧ n ≤ 8 ∧ x = nI n ∧ y = nI n ∧ ∀ i, i < n → ∃ u v : Nat, u < P ∧ v < P ∧ u ≠ v ∧ a i = nI u ∧ a' i = nI u ∧ b i = nI v ∧ b' i = nI v
def RK_ (x y : Int32) (w w' : Nat → Int32) : Prop := ∃ n : Nat, n ≤ 15 ∧ x = nI n ∧ y = nI n ∧ ∀ i, i < n → ∃ v : Nat, 1 ≤ v ∧ v ≤ 24 ∧ w i = nI v ∧ w' i = nI v
/-- a step of the class's law beside a code of the reference's -/
def opl_ : List (Int32 × Int32) := [(-43, 2), (-45, 3), (-42, 4), (-47, 5), (-60, 6), (-61, 7), (-62, 8), (-205, 9), (-204, 10), (-203, 11)]
def sr_ (s o a : Int32) : Prop := (∃ v : Nat, v ≤ 9999 ∧ s = nI v ∧ o = 0 ∧ a = nI v) ∨ (∃ k : Nat, k < 9 ∧ s = -(nI (206 + k)) ∧ o = 1 ∧ a = nI k) ∨ (∃ q ∈ opl_, s = q.1 ∧ o = q.2)
/-- kinds of values on the stack: 0 a number, 1 a truth, 2 a number that isn't 0 -/
def tc_ (o a : Int32) (st : List Nat) : Option (List Nat) :=
  if o = 0 then some ((if a = 0 then 0 else 2) :: st)
  else if o = 1 then some (0 :: st)
  else match st with
    | y :: x :: r =>
      if o = 9 then (if y = 1 then some (1 :: x :: r) else none)
      else if o = 10 ∨ o = 11 then (if y = 1 ∧ x = 1 then some (1 :: r) else none)
      else if y = 1 ∨ x = 1 then none
      else if o = 5 then (if y = 2 then some (0 :: r) else none)
      else if o = 2 ∨ o = 3 ∨ o = 4 then some (0 :: r)
      else if o = 6 ∨ o = 7 ∨ o = 8 then some (1 :: r)
      else none
    | [y] => if o = 9 ∧ y = 1 then some [1] else none
    | [] => none
def WT_ (op ar : Nat → Int32) (b e : Nat) : Prop := ∃ f : Nat → List Nat, f b = [] ∧ f e = [1] ∧ ∀ j, b ≤ j → j < e → tc_ (op j) (ar j) (f j) = some (f (j + 1)) ∧ (f (j + 1)).length ≤ 30
def RL_ (x y sz hl : Int32) (le st lw lf lt op ar : Nat → Int32) : Prop :=
  ∃ (n M : Nat) (e : Nat → Nat), n ≤ 16 ∧ M < 65536 ∧ x = nI n ∧ y = nI n ∧ sz = nI (e n) ∧ hl = nI M ∧ e 0 = 0 ∧ (∀ l, l < n → e l ≤ e (l + 1)) ∧ (∀ l, l ≤ n → e l ≤ 400) ∧
    ∀ l, l < n → le l = nI (e (l + 1)) ∧ lf l = nI (e l) ∧ lt l = nI (e (l + 1)) ∧ (e l = e (l + 1) ∨ WT_ op ar (e l) (e (l + 1))) ∧ (∀ j, e l ≤ j → j < e (l + 1) → sr_ (st j) (op j) (ar j)) ∧ (lw l = 0 ∨ lw l = 1) ∧ (M.testBit l = true ↔ lw l = 0)
/-- those who sound are there and have a hum -/
def VH_ (p v : Int32) (nw : Nat → Int32) : Prop := ∀ i, i < 10 → v.toNatClampNeg.testBit i = true → nI i < p ∧ nw i ≠ 0
/-- they have had one as far back as one can go -/
def UV_ (v u : Int32) (rw : Nat → Int32) : Prop := ∀ k, k < u.toNatClampNeg → ∀ i, i < 10 → v.toNatClampNeg.testBit i = true → rw (13 * k + i) ≠ 0
theorem UV_0 {v : Int32} {rw : Nat → Int32} : UV_ v 0 rw := fun k hk => absurd hk (by rw [show (0 : Int32).toNatClampNeg = 0 by decide]; omega)
/-- the reference's numbers and rows, now and in its image -/
def rs_ (G : GS) : Nat → Int32 := fun k => match k with
  | 0 => G 49 4 | 1 => G 49 5 | 2 => G 49 7 | 3 => G 49 35 | 4 => G 49 39 | _ => G 49 16
def rf_ (G : GS) : Nat → Nat → Int32 := fun k => match k with
  | 0 => G 50 | 1 => G 52 | 2 => G 53 | 3 => G 65 | 4 => G 66 | 5 => G 67 | 6 => G 68 | 7 => G 70 | 8 => G 56 | 9 => G 57 | 10 => G 58 | 11 => G 59 | _ => G 60
def is_ (m : Nat → Int32) : Nat → Int32 := fun k => match k with
  | 0 => m 13 | 1 => m 14 | 2 => m 25 | 3 => m 578 | 4 => m 595 | _ => m 611
def if_ (m : Nat → Int32) : Nat → Nat → Int32 := fun k => match k with
  | 0 => m | 1 => fun q => m (15 + q) | 2 => fun j => m (26 + j) | 3 => fun t => m (526 + t) | 4 => fun i => m (530 + i) | 5 => fun i => m (579 + 2 * i) | 6 => fun i => m (580 + 2 * i) | 7 => fun i => m (596 + i) | 8 => fun l => m (612 + 3 * l) | 9 => fun l => m (613 + 3 * l) | 10 => fun l => m (614 + 3 * l) | 11 => fun i => m (660 + 2 * i) | _ => fun i => m (661 + 2 * i)
/-- a world of the class (cells 1 to 13 of c) beside the reference's numbers and rows -/
def WR_ (c : GS) (s : Nat → Int32) (f : Nat → Nat → Int32) : Prop :=
  RA_ (c 1 1) (s 0) ∧ RB_ (c 1 4) (s 1) ∧ RC_ (c 1 5) (s 2) ∧ RD_ (c 1 6) (f 0 11) ∧ c 1 0 = f 0 12 ∧ RF_ (c 2) (f 0) ∧ RG_ (c 1 1) (c 3) (f 1) ∧ RH_ (c 12 0) (f 0 10) (c 13) (f 2) ∧ RI_ (c 5) (c 4) (f 3) (f 4) ∧ RJ_ (c 1 1) (c 1 9) (s 3) (c 6) (c 7) (f 5) (f 6) ∧ RK_ (c 1 12) (s 4) (c 8) (f 7) ∧ RL_ (c 9 0) (s 5) (c 9 3) (c 9 1) (c 10) (c 11) (f 8) (f 9) (f 10) (f 11) (f 12) ∧ VH_ (s 0) (s 1) (f 0)
def TP_ (x y : Int32) (b t : Nat → Int32) : Prop := ∃ T : Nat, T ≤ 400 ∧ x = nI T ∧ y = nI T ∧ ∀ i, i < T → ∃ v : Nat, v < 256 ∧ t i = nI v ∧ b i = (nI v).toInt8.toInt32
/-- what can be undone: a ring beside a row that is moved -/
def RU_ (next count und bl : Int32) (ph pd po pb rw : Nat → Int32) : Prop :=
  ∃ (nx c : Nat) (bs : Nat → Nat), nx < 8 ∧ c ≤ 8 ∧ bs c ≤ 100 ∧ next = nI nx ∧ count = nI c ∧ und = nI c ∧ bl = nI (bs c) ∧
    ∀ k, k < c → (∀ i, i < 10 → ∃ h : Nat, h ≤ 61 ∧ rw (13 * k + i) = nI h ∧ ph (10 * ((nx + 8 - c + k) % 8) + i) = nI h - 1) ∧ rw (13 * k + 12) = pd ((nx + 8 - c + k) % 8) ∧ (∃ h : Nat, h ≤ 9999 ∧ rw (13 * k + 11) = nI h ∧ po ((nx + 8 - c + k) % 8) = nI h) ∧ bs k ≤ bs (k + 1) ∧ rw (13 * k + 10) = nI (bs k) ∧ pb ((nx + 8 - c + k) % 8) = nI (bs k)
def IM_ (t h : Int32) (W : Prop) : Prop := (t = 0 ∧ h = 0) ∨ (t = 1 ∧ h = 1 ∧ W)
def Inv (G : GS) : Prop :=
  WR_ G (rs_ G) (rf_ G) ∧ TP_ (G 0 5) (G 49 10) (G 32) (G 54) ∧ (G 0 6 = G 49 28 ∧ G 0 7 = G 49 29) ∧ RU_ (G 27 0) (G 27 1) (G 49 3) (G 12 0) (G 28) (G 29) (G 30) (G 31) (G 51) ∧ IM_ (G 0 2) (G 49 45) (WR_ (fun k => G (k + 13)) (is_ (G 74)) (if_ (G 74))) ∧ G 55 = wf_ ∧ UV_ (G 49 5) (G 49 3) (G 51)
/-- nothing can be undone -/
theorem RU_0 {next bl : Int32} {ph pd po pb rw : Nat → Int32} {nx m : Nat} (h : nx < 8) (e : next = nI nx) (hm : m ≤ 100) (eb : bl = nI m) : RU_ next 0 0 bl ph pd po pb rw := ⟨nx, 0, fun _ => m, h, by omega, hm, e, rfl, rfl, eb, fun k hk => absurd hk (by omega)⟩
theorem RU_.clear {next count und bl : Int32} {ph pd po pb rw : Nat → Int32} (h : RU_ next count und bl ph pd po pb rw) : RU_ next 0 0 bl ph pd po pb rw := by
  obtain ⟨nx, c, bs, h1, h2, h3, h4, h5, h6, h7, -⟩ := h
  exact RU_0 h1 h4 h3 h7
theorem RU_.grow {next count und bl : Int32} {ph pd po pb rw : Nat → Int32} (h : RU_ next count und bl ph pd po pb rw) {m m' : Nat} (e : bl = nI m) (hm : m ≤ 100) (h1 : m ≤ m') (h2 : m' ≤ 100) : RU_ next count und (nI m') ph pd po pb rw := by
  obtain ⟨nx, c, bs, a1, a2, a3, a4, a5, a6, a7, a8⟩ := h
  have e2 : bs c = m := (nI_eq (by omega) (by omega)).mp (a7.symm.trans e)
  refine ⟨nx, c, fun k => if k = c then m' else bs k, a1, a2, by show (if c = c then m' else bs c) ≤ 100; rw [if_pos rfl]; exact h2, a4, a5, a6, by show nI m' = nI (if c = c then m' else bs c); rw [if_pos rfl], fun k hk => ?_⟩
  obtain ⟨b1, b2, b3, b4, b5, b6⟩ := a8 k hk
  have ek : (if k = c then m' else bs k) = bs k := if_neg (by omega)
  refine ⟨b1, b2, b3, ?_, b5.trans (congrArg nI ek.symm), b6.trans (congrArg nI ek.symm)⟩
  show (if k = c then m' else bs k) ≤ if k + 1 = c then m' else bs (k + 1)
  rw [ek]
  by_cases hc : k + 1 = c
  · rw [if_pos hc]
    rw [hc, e2] at b4
    omega
  · rw [if_neg hc]; exact b4
/-! answers of comparisons, by their ints -/
theorem iL {a b : Int32} : a < b ↔ a.toInt < b.toInt := Int32.lt_iff_toInt_lt
theorem iE {a b : Int32} : a ≤ b ↔ a.toInt ≤ b.toInt := Int32.le_iff_toInt_le
theorem iQ {a b : Int32} : a = b ↔ a.toInt = b.toInt := Int32.toInt_inj.symm
theorem nI_of_toInt {a : Int32} (h : 0 ≤ a.toInt) : a = nI a.toInt.toNat := by
  have hr : a.toInt < 2147483648 := by have := Int32.toInt_lt a; omega
  rw [iQ, nI_toInt (by omega)]
  omega
theorem bd_ {a : Int32} {n : Nat} (h0 : 0 ≤ a.toInt) (h1 : a.toInt ≤ (n : Int)) : ∃ j : Nat, j ≤ n ∧ a = nI j := ⟨a.toInt.toNat, by omega, nI_of_toInt h0⟩
theorem gu_ap (G : GS) (k j : Nat) (v : Int32) (a i : Nat) : gu_ G k j v a i = if a = k then (if i = j then v else G k i) else G a i := by
  unfold gu_ gf_ upd
  by_cases h : a = k
  · rw [if_pos h, if_pos h]
  · rw [if_neg h, if_neg h]
theorem gu_rw (G : GS) (k j : Nat) (v : Int32) (a : Nat) : gu_ G k j v a = if a = k then upd (G k) j v else G a := rfl
theorem up_hit (f : Nat → Int32) (j : Nat) (v : Int32) : upd f j v j = v := if_pos rfl
theorem up_miss (f : Nat → Int32) {j i : Nat} (v : Int32) (h : i ≠ j) : upd f j v i = f i := if_neg h
/-- an int is below 0, a number below n, or not -/
theorem ix_ (x : Int32) (n : Nat) (hn : n < 2147483648) : (∃ j, j < n ∧ x = nI j) ∨ (∀ j, j < n → x ≠ nI j) := by
  rcases pk_ix x hn with h | h | h
  · refine Or.inr (fun j hj e => ?_)
    rw [e] at h
    exact nI_pos (by omega) h
  · refine Or.inr (fun j hj e => ?_)
    rw [e] at h
    exact nI_ge hj (by omega) h
  · exact Or.inl h
theorem VH_.up {p v : Int32} {nw : Nat → Int32} (h : VH_ p v nw) {j : Nat} (x : Int32) (hj : 10 ≤ j) : VH_ p v (upd nw j x) := fun i hi hb => by
  obtain ⟨h1, h2⟩ := h i hi hb
  exact ⟨h1, by rw [up_miss _ _ (by omega)]; exact h2⟩
theorem RF_.up {hm nw : Nat → Int32} (h : RF_ hm nw) {j : Nat} (v : Int32) (hj : 10 ≤ j) : RF_ hm (upd nw j v) := fun i hi => by
  obtain ⟨a, h1, h2, h3⟩ := h i hi
  exact ⟨a, h1, (up_miss _ _ (by omega)).trans h2, h3⟩
