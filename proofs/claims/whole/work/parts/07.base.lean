/-! THE PURE LAYER: after the constructors no cell comes or goes, and no reference changes: the world is a fixed layout of cells, and all that changes are ints by cell and place. PW_ says: from this place of the method the machine comes to a return with Q; it hides heap, frames and tables. -/
abbrev GS : Type := Nat → Nat → Int32
def gf_ (G : GS) (k : Nat) (f : Nat → Int32) : GS := fun a => if a = k then f else G a
def gu_ (G : GS) (k j : Nat) (v : Int32) : GS := gf_ G k (upd (G k) j v)
/-- a cell's shape: an object (its class's number; of each field the cell that it refers to, or none: an int), or an array (its kind: 0 int, 1 byte, 2 boolean; its length) -/
abbrev ShT : Type := (Nat × List (Option Nat)) ⊕ (Nat × Nat)
def Lay : List ShT := [.inl (9, [some 1, some 14, none, some 27, some 33, none, none, none, some 38, some 40, some 43, some 47]),
  .inl (8, [none, none, some 2, some 3, none, none, none, some 4, some 5, none, some 6, some 7, none, some 8, some 9, some 12]),
  .inr (0, 10),
  .inr (0, 10),
  .inr (0, 48),
  .inr (0, 4),
  .inr (0, 8),
  .inr (0, 8),
  .inr (0, 15),
  .inl (4, [none, none, some 10, none, some 11]),
  .inr (0, 16),
  .inr (0, 400),
  .inl (0, [none, some 13]),
  .inr (0, 500),
  .inl (8, [none, none, some 15, some 16, none, none, none, some 17, some 18, none, some 19, some 20, none, some 21, some 22, some 25]),
  .inr (0, 10),
  .inr (0, 10),
  .inr (0, 48),
  .inr (0, 4),
  .inr (0, 8),
  .inr (0, 8),
  .inr (0, 15),
  .inl (4, [none, none, some 23, none, some 24]),
  .inr (0, 16),
  .inr (0, 400),
  .inl (0, [none, some 26]),
  .inr (0, 500),
  .inl (5, [none, none, some 28, some 29, some 30, some 31]),
  .inr (0, 80),
  .inr (0, 8),
  .inr (0, 8),
  .inr (0, 8),
  .inr (1, 400),
  .inl (6, [some 32, some 34, none, none, none, none, none, none, none, none, none, none, some 37, none, none]),
  .inl (4, [none, none, some 35, none, some 36]),
  .inr (0, 16),
  .inr (0, 400),
  .inr (0, 32),
  .inl (2, [some 39, none, none, none, none, none, none, none, none, none]),
  .inr (0, 32),
  .inl (7, [some 41, some 42]),
  .inr (0, 8),
  .inr (0, 8),
  .inl (3, [some 44, some 45, some 46, none]),
  .inr (0, 6),
  .inr (0, 6),
  .inr (0, 25),
  .inl (1, [some 48]),
  .inr (0, 5),
  .inl (10, [none, some 50, some 51, none, none, none, some 52, none, some 53, some 54, none, none, none, none, none, some 55, none, some 56, some 57, some 58, some 59, some 60, none, none, some 61, none, none, none, none, none, some 62, some 63, some 64, some 65, some 66, none, some 67, some 68, some 69, none, some 70, some 71, some 72, some 73, none, none, none, some 74]),
  .inr (0, 13),
  .inr (0, 104),
  .inr (0, 10),
  .inr (0, 500),
  .inr (0, 400),
  .inr (0, 71),
  .inr (0, 32),
  .inr (0, 32),
  .inr (0, 32),
  .inr (0, 800),
  .inr (0, 800),
  .inr (0, 40),
  .inr (0, 9),
  .inr (0, 420),
  .inr (2, 61),
  .inr (0, 4),
  .inr (0, 48),
  .inr (0, 8),
  .inr (0, 8),
  .inr (0, 8),
  .inr (0, 15),
  .inr (0, 6),
  .inr (0, 61),
  .inr (0, 6),
  .inr (0, 1600)]
/-! 0 HD; 1 world; 2 world.hums; 3 world.louds; 4 world.tones; 5 world.tuneLengths; 6 world.pairOnes; 7 world.pairOthers; 8 world.told; 9 world.law; 10 world.law.lineEnds; 11 world.law.steps; 12 world.book; 13 world.book.cells; 14 kept; 15 kept.hums; 16 kept.louds; 17 kept.tones; 18 kept.tuneLengths; 19 kept.pairOnes; 20 kept.pairOthers; 21 kept.told; 22 kept.law; 23 kept.law.lineEnds; 24 kept.law.steps; 25 kept.book; 26 kept.book.cells; 27 past; 28 past.hums; 29 past.draws; 30 past.hours; 31 past.bookLines; 32 tape; 33 reader; 34 draft; 35 draft.lineEnds; 36 draft.steps; 37 waiting; 38 ear; 39 ear.stack; 40 turns; 41 given; 42 clashes; 43 fitting; 44 first; 45 frow; 46 left; 47 cover; 48 crow; 49 M; 50 M.now; 51 M.rows; 52 M.loudOf; 53 M.book; 54 M.tape; 55 M.words; 56 M.lineWord; 57 M.lineFrom; 58 M.lineTo; 59 M.op; 60 M.arg; 61 M.pending; 62 M.asked; 63 M.stack; 64 M.isWordHeard; 65 M.tuneLong; 66 M.tuneOf; 67 M.pairA; 68 M.pairB; 69 M.turnAt; 70 M.wordTold; 71 M.row; 72 M.howOften; 73 M.firstFit; 74 M.images -/
/-- launch, classes, addresses of the cells, array classes, string constants (address, bytes), the static array, the JDK's formatter, the script (address, length, ints) -/
abbrev EV : Type := Launch × va_G × (Nat → Nat) × (Nat → ClassId) × (Nat → Nat) × (Nat → Nat) × Nat × Option Nat × Nat × Nat × (Nat → Int32)
abbrev ev_l (E : EV) : Launch := E.1
abbrev ev_D (E : EV) : va_G := E.2.1
abbrev ev_ad (E : EV) : Nat → Nat := E.2.2.1
abbrev ev_cA (E : EV) : Nat → ClassId := E.2.2.2.1
abbrev ev_aK (E : EV) : Nat → Nat := E.2.2.2.2.1
abbrev ev_aV (E : EV) : Nat → Nat := E.2.2.2.2.2.1
abbrev ev_ru (E : EV) : Nat := E.2.2.2.2.2.2.1
abbrev ev_fm (E : EV) : Option Nat := E.2.2.2.2.2.2.2.1
abbrev ev_b (E : EV) : Nat := E.2.2.2.2.2.2.2.2.1
abbrev ev_L (E : EV) : Nat := E.2.2.2.2.2.2.2.2.2.1
abbrev ev_xs (E : EV) : Nat → Int32 := E.2.2.2.2.2.2.2.2.2.2
def fv_ (E : EV) (G : GS) (k j : Nat) : Option Nat → Value
  | some q => .ref (ev_ad E q)
  | none => .int (G k j)
/-- an object's fields, from place j on -/
def fm_ (E : EV) (G : GS) (k : Nat) : Nat → List (Option Nat) → List Value
  | _, [] => []
  | j, f :: fs => fv_ E G k j f :: fm_ E G k (j + 1) fs
theorem fm_get (E : EV) (G : GS) (k : Nat) : ∀ (fs : List (Option Nat)) (j0 j : Nat), (fm_ E G k j0 fs)[j]? = fs[j]?.map (fv_ E G k (j0 + j))
  | [], j0, j => by simp [fm_]
  | f :: fs, j0, 0 => by simp [fm_]
  | f :: fs, j0, j + 1 => by
    rw [fm_, List.getElem?_cons_succ, List.getElem?_cons_succ, fm_get E G k fs (j0 + 1) j, Nat.add_right_comm, Nat.add_assoc]
theorem fm_len (E : EV) (G : GS) (k : Nat) : ∀ (fs : List (Option Nat)) (j0 : Nat), (fm_ E G k j0 fs).length = fs.length
  | [], _ => rfl
  | f :: fs, j0 => by rw [fm_, List.length_cons, List.length_cons, fm_len E G k fs (j0 + 1)]
def ce_ (E : EV) (G : GS) (k : Nat) : ShT → va_E
  | .inl o => .inr (o.1, fm_ E G k 0 o.2)
  | .inr a => .inl (ev_cA E a.1, (a.2, .inl (G k)))
def wo_ (E : EV) (G : GS) : va_W := Lay.mapIdx (fun k s => (ev_ad E k, ce_ E G k s))
def ty_ (E : EV) : List (ClassId × FieldType) := [(ev_cA E 0, .int), (ev_cA E 1, .byte), (ev_cA E 2, .boolean)]
theorem wo_at {E : EV} {G : GS} {k : Nat} {sh : ShT} (h : Lay[k]? = some sh) : (wo_ E G)[k]? = some (ev_ad E k, ce_ E G k sh) := by
  simp only [wo_, List.getElem?_mapIdx, h, Option.map_some]
theorem wo_len {E : EV} {G : GS} : (wo_ E G).length = Lay.length := by simp only [wo_, List.length_mapIdx]
theorem wo_get {E : EV} {G : GS} {k : Nat} {q : Nat × va_E} (h : (wo_ E G)[k]? = some q) : k < Lay.length ∧ q.1 = ev_ad E k := by
  have hk : k < (wo_ E G).length := (List.getElem?_eq_some_iff.mp h).1
  rw [wo_len] at hk
  refine ⟨hk, ?_⟩
  rw [wo_at (List.getElem?_eq_getElem hk)] at h
  cases h
  rfl
theorem wo_D {E : EV} {G : GS} {A : Nat → Prop} (hi : ∀ i j, i < Lay.length → j < Lay.length → ev_ad E i = ev_ad E j → i = j) (hA : ∀ k, k < Lay.length → A (ev_ad E k)) : va_D A (wo_ E G) := by
  refine ⟨fun i j p q h1 h2 e => ?_, fun k q h => ?_⟩
  · obtain ⟨l1, e1⟩ := wo_get h1
    obtain ⟨l2, e2⟩ := wo_get h2
    exact hi i j l1 l2 (by rw [← e1, ← e2]; exact e)
  · obtain ⟨l1, e1⟩ := wo_get h
    rw [e1]; exact hA k l1
theorem gf_same (G : GS) (k : Nat) (f : Nat → Int32) : gf_ G k f k = f := if_pos rfl
theorem gf_ne (G : GS) {k a : Nat} (f : Nat → Int32) (h : a ≠ k) : gf_ G k f a = G a := if_neg h
theorem ce_ne {E : EV} {G : GS} {k a : Nat} {f : Nat → Int32} {sh : ShT} (h : a ≠ k) : ce_ E (gf_ G k f) a sh = ce_ E G a sh := by
  have e : gf_ G k f a = G a := gf_ne G f h
  cases sh with
  | inl o =>
    have hf : ∀ j g, fv_ E (gf_ G k f) a j g = fv_ E G a j g := by
      intro j g
      cases g with
      | some q => rfl
      | none => simp only [fv_, e]
    have hm : ∀ (fs : List (Option Nat)) (j : Nat), fm_ E (gf_ G k f) a j fs = fm_ E G a j fs := by
      intro fs
      induction fs with
      | nil => intro j; rfl
      | cons g fs ih => intro j; rw [fm_, fm_, hf, ih]
    simp only [ce_, hm]
  | inr o => simp only [ce_, e]
theorem wo_setA {E : EV} {G : GS} {k t n : Nat} (f : Nat → Int32) (h : Lay[k]? = some (.inr (t, n))) : (wo_ E G).set k (ev_ad E k, .inl (ev_cA E t, (n, .inl f))) = wo_ E (gf_ G k f) := by
  have hk : k < (wo_ E G).length := by rw [wo_len]; exact (List.getElem?_eq_some_iff.mp h).1
  refine List.ext_getElem? fun i => ?_
  by_cases hi : i = k
  · subst hi
    rw [List.getElem?_set_self hk, wo_at h]
    simp only [ce_, gf_same]
  · rw [List.getElem?_set_ne (Ne.symm hi)]
    cases hL : Lay[i]? with
    | none =>
      have : Lay.length ≤ i := List.getElem?_eq_none_iff.mp hL
      rw [List.getElem?_eq_none_iff.mpr (by rw [wo_len]; exact this), List.getElem?_eq_none_iff.mpr (by rw [wo_len]; exact this)]
    | some sh => rw [wo_at hL, wo_at hL, ce_ne hi]
theorem wo_setF {E : EV} {G : GS} {k ci j : Nat} {fs : List (Option Nat)} (v : Int32) (h : Lay[k]? = some (.inl (ci, fs))) (hj : fs[j]? = some none) : (wo_ E G).set k (ev_ad E k, .inr (ci, (fm_ E G k 0 fs).set j (.int v))) = wo_ E (gu_ G k j v) := by
  have hk : k < (wo_ E G).length := by rw [wo_len]; exact (List.getElem?_eq_some_iff.mp h).1
  have hjl : j < fs.length := (List.getElem?_eq_some_iff.mp hj).1
  refine List.ext_getElem? fun i => ?_
  by_cases hi : i = k
  · subst hi
    rw [List.getElem?_set_self hk, wo_at h]
    have e : (fm_ E G i 0 fs).set j (.int v) = fm_ E (gu_ G i j v) i 0 fs := by
      refine List.ext_getElem? fun q => ?_
      by_cases hq : q = j
      · subst hq
        rw [List.getElem?_set_self (by rw [fm_len]; exact hjl), fm_get, hj]
        simp only [Option.map_some, fv_, gu_, gf_same, upd, Nat.zero_add, if_true]
      · rw [List.getElem?_set_ne (Ne.symm hq), fm_get, fm_get]
        cases fs[q]? with
        | none => rfl
        | some g =>
          cases g with
          | some z => rfl
          | none => simp only [Option.map_some, fv_, gu_, gf_same, upd, Nat.zero_add, if_neg hq]
    rw [e]
    rfl
  · rw [List.getElem?_set_ne (Ne.symm hi)]
    cases hL : Lay[i]? with
    | none =>
      have : Lay.length ≤ i := List.getElem?_eq_none_iff.mp hL
      rw [List.getElem?_eq_none_iff.mpr (by rw [wo_len]; exact this), List.getElem?_eq_none_iff.mpr (by rw [wo_len]; exact this)]
    | some sh => rw [wo_at hL, wo_at hL]; simp only [gu_, ce_ne hi]
/-! ===== the tables' words, one list for every method ===== -/
def TB : List Cond := lw_tbl.filter goodWord
/-- a method: its name, code, locals, answer -/
abbrev MI : Type := MethodName × ByteArray × Nat × Option FieldType
def mw_ (M : MI) : List Cond := .code M.1 M.2.1 M.2.2.1 M.2.2.2 :: TB
theorem tb_in {w : Cond} (h : w ∈ lw_tbl) (g : goodWord w = true) : w ∈ TB := List.mem_filter.mpr ⟨h, g⟩
theorem tb_t {w : Cond} (h : w ∈ tables_1) (g : goodWord w = true) : w ∈ TB := tb_in (List.mem_append_right _ h) g
theorem tb_s {w : Cond} (h : w ∈ k2_sels lw_privs) (g : goodWord w = true) : w ∈ TB := tb_in (List.mem_append_left _ h) g
theorem tb_good {M2 : MI} (h : Cond.code M2.1 M2.2.1 M2.2.2.1 M2.2.2.2 ∈ TB) : GoodIn TB (mw_ M2) := by
  intro w hw
  have hT : w ∈ TB := by
    rcases List.mem_cons.mp hw with e | e
    · rw [e]; exact h
    · exact e
  exact ⟨hT, good_of_word (List.mem_filter.mp hT).2⟩
/-! ===== what old cells hold: links of nest mates, string constants, statics ===== -/
def nk_ : Nat := 17
def kx_ : List Nat := [169, 171, 173, 175, 177, 179, 181, 183, 185, 187, 189, 191, 193, 195, 197, 199, 164]
def ks_ : List String := ["hear", "miss", "when", "or", "and", "not", "low", "high", "apart", "hum", "near", "loud", "crowd", "hour", "who", "", ";+-*/()<=>"]
def kl_ : List Nat := [4, 4, 4, 2, 3, 3, 3, 4, 5, 3, 4, 4, 5, 4, 3, 0, 10]
def kb_ : List (List Int32) := [[104, 101, 97, 114], [109, 105, 115, 115], [119, 104, 101, 110], [111, 114], [97, 110, 100], [110, 111, 116], [108, 111, 119], [104, 105, 103, 104], [97, 112, 97, 114, 116], [104, 117, 109], [110, 101, 97, 114], [108, 111, 117, 100], [99, 114, 111, 119, 100], [104, 111, 117, 114], [119, 104, 111], [], [59, 43, 45, 42, 47, 40, 41, 60, 61, 62]]
def ru_ : List Int32 := [0, 0, 1, 0, 1, 3, 0, 1, 4, 6, 0, 1, 4, 9, 11, 0, 1, 4, 10, 12, 17]
def ush_ (x y : Int32) : Int32 := (x.toUInt32 >>> (y.toUInt32 &&& Int32.toUInt32 31)).toInt32
def lush_ (x : Int64) (y : Int32) : Int64 := (x.toUInt64 >>> (y.toInt64.toUInt64 &&& Int64.toUInt64 63)).toInt64
/-- a copy's bounds -/
def cp_ (sp dp n : Int32) (n0 n1 : Nat) : Prop := ¬ sp < 0 ∧ ¬ dp < 0 ∧ ¬ n < 0 ∧ sp.toNatClampNeg + n.toNatClampNeg ≤ n0 ∧ dp.toNatClampNeg + n.toNatClampNeg ≤ n1
/-- what the tables say of a method: an instance's, a static one -/
def CM_ (M : MI) (n : Nat) : Prop := Cond.code M.1 M.2.1 M.2.2.1 M.2.2.2 ∈ TB ∧ Cond.initialized M.1.cls ∈ TB ∧ Cond.instanceMethod M.1 ∈ TB ∧ Cond.selects M.1.cls M.1 M.1 ∈ TB ∧ M.1.cls ≠ "java/lang/invoke/MethodHandle" ∧ M.1.cls ≠ "java/lang/invoke/VarHandle" ∧ (parseMethodDescriptor M.1.desc).map (fun d => d.parameters.length) = some n ∧ M.2.2.1 ≤ 21
def CS_ (M : MI) (n : Nat) : Prop := Cond.code M.1 M.2.1 M.2.2.1 M.2.2.2 ∈ TB ∧ Cond.initialized M.1.cls ∈ TB ∧ Cond.static M.1 ∈ TB ∧ M.1.cls ≠ "java/lang/invoke/MethodHandle" ∧ M.1.cls ≠ "java/lang/invoke/VarHandle" ∧ (parseMethodDescriptor M.1.desc).map (fun d => d.parameters.length) = some n ∧ M.2.2.1 ≤ 21
def EX_ (E : EV) (A : Nat → Prop) (U : State) : Prop :=
  (∀ a i b n d h, Cond.fieldLinkNest a i b n d h ∈ tables_1 → va_Nw (.fieldLinkNest a i b n d h) U) ∧
  (∀ a i x h, Cond.methodLinkNest a i x h ∈ tables_1 → va_Nw (.methodLinkNest a i x h) U) ∧
  (∀ i, i < nk_ → vk_R "HearDifference$Reader" (kx_.getD i 0) (ks_.getD i "") (ev_aK E i) U) ∧
  vk_S nk_ kl_ kb_ (ev_aK E) (ev_aV E) A U U.heap ∧
  va_Z "java/lang/String" "COMPACT_STRINGS" "Z" (.int 1) A U U.heap ∧
  va_Z "HearDifference" "RULERS" "[I" (.ref (ev_ru E)) A U U.heap ∧
  va_T .int (ev_ru E) 21 (fun j => .int (ru_.getD j 0)) A U U.heap ∧
  va_Z "jdk/internal/util/Preconditions" "SIOOBE_FORMATTER" "Ljava/util/function/BiFunction;" (va_rf (ev_fm E)) A U U.heap ∧
  va_X (ev_b E) (ev_L E) (ev_xs E) U U.heap ∧ ¬ A (ev_b E) ∧ ev_b E < U.heap.size
theorem EX_.moved {E : EV} {A B : Nat → Prop} {s U : State} (h : EX_ E A s) (hW : s.WarmedH U.vm) (hk : ∀ a : Nat, a < s.heap.size → ¬ A a → U.heap[a]? = s.heap[a]?) (hAB : ∀ q, B q → A q) : EX_ E B U := by
  obtain ⟨h1, h2, h3, h4, h5, h6, h7, h8, h9, h10, h11⟩ := h
  have al := hW.alike
  exact ⟨fun a i b n d h hm => va_Nw.warmF hW (h1 a i b n d h hm), fun a i x h hm => va_Nw.warmM hW (h2 a i x h hm), fun i hi => vk_R.warm hW (h3 i hi),
    ((h4.moved al).kept hk).narrow hAB, ((h5.moved al).kept hk).narrow hAB, ((h6.moved al).kept hk).narrow hAB, ((h7.moved al).kept hk).narrow hAB, ((h8.moved al).kept hk).narrow hAB, (h9.moved al).kept (hk _ h11 h10), fun z => h10 (hAB _ z), by
      obtain ⟨scr, q, -⟩ := (h9.moved al).kept (H1 := U.heap) (hk _ h11 h10)
      exact (Array.getElem?_eq_some_iff.mp q).1⟩
/-! ===== a place in a method ===== -/
def EI_ (E : EV) : Prop := ∀ i j, i < Lay.length → j < Lay.length → ev_ad E i = ev_ad E j → i = j
def Cx_ (E : EV) (M : MI) (p : Program) (s : State) (m : MethodId) (args : Array Value) (c : Code) (A : Nat → Prop) : Prop :=
  p.tables.exec = Jvm.exec ∧ c.code = M.2.1 ∧ c.maxLocals = M.2.2.1 ∧ s.vm.findClass M.1.cls = some m.cls ∧ (∀ w ∈ TB, w.before args s = true) ∧ va_K (ev_D E) vwCl (ty_ E) s ∧ (∀ k, k < Lay.length → A (ev_ad E k)) ∧ EI_ E ∧ EX_ E A s
theorem Cx_.D {E : EV} {M : MI} {p : Program} {s : State} {m : MethodId} {args : Array Value} {c : Code} {A : Nat → Prop} (C : Cx_ E M p s m args c A) (G : GS) : va_D A (wo_ E G) := wo_D C.2.2.2.2.2.2.2.1 C.2.2.2.2.2.2.1
theorem Cx_.w {E : EV} {M : MI} {p : Program} {s : State} {m : MethodId} {args : Array Value} {c : Code} {A : Nat → Prop} (C : Cx_ E M p s m args c A) {w : Cond} (h : w ∈ TB) : w.before args s = true := C.2.2.2.2.1 w h
theorem Cx_.ts {E : EV} {M : MI} {p : Program} {s : State} {m : MethodId} {args : Array Value} {c : Code} {A : Nat → Prop} (C : Cx_ E M p s m args c A) : ∀ w ∈ TB, w.before args s = true := fun _ h => C.w h
theorem Cx_.own {E : EV} {M : MI} {p : Program} {s : State} {m : MethodId} {args : Array Value} {c : Code} {A : Nat → Prop} (C : Cx_ E M p s m args c A) : s.vm.findClass M.1.cls = some m.cls := C.2.2.2.1
theorem Cx_.K {E : EV} {M : MI} {p : Program} {s : State} {m : MethodId} {args : Array Value} {c : Code} {A : Nat → Prop} (C : Cx_ E M p s m args c A) : va_K (ev_D E) vwCl (ty_ E) s := C.2.2.2.2.2.1
theorem Cx_.X {E : EV} {M : MI} {p : Program} {s : State} {m : MethodId} {args : Array Value} {c : Code} {A : Nat → Prop} (C : Cx_ E M p s m args c A) : EX_ E A s := C.2.2.2.2.2.2.2.2
def RT_ (M : MI) (pc : Nat) (r : Option Value) (st : List Value) : Prop :=
  (∃ (v : Int32) (ty : FieldType), M.2.2.2 = some ty ∧ narrow ty (.int v) = .int v ∧ decode M.2.1 pc = .ok (.ireturn, 1) ∧ r = some (.int v) ∧ st = [.int v]) ∨
  (M.2.2.2 = none ∧ decode M.2.1 pc = .ok (.return_, 1) ∧ r = none ∧ st = []) ∨
  (∃ (a : Nat) (n : String), M.2.2.2 = some (.object n) ∧ decode M.2.1 pc = .ok (.areturn, 1) ∧ r = some (.ref a) ∧ st = [.ref a])
def PW_ (E : EV) (M : MI) (R : Room) (cells slots pc : Nat) (lv : List (Nat × Value)) (st : List Value) (G : GS) (Q : Option Value → GS → Prop) : Prop :=
  ∀ (p : Program) (e : Env) (s : State) (m : MethodId) (args : Array Value) (below : List Frame) (meth : Method) (c : Code) (A : Nat → Prop) (Qz : State → Prop), Cx_ E M p s m args c A →
    (∀ (r : Option Value) (G' : GS) (H : Heap) (locs : List Loc) (pc' : Nat) (ls : Array Slot) (st' : List Value), Q r G' → RT_ M pc' r st' → va_P (ev_D E) vwCl (wo_ E G') H → va_S A s.heap H locs → W p (ev_l E) e R s m args below meth c H locs cells slots Qz (F0 m pc' ls st')) →
    ∀ (H : Heap) (locs : List Loc) (ls : Array Slot), va_P (ev_D E) vwCl (wo_ E G) H → va_S A s.heap H locs → lv_has ls M.2.2.1 lv → W p (ev_l E) e R s m args below meth c H locs cells slots Qz (F0 m pc ls st)
def A0_ (E : EV) : Nat → Prop := fun q => ∃ k, k < Lay.length ∧ q = ev_ad E k
def rm_ (d : Nat) : Room := { frames := d, cells := 0, slots := 0, locals := 40 * d }
/-- what a method needs at its start, and leaves at its end -/
def pc_ (E : EV) (args : List Value) (G : GS) : Array Value → State → Prop := va_Pc args (fun U => va_P (ev_D E) vwCl (wo_ E G) U.heap ∧ va_K (ev_D E) vwCl (ty_ E) U ∧ EX_ E (A0_ E) U)
def qc_ (E : EV) (Q : Option Value → GS → Prop) : Array Value → State → Outcome → State → Prop := fun _ st oc t => (∃ (r : Option Value) (G' : GS), oc = .returned r ∧ Q r G' ∧ va_P (ev_D E) vwCl (wo_ E G') t.heap) ∧ va_F (A0_ E) st t
def PMet (E : EV) (M : MI) (d : Nat) (args : List Value) (G : GS) (Q : Option Value → GS → Prop) : Prop := Met (ev_l E) M.1 (mw_ M) (rm_ d) (pc_ E args G) (qc_ E Q) 0 0 (A0_ E)
theorem pm_of {E : EV} {M : MI} {d : Nat} {args : List Value} {G : GS} {Q : Option Value → GS → Prop} (hE : EI_ E) (hy : plainName M.1.cls = true) (hn : (lg_sl args).length ≤ M.2.2.1) (h : PW_ E M (rm_ d) 0 0 0 (lv_args 0 args) [] G Q) : PMet E M d args G Q := by
  refine Met.ofW (cc := M.2.1) (maxL := M.2.2.1) (ret := M.2.2.2) hy rfl ?_
  intro p e s m args' below meth c s₁ B hml hv
  obtain ⟨rfl, hP, hK, hX⟩ := hv
  have hlocks := B.notSynchronized
  have C : Cx_ E M p s m args.toArray c (A0_ E) := ⟨B.exec, B.bytes, hml, findClass_of_methodNamed B.named, fun w h => atoms_spec (ws := mw_ M) B.pre w (List.mem_cons_of_mem _ h), hK, fun k hk => ⟨k, hk, rfl⟩, hE, hX⟩
  rw [lg_entry_eq]
  refine h p e s m args.toArray below meth c (A0_ E) _ C ?_ s.heap [] _ hP va_S.rf (lv_entry args hn)
  intro r G' H locs pc' ls st' hq hrt hP' hS
  rcases hrt with ⟨v, ty, h1, h2, h3, rfl, rfl⟩ | ⟨h1, h3, rfl, rfl⟩ | ⟨a, n, h1, h3, rfl, rfl⟩
  · exact W.zret (ty := ty) B.exec B.bytes (B.returns.trans h1) h2 (fun t ht hW => ⟨⟨_, G', rfl, hq, by rw [ht]; exact hP'⟩, hS.F ht⟩) hS.2.2 h3
  · exact W.vret B.exec B.bytes (B.returns.trans h1) (fun t ht hW => ⟨⟨_, G', rfl, hq, by rw [ht]; exact hP'⟩, hS.F ht⟩) hS.2.2 h3
  · exact W.aret (rt := .object n) B.exec B.bytes (B.returns.trans h1) (Or.inl ⟨n, rfl⟩) (Or.inr ⟨a, rfl⟩) (fun t ht hW => ⟨⟨_, G', rfl, hq, by rw [ht]; exact hP'⟩, hS.F ht⟩) hS.2.2 h3
theorem rm_ok {d d' : Nat} (h : d' + 1 ≤ d) : d' + 1 ≤ (rm_ d).frames ∧ 40 * (d' + 1) ≤ (rm_ d).locals := ⟨h, by show 40 * (d' + 1) ≤ 40 * d; omega⟩
theorem rm_ok1 {d : Nat} (h : 1 ≤ d) : 1 ≤ (rm_ d).frames ∧ 40 ≤ (rm_ d).locals := ⟨h, by show 40 ≤ 40 * d; omega⟩
theorem rm_0 {d : Nat} : 0 ≤ (rm_ d).cells ∧ 0 ≤ (rm_ d).slots := ⟨Nat.le_refl 0, Nat.le_refl 0⟩
/-- answers: an int, none, a text -/
def qi_ (Q : Int32 → GS → Prop) : Option Value → GS → Prop := fun r G => ∃ v : Int32, r = some (.int v) ∧ Q v G
def qv_ (Q : Int32 → GS → Prop) : Option Value → GS → Prop := fun r G => r = none ∧ Q 0 G
def qs_ (E : EV) (Q : Nat → GS → Prop) : Option Value → GS → Prop := fun r G => ∃ i : Nat, r = some (.ref (ev_aK E i)) ∧ Q i G
theorem pm_mono {E : EV} {M : MI} {d : Nat} {args : List Value} {G : GS} {Q Q2 : Option Value → GS → Prop} (h : PMet E M d args G Q) (hq : ∀ r G', Q r G' → Q2 r G') : PMet E M d args G Q2 := by
  intro p e ha hc hk s m args' below hf happ hP hK
  obtain ⟨k, o, h1, h2, h3, ⟨⟨r, G', e1, e2, e3⟩, e4⟩, e5⟩ := h p e ha hc hk s m args' below hf happ hP hK
  exact ⟨k, o, h1, h2, h3, ⟨⟨r, G', e1, hq r G' e2, e3⟩, e4⟩, e5⟩
/-! ===== rows ===== -/
section PWROWS
variable {E : EV} {M : MI} {R : Room} {cells slots pc : Nat} {lv : List (Nat × Value)} {rest : List Value} {G : GS} {Q : Option Value → GS → Prop}
theorem pw_iconst {n : Int} {v : Int32} (dg : decode M.2.1 pc = .ok (.iconst n, 1)) (hv : Int32.ofInt n = v) (kk : PW_ E M R cells slots (pc + 1) lv (.int v :: rest) G Q) : PW_ E M R cells slots pc lv (rest) G Q := fun p e s m args below meth c A Qz C hr H locs ls hP hS hl => lv_iconst C.1 C.2.1 dg hv (kk p e s m args below meth c A Qz C hr H locs ls hP hS hl)
theorem pw_bipush {n : Int} {v : Int32} (dg : decode M.2.1 pc = .ok (.bipush n, 2)) (hv : (Int8.ofInt n).toInt32 = v) (kk : PW_ E M R cells slots (pc + 2) lv (.int v :: rest) G Q) : PW_ E M R cells slots pc lv (rest) G Q := fun p e s m args below meth c A Qz C hr H locs ls hP hS hl => lv_bipush C.1 C.2.1 dg hv (kk p e s m args below meth c A Qz C hr H locs ls hP hS hl)
theorem pw_sipush {n : Int} {v : Int32} (dg : decode M.2.1 pc = .ok (.sipush n, 3)) (hv : (Int16.ofInt n).toInt32 = v) (kk : PW_ E M R cells slots (pc + 3) lv (.int v :: rest) G Q) : PW_ E M R cells slots pc lv (rest) G Q := fun p e s m args below meth c A Qz C hr H locs ls hP hS hl => lv_sipush C.1 C.2.1 dg hv (kk p e s m args below meth c A Qz C hr H locs ls hP hS hl)
theorem pw_lconst {n : Fin 2} {v : Int64} (dg : decode M.2.1 pc = .ok (.lconst n, 1)) (hv : Int64.ofNat (n : Nat) = v) (kk : PW_ E M R cells slots (pc + 1) lv (.long v :: rest) G Q) : PW_ E M R cells slots pc lv (rest) G Q := fun p e s m args below meth c A Qz C hr H locs ls hP hS hl => lv_lconst C.1 C.2.1 dg hv (kk p e s m args below meth c A Qz C hr H locs ls hP hS hl)
theorem pw_iload_n {k : Fin 4} {i : Nat} {x : Int32} (dg : decode M.2.1 pc = .ok (.iload_n k, 1)) (hi : (k : Nat) = i) (q : Nat) (hq : lv[q]? = some (i, .int x)) (kk : PW_ E M R cells slots (pc + 1) lv (.int x :: rest) G Q) : PW_ E M R cells slots pc lv rest G Q := fun p e s m args below meth c A Qz C hr H locs ls hP hS hl => lv_iload_n C.1 C.2.1 dg hi (lv_at hl q hq) (kk p e s m args below meth c A Qz C hr H locs ls hP hS hl)
theorem pw_iload {i : Nat} {x : Int32} (dg : decode M.2.1 pc = .ok (.iload i, 2)) (q : Nat) (hq : lv[q]? = some (i, .int x)) (kk : PW_ E M R cells slots (pc + 2) lv (.int x :: rest) G Q) : PW_ E M R cells slots pc lv rest G Q := fun p e s m args below meth c A Qz C hr H locs ls hP hS hl => lv_iload C.1 C.2.1 dg (lv_at hl q hq) (kk p e s m args below meth c A Qz C hr H locs ls hP hS hl)
theorem pw_istore_n {k : Fin 4} {i : Nat} {x : Int32} {lv' : List (Nat × Value)} (dg : decode M.2.1 pc = .ok (.istore_n k, 1)) (hi : (k : Nat) = i) (hn : i < M.2.2.1) (hl' : (i, Value.int x) :: lv.filter (fun q => !(q.1 == i) && !(q.1 + 1 == i && q.2.category == 2)) = lv') (kk : PW_ E M R cells slots (pc + 1) lv' rest G Q) : PW_ E M R cells slots pc lv (.int x :: rest) G Q := fun p e s m args below meth c A Qz C hr H locs ls hP hS hl => lv_istore_n C.1 C.2.1 dg hi hl hn hl' (fun ls hl => kk p e s m args below meth c A Qz C hr H locs ls hP hS hl)
theorem pw_istore {i : Nat} {x : Int32} {lv' : List (Nat × Value)} (dg : decode M.2.1 pc = .ok (.istore i, 2)) (hn : i < M.2.2.1) (hl' : (i, Value.int x) :: lv.filter (fun q => !(q.1 == i) && !(q.1 + 1 == i && q.2.category == 2)) = lv') (kk : PW_ E M R cells slots (pc + 2) lv' rest G Q) : PW_ E M R cells slots pc lv (.int x :: rest) G Q := fun p e s m args below meth c A Qz C hr H locs ls hP hS hl => lv_istore C.1 C.2.1 dg hl hn hl' (fun ls hl => kk p e s m args below meth c A Qz C hr H locs ls hP hS hl)
theorem pw_lload_n {k : Fin 4} {i : Nat} {x : Int64} (dg : decode M.2.1 pc = .ok (.lload_n k, 1)) (hi : (k : Nat) = i) (q : Nat) (hq : lv[q]? = some (i, .long x)) (kk : PW_ E M R cells slots (pc + 1) lv (.long x :: rest) G Q) : PW_ E M R cells slots pc lv rest G Q := fun p e s m args below meth c A Qz C hr H locs ls hP hS hl => lv_lload_n C.1 C.2.1 dg hi (lv_at hl q hq) (kk p e s m args below meth c A Qz C hr H locs ls hP hS hl)
theorem pw_lload {i : Nat} {x : Int64} (dg : decode M.2.1 pc = .ok (.lload i, 2)) (q : Nat) (hq : lv[q]? = some (i, .long x)) (kk : PW_ E M R cells slots (pc + 2) lv (.long x :: rest) G Q) : PW_ E M R cells slots pc lv rest G Q := fun p e s m args below meth c A Qz C hr H locs ls hP hS hl => lv_lload C.1 C.2.1 dg (lv_at hl q hq) (kk p e s m args below meth c A Qz C hr H locs ls hP hS hl)
theorem pw_lstore_n {k : Fin 4} {i : Nat} {x : Int64} {lv' : List (Nat × Value)} (dg : decode M.2.1 pc = .ok (.lstore_n k, 1)) (hi : (k : Nat) = i) (hn : i + 1 < M.2.2.1) (hl' : (i, Value.long x) :: lv.filter (fun q => !(q.1 == i) && (!(q.1 == i + 1) && !(q.1 + 1 == i && q.2.category == 2))) = lv') (kk : PW_ E M R cells slots (pc + 1) lv' rest G Q) : PW_ E M R cells slots pc lv (.long x :: rest) G Q := fun p e s m args below meth c A Qz C hr H locs ls hP hS hl => lv_lstore_n C.1 C.2.1 dg hi hl hn hl' (fun ls hl => kk p e s m args below meth c A Qz C hr H locs ls hP hS hl)
theorem pw_lstore {i : Nat} {x : Int64} {lv' : List (Nat × Value)} (dg : decode M.2.1 pc = .ok (.lstore i, 2)) (hn : i + 1 < M.2.2.1) (hl' : (i, Value.long x) :: lv.filter (fun q => !(q.1 == i) && (!(q.1 == i + 1) && !(q.1 + 1 == i && q.2.category == 2))) = lv') (kk : PW_ E M R cells slots (pc + 2) lv' rest G Q) : PW_ E M R cells slots pc lv (.long x :: rest) G Q := fun p e s m args below meth c A Qz C hr H locs ls hP hS hl => lv_lstore C.1 C.2.1 dg hl hn hl' (fun ls hl => kk p e s m args below meth c A Qz C hr H locs ls hP hS hl)
theorem pw_aload_n {k : Fin 4} {i : Nat} {x : Nat} (dg : decode M.2.1 pc = .ok (.aload_n k, 1)) (hi : (k : Nat) = i) (q : Nat) (hq : lv[q]? = some (i, .ref x)) (kk : PW_ E M R cells slots (pc + 1) lv (.ref x :: rest) G Q) : PW_ E M R cells slots pc lv rest G Q := fun p e s m args below meth c A Qz C hr H locs ls hP hS hl => lv_aload_n C.1 C.2.1 dg hi (lv_at hl q hq) (kk p e s m args below meth c A Qz C hr H locs ls hP hS hl)
theorem pw_aload {i : Nat} {x : Nat} (dg : decode M.2.1 pc = .ok (.aload i, 2)) (q : Nat) (hq : lv[q]? = some (i, .ref x)) (kk : PW_ E M R cells slots (pc + 2) lv (.ref x :: rest) G Q) : PW_ E M R cells slots pc lv rest G Q := fun p e s m args below meth c A Qz C hr H locs ls hP hS hl => lv_aload C.1 C.2.1 dg (lv_at hl q hq) (kk p e s m args below meth c A Qz C hr H locs ls hP hS hl)
theorem pw_astore_n {k : Fin 4} {i : Nat} {x : Nat} {lv' : List (Nat × Value)} (dg : decode M.2.1 pc = .ok (.astore_n k, 1)) (hi : (k : Nat) = i) (hn : i < M.2.2.1) (hl' : (i, Value.ref x) :: lv.filter (fun q => !(q.1 == i) && !(q.1 + 1 == i && q.2.category == 2)) = lv') (kk : PW_ E M R cells slots (pc + 1) lv' rest G Q) : PW_ E M R cells slots pc lv (.ref x :: rest) G Q := fun p e s m args below meth c A Qz C hr H locs ls hP hS hl => lv_astore_n C.1 C.2.1 dg hi hl hn hl' (fun ls hl => kk p e s m args below meth c A Qz C hr H locs ls hP hS hl)
theorem pw_astore {i : Nat} {x : Nat} {lv' : List (Nat × Value)} (dg : decode M.2.1 pc = .ok (.astore i, 2)) (hn : i < M.2.2.1) (hl' : (i, Value.ref x) :: lv.filter (fun q => !(q.1 == i) && !(q.1 + 1 == i && q.2.category == 2)) = lv') (kk : PW_ E M R cells slots (pc + 2) lv' rest G Q) : PW_ E M R cells slots pc lv (.ref x :: rest) G Q := fun p e s m args below meth c A Qz C hr H locs ls hP hS hl => lv_astore C.1 C.2.1 dg hl hn hl' (fun ls hl => kk p e s m args below meth c A Qz C hr H locs ls hP hS hl)
theorem pw_iinc {i k : Nat} {n : Int} {x v : Int32} {lv' : List (Nat × Value)} (dg : decode M.2.1 pc = .ok (.iinc i n, 3)) (hk : lv[k]? = some (i, .int x)) (hv : x + Int32.ofInt n = v) (hn : i < M.2.2.1) (hl' : (i, Value.int v) :: lv.filter (fun q => !(q.1 == i) && !(q.1 + 1 == i && q.2.category == 2)) = lv') (kk : PW_ E M R cells slots (pc + 3) lv' rest G Q) : PW_ E M R cells slots pc lv rest G Q := fun p e s m args below meth c A Qz C hr H locs ls hP hS hl => lv_iinc C.1 C.2.1 dg hl hk hv hn hl' (fun ls hl => kk p e s m args below meth c A Qz C hr H locs ls hP hS hl)
theorem pw_iadd {x y : Int32} (dg : decode M.2.1 pc = .ok (.iadd, 1)) (kk : PW_ E M R cells slots (pc + 1) lv (.int (x + y) :: rest) G Q) : PW_ E M R cells slots pc lv (.int y :: .int x :: rest) G Q := fun p e s m args below meth c A Qz C hr H locs ls hP hS hl => lv_iadd C.1 C.2.1 dg (kk p e s m args below meth c A Qz C hr H locs ls hP hS hl)
theorem pw_isub {x y : Int32} (dg : decode M.2.1 pc = .ok (.isub, 1)) (kk : PW_ E M R cells slots (pc + 1) lv (.int (x - y) :: rest) G Q) : PW_ E M R cells slots pc lv (.int y :: .int x :: rest) G Q := fun p e s m args below meth c A Qz C hr H locs ls hP hS hl => lv_isub C.1 C.2.1 dg (kk p e s m args below meth c A Qz C hr H locs ls hP hS hl)
theorem pw_imul {x y : Int32} (dg : decode M.2.1 pc = .ok (.imul, 1)) (kk : PW_ E M R cells slots (pc + 1) lv (.int (x * y) :: rest) G Q) : PW_ E M R cells slots pc lv (.int y :: .int x :: rest) G Q := fun p e s m args below meth c A Qz C hr H locs ls hP hS hl => lv_imul C.1 C.2.1 dg (kk p e s m args below meth c A Qz C hr H locs ls hP hS hl)
theorem pw_iand {x y : Int32} (dg : decode M.2.1 pc = .ok (.iand, 1)) (kk : PW_ E M R cells slots (pc + 1) lv (.int (x &&& y) :: rest) G Q) : PW_ E M R cells slots pc lv (.int y :: .int x :: rest) G Q := fun p e s m args below meth c A Qz C hr H locs ls hP hS hl => lv_iand C.1 C.2.1 dg (kk p e s m args below meth c A Qz C hr H locs ls hP hS hl)
theorem pw_ior {x y : Int32} (dg : decode M.2.1 pc = .ok (.ior, 1)) (kk : PW_ E M R cells slots (pc + 1) lv (.int (x ||| y) :: rest) G Q) : PW_ E M R cells slots pc lv (.int y :: .int x :: rest) G Q := fun p e s m args below meth c A Qz C hr H locs ls hP hS hl => lv_ior C.1 C.2.1 dg (kk p e s m args below meth c A Qz C hr H locs ls hP hS hl)
theorem pw_ixor {x y : Int32} (dg : decode M.2.1 pc = .ok (.ixor, 1)) (kk : PW_ E M R cells slots (pc + 1) lv (.int (x ^^^ y) :: rest) G Q) : PW_ E M R cells slots pc lv (.int y :: .int x :: rest) G Q := fun p e s m args below meth c A Qz C hr H locs ls hP hS hl => lv_ixor C.1 C.2.1 dg (kk p e s m args below meth c A Qz C hr H locs ls hP hS hl)
theorem pw_ishl {x y : Int32} (dg : decode M.2.1 pc = .ok (.ishl, 1)) (kk : PW_ E M R cells slots (pc + 1) lv (.int (x <<< (y &&& 31)) :: rest) G Q) : PW_ E M R cells slots pc lv (.int y :: .int x :: rest) G Q := fun p e s m args below meth c A Qz C hr H locs ls hP hS hl => lv_ishl C.1 C.2.1 dg (kk p e s m args below meth c A Qz C hr H locs ls hP hS hl)
theorem pw_ishr {x y : Int32} (dg : decode M.2.1 pc = .ok (.ishr, 1)) (kk : PW_ E M R cells slots (pc + 1) lv (.int (x >>> (y &&& 31)) :: rest) G Q) : PW_ E M R cells slots pc lv (.int y :: .int x :: rest) G Q := fun p e s m args below meth c A Qz C hr H locs ls hP hS hl => lv_ishr C.1 C.2.1 dg (kk p e s m args below meth c A Qz C hr H locs ls hP hS hl)
theorem pw_idiv {x y : Int32} (dg : decode M.2.1 pc = .ok (.idiv, 1)) (hne : ¬ y = 0) (kk : PW_ E M R cells slots (pc + 1) lv (.int (x / y) :: rest) G Q) : PW_ E M R cells slots pc lv (.int y :: .int x :: rest) G Q := fun p e s m args below meth c A Qz C hr H locs ls hP hS hl => lv_idiv C.1 C.2.1 dg hne (kk p e s m args below meth c A Qz C hr H locs ls hP hS hl)
theorem pw_irem {x y : Int32} (dg : decode M.2.1 pc = .ok (.irem, 1)) (hne : ¬ y = 0) (kk : PW_ E M R cells slots (pc + 1) lv (.int (x - x / y * y) :: rest) G Q) : PW_ E M R cells slots pc lv (.int y :: .int x :: rest) G Q := fun p e s m args below meth c A Qz C hr H locs ls hP hS hl => lv_irem C.1 C.2.1 dg hne (kk p e s m args below meth c A Qz C hr H locs ls hP hS hl)
theorem pw_ineg {x : Int32} (dg : decode M.2.1 pc = .ok (.ineg, 1)) (kk : PW_ E M R cells slots (pc + 1) lv (.int (-x) :: rest) G Q) : PW_ E M R cells slots pc lv (.int x :: rest) G Q := fun p e s m args below meth c A Qz C hr H locs ls hP hS hl => lv_ineg C.1 C.2.1 dg (kk p e s m args below meth c A Qz C hr H locs ls hP hS hl)
theorem pw_iushr {x y : Int32} (dg : decode M.2.1 pc = .ok (.iushr, 1)) (kk : PW_ E M R cells slots (pc + 1) lv (.int (ush_ x y) :: rest) G Q) : PW_ E M R cells slots pc lv (.int y :: .int x :: rest) G Q := fun p e s m args below meth c A Qz C hr H locs ls hP hS hl => lv_iushr C.1 C.2.1 dg rfl (kk p e s m args below meth c A Qz C hr H locs ls hP hS hl)
theorem pw_lushr {x : Int64} {y : Int32} (dg : decode M.2.1 pc = .ok (.lushr, 1)) (kk : PW_ E M R cells slots (pc + 1) lv (.long (lush_ x y) :: rest) G Q) : PW_ E M R cells slots pc lv (.int y :: .long x :: rest) G Q := fun p e s m args below meth c A Qz C hr H locs ls hP hS hl => lv_lushr C.1 C.2.1 dg rfl (kk p e s m args below meth c A Qz C hr H locs ls hP hS hl)
theorem pw_lshl {x : Int64} {y : Int32} (dg : decode M.2.1 pc = .ok (.lshl, 1)) (kk : PW_ E M R cells slots (pc + 1) lv (.long (x <<< (y.toInt64 &&& 63)) :: rest) G Q) : PW_ E M R cells slots pc lv (.int y :: .long x :: rest) G Q := fun p e s m args below meth c A Qz C hr H locs ls hP hS hl => lv_lshl C.1 C.2.1 dg rfl (kk p e s m args below meth c A Qz C hr H locs ls hP hS hl)
theorem pw_ladd {x y : Int64} (dg : decode M.2.1 pc = .ok (.ladd, 1)) (kk : PW_ E M R cells slots (pc + 1) lv (.long (x + y) :: rest) G Q) : PW_ E M R cells slots pc lv (.long y :: .long x :: rest) G Q := fun p e s m args below meth c A Qz C hr H locs ls hP hS hl => lv_ladd C.1 C.2.1 dg (kk p e s m args below meth c A Qz C hr H locs ls hP hS hl)
theorem pw_lsub {x y : Int64} (dg : decode M.2.1 pc = .ok (.lsub, 1)) (kk : PW_ E M R cells slots (pc + 1) lv (.long (x - y) :: rest) G Q) : PW_ E M R cells slots pc lv (.long y :: .long x :: rest) G Q := fun p e s m args below meth c A Qz C hr H locs ls hP hS hl => lv_lsub C.1 C.2.1 dg (kk p e s m args below meth c A Qz C hr H locs ls hP hS hl)
theorem pw_land {x y : Int64} (dg : decode M.2.1 pc = .ok (.land, 1)) (kk : PW_ E M R cells slots (pc + 1) lv (.long (x &&& y) :: rest) G Q) : PW_ E M R cells slots pc lv (.long y :: .long x :: rest) G Q := fun p e s m args below meth c A Qz C hr H locs ls hP hS hl => lv_land C.1 C.2.1 dg (kk p e s m args below meth c A Qz C hr H locs ls hP hS hl)
theorem pw_lor {x y : Int64} (dg : decode M.2.1 pc = .ok (.lor, 1)) (kk : PW_ E M R cells slots (pc + 1) lv (.long (x ||| y) :: rest) G Q) : PW_ E M R cells slots pc lv (.long y :: .long x :: rest) G Q := fun p e s m args below meth c A Qz C hr H locs ls hP hS hl => lv_lor C.1 C.2.1 dg (kk p e s m args below meth c A Qz C hr H locs ls hP hS hl)
theorem pw_l2i {x : Int64} (dg : decode M.2.1 pc = .ok (.l2i, 1)) (kk : PW_ E M R cells slots (pc + 1) lv (.int x.toInt32 :: rest) G Q) : PW_ E M R cells slots pc lv (.long x :: rest) G Q := fun p e s m args below meth c A Qz C hr H locs ls hP hS hl => lv_l2i C.1 C.2.1 dg rfl (kk p e s m args below meth c A Qz C hr H locs ls hP hS hl)
theorem pw_i2b {x : Int32} (dg : decode M.2.1 pc = .ok (.i2b, 1)) (kk : PW_ E M R cells slots (pc + 1) lv (.int x.toInt8.toInt32 :: rest) G Q) : PW_ E M R cells slots pc lv (.int x :: rest) G Q := fun p e s m args below meth c A Qz C hr H locs ls hP hS hl => lv_i2b C.1 C.2.1 dg rfl (kk p e s m args below meth c A Qz C hr H locs ls hP hS hl)
theorem pw_i2c {x : Int32} (dg : decode M.2.1 pc = .ok (.i2c, 1)) (kk : PW_ E M R cells slots (pc + 1) lv (.int (x.toUInt32 % 65536).toInt32 :: rest) G Q) : PW_ E M R cells slots pc lv (.int x :: rest) G Q := fun p e s m args below meth c A Qz C hr H locs ls hP hS hl => lv_i2c C.1 C.2.1 dg rfl (kk p e s m args below meth c A Qz C hr H locs ls hP hS hl)
theorem pw_dup {va : Value} (dg : decode M.2.1 pc = .ok (.dup, 1)) (h1 : va.category = 1) (kk : PW_ E M R cells slots (pc + 1) lv (va :: va :: rest) G Q) : PW_ E M R cells slots pc lv (va :: rest) G Q := fun p e s m args below meth c A Qz C hr H locs ls hP hS hl => lv_dup C.1 C.2.1 dg h1 (kk p e s m args below meth c A Qz C hr H locs ls hP hS hl)
theorem pw_pop {va : Value} (dg : decode M.2.1 pc = .ok (.pop, 1)) (h1 : va.category = 1) (kk : PW_ E M R cells slots (pc + 1) lv (rest) G Q) : PW_ E M R cells slots pc lv (va :: rest) G Q := fun p e s m args below meth c A Qz C hr H locs ls hP hS hl => lv_pop C.1 C.2.1 dg h1 (kk p e s m args below meth c A Qz C hr H locs ls hP hS hl)
theorem pw_dup2 {va vb : Value} (dg : decode M.2.1 pc = .ok (.dup2, 1)) (h1 : va.category = 1) (h2 : vb.category = 1) (kk : PW_ E M R cells slots (pc + 1) lv (va :: vb :: va :: vb :: rest) G Q) : PW_ E M R cells slots pc lv (va :: vb :: rest) G Q := fun p e s m args below meth c A Qz C hr H locs ls hP hS hl => lv_dup2_11 C.1 C.2.1 dg h1 h2 (kk p e s m args below meth c A Qz C hr H locs ls hP hS hl)
theorem pw_dup_x1 {va vb : Value} (dg : decode M.2.1 pc = .ok (.dup_x1, 1)) (h1 : va.category = 1) (h2 : vb.category = 1) (kk : PW_ E M R cells slots (pc + 1) lv (va :: vb :: va :: rest) G Q) : PW_ E M R cells slots pc lv (va :: vb :: rest) G Q := fun p e s m args below meth c A Qz C hr H locs ls hP hS hl => lv_dup_x1 C.1 C.2.1 dg h1 h2 (kk p e s m args below meth c A Qz C hr H locs ls hP hS hl)
theorem pw_if_eq {x : Int32} {off : Int} {tgt : Nat} (dg : decode M.2.1 pc = .ok (.ifCond .eq off, 3)) (ht : (pc : Int) + off = (tgt : Int)) (kt : x = 0 → PW_ E M R cells slots tgt lv rest G Q) (kf : ¬ x = 0 → PW_ E M R cells slots (pc + 3) lv rest G Q) : PW_ E M R cells slots pc lv (.int x :: rest) G Q := fun p e s m args below meth c A Qz C hr H locs ls hP hS hl => lv_if_eq C.1 C.2.1 dg ht (fun h => kt h p e s m args below meth c A Qz C hr H locs ls hP hS hl) (fun h => kf h p e s m args below meth c A Qz C hr H locs ls hP hS hl)
theorem pw_if_ne {x : Int32} {off : Int} {tgt : Nat} (dg : decode M.2.1 pc = .ok (.ifCond .ne off, 3)) (ht : (pc : Int) + off = (tgt : Int)) (kt : ¬ x = 0 → PW_ E M R cells slots tgt lv rest G Q) (kf : x = 0 → PW_ E M R cells slots (pc + 3) lv rest G Q) : PW_ E M R cells slots pc lv (.int x :: rest) G Q := fun p e s m args below meth c A Qz C hr H locs ls hP hS hl => lv_if_ne C.1 C.2.1 dg ht (fun h => kt h p e s m args below meth c A Qz C hr H locs ls hP hS hl) (fun h => kf h p e s m args below meth c A Qz C hr H locs ls hP hS hl)
theorem pw_if_lt {x : Int32} {off : Int} {tgt : Nat} (dg : decode M.2.1 pc = .ok (.ifCond .lt off, 3)) (ht : (pc : Int) + off = (tgt : Int)) (kt : x < 0 → PW_ E M R cells slots tgt lv rest G Q) (kf : ¬ x < 0 → PW_ E M R cells slots (pc + 3) lv rest G Q) : PW_ E M R cells slots pc lv (.int x :: rest) G Q := fun p e s m args below meth c A Qz C hr H locs ls hP hS hl => lv_if_lt C.1 C.2.1 dg ht (fun h => kt h p e s m args below meth c A Qz C hr H locs ls hP hS hl) (fun h => kf h p e s m args below meth c A Qz C hr H locs ls hP hS hl)
theorem pw_if_ge {x : Int32} {off : Int} {tgt : Nat} (dg : decode M.2.1 pc = .ok (.ifCond .ge off, 3)) (ht : (pc : Int) + off = (tgt : Int)) (kt : 0 ≤ x → PW_ E M R cells slots tgt lv rest G Q) (kf : ¬ 0 ≤ x → PW_ E M R cells slots (pc + 3) lv rest G Q) : PW_ E M R cells slots pc lv (.int x :: rest) G Q := fun p e s m args below meth c A Qz C hr H locs ls hP hS hl => lv_if_ge C.1 C.2.1 dg ht (fun h => kt h p e s m args below meth c A Qz C hr H locs ls hP hS hl) (fun h => kf h p e s m args below meth c A Qz C hr H locs ls hP hS hl)
theorem pw_if_gt {x : Int32} {off : Int} {tgt : Nat} (dg : decode M.2.1 pc = .ok (.ifCond .gt off, 3)) (ht : (pc : Int) + off = (tgt : Int)) (kt : 0 < x → PW_ E M R cells slots tgt lv rest G Q) (kf : ¬ 0 < x → PW_ E M R cells slots (pc + 3) lv rest G Q) : PW_ E M R cells slots pc lv (.int x :: rest) G Q := fun p e s m args below meth c A Qz C hr H locs ls hP hS hl => lv_if_gt C.1 C.2.1 dg ht (fun h => kt h p e s m args below meth c A Qz C hr H locs ls hP hS hl) (fun h => kf h p e s m args below meth c A Qz C hr H locs ls hP hS hl)
theorem pw_if_le {x : Int32} {off : Int} {tgt : Nat} (dg : decode M.2.1 pc = .ok (.ifCond .le off, 3)) (ht : (pc : Int) + off = (tgt : Int)) (kt : x ≤ 0 → PW_ E M R cells slots tgt lv rest G Q) (kf : ¬ x ≤ 0 → PW_ E M R cells slots (pc + 3) lv rest G Q) : PW_ E M R cells slots pc lv (.int x :: rest) G Q := fun p e s m args below meth c A Qz C hr H locs ls hP hS hl => lv_if_le C.1 C.2.1 dg ht (fun h => kt h p e s m args below meth c A Qz C hr H locs ls hP hS hl) (fun h => kf h p e s m args below meth c A Qz C hr H locs ls hP hS hl)
theorem pw_icmp_eq {x y : Int32} {off : Int} {tgt : Nat} (dg : decode M.2.1 pc = .ok (.if_icmp .eq off, 3)) (ht : (pc : Int) + off = (tgt : Int)) (kt : x = y → PW_ E M R cells slots tgt lv rest G Q) (kf : ¬ x = y → PW_ E M R cells slots (pc + 3) lv rest G Q) : PW_ E M R cells slots pc lv (.int y :: .int x :: rest) G Q := fun p e s m args below meth c A Qz C hr H locs ls hP hS hl => lv_icmp_eq C.1 C.2.1 dg ht (fun h => kt h p e s m args below meth c A Qz C hr H locs ls hP hS hl) (fun h => kf h p e s m args below meth c A Qz C hr H locs ls hP hS hl)
theorem pw_icmp_ne {x y : Int32} {off : Int} {tgt : Nat} (dg : decode M.2.1 pc = .ok (.if_icmp .ne off, 3)) (ht : (pc : Int) + off = (tgt : Int)) (kt : ¬ x = y → PW_ E M R cells slots tgt lv rest G Q) (kf : x = y → PW_ E M R cells slots (pc + 3) lv rest G Q) : PW_ E M R cells slots pc lv (.int y :: .int x :: rest) G Q := fun p e s m args below meth c A Qz C hr H locs ls hP hS hl => lv_icmp_ne C.1 C.2.1 dg ht (fun h => kt h p e s m args below meth c A Qz C hr H locs ls hP hS hl) (fun h => kf h p e s m args below meth c A Qz C hr H locs ls hP hS hl)
theorem pw_icmp_lt {x y : Int32} {off : Int} {tgt : Nat} (dg : decode M.2.1 pc = .ok (.if_icmp .lt off, 3)) (ht : (pc : Int) + off = (tgt : Int)) (kt : x < y → PW_ E M R cells slots tgt lv rest G Q) (kf : ¬ x < y → PW_ E M R cells slots (pc + 3) lv rest G Q) : PW_ E M R cells slots pc lv (.int y :: .int x :: rest) G Q := fun p e s m args below meth c A Qz C hr H locs ls hP hS hl => lv_icmp_lt C.1 C.2.1 dg ht (fun h => kt h p e s m args below meth c A Qz C hr H locs ls hP hS hl) (fun h => kf h p e s m args below meth c A Qz C hr H locs ls hP hS hl)
theorem pw_icmp_ge {x y : Int32} {off : Int} {tgt : Nat} (dg : decode M.2.1 pc = .ok (.if_icmp .ge off, 3)) (ht : (pc : Int) + off = (tgt : Int)) (kt : y ≤ x → PW_ E M R cells slots tgt lv rest G Q) (kf : ¬ y ≤ x → PW_ E M R cells slots (pc + 3) lv rest G Q) : PW_ E M R cells slots pc lv (.int y :: .int x :: rest) G Q := fun p e s m args below meth c A Qz C hr H locs ls hP hS hl => lv_icmp_ge C.1 C.2.1 dg ht (fun h => kt h p e s m args below meth c A Qz C hr H locs ls hP hS hl) (fun h => kf h p e s m args below meth c A Qz C hr H locs ls hP hS hl)
theorem pw_icmp_gt {x y : Int32} {off : Int} {tgt : Nat} (dg : decode M.2.1 pc = .ok (.if_icmp .gt off, 3)) (ht : (pc : Int) + off = (tgt : Int)) (kt : y < x → PW_ E M R cells slots tgt lv rest G Q) (kf : ¬ y < x → PW_ E M R cells slots (pc + 3) lv rest G Q) : PW_ E M R cells slots pc lv (.int y :: .int x :: rest) G Q := fun p e s m args below meth c A Qz C hr H locs ls hP hS hl => lv_icmp_gt C.1 C.2.1 dg ht (fun h => kt h p e s m args below meth c A Qz C hr H locs ls hP hS hl) (fun h => kf h p e s m args below meth c A Qz C hr H locs ls hP hS hl)
theorem pw_icmp_le {x y : Int32} {off : Int} {tgt : Nat} (dg : decode M.2.1 pc = .ok (.if_icmp .le off, 3)) (ht : (pc : Int) + off = (tgt : Int)) (kt : x ≤ y → PW_ E M R cells slots tgt lv rest G Q) (kf : ¬ x ≤ y → PW_ E M R cells slots (pc + 3) lv rest G Q) : PW_ E M R cells slots pc lv (.int y :: .int x :: rest) G Q := fun p e s m args below meth c A Qz C hr H locs ls hP hS hl => lv_icmp_le C.1 C.2.1 dg ht (fun h => kt h p e s m args below meth c A Qz C hr H locs ls hP hS hl) (fun h => kf h p e s m args below meth c A Qz C hr H locs ls hP hS hl)
theorem pw_goto {off : Int} {tgt : Nat} (dg : decode M.2.1 pc = .ok (.goto off, 3)) (ht : (pc : Int) + off = (tgt : Int)) (kk : PW_ E M R cells slots tgt lv rest G Q) : PW_ E M R cells slots pc lv rest G Q := fun p e s m args below meth c A Qz C hr H locs ls hP hS hl => lv_goto C.1 C.2.1 dg ht (kk p e s m args below meth c A Qz C hr H locs ls hP hS hl)
theorem pw_tswIn {dflt lo hi : Int} {offs : Array Int} {len tgt : Nat} {x : Int32} {off : Int} (v : Int32) (dg : decode M.2.1 pc = .ok (.tableswitch dflt lo hi offs, len)) (hx : x = v) (h1 : ¬ v.toInt < lo) (h2 : ¬ hi < v.toInt) (ho : offs[(v.toInt - lo).toNat]? = some off) (ht : (pc : Int) + off = (tgt : Int)) (kk : PW_ E M R cells slots tgt lv rest G Q) : PW_ E M R cells slots pc lv (.int x :: rest) G Q := fun p e s m args below meth c A Qz C hr H locs ls hP hS hl => lv_tableIn C.1 C.2.1 dg (by rw [hx]; exact h1) (by rw [hx]; exact h2) (by rw [hx]; exact ho) ht (kk p e s m args below meth c A Qz C hr H locs ls hP hS hl)
theorem pw_tswOut {dflt lo hi : Int} {offs : Array Int} {len tgt : Nat} {x : Int32} (dg : decode M.2.1 pc = .ok (.tableswitch dflt lo hi offs, len)) (h : x.toInt < lo ∨ hi < x.toInt) (ht : (pc : Int) + dflt = (tgt : Int)) (kk : PW_ E M R cells slots tgt lv rest G Q) : PW_ E M R cells slots pc lv (.int x :: rest) G Q := fun p e s m args below meth c A Qz C hr H locs ls hP hS hl => lv_tableOut C.1 C.2.1 dg h ht (kk p e s m args below meth c A Qz C hr H locs ls hP hS hl)
theorem pw_lsw {dflt : Int} {ps : Array (Int × Int)} {len tgt : Nat} {x : Int32} {off : Int} (dg : decode M.2.1 pc = .ok (.lookupswitch dflt ps, len)) (hp : (ps.toList.zip (ps.toList.drop 1)).all (fun (a, next) => a.1 < next.1) = true) (ho : Op.lookupswitch.offset ps.toList dflt x.toInt = off) (ht : (pc : Int) + off = (tgt : Int)) (kk : PW_ E M R cells slots tgt lv rest G Q) : PW_ E M R cells slots pc lv (.int x :: rest) G Q := fun p e s m args below meth c A Qz C hr H locs ls hP hS hl => lv_lookup C.1 C.2.1 dg hp ho ht (kk p e s m args below meth c A Qz C hr H locs ls hP hS hl)
theorem pw_loc {lv' : List (Nat × Value)} {st : List Value} (ks : List Nat) (h : lv_pick lv ks = lv') (kk : PW_ E M R cells slots pc lv' st G Q) : PW_ E M R cells slots pc lv st G Q := fun p e s m args below meth c A Qz C hr H locs ls hP hS hl => kk p e s m args below meth c A Qz C hr H locs ls hP hS (lv_sub hl ks h)
theorem pw_nmG {G2 : GS} {st : List Value} (hg : G = G2) (kk : PW_ E M R cells slots pc lv st G2 Q) : PW_ E M R cells slots pc lv st G Q := by subst hg; exact kk
theorem pw_mono {Q2 : Option Value → GS → Prop} {st : List Value} (hq : ∀ r G', Q r G' → Q2 r G') (kk : PW_ E M R cells slots pc lv st G Q) : PW_ E M R cells slots pc lv st G Q2 := fun p e s m args below meth c A Qz C hr H locs ls hP hS hl => kk p e s m args below meth c A Qz C (fun r G' H locs pc' ls st' h => hr r G' H locs pc' ls st' (hq r G' h)) H locs ls hP hS hl
theorem pw_ireturn {v : Int32} {ty : FieldType} (dg : decode M.2.1 pc = .ok (.ireturn, 1)) (hr0 : M.2.2.2 = some ty) (hn : narrow ty (.int v) = .int v) (hq : Q (some (.int v)) G) : PW_ E M R cells slots pc lv [.int v] G Q := fun p e s m args below meth c A Qz C hr H locs ls hP hS hl => hr _ G H locs pc ls _ hq (Or.inl ⟨v, ty, hr0, hn, dg, rfl, rfl⟩) hP hS
theorem pw_return (dg : decode M.2.1 pc = .ok (.return_, 1)) (hr0 : M.2.2.2 = none) (hq : Q none G) : PW_ E M R cells slots pc lv [] G Q := fun p e s m args below meth c A Qz C hr H locs ls hP hS hl => hr _ G H locs pc ls _ hq (Or.inr (Or.inl ⟨hr0, dg, rfl, rfl⟩)) hP hS
theorem pw_areturn {a : Nat} {n : String} (dg : decode M.2.1 pc = .ok (.areturn, 1)) (hr0 : M.2.2.2 = some (.object n)) (hq : Q (some (.ref a)) G) : PW_ E M R cells slots pc lv [.ref a] G Q := fun p e s m args below meth c A Qz C hr H locs ls hP hS hl => hr _ G H locs pc ls _ hq (Or.inr (Or.inr ⟨a, n, hr0, dg, rfl, rfl⟩)) hP hS
theorem pw_ldc {idx : Nat} {v : Int32} (dg : decode M.2.1 pc = .ok (.ldc idx, 2)) (hc : Cond.constant M.1.cls idx v ∈ TB) (kk : PW_ E M R cells slots (pc + 2) lv (.int v :: rest) G Q) : PW_ E M R cells slots pc lv rest G Q := fun p e s m args below meth c A Qz C hr H locs ls hP hS hl => lv_ldc C.1 C.2.1 C.own (C.w hc) dg (kk p e s m args below meth c A Qz C hr H locs ls hP hS hl)
theorem pw_ldcw {idx : Nat} {v : Int32} (dg : decode M.2.1 pc = .ok (.ldc_w idx, 3)) (hc : Cond.constant M.1.cls idx v ∈ TB) (kk : PW_ E M R cells slots (pc + 3) lv (.int v :: rest) G Q) : PW_ E M R cells slots pc lv rest G Q := fun p e s m args below meth c A Qz C hr H locs ls hP hS hl => lv_ldcw C.1 C.2.1 C.own (C.w hc) dg (kk p e s m args below meth c A Qz C hr H locs ls hP hS hl)
theorem pw_ldc2 {idx : Nat} {v : Int64} (dg : decode M.2.1 pc = .ok (.ldc2_w idx, 3)) (hc : Cond.constantLong M.1.cls idx v ∈ TB) (kk : PW_ E M R cells slots (pc + 3) lv (.long v :: rest) G Q) : PW_ E M R cells slots pc lv rest G Q := fun p e s m args below meth c A Qz C hr H locs ls hP hS hl => lv_ldc2 C.1 C.2.1 C.own (C.w hc) dg (kk p e s m args below meth c A Qz C hr H locs ls hP hS hl)
theorem pw_ldcS {idx : Nat} (i : Nat) (hi : i < nk_) (dg : decode M.2.1 pc = .ok (.ldc idx, 2)) (ho : M.1.cls = "HearDifference$Reader") (hx : kx_.getD i 0 = idx) (kk : PW_ E M R cells slots (pc + 2) lv (.ref (ev_aK E i) :: rest) G Q) : PW_ E M R cells slots pc lv rest G Q := fun p e s m args below meth c A Qz C hr H locs ls hP hS hl => va_ldcS (own := "HearDifference$Reader") (index := idx) (q := ev_aK E i) C.1 C.2.1 (by rw [← ho]; exact C.own) (by rw [← hx]; exact C.X.2.2.1 i hi) dg (kk p e s m args below meth c A Qz C hr H locs ls hP hS hl)
/-- a field's place: its class, its words, its link -/
def FA_ (own : String) (idx ci j : Nat) : Prop := ∃ (C : String) (T : u_T) (N : Nat), vwCl[ci]? = some (C, T, N) ∧ (∀ w ∈ u_ws C T N, w ∈ TB) ∧ j < N ∧ (Cond.fieldLink own idx (T j).1 (T j).2.1 (T j).2.2.1 ∈ TB ∨ ∃ host, Cond.fieldLinkNest own idx (T j).1 (T j).2.1 (T j).2.2.1 host ∈ tables_1)
def FP_ (own : String) (idx ci j : Nat) (ty : FieldType) : Prop := ∃ (C : String) (T : u_T) (N : Nat) (ty0 : Nat → FieldType), vwCl[ci]? = some (C, T, N) ∧ (∀ w ∈ u_ws C T N, w ∈ TB) ∧ j < N ∧ (Cond.fieldLink own idx (T j).1 (T j).2.1 (T j).2.2.1 ∈ TB ∨ ∃ host, Cond.fieldLinkNest own idx (T j).1 (T j).2.1 (T j).2.2.1 host ∈ tables_1) ∧ (∀ k, k < N → parseFieldDescriptor (T k).2.2.1 = some (ty0 k)) ∧ (∀ a, a < N → ∀ b, b < N → a ≠ b → (T a).2.1 ≠ (T b).2.1) ∧ (T j).2.2.2 = false ∧ parseFieldDescriptor (T j).2.2.1 = some ty
theorem pw_getf {k j ci idx : Nat} {fs : List (Option Nat)} {f : Option Nat} (dg : decode M.2.1 pc = .ok (.getfield idx, 3)) (hF : FA_ M.1.cls idx ci j) (hL : Lay[k]? = some (.inl (ci, fs))) (hf : fs[j]? = some f) (kk : PW_ E M R cells slots (pc + 3) lv (fv_ E G k j f :: rest) G Q) : PW_ E M R cells slots pc lv (.ref (ev_ad E k) :: rest) G Q := by
  intro p e s m args below meth c A Qz C hr H locs ls hP hS hl
  obtain ⟨Cn, T, N, hc, hin, hj, hlk⟩ := hF
  have hv : (fm_ E G k 0 fs)[j]? = some (fv_ E G k j f) := by rw [fm_get, hf, Nat.zero_add]; rfl
  rcases hlk with hlk | ⟨host, hlk⟩
  · exact va_get C.1 C.2.1 C.ts hin C.own C.K hP k (wo_at hL) hc j hj (C.w hlk) (fun _ h => h) hv dg (kk p e s m args below meth c A Qz C hr H locs ls hP hS hl)
  · exact va_getN C.1 C.2.1 C.ts hin C.own C.K hP k (wo_at hL) hc j hj (va_Nw.use rfl (C.X.1 _ _ _ _ _ _ hlk)) (fun _ h => h) hv dg (kk p e s m args below meth c A Qz C hr H locs ls hP hS hl)
theorem pw_geti {k j ci idx : Nat} {fs : List (Option Nat)} (dg : decode M.2.1 pc = .ok (.getfield idx, 3)) (hF : FA_ M.1.cls idx ci j) (hL : Lay[k]? = some (.inl (ci, fs))) (hf : fs[j]? = some none) {v : Int32} (hv : G k j = v) (kk : PW_ E M R cells slots (pc + 3) lv (.int v :: rest) G Q) : PW_ E M R cells slots pc lv (.ref (ev_ad E k) :: rest) G Q := pw_getf dg hF hL hf (by subst hv; exact kk)
theorem pw_getr {k j ci idx q : Nat} {fs : List (Option Nat)} (dg : decode M.2.1 pc = .ok (.getfield idx, 3)) (hF : FA_ M.1.cls idx ci j) (hL : Lay[k]? = some (.inl (ci, fs))) (hf : fs[j]? = some (some q)) (kk : PW_ E M R cells slots (pc + 3) lv (.ref (ev_ad E q) :: rest) G Q) : PW_ E M R cells slots pc lv (.ref (ev_ad E k) :: rest) G Q := pw_getf dg hF hL hf kk
theorem pw_put {k j ci idx : Nat} {fs : List (Option Nat)} {ty : FieldType} {v : Int32} (dg : decode M.2.1 pc = .ok (.putfield idx, 3)) (hF : FP_ M.1.cls idx ci j ty) (hL : Lay[k]? = some (.inl (ci, fs))) (hf : fs[j]? = some none) (hn : narrow ty (.int v) = .int v) (hft : fits ty (.int v) = true) (kk : PW_ E M R cells slots (pc + 3) lv rest (gu_ G k j v) Q) : PW_ E M R cells slots pc lv (.int v :: .ref (ev_ad E k) :: rest) G Q := by
  intro p e s m args below meth c A Qz C hr H locs ls hP hS hl
  obtain ⟨Cn, T, N, ty0, hc, hin, hj, hlk, hty, hnm, hfin, hd⟩ := hF
  have hlen : j < (fm_ E G k 0 fs).length := by rw [fm_len]; exact (List.getElem?_eq_some_iff.mp hf).1
  rcases hlk with hlk | ⟨host, hlk⟩
  · refine va_put C.1 C.2.1 C.ts hin ty0 hty hnm C.own C.K hP (C.D G) hS k (wo_at hL) hc j hj (C.w hlk) (fun _ h => h) hfin hd hn hft hlen dg (fun H1 locs1 hP1 _ hS1 => ?_)
    exact kk p e s m args below meth c A Qz C hr H1 locs1 ls (by rw [← wo_setF v hL hf]; exact hP1) hS1 hl
  · refine va_putN C.1 C.2.1 C.ts hin ty0 hty hnm C.own C.K hP (C.D G) hS k (wo_at hL) hc j hj (va_Nw.use rfl (C.X.1 _ _ _ _ _ _ hlk)) (fun _ h => h) hfin hd hn hft hlen dg (fun H1 locs1 hP1 _ hS1 => ?_)
    exact kk p e s m args below meth c A Qz C hr H1 locs1 ls (by rw [← wo_setF v hL hf]; exact hP1) hS1 hl
theorem pw_puti {k j ci idx : Nat} {fs : List (Option Nat)} {v : Int32} (dg : decode M.2.1 pc = .ok (.putfield idx, 3)) (hF : FP_ M.1.cls idx ci j .int) (hL : Lay[k]? = some (.inl (ci, fs))) (hf : fs[j]? = some none) (kk : PW_ E M R cells slots (pc + 3) lv rest (gu_ G k j v) Q) : PW_ E M R cells slots pc lv (.int v :: .ref (ev_ad E k) :: rest) G Q := pw_put dg hF hL hf rfl rfl kk
/-- 0 or 1 -/
def bz_ (v : Int32) : Prop := v = 0 ∨ v = 1
theorem bz_n {v : Int32} (h : bz_ v) : narrow .boolean (.int v) = .int v := by rcases h with rfl | rfl <;> rfl
theorem bz_f {v : Int32} (h : bz_ v) : fits .boolean (.int v) = true := by rcases h with rfl | rfl <;> rfl
theorem pw_putz {k j ci idx : Nat} {fs : List (Option Nat)} {v : Int32} (dg : decode M.2.1 pc = .ok (.putfield idx, 3)) (hF : FP_ M.1.cls idx ci j .boolean) (hL : Lay[k]? = some (.inl (ci, fs))) (hf : fs[j]? = some none) (hz : bz_ v) (kk : PW_ E M R cells slots (pc + 3) lv rest (gu_ G k j v) Q) : PW_ E M R cells slots pc lv (.int v :: .ref (ev_ad E k) :: rest) G Q := pw_put dg hF hL hf (bz_n hz) (bz_f hz) kk
theorem pw_iald {k n : Nat} {i : Int32} (dg : decode M.2.1 pc = .ok (.iaload, 1)) (hL : Lay[k]? = some (.inr (0, n))) (hin : vp_in i n) {v : Int32} (hv : G k i.toNatClampNeg = v) (kk : PW_ E M R cells slots (pc + 1) lv (.int v :: rest) G Q) : PW_ E M R cells slots pc lv (.int i :: .ref (ev_ad E k) :: rest) G Q := fun p e s m args below meth c A Qz C hr H locs ls hP hS hl => va_iald (q0 := k) (t0 := 0) (cA := ev_cA E 0) (n := n) (f := G k) C.1 C.2.1 C.K hP (ha := wo_at hL) (ht := rfl) hin dg (by subst hv; exact (kk p e s m args below meth c A Qz C hr H locs ls hP hS hl))
theorem pw_bald {k n : Nat} {i : Int32} (dg : decode M.2.1 pc = .ok (.baload, 1)) (hL : Lay[k]? = some (.inr (1, n))) (hin : vp_in i n) {v : Int32} (hv : G k i.toNatClampNeg = v) (kk : PW_ E M R cells slots (pc + 1) lv (.int v :: rest) G Q) : PW_ E M R cells slots pc lv (.int i :: .ref (ev_ad E k) :: rest) G Q := fun p e s m args below meth c A Qz C hr H locs ls hP hS hl => va_bald (q0 := k) (t0 := 1) (cA := ev_cA E 1) (n := n) (f := G k) C.1 C.2.1 C.K hP (ha := wo_at hL) (ht := rfl) hin dg (by subst hv; exact (kk p e s m args below meth c A Qz C hr H locs ls hP hS hl))
theorem pw_zald {k n : Nat} {i : Int32} (dg : decode M.2.1 pc = .ok (.baload, 1)) (hL : Lay[k]? = some (.inr (2, n))) (hin : vp_in i n) {v : Int32} (hv : G k i.toNatClampNeg = v) (kk : PW_ E M R cells slots (pc + 1) lv (.int v :: rest) G Q) : PW_ E M R cells slots pc lv (.int i :: .ref (ev_ad E k) :: rest) G Q := fun p e s m args below meth c A Qz C hr H locs ls hP hS hl => va_zald (q0 := k) (t0 := 2) (cA := ev_cA E 2) (n := n) (f := G k) C.1 C.2.1 C.K hP (ha := wo_at hL) (ht := rfl) hin dg (by subst hv; exact (kk p e s m args below meth c A Qz C hr H locs ls hP hS hl))
theorem pw_iast {k n : Nat} {i x : Int32} (dg : decode M.2.1 pc = .ok (.iastore, 1)) (hL : Lay[k]? = some (.inr (0, n))) (hin : vp_in i n) {z : Nat} (hz : i.toNatClampNeg = z) (kk : PW_ E M R cells slots (pc + 1) lv rest (gu_ G k z (x)) Q) : PW_ E M R cells slots pc lv (.int x :: .int i :: .ref (ev_ad E k) :: rest) G Q := by
  subst hz
  intro p e s m args below meth c A Qz C hr H locs ls hP hS hl
  refine va_iast (q0 := k) (t0 := 0) (cA := ev_cA E 0) (n := n) (f := G k) C.1 C.2.1 C.K hP (C.D G) hS (ha := wo_at hL) (ht := rfl) hin dg (fun H1 locs1 hP1 _ hS1 => ?_)
  exact kk p e s m args below meth c A Qz C hr H1 locs1 ls (by show va_P _ _ (wo_ E (gf_ G k (upd (G k) i.toNatClampNeg (x)))) H1; rw [← wo_setA _ hL]; exact hP1) hS1 hl
theorem pw_bast {k n : Nat} {i x : Int32} (dg : decode M.2.1 pc = .ok (.bastore, 1)) (hL : Lay[k]? = some (.inr (1, n))) (hin : vp_in i n) {z : Nat} (hz : i.toNatClampNeg = z) (kk : PW_ E M R cells slots (pc + 1) lv rest (gu_ G k z (vp_nar .byte x)) Q) : PW_ E M R cells slots pc lv (.int x :: .int i :: .ref (ev_ad E k) :: rest) G Q := by
  subst hz
  intro p e s m args below meth c A Qz C hr H locs ls hP hS hl
  refine va_bast (q0 := k) (t0 := 1) (cA := ev_cA E 1) (n := n) (f := G k) C.1 C.2.1 C.K hP (C.D G) hS (ha := wo_at hL) (ht := rfl) hin dg (fun H1 locs1 hP1 _ hS1 => ?_)
  exact kk p e s m args below meth c A Qz C hr H1 locs1 ls (by show va_P _ _ (wo_ E (gf_ G k (upd (G k) i.toNatClampNeg (vp_nar .byte x)))) H1; rw [← wo_setA _ hL]; exact hP1) hS1 hl
theorem pw_zast {k n : Nat} {i x : Int32} (dg : decode M.2.1 pc = .ok (.bastore, 1)) (hL : Lay[k]? = some (.inr (2, n))) (hin : vp_in i n) {z : Nat} (hz : i.toNatClampNeg = z) (kk : PW_ E M R cells slots (pc + 1) lv rest (gu_ G k z (vp_nar .boolean x)) Q) : PW_ E M R cells slots pc lv (.int x :: .int i :: .ref (ev_ad E k) :: rest) G Q := by
  subst hz
  intro p e s m args below meth c A Qz C hr H locs ls hP hS hl
  refine va_zast (q0 := k) (t0 := 2) (cA := ev_cA E 2) (n := n) (f := G k) C.1 C.2.1 C.K hP (C.D G) hS (ha := wo_at hL) (ht := rfl) hin dg (fun H1 locs1 hP1 _ hS1 => ?_)
  exact kk p e s m args below meth c A Qz C hr H1 locs1 ls (by show va_P _ _ (wo_ E (gf_ G k (upd (G k) i.toNatClampNeg (vp_nar .boolean x)))) H1; rw [← wo_setA _ hL]; exact hP1) hS1 hl
theorem pw_alen {k t n : Nat} {v : Int32} {ty : FieldType} (dg : decode M.2.1 pc = .ok (.arraylength, 1)) (hL : Lay[k]? = some (.inr (t, n))) (hv : Int32.ofNat n = v) (ht : (ty_ E)[t]? = some (ev_cA E t, ty)) (kk : PW_ E M R cells slots (pc + 1) lv (.int v :: rest) G Q) : PW_ E M R cells slots pc lv (.ref (ev_ad E k) :: rest) G Q := fun p e s m args below meth c A Qz C hr H locs ls hP hS hl => va_alen (q0 := k) (t0 := t) (cA := ev_cA E t) (x := (n, .inl (G k))) (ty := ty) C.1 C.2.1 C.K hP (ha := wo_at hL) (ht := ht) hv dg (kk p e s m args below meth c A Qz C hr H locs ls hP hS hl)
theorem pw_getru {idx : Nat} (dg : decode M.2.1 pc = .ok (.getstatic idx, 3)) (hlk : Cond.fieldLink M.1.cls idx "HearDifference" "RULERS" "[I" ∈ TB) (kk : PW_ E M R cells slots (pc + 3) lv (.ref (ev_ru E) :: rest) G Q) : PW_ E M R cells slots pc lv rest G Q := fun p e s m args below meth c A Qz C hr H locs ls hP hS hl => va_gets C.1 C.2.1 C.X.2.2.2.2.2.1 hS C.own (C.w hlk) (fun _ h => h) dg (kk p e s m args below meth c A Qz C hr H locs ls hP hS hl)
theorem pw_ruld {i : Int32} (dg : decode M.2.1 pc = .ok (.iaload, 1)) (hin : vp_in i 21) (kk : PW_ E M R cells slots (pc + 1) lv (.int (ru_.getD i.toNatClampNeg 0) :: rest) G Q) : PW_ E M R cells slots pc lv (.int i :: .ref (ev_ru E) :: rest) G Q := by
  intro p e s m args below meth c A Qz C hr H locs ls hP hS hl
  obtain ⟨cell, h1, h2, h3, h4, h5, h6, h7⟩ := C.X.2.2.2.2.2.2.1.kept hS.2.1
  have hlt : i.toNatClampNeg < 21 := Nat.not_le.mp fun q => hin (Or.inr q)
  exact W.iald (v := .int (ru_.getD i.toNatClampNeg 0)) C.1 C.2.1 h1 h2 h3 (fun q => q.elim (fun z => hin (Or.inl z)) (fun z => by omega)) (h6 _ hlt) rfl rfl dg (kk p e s m args below meth c A Qz C hr H locs ls hP hS hl)
theorem pw_strv {idx i : Nat} (hi : i < nk_) (dg : decode M.2.1 pc = .ok (.getfield idx, 3)) (hlk : Cond.fieldLink M.1.cls idx "java/lang/String" "value" "[B" ∈ TB) (kk : PW_ E M R cells slots (pc + 3) lv (.ref (ev_aV E i) :: rest) G Q) : PW_ E M R cells slots pc lv (.ref (ev_aK E i) :: rest) G Q := fun p e s m args below meth c A Qz C hr H locs ls hP hS hl => vk_getf C.1 C.2.1 (C.X.2.2.2.1.1 i hi).2.2.1 hS C.own (C.w hlk) (fun _ h => h) dg (kk p e s m args below meth c A Qz C hr H locs ls hP hS hl)
theorem pw_strc {idx i : Nat} (hi : i < nk_) (dg : decode M.2.1 pc = .ok (.getfield idx, 3)) (hlk : Cond.fieldLink M.1.cls idx "java/lang/String" "coder" "B" ∈ TB) (kk : PW_ E M R cells slots (pc + 3) lv (.int 0 :: rest) G Q) : PW_ E M R cells slots pc lv (.ref (ev_aK E i) :: rest) G Q := fun p e s m args below meth c A Qz C hr H locs ls hP hS hl => vk_getf C.1 C.2.1 (C.X.2.2.2.1.1 i hi).2.1 hS C.own (C.w hlk) (fun _ h => h) dg (kk p e s m args below meth c A Qz C hr H locs ls hP hS hl)
theorem pw_strl {i : Nat} (hi : i < nk_) (dg : decode M.2.1 pc = .ok (.arraylength, 1)) (kk : PW_ E M R cells slots (pc + 1) lv (.int (nI (kl_.getD i 0)) :: rest) G Q) : PW_ E M R cells slots pc lv (.ref (ev_aV E i) :: rest) G Q := by
  intro p e s m args below meth c A Qz C hr H locs ls hP hS hl
  obtain ⟨cell, h1, h2, h3, h4, h5, h6, h7⟩ := (C.X.2.2.2.1.1 i hi).2.2.2.kept hS.2.1
  exact W.alen C.1 C.2.1 h1 h2 h5 rfl rfl dg (kk p e s m args below meth c A Qz C hr H locs ls hP hS hl)
theorem pw_strb {i : Nat} {k : Int32} (hi : i < nk_) (dg : decode M.2.1 pc = .ok (.baload, 1)) (hin : vp_in k (kl_.getD i 0)) (kk : PW_ E M R cells slots (pc + 1) lv (.int ((kb_.getD i []).getD k.toNatClampNeg 0) :: rest) G Q) : PW_ E M R cells slots pc lv (.int k :: .ref (ev_aV E i) :: rest) G Q := by
  intro p e s m args below meth c A Qz C hr H locs ls hP hS hl
  obtain ⟨cell, h1, h2, h3, h4, h5, h6, h7⟩ := (C.X.2.2.2.1.1 i hi).2.2.2.kept hS.2.1
  have hlt : k.toNatClampNeg < kl_.getD i 0 := Nat.not_le.mp fun q => hin (Or.inr q)
  exact W.bald (v := .int ((kb_.getD i []).getD k.toNatClampNeg 0)) C.1 C.2.1 h1 h2 h3 (fun q => q.elim (fun z => hin (Or.inl z)) (fun z => by omega)) (h6 _ hlt) rfl rfl dg (kk p e s m args below meth c A Qz C hr H locs ls hP hS hl)
theorem pw_getcs {idx : Nat} (dg : decode M.2.1 pc = .ok (.getstatic idx, 3)) (hlk : Cond.fieldLink M.1.cls idx "java/lang/String" "COMPACT_STRINGS" "Z" ∈ TB) (kk : PW_ E M R cells slots (pc + 3) lv (.int 1 :: rest) G Q) : PW_ E M R cells slots pc lv rest G Q := fun p e s m args below meth c A Qz C hr H locs ls hP hS hl => va_gets C.1 C.2.1 C.X.2.2.2.2.1 hS C.own (C.w hlk) (fun _ h => h) dg (kk p e s m args below meth c A Qz C hr H locs ls hP hS hl)
theorem pw_getfm {idx : Nat} (dg : decode M.2.1 pc = .ok (.getstatic idx, 3)) (hlk : Cond.fieldLink M.1.cls idx "jdk/internal/util/Preconditions" "SIOOBE_FORMATTER" "Ljava/util/function/BiFunction;" ∈ TB) (kk : PW_ E M R cells slots (pc + 3) lv (va_rf (ev_fm E) :: rest) G Q) : PW_ E M R cells slots pc lv rest G Q := fun p e s m args below meth c A Qz C hr H locs ls hP hS hl => va_gets C.1 C.2.1 C.X.2.2.2.2.2.2.2.1 hS C.own (C.w hlk) (fun _ h => h) dg (kk p e s m args below meth c A Qz C hr H locs ls hP hS hl)
theorem pw_sld {i : Int32} (dg : decode M.2.1 pc = .ok (.iaload, 1)) (hin : vp_in i (ev_L E)) (kk : PW_ E M R cells slots (pc + 1) lv (.int (ev_xs E i.toNatClampNeg) :: rest) G Q) : PW_ E M R cells slots pc lv (.int i :: .ref (ev_b E) :: rest) G Q := fun p e s m args below meth c A Qz C hr H locs ls hP hS hl => va_sld C.1 C.2.1 C.X.2.2.2.2.2.2.2.2.1 C.X.2.2.2.2.2.2.2.2.2.2 C.X.2.2.2.2.2.2.2.2.2.1 hS hin dg (kk p e s m args below meth c A Qz C hr H locs ls hP hS hl)
theorem pw_slen (dg : decode M.2.1 pc = .ok (.arraylength, 1)) (kk : PW_ E M R cells slots (pc + 1) lv (.int (Int32.ofNat (ev_L E)) :: rest) G Q) : PW_ E M R cells slots pc lv (.ref (ev_b E) :: rest) G Q := fun p e s m args below meth c A Qz C hr H locs ls hP hS hl => va_slen C.1 C.2.1 C.X.2.2.2.2.2.2.2.2.1 C.X.2.2.2.2.2.2.2.2.2.2 C.X.2.2.2.2.2.2.2.2.2.1 hS dg (kk p e s m args below meth c A Qz C hr H locs ls hP hS hl)
def JM_min (own : String) (idx : Nat) : Prop := Cond.methodLink own idx Lib.Math.min.name ∈ TB ∧ Cond.static Lib.Math.min.name ∈ TB ∧ Cond.initialized "java/lang/Math" ∈ TB ∧ Cond.code Lib.Math.min.name Lib.Math.min.code 2 (some .int) ∈ TB
theorem pw_mmin {idx : Nat} {x y : Int32} (dg : decode M.2.1 pc = .ok (.invokestatic idx, 3)) (hJ : JM_min M.1.cls idx) (hd : 1 ≤ R.frames ∧ 40 ≤ R.locals) (hcs : cells ≤ R.cells ∧ slots ≤ R.slots) (hrest : (rest.map fun v => v.category).sum ≤ 8) (kk : PW_ E M R cells slots (pc + 3) lv (.int (if y < x then y else x) :: rest) G Q) : PW_ E M R cells slots pc lv (.int y :: .int x :: rest) G Q := fun p e s m args below meth c A Qz C hr H locs ls hP hS hl => va_mmin C.1 C.2.1 (C.2.2.1.trans hl.1.symm) C.own (C.w hJ.1) (C.w hJ.2.1) (C.w hJ.2.2.1) (C.w hJ.2.2.2) hd.1 (by omega) hcs.1 hcs.2 dg (kk p e s m args below meth c A Qz C hr H locs ls hP hS hl)
def JM_max (own : String) (idx : Nat) : Prop := Cond.methodLink own idx Lib.Math.max.name ∈ TB ∧ Cond.static Lib.Math.max.name ∈ TB ∧ Cond.initialized "java/lang/Math" ∈ TB ∧ Cond.code Lib.Math.max.name Lib.Math.max.code 2 (some .int) ∈ TB
theorem pw_mmax {idx : Nat} {x y : Int32} (dg : decode M.2.1 pc = .ok (.invokestatic idx, 3)) (hJ : JM_max M.1.cls idx) (hd : 1 ≤ R.frames ∧ 40 ≤ R.locals) (hcs : cells ≤ R.cells ∧ slots ≤ R.slots) (hrest : (rest.map fun v => v.category).sum ≤ 8) (kk : PW_ E M R cells slots (pc + 3) lv (.int (if x < y then y else x) :: rest) G Q) : PW_ E M R cells slots pc lv (.int y :: .int x :: rest) G Q := fun p e s m args below meth c A Qz C hr H locs ls hP hS hl => va_mmax C.1 C.2.1 (C.2.2.1.trans hl.1.symm) C.own (C.w hJ.1) (C.w hJ.2.1) (C.w hJ.2.2.1) (C.w hJ.2.2.2) hd.1 (by omega) hcs.1 hcs.2 dg (kk p e s m args below meth c A Qz C hr H locs ls hP hS hl)
def JM_abs (own : String) (idx : Nat) : Prop := Cond.methodLink own idx Lib.Math.abs.name ∈ TB ∧ Cond.static Lib.Math.abs.name ∈ TB ∧ Cond.initialized "java/lang/Math" ∈ TB ∧ Cond.code Lib.Math.abs.name Lib.Math.abs.code 1 (some .int) ∈ TB
theorem pw_mabs {idx : Nat} {x : Int32} (dg : decode M.2.1 pc = .ok (.invokestatic idx, 3)) (hJ : JM_abs M.1.cls idx) (hd : 1 ≤ R.frames ∧ 40 ≤ R.locals) (hcs : cells ≤ R.cells ∧ slots ≤ R.slots) (hrest : (rest.map fun v => v.category).sum ≤ 8) (kk : PW_ E M R cells slots (pc + 3) lv (.int (if 0 ≤ x then x else 0 - x) :: rest) G Q) : PW_ E M R cells slots pc lv (.int x :: rest) G Q := fun p e s m args below meth c A Qz C hr H locs ls hP hS hl => va_mabs C.1 C.2.1 (C.2.2.1.trans hl.1.symm) C.own (C.w hJ.1) (C.w hJ.2.1) (C.w hJ.2.2.1) (C.w hJ.2.2.2) hd.1 (by omega) hcs.1 hcs.2 dg (kk p e s m args below meth c A Qz C hr H locs ls hP hS hl)
def JC_ (own : String) (idx : Nat) : Prop := Cond.methodLink own idx arraycopyName ∈ TB ∧ Cond.native arraycopyName ∈ TB ∧ Cond.static arraycopyName ∈ TB ∧ Cond.initialized "java/lang/System" ∈ TB
theorem pw_copy {idx k0 k1 n0 n1 : Nat} {sp dp n : Int32} (dg : decode M.2.1 pc = .ok (.invokestatic idx, 3)) (hJ : JC_ M.1.cls idx) (hL0 : Lay[k0]? = some (.inr (0, n0))) (hL1 : Lay[k1]? = some (.inr (0, n1))) (hb : cp_ sp dp n n0 n1) (hd : 1 ≤ R.frames ∧ 40 ≤ R.locals) (hrest : rest = []) (kk : PW_ E M R cells slots (pc + 3) lv rest (gf_ G k1 (va_cpy (G k0) (G k1) sp.toNatClampNeg dp.toNatClampNeg n.toNatClampNeg)) Q) : PW_ E M R cells slots pc lv (.int n :: .int dp :: .ref (ev_ad E k1) :: .int sp :: .ref (ev_ad E k0) :: rest) G Q := by
  intro p e s m args below meth c A Qz C hr H locs ls hP hS hl
  subst hrest
  obtain ⟨h1, h2, h3, h4, h5⟩ := hb
  refine va_copyi (q0 := k0) (q1 := k1) (t0 := 0) (t1 := 0) (c0 := ev_cA E 0) (c1 := ev_cA E 0) (n0 := n0) (n1 := n1) (f := G k0) (g := G k1) (ty := .int) C.1 C.2.1 (C.2.2.1.trans hl.1.symm) C.own (C.w hJ.1) (C.w hJ.2.1) (C.w hJ.2.2.1) (C.w hJ.2.2.2) C.K hP (C.D G) hS (ha0 := wo_at hL0) (ha1 := wo_at hL1) (ht0 := rfl) (ht1 := rfl) rfl h1 h2 h3 h4 h5 (fun _ _ => rfl) hd.1 (Nat.le_trans (Nat.le_of_ble_eq_true (by decide +kernel)) hd.2) dg (fun H1 locs1 hP1 _ hS1 => ?_)
  exact kk p e s m args below meth c A Qz C hr H1 locs1 ls (by rw [← wo_setA _ hL1]; exact hP1) hS1 hl
/-- behind a call of a method with a contract -/
theorem pw_run {M2 : MI} {d : Nat} {Q2 : Option Value → GS → Prop} {st0 : List Value} {av : List Value}
    (hrun : ∀ (p : Program) (e : Env) (s : State) (m : MethodId) (args : Array Value) (below : List Frame) (meth : Method) (c : Code) (A : Nat → Prop) (H : Heap) (locs : List Loc) (ls : Array Slot), Cx_ E M p s m args c A → va_P (ev_D E) vwCl (wo_ E G) H → va_S A s.heap H locs → lv_has ls M.2.2.1 lv →
      va_Run p (ev_l E) e R s m args below meth c H locs cells slots 0 0 (F0 m pc ls st0) rest (qc_ E Q2 av.toArray) (A0_ E))
    (kk : ∀ r G', Q2 r G' → PW_ E M R cells slots (pc + 3) lv (r.toList ++ rest) G' Q) : PW_ E M R cells slots pc lv st0 G Q := by
  intro p e s m args below meth c A Qz C hr H locs ls hP hS hl T hT X
  obtain ⟨v, st₀, t, T', L, h0, X', hL, e1, e2, ⟨⟨r, G', hv, hq, hP'⟩, hz, hk⟩, st⟩ := hrun p e s m args below meth c A H locs ls C hP hS hl T hT X
  cases hv
  rw [h0] at hz hk
  have hA : ∀ q, A0_ E q → A q := by
    rintro q ⟨k, hk, rfl⟩
    exact C.2.2.2.2.2.2.1 k hk
  obtain ⟨t2, a1, b1⟩ := kk v G' hq p e s m args below meth c A Qz C hr T'.heap (locs ++ L) ls (by rw [e1]; exact hP') ⟨Nat.le_trans hS.1 (by rw [e1]; exact hz), fun q h1 h2 => by rw [e1, hk q (Nat.lt_of_lt_of_le h1 hS.1) (fun z => h2 (hA q z))]; exact hS.2.1 q h1 h2, fun q hq => by
      rcases List.mem_append.mp hq with h | h
      · exact hS.2.2 q h
      · exact hA _ (hL q h)⟩ hl T' rfl X'
  exact ⟨t2, st t2 a1, b1⟩
theorem pc_blind {av : List Value} : FrameBlind (pc_ E av G) := by
  intro a U g mk ⟨h1, h2, h3, h4⟩
  exact ⟨h1, h2, va_K.moved (u := U) (U := U.calling g mk a) (Vm.Alike.refl U.vm) h3, h4.moved (U := U.calling g mk a) (State.WarmedH.refl U) (fun _ _ _ => rfl) (fun _ h => h)⟩
theorem pc_at {p : Program} {s : State} {m : MethodId} {args : Array Value} {c : Code} {A : Nat → Prop} {H : Heap} {locs : List Loc} {av : List Value} (C : Cx_ E M p s m args c A) (hP : va_P (ev_D E) vwCl (wo_ E G) H) (hS : va_S A s.heap H locs) : ∀ U : State, U.heap = H → s.WarmedH U.vm → pc_ E av G av.toArray U := by
  intro U hU hW
  refine ⟨rfl, by rw [hU]; exact hP, va_K.moved hW.alike C.K, C.X.moved hW (fun a h1 h2 => by rw [hU]; exact hS.2.1 a h1 h2) ?_⟩
  rintro q ⟨k, hk, rfl⟩
  exact C.2.2.2.2.2.2.1 k hk
theorem pw_recv {p : Program} {s : State} {m : MethodId} {args : Array Value} {c : Code} {A : Nat → Prop} {H : Heap} (C : Cx_ E M p s m args c A) (hP : va_P (ev_D E) vwCl (wo_ E G) H) {k ci N : Nat} {fs : List (Option Nat)} {Cn : String} {T : u_T} (hL : Lay[k]? = some (.inl (ci, fs))) (hc : vwCl[ci]? = some (Cn, T, N)) : ∃ cell : Cell, H[ev_ad E k]? = some cell ∧ cell.vm.isStatics = false ∧ s.vm.findClass Cn = some cell.cls := by
  obtain ⟨r, h1, cell, q1, q2, q3, -⟩ := hP k _ (wo_at hL)
  have hr : r = (Cn, T, N) := Option.some.inj (h1.symm.trans hc)
  subst hr
  obtain ⟨-, hfc, -⟩ := C.K.1 ci _ hc
  exact ⟨cell, q1, by rw [q3]; rfl, by rw [q2]; exact hfc⟩
/-- a call of an instance method (of the same class, or a nest mate's private one) -/
theorem pw_callV {M2 : MI} {d n idx : Nat} {Q2 : Option Value → GS → Prop} {As : List Value} {k ci N : Nat} {fs : List (Option Nat)} {T : u_T}
    (hM : PMet E M2 d (.ref (ev_ad E k) :: As) G Q2) (dg : decode M.2.1 pc = .ok (.invokevirtual idx, 3)) (hL : Lay[k]? = some (.inl (ci, fs))) (hc : vwCl[ci]? = some (M2.1.cls, T, N))
    (hlk : Cond.methodLink M.1.cls idx M2.1 ∈ TB ∨ ∃ host, Cond.methodLinkNest M.1.cls idx M2.1 host ∈ tables_1) (hst : CM_ M2 n) (hn : As.length = n) (hd : d + 1 ≤ R.frames ∧ 40 * (d + 1) ≤ R.locals) (hcs : cells ≤ R.cells ∧ slots ≤ R.slots) (hrest : (rest.map fun v => v.category).sum ≤ 8)
    (kk : ∀ r G', Q2 r G' → PW_ E M R cells slots (pc + 3) lv (r.toList ++ rest) G' Q) : PW_ E M R cells slots pc lv (As.reverse ++ .ref (ev_ad E k) :: rest) G Q := by
  obtain ⟨hcode, hini, hins, hsel, hy1, hy2, hpar, hmax⟩ := hst
  refine pw_run (M2 := M2) (d := d) (av := .ref (ev_ad E k) :: As) (Q2 := Q2) ?_ kk
  intro p e s m args below meth c A H locs ls C hP hS hl
  have hR : (rm_ d).frames + 1 ≤ R.frames ∧ 8 + (M2.2.2.1 + 11) + (rm_ d).locals ≤ R.locals := ⟨hd.1, by show 8 + (M2.2.2.1 + 11) + 40 * d ≤ R.locals; omega⟩
  rcases hlk with hlk | ⟨host, hlk⟩
  · exact va_runV (Ts := TB) (own := M.1.cls) ⟨C.1, C.2.1, C.2.2.1, C.own, C.2.2.2.2.1⟩ hM ⟨callB_of n C.2.2.2.2.1 (tb_good hcode) rfl rfl rfl (C.w hini) (C.w hlk) ⟨hy1, hy2, hpar⟩ hR, C.w hins, C.w hsel⟩ ⟨pc_blind, pw_recv C hP hL hc, pc_at C hP hS⟩ rfl hn hl.1 rfl (lv_room hrest) dg ⟨by simpa using hcs.1, by simpa using hcs.2⟩
  · exact va_runVN (Ts := TB) (own := M.1.cls) (host := host) ⟨C.1, C.2.1, C.2.2.1, C.own, C.2.2.2.2.1⟩ hM ⟨va_cnB n C.2.2.2.2.1 (tb_good hcode) rfl rfl rfl (C.X.2.1 _ _ _ _ hlk) (C.w hini) ⟨hy1, hy2, hpar⟩ hR, C.w hins, C.w hsel⟩ ⟨pc_blind, pw_recv C hP hL hc, pc_at C hP hS⟩ rfl hn hl.1 rfl (lv_room hrest) dg ⟨by simpa using hcs.1, by simpa using hcs.2⟩
/-- a call of a method of a string constant -/
theorem pw_callT {M2 : MI} {d n idx i : Nat} {Q2 : Option Value → GS → Prop} {As : List Value}
    (hi : i < nk_) (hM : PMet E M2 d (.ref (ev_aK E i) :: As) G Q2) (dg : decode M.2.1 pc = .ok (.invokevirtual idx, 3)) (hs : M2.1.cls = "java/lang/String")
    (hlk : Cond.methodLink M.1.cls idx M2.1 ∈ TB) (hst : CM_ M2 n) (hn : As.length = n) (hd : d + 1 ≤ R.frames ∧ 40 * (d + 1) ≤ R.locals) (hcs : cells ≤ R.cells ∧ slots ≤ R.slots) (hrest : (rest.map fun v => v.category).sum ≤ 8)
    (kk : ∀ r G', Q2 r G' → PW_ E M R cells slots (pc + 3) lv (r.toList ++ rest) G' Q) : PW_ E M R cells slots pc lv (As.reverse ++ .ref (ev_aK E i) :: rest) G Q := by
  obtain ⟨hcode, hini, hins, hsel, hy1, hy2, hpar, hmax⟩ := hst
  refine pw_run (M2 := M2) (d := d) (av := .ref (ev_aK E i) :: As) (Q2 := Q2) ?_ kk
  intro p e s m args below meth c A H locs ls C hP hS hl
  have hR : (rm_ d).frames + 1 ≤ R.frames ∧ 8 + (M2.2.2.1 + 11) + (rm_ d).locals ≤ R.locals := ⟨hd.1, by show 8 + (M2.2.2.1 + 11) + 40 * d ≤ R.locals; omega⟩
  have hrc : ∃ cell : Cell, H[ev_aK E i]? = some cell ∧ cell.vm.isStatics = false ∧ s.vm.findClass M2.1.cls = some cell.cls := by rw [hs]; exact vk_recv C.X.2.2.2.1 hi hS
  exact va_runV (Ts := TB) (own := M.1.cls) (C := M2.1.cls) ⟨C.1, C.2.1, C.2.2.1, C.own, C.2.2.2.2.1⟩ hM ⟨callB_of n C.2.2.2.2.1 (tb_good hcode) rfl rfl rfl (C.w hini) (C.w hlk) ⟨hy1, hy2, hpar⟩ hR, C.w hins, C.w hsel⟩ ⟨pc_blind, hrc, pc_at C hP hS⟩ rfl hn hl.1 rfl (lv_room hrest) dg ⟨by simpa using hcs.1, by simpa using hcs.2⟩
/-- a call of a static method -/
theorem pw_callS {M2 : MI} {d n idx : Nat} {Q2 : Option Value → GS → Prop} {As : List Value}
    (hM : PMet E M2 d As G Q2) (dg : decode M.2.1 pc = .ok (.invokestatic idx, 3))
    (hlk : Cond.methodLink M.1.cls idx M2.1 ∈ TB) (hst : CS_ M2 n) (hn : As.length = n) (hd : d + 1 ≤ R.frames ∧ 40 * (d + 1) ≤ R.locals) (hcs : cells ≤ R.cells ∧ slots ≤ R.slots) (hrest : (rest.map fun v => v.category).sum ≤ 8)
    (kk : ∀ r G', Q2 r G' → PW_ E M R cells slots (pc + 3) lv (r.toList ++ rest) G' Q) : PW_ E M R cells slots pc lv (As.reverse ++ rest) G Q := by
  obtain ⟨hcode, hini, hsta, hy1, hy2, hpar, hmax⟩ := hst
  refine pw_run (M2 := M2) (d := d) (av := As) (Q2 := Q2) ?_ kk
  intro p e s m args below meth c A H locs ls C hP hS hl
  have hR : (rm_ d).frames + 1 ≤ R.frames ∧ 8 + (M2.2.2.1 + 11) + (rm_ d).locals ≤ R.locals := ⟨hd.1, by show 8 + (M2.2.2.1 + 11) + 40 * d ≤ R.locals; omega⟩
  exact va_runS (Ts := TB) (own := M.1.cls) ⟨C.1, C.2.1, C.2.2.1, C.own, C.2.2.2.2.1⟩ hM ⟨callB_of n C.2.2.2.2.1 (tb_good hcode) rfl rfl rfl (C.w hini) (C.w hlk) ⟨hy1, hy2, hpar⟩ hR, C.w hsta⟩ ⟨pc_blind, pc_at C hP hS⟩ rfl hn hl.1 rfl (lv_room hrest) dg ⟨by simpa using hcs.1, by simpa using hcs.2⟩
end PWROWS
