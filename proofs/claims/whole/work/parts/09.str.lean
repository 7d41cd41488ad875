/-! String constants: length, charAt, indexOf -/
def sxF (c : Int32) : List Int32 → Nat → Int32
  | [], _ => -1
  | b :: l, k => if b = c then nI k else sxF c l (k + 1)
def sx_ (i : Nat) (c : Int32) : Int32 := sxF c (kb_.getD i []) 0
def wp_slen (i : Nat) (G : GS) (Q : Int32 → GS → Prop) : Prop := i < nk_ ∧ Q (nI (kl_.getD i 0)) G
def wp_schar (i : Nat) (k : Int32) (G : GS) (Q : Int32 → GS → Prop) : Prop := i < nk_ ∧ vp_in k (kl_.getD i 0) ∧ Q ((kb_.getD i []).getD k.toNatClampNeg 0) G
def wp_sidx (i : Nat) (c : Int32) (G : GS) (Q : Int32 → GS → Prop) : Prop := i < nk_ ∧ Q (sx_ i c) G
theorem s_slen {E : EV} (hE : EI_ E) {i : Nat} {G : GS} {Q : Int32 → GS → Prop} (h : wp_slen i G Q) : PMet E mi_J0_length_8abf5 8 [.ref (ev_aK E i)] G (qi_ Q) := sorry
theorem s_schar {E : EV} (hE : EI_ E) {i : Nat} {k : Int32} {G : GS} {Q : Int32 → GS → Prop} (h : wp_schar i k G Q) : PMet E mi_J0_charAt_5068e 8 [.ref (ev_aK E i), .int k] G (qi_ Q) := sorry
theorem s_sidx {E : EV} (hE : EI_ E) {i : Nat} {c : Int32} {G : GS} {Q : Int32 → GS → Prop} (h : wp_sidx i c G Q) : PMet E mi_J0_indexOf_0f7a4 8 [.ref (ev_aK E i), .int c] G (qi_ Q) := sorry
