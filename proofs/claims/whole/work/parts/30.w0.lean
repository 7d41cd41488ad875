def G0_ : GS := fun k => match k with
  | 0 => fun j => if j = 7 then -1 else 0
  | 2 => fl_ 10 (-1) (fun _ => 0)
  | 3 => fl_ 10 5 (fun _ => 0)
  | 15 => fl_ 10 (-1) (fun _ => 0)
  | 16 => fl_ 10 5 (fun _ => 0)
  | 33 => fun j => if j = 3 then -1 else 0
  | 49 => fun j => if j = 29 then -1 else 0
  | 55 => wf_
  | _ => fun _ => 0
set_option maxRecDepth 100000 in
set_option maxHeartbeats 8000000 in
theorem w0_at {E : EV} {H : Heap} {as : List Nat} (had : ev_ad E = fun k => as.getD k 0) (hP : va_P (ev_D E) vwCl (w0_ (ev_cA E) as) H) : ∀ (k : Nat) (sh : ShT), Lay[k]? = some sh → va_at (ev_D E) vwCl ((fun k => as.getD k 0) k, ce_ E G0_ k sh) H := by
  intro k sh h
  obtain ⟨l, D, ad, rest⟩ := E
  have e : ad = fun k => as.getD k 0 := had
  subst e
  exact match k, h with
  | 0, h => by cases ly_0.symm.trans h; exact hP 0 _ rfl
  | 1, h => by cases ly_1.symm.trans h; exact hP 1 _ rfl
  | 2, h => by cases ly_2.symm.trans h; exact hP 2 _ rfl
  | 3, h => by cases ly_3.symm.trans h; exact hP 3 _ rfl
  | 4, h => by cases ly_4.symm.trans h; exact hP 4 _ rfl
  | 5, h => by cases ly_5.symm.trans h; exact hP 5 _ rfl
  | 6, h => by cases ly_6.symm.trans h; exact hP 6 _ rfl
  | 7, h => by cases ly_7.symm.trans h; exact hP 7 _ rfl
  | 8, h => by cases ly_8.symm.trans h; exact hP 8 _ rfl
  | 9, h => by cases ly_9.symm.trans h; exact hP 9 _ rfl
  | 10, h => by cases ly_10.symm.trans h; exact hP 10 _ rfl
  | 11, h => by cases ly_11.symm.trans h; exact hP 11 _ rfl
  | 12, h => by cases ly_12.symm.trans h; exact hP 12 _ rfl
  | 13, h => by cases ly_13.symm.trans h; exact hP 13 _ rfl
  | 14, h => by cases ly_14.symm.trans h; exact hP 14 _ rfl
  | 15, h => by cases ly_15.symm.trans h; exact hP 15 _ rfl
  | 16, h => by cases ly_16.symm.trans h; exact hP 16 _ rfl
  | 17, h => by cases ly_17.symm.trans h; exact hP 17 _ rfl
  | 18, h => by cases ly_18.symm.trans h; exact hP 18 _ rfl
  | 19, h => by cases ly_19.symm.trans h; exact hP 19 _ rfl
  | 20, h => by cases ly_20.symm.trans h; exact hP 20 _ rfl
  | 21, h => by cases ly_21.symm.trans h; exact hP 21 _ rfl
  | 22, h => by cases ly_22.symm.trans h; exact hP 22 _ rfl
  | 23, h => by cases ly_23.symm.trans h; exact hP 23 _ rfl
  | 24, h => by cases ly_24.symm.trans h; exact hP 24 _ rfl
  | 25, h => by cases ly_25.symm.trans h; exact hP 25 _ rfl
  | 26, h => by cases ly_26.symm.trans h; exact hP 26 _ rfl
  | 27, h => by cases ly_27.symm.trans h; exact hP 27 _ rfl
  | 28, h => by cases ly_28.symm.trans h; exact hP 28 _ rfl
  | 29, h => by cases ly_29.symm.trans h; exact hP 29 _ rfl
  | 30, h => by cases ly_30.symm.trans h; exact hP 30 _ rfl
  | 31, h => by cases ly_31.symm.trans h; exact hP 31 _ rfl
  | 32, h => by cases ly_32.symm.trans h; exact hP 32 _ rfl
  | 33, h => by cases ly_33.symm.trans h; exact hP 33 _ rfl
  | 34, h => by cases ly_34.symm.trans h; exact hP 34 _ rfl
  | 35, h => by cases ly_35.symm.trans h; exact hP 35 _ rfl
  | 36, h => by cases ly_36.symm.trans h; exact hP 36 _ rfl
  | 37, h => by cases ly_37.symm.trans h; exact hP 37 _ rfl
  | 38, h => by cases ly_38.symm.trans h; exact hP 38 _ rfl
  | 39, h => by cases ly_39.symm.trans h; exact hP 39 _ rfl
  | 40, h => by cases ly_40.symm.trans h; exact hP 40 _ rfl
  | 41, h => by cases ly_41.symm.trans h; exact hP 41 _ rfl
  | 42, h => by cases ly_42.symm.trans h; exact hP 42 _ rfl
  | 43, h => by cases ly_43.symm.trans h; exact hP 43 _ rfl
  | 44, h => by cases ly_44.symm.trans h; exact hP 44 _ rfl
  | 45, h => by cases ly_45.symm.trans h; exact hP 45 _ rfl
  | 46, h => by cases ly_46.symm.trans h; exact hP 46 _ rfl
  | 47, h => by cases ly_47.symm.trans h; exact hP 47 _ rfl
  | 48, h => by cases ly_48.symm.trans h; exact hP 48 _ rfl
  | 49, h => by cases ly_49.symm.trans h; exact hP 49 _ rfl
  | 50, h => by cases ly_50.symm.trans h; exact hP 50 _ rfl
  | 51, h => by cases ly_51.symm.trans h; exact hP 51 _ rfl
  | 52, h => by cases ly_52.symm.trans h; exact hP 52 _ rfl
  | 53, h => by cases ly_53.symm.trans h; exact hP 53 _ rfl
  | 54, h => by cases ly_54.symm.trans h; exact hP 54 _ rfl
  | 55, h => by cases ly_55.symm.trans h; exact hP 55 _ rfl
  | 56, h => by cases ly_56.symm.trans h; exact hP 56 _ rfl
  | 57, h => by cases ly_57.symm.trans h; exact hP 57 _ rfl
  | 58, h => by cases ly_58.symm.trans h; exact hP 58 _ rfl
  | 59, h => by cases ly_59.symm.trans h; exact hP 59 _ rfl
  | 60, h => by cases ly_60.symm.trans h; exact hP 60 _ rfl
  | 61, h => by cases ly_61.symm.trans h; exact hP 61 _ rfl
  | 62, h => by cases ly_62.symm.trans h; exact hP 62 _ rfl
  | 63, h => by cases ly_63.symm.trans h; exact hP 63 _ rfl
  | 64, h => by cases ly_64.symm.trans h; exact hP 64 _ rfl
  | 65, h => by cases ly_65.symm.trans h; exact hP 65 _ rfl
  | 66, h => by cases ly_66.symm.trans h; exact hP 66 _ rfl
  | 67, h => by cases ly_67.symm.trans h; exact hP 67 _ rfl
  | 68, h => by cases ly_68.symm.trans h; exact hP 68 _ rfl
  | 69, h => by cases ly_69.symm.trans h; exact hP 69 _ rfl
  | 70, h => by cases ly_70.symm.trans h; exact hP 70 _ rfl
  | 71, h => by cases ly_71.symm.trans h; exact hP 71 _ rfl
  | 72, h => by cases ly_72.symm.trans h; exact hP 72 _ rfl
  | 73, h => by cases ly_73.symm.trans h; exact hP 73 _ rfl
  | 74, h => by cases ly_74.symm.trans h; exact hP 74 _ rfl
  | k + 75, h => absurd (List.getElem?_eq_some_iff.mp h).1 (by show ¬ (k + 75 < 75); omega)
