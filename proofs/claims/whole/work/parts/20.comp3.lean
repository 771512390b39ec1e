def fX3_resize (p1 : Int32) (x : Ob) : Option (Ob) :=
  Option.bind (fX5_at 64 p1 (x.2 0)) (fun q12 =>
  Option.bind (fX3_sizeOf q12 x) (fun q15 =>
  Option.bind (fX5_at 64 p1 (x.2 1)) (fun q25 =>
  Option.bind (fX3_sizeOf q25 x) (fun q28 =>
  Option.bind (fX5_put 64 p1 (((1) + q15) + q28) (x.2 3)) (fun q32 =>
  px_let (ob_f x 3 q32) (fun x_32 =>
  some x_32))))))
abbrev rmX3_resize : Room := { frames := 1, cells := 0, slots := 0, locals := 22 }
set_option maxHeartbeats 4000000 in
set_option maxRecDepth 100000 in
theorem ok_X3_resize {l : Launch} {E : En} {o : Nat} {ad : (Nat → Nat)} {p1 : Int32} {x : Ob} {r : Ob} (hf : fX3_resize p1 x = some r) : CV l yX3_resize wsX3_resize (rmX3_resize) [.ref o, .int p1] E (w3 E o ad x) (w3 E o ad r) := by
  refine xc_V (by decide) rfl (Nat.le_of_ble_eq_true rfl) [(0, .ref o), (1, .int p1)] rfl (fun p e s m below meth c A C hr => ?_)
  generalize ([.ref o, .int p1] : List Value).toArray = args at C ⊢
  obtain ⟨Z, hZ⟩ : ∃ Z, Z = ZV E (w3 E o ad r) A below args s 0 0 := ⟨_, rfl⟩
  rw [← hZ]
  have in3 : ∀ w ∈ wsX30, w ∈ wsX3_resize := by decide +kernel
  have m9 : Cond.fieldLink RX3 9 "TurningTrees$Shape" "left" "[I" ∈ wsX3_resize := by decide +kernel
  have m15 : Cond.fieldLink RX3 15 "TurningTrees$Shape" "right" "[I" ∈ wsX3_resize := by decide +kernel
  have m21 : Cond.fieldLink RX3 21 "TurningTrees$Shape" "size" "[I" ∈ wsX3_resize := by decide +kernel
  rw [fX3_resize] at hf
  have h := hf
  refine xw_aload_n C dX3_resize_0 rfl 0 rfl ?_
  refine xw_get C in3 0 rfl rfl 3 (by decide) m21 rfl rfl dX3_resize_1 ?_
  refine xw_iload_n C dX3_resize_4 rfl 1 rfl ?_
  refine xw_iconst C (1) dX3_resize_5 (by decide) ?_
  refine xw_aload_n C dX3_resize_6 rfl 0 rfl ?_
  refine xw_aload_n C dX3_resize_7 rfl 0 rfl ?_
  refine xw_get C in3 0 rfl rfl 0 (by decide) m9 rfl rfl dX3_resize_8 ?_
  refine xw_iload_n C dX3_resize_11 rfl 1 rfl ?_
  obtain ⟨q12, eq12, h⟩ := px_b h
  refine xw_callNI (w' := w3 E o ad x) (u := (w3 E o ad x).take 1) (v := (w3 E o ad x).drop 2) C (ok_X5_at (a := (ad 0)) (nn := 64) (f := (x.2 0)) eq12) 2 gX3_resize_X5_at_n40 rfl ⟨rfl, rfl⟩ (by decide +kernel) (by decide +kernel) (by decide +kernel) (by decide +kernel) ⟨Nat.le_of_ble_eq_true rfl, Nat.le_of_ble_eq_true rfl⟩ rfl (Nat.le_of_ble_eq_true rfl) ⟨Nat.zero_le _, Nat.zero_le _⟩ rfl rfl (by rfl) dX3_resize_12 ?_
  obtain ⟨q15, eq15, h⟩ := px_b h
  refine xw_callVI (w' := w3 E o ad x) (u := []) (v := []) C (ok_X3_sizeOf (o := o) (ad := ad) (x := x) eq15) 1 gX3_resize_X3_sizeOf rfl ⟨rfl, rfl⟩ (by decide +kernel) ⟨Nat.le_of_ble_eq_true rfl, Nat.le_of_ble_eq_true rfl⟩ 0 3 rfl rfl rfl (Nat.le_of_ble_eq_true rfl) ⟨Nat.zero_le _, Nat.zero_le _⟩ rfl xe0 xe0.symm dX3_resize_15 ?_
  refine xw_iadd C dX3_resize_18 ?_
  refine xw_aload_n C dX3_resize_19 rfl 0 rfl ?_
  refine xw_aload_n C dX3_resize_20 rfl 0 rfl ?_
  refine xw_get C in3 0 rfl rfl 1 (by decide) m15 rfl rfl dX3_resize_21 ?_
  refine xw_iload_n C dX3_resize_24 rfl 1 rfl ?_
  obtain ⟨q25, eq25, h⟩ := px_b h
  refine xw_callNI (w' := w3 E o ad x) (u := (w3 E o ad x).take 2) (v := (w3 E o ad x).drop 3) C (ok_X5_at (a := (ad 1)) (nn := 64) (f := (x.2 1)) eq25) 2 gX3_resize_X5_at_n40 rfl ⟨rfl, rfl⟩ (by decide +kernel) (by decide +kernel) (by decide +kernel) (by decide +kernel) ⟨Nat.le_of_ble_eq_true rfl, Nat.le_of_ble_eq_true rfl⟩ rfl (Nat.le_of_ble_eq_true rfl) ⟨Nat.zero_le _, Nat.zero_le _⟩ rfl rfl (by rfl) dX3_resize_25 ?_
  obtain ⟨q28, eq28, h⟩ := px_b h
  refine xw_callVI (w' := w3 E o ad x) (u := []) (v := []) C (ok_X3_sizeOf (o := o) (ad := ad) (x := x) eq28) 1 gX3_resize_X3_sizeOf rfl ⟨rfl, rfl⟩ (by decide +kernel) ⟨Nat.le_of_ble_eq_true rfl, Nat.le_of_ble_eq_true rfl⟩ 0 3 rfl rfl rfl (Nat.le_of_ble_eq_true rfl) ⟨Nat.zero_le _, Nat.zero_le _⟩ rfl xe0 xe0.symm dX3_resize_28 ?_
  refine xw_iadd C dX3_resize_31 ?_
  obtain ⟨q32, eq32, h⟩ := px_b h
  refine px_n h (fun x_32 ex_32 h => ?_)
  refine xw_callNV (w' := w3 E o ad x_32) (u := (w3 E o ad x).take 4) (v := (w3 E o ad x).drop 5) C (ok_X5_put (a := (ad 3)) (nn := 64) (f := (x.2 3)) eq32) 3 gX3_resize_X5_put_n76 rfl ⟨rfl, rfl⟩ (by decide +kernel) (by decide +kernel) (by decide +kernel) (by decide +kernel) ⟨Nat.le_of_ble_eq_true rfl, Nat.le_of_ble_eq_true rfl⟩ rfl (Nat.le_of_ble_eq_true rfl) ⟨Nat.zero_le _, Nat.zero_le _⟩ rfl rfl (by rw [ex_32]; rfl) dX3_resize_32 ?_
  cases h
  rw [hZ]
  exact xw_vret C hr dX3_resize_35
def fX3_resizeUpFrom_L4 : Nat → Int32 → Int32 → Ob → Option (Ob)
  | 0, _, _, _ => none
  | n + 1, v2, v3, x =>
  (if (64) ≤ v3 then
    some x
  else
    (if v2 = (-1) then
      some x
    else
      Option.bind (fX3_resize v2 x) (fun q17 =>
      Option.bind (fX3_upOf v2 q17) (fun q22 =>
      px_let (v3 + (1) : Int32) (fun b26 =>
      fX3_resizeUpFrom_L4 n q22 b26 q17)))))
def fX3_resizeUpFrom (p1 : Int32) (x : Ob) : Option (Ob) :=
  fX3_resizeUpFrom_L4 FU p1 (0) x
abbrev rmX3_resizeUpFrom : Room := { frames := 2, cells := 0, slots := 0, locals := 43 }
set_option maxHeartbeats 4000000 in
set_option maxRecDepth 100000 in
theorem ok_X3_resizeUpFrom {l : Launch} {E : En} {o : Nat} {ad : (Nat → Nat)} {p1 : Int32} {x : Ob} {r : Ob} (hf : fX3_resizeUpFrom p1 x = some r) : CV l yX3_resizeUpFrom wsX3_resizeUpFrom (rmX3_resizeUpFrom) [.ref o, .int p1] E (w3 E o ad x) (w3 E o ad r) := by
  refine xc_V (by decide) rfl (Nat.le_of_ble_eq_true rfl) [(0, .ref o), (1, .int p1)] rfl (fun p e s m below meth c A C hr => ?_)
  generalize ([.ref o, .int p1] : List Value).toArray = args at C ⊢
  obtain ⟨Z, hZ⟩ : ∃ Z, Z = ZV E (w3 E o ad r) A below args s 0 0 := ⟨_, rfl⟩
  rw [← hZ]
  have hL4 : ∀ n : Nat, ∀ (v2 : Int32), ∀ (v3 : Int32), ∀ (x : Ob), fX3_resizeUpFrom_L4 n v2 v3 x = some r → XW E p l e rmX3_resizeUpFrom s m args below meth c Z A 0 0 (w3 E o ad x) 4 4 [(0, .ref o), (2, .int v2), (3, .int v3)] [] := by
    intro n
    induction n with
    | zero =>
      intro v2 v3 x h
      rw [fX3_resizeUpFrom_L4] at h
      cases h
    | succ n ih =>
      intro v2 v3 x h
      rw [fX3_resizeUpFrom_L4] at h
      refine xw_iload_n C dX3_resizeUpFrom_4 rfl 2 rfl ?_
      refine xw_bipush C (64) dX3_resizeUpFrom_5 (by decide) ?_
      refine xw_icmp_ge C 32 dX3_resizeUpFrom_7 (by decide) (fun c7 => ?_) (fun c7 => ?_)
      · have h := px_t c7 h
        cases h
        rw [hZ]
        exact xw_vret C hr dX3_resizeUpFrom_32
      · have h := px_f c7 h
        refine xw_iload_n C dX3_resizeUpFrom_10 rfl 1 rfl ?_
        refine xw_iconst C (-1) dX3_resizeUpFrom_11 (by decide) ?_
        refine xw_icmp_eq C 32 dX3_resizeUpFrom_12 (by decide) (fun c12 => ?_) (fun c12 => ?_)
        · have h := px_t c12 h
          cases h
          rw [hZ]
          exact xw_vret C hr dX3_resizeUpFrom_32
        · have h := px_f c12 h
          refine xw_aload_n C dX3_resizeUpFrom_15 rfl 0 rfl ?_
          refine xw_iload_n C dX3_resizeUpFrom_16 rfl 1 rfl ?_
          obtain ⟨q17, eq17, h⟩ := px_b h
          refine xw_callVV (w' := w3 E o ad q17) (u := []) (v := []) C (ok_X3_resize (o := o) (ad := ad) (x := x) eq17) 1 gX3_resizeUpFrom_X3_resize rfl ⟨rfl, rfl⟩ (by decide +kernel) ⟨Nat.le_of_ble_eq_true rfl, Nat.le_of_ble_eq_true rfl⟩ 0 3 rfl rfl rfl (Nat.le_of_ble_eq_true rfl) ⟨Nat.zero_le _, Nat.zero_le _⟩ rfl xe0 xe0.symm dX3_resizeUpFrom_17 ?_
          refine xw_aload_n C dX3_resizeUpFrom_20 rfl 0 rfl ?_
          refine xw_iload_n C dX3_resizeUpFrom_21 rfl 1 rfl ?_
          obtain ⟨q22, eq22, h⟩ := px_b h
          refine xw_callVI (w' := w3 E o ad q17) (u := []) (v := []) C (ok_X3_upOf (o := o) (ad := ad) (x := q17) eq22) 1 gX3_resizeUpFrom_X3_upOf rfl ⟨rfl, rfl⟩ (by decide +kernel) ⟨Nat.le_of_ble_eq_true rfl, Nat.le_of_ble_eq_true rfl⟩ 0 3 rfl rfl rfl (Nat.le_of_ble_eq_true rfl) ⟨Nat.zero_le _, Nat.zero_le _⟩ rfl xe0 xe0.symm dX3_resizeUpFrom_22 ?_
          refine xw_istore_n C dX3_resizeUpFrom_25 rfl (by decide) (lv' := [(2, .int q22), (0, .ref o), (3, .int v3)]) rfl ?_
          refine px_n h (fun b26 eb26 h => ?_)
          refine xw_iinc (v := b26) C dX3_resizeUpFrom_26 2 rfl eb26 (by decide) (lv' := [(3, .int b26), (2, .int q22), (0, .ref o)]) rfl ?_
          refine xw_goto C 4 dX3_resizeUpFrom_29 (by decide) ?_
          refine xw_perm [2, 1, 0] rfl ?_
          exact ih _ _ _ h
  rw [fX3_resizeUpFrom] at hf
  have h := hf
  refine xw_iload_n C dX3_resizeUpFrom_0 rfl 1 rfl ?_
  refine xw_istore_n C dX3_resizeUpFrom_1 rfl (by decide) (lv' := [(2, .int p1), (0, .ref o), (1, .int p1)]) rfl ?_
  refine xw_iconst C (0) dX3_resizeUpFrom_2 (by decide) ?_
  refine xw_istore_n C dX3_resizeUpFrom_3 rfl (by decide) (lv' := [(3, .int (0)), (2, .int p1), (0, .ref o), (1, .int p1)]) rfl ?_
  refine xw_perm [2, 1, 0] rfl ?_
  exact hL4 _ _ _ _ h
def fX3_hangNew (p1 : Int32) (p2 : Int32) (x : Ob) : Option (Ob) :=
  Option.bind (fX3_hang p1 p2 x) (fun q3 =>
  Option.bind (fX3_resizeUpFrom p1 q3) (fun q8 =>
  some q8))
abbrev rmX3_hangNew : Room := { frames := 3, cells := 0, slots := 0, locals := 66 }
set_option maxHeartbeats 4000000 in
set_option maxRecDepth 100000 in
theorem ok_X3_hangNew {l : Launch} {E : En} {o : Nat} {ad : (Nat → Nat)} {p1 : Int32} {p2 : Int32} {x : Ob} {r : Ob} (hf : fX3_hangNew p1 p2 x = some r) : CV l yX3_hangNew wsX3_hangNew (rmX3_hangNew) [.ref o, .int p1, .int p2] E (w3 E o ad x) (w3 E o ad r) := by
  refine xc_V (by decide) rfl (Nat.le_of_ble_eq_true rfl) [(0, .ref o), (1, .int p1), (2, .int p2)] rfl (fun p e s m below meth c A C hr => ?_)
  generalize ([.ref o, .int p1, .int p2] : List Value).toArray = args at C ⊢
  obtain ⟨Z, hZ⟩ : ∃ Z, Z = ZV E (w3 E o ad r) A below args s 0 0 := ⟨_, rfl⟩
  rw [← hZ]
  rw [fX3_hangNew] at hf
  have h := hf
  refine xw_aload_n C dX3_hangNew_0 rfl 0 rfl ?_
  refine xw_iload_n C dX3_hangNew_1 rfl 1 rfl ?_
  refine xw_iload_n C dX3_hangNew_2 rfl 2 rfl ?_
  obtain ⟨q3, eq3, h⟩ := px_b h
  refine xw_callVV (w' := w3 E o ad q3) (u := []) (v := []) C (ok_X3_hang (o := o) (ad := ad) (x := x) eq3) 2 gX3_hangNew_X3_hang rfl ⟨rfl, rfl⟩ (by decide +kernel) ⟨Nat.le_of_ble_eq_true rfl, Nat.le_of_ble_eq_true rfl⟩ 0 3 rfl rfl rfl (Nat.le_of_ble_eq_true rfl) ⟨Nat.zero_le _, Nat.zero_le _⟩ rfl xe0 xe0.symm dX3_hangNew_3 ?_
  refine xw_aload_n C dX3_hangNew_6 rfl 0 rfl ?_
  refine xw_iload_n C dX3_hangNew_7 rfl 1 rfl ?_
  obtain ⟨q8, eq8, h⟩ := px_b h
  refine xw_callVV (w' := w3 E o ad q8) (u := []) (v := []) C (ok_X3_resizeUpFrom (o := o) (ad := ad) (x := q3) eq8) 1 gX3_hangNew_X3_resizeUpFrom rfl ⟨rfl, rfl⟩ (by decide +kernel) ⟨Nat.le_of_ble_eq_true rfl, Nat.le_of_ble_eq_true rfl⟩ 0 3 rfl rfl rfl (Nat.le_of_ble_eq_true rfl) ⟨Nat.zero_le _, Nat.zero_le _⟩ rfl xe0 xe0.symm dX3_hangNew_8 ?_
  cases h
  rw [hZ]
  exact xw_vret C hr dX3_hangNew_11
def fX3_forget (p1 : Int32) (x : Ob) : Option (Ob) :=
  Option.bind (fX5_put 64 p1 (-1) (x.2 0)) (fun q6 =>
  px_let (ob_f x 0 q6) (fun x_6 =>
  Option.bind (fX5_put 64 p1 (-1) (x_6.2 1)) (fun q15 =>
  px_let (ob_f x_6 1 q15) (fun x_15 =>
  Option.bind (fX5_put 64 p1 (-1) (x_15.2 2)) (fun q24 =>
  px_let (ob_f x_15 2 q24) (fun x_24 =>
  Option.bind (fX5_put 64 p1 (0) (x_24.2 3)) (fun q33 =>
  px_let (ob_f x_24 3 q33) (fun x_33 =>
  some x_33))))))))
abbrev rmX3_forget : Room := { frames := 1, cells := 0, slots := 0, locals := 22 }
set_option maxHeartbeats 4000000 in
set_option maxRecDepth 100000 in
theorem ok_X3_forget {l : Launch} {E : En} {o : Nat} {ad : (Nat → Nat)} {p1 : Int32} {x : Ob} {r : Ob} (hf : fX3_forget p1 x = some r) : CV l yX3_forget wsX3_forget (rmX3_forget) [.ref o, .int p1] E (w3 E o ad x) (w3 E o ad r) := by
  refine xc_V (by decide) rfl (Nat.le_of_ble_eq_true rfl) [(0, .ref o), (1, .int p1)] rfl (fun p e s m below meth c A C hr => ?_)
  generalize ([.ref o, .int p1] : List Value).toArray = args at C ⊢
  obtain ⟨Z, hZ⟩ : ∃ Z, Z = ZV E (w3 E o ad r) A below args s 0 0 := ⟨_, rfl⟩
  rw [← hZ]
  have in3 : ∀ w ∈ wsX30, w ∈ wsX3_forget := by decide +kernel
  have m9 : Cond.fieldLink RX3 9 "TurningTrees$Shape" "left" "[I" ∈ wsX3_forget := by decide +kernel
  have m15 : Cond.fieldLink RX3 15 "TurningTrees$Shape" "right" "[I" ∈ wsX3_forget := by decide +kernel
  have m18 : Cond.fieldLink RX3 18 "TurningTrees$Shape" "up" "[I" ∈ wsX3_forget := by decide +kernel
  have m21 : Cond.fieldLink RX3 21 "TurningTrees$Shape" "size" "[I" ∈ wsX3_forget := by decide +kernel
  rw [fX3_forget] at hf
  have h := hf
  refine xw_aload_n C dX3_forget_0 rfl 0 rfl ?_
  refine xw_get C in3 0 rfl rfl 0 (by decide) m9 rfl rfl dX3_forget_1 ?_
  refine xw_iload_n C dX3_forget_4 rfl 1 rfl ?_
  refine xw_iconst C (-1) dX3_forget_5 (by decide) ?_
  obtain ⟨q6, eq6, h⟩ := px_b h
  refine px_n h (fun x_6 ex_6 h => ?_)
  refine xw_callNV (w' := w3 E o ad x_6) (u := (w3 E o ad x).take 1) (v := (w3 E o ad x).drop 2) C (ok_X5_put (a := (ad 0)) (nn := 64) (f := (x.2 0)) eq6) 3 gX3_forget_X5_put_n76 rfl ⟨rfl, rfl⟩ (by decide +kernel) (by decide +kernel) (by decide +kernel) (by decide +kernel) ⟨Nat.le_of_ble_eq_true rfl, Nat.le_of_ble_eq_true rfl⟩ rfl (Nat.le_of_ble_eq_true rfl) ⟨Nat.zero_le _, Nat.zero_le _⟩ rfl rfl (by rw [ex_6]; rfl) dX3_forget_6 ?_
  refine xw_aload_n C dX3_forget_9 rfl 0 rfl ?_
  refine xw_get C in3 0 rfl rfl 1 (by decide) m15 rfl rfl dX3_forget_10 ?_
  refine xw_iload_n C dX3_forget_13 rfl 1 rfl ?_
  refine xw_iconst C (-1) dX3_forget_14 (by decide) ?_
  obtain ⟨q15, eq15, h⟩ := px_b h
  refine px_n h (fun x_15 ex_15 h => ?_)
  refine xw_callNV (w' := w3 E o ad x_15) (u := (w3 E o ad x_6).take 2) (v := (w3 E o ad x_6).drop 3) C (ok_X5_put (a := (ad 1)) (nn := 64) (f := (x_6.2 1)) eq15) 3 gX3_forget_X5_put_n76 rfl ⟨rfl, rfl⟩ (by decide +kernel) (by decide +kernel) (by decide +kernel) (by decide +kernel) ⟨Nat.le_of_ble_eq_true rfl, Nat.le_of_ble_eq_true rfl⟩ rfl (Nat.le_of_ble_eq_true rfl) ⟨Nat.zero_le _, Nat.zero_le _⟩ rfl rfl (by rw [ex_15]; rfl) dX3_forget_15 ?_
  refine xw_aload_n C dX3_forget_18 rfl 0 rfl ?_
  refine xw_get C in3 0 rfl rfl 2 (by decide) m18 rfl rfl dX3_forget_19 ?_
  refine xw_iload_n C dX3_forget_22 rfl 1 rfl ?_
  refine xw_iconst C (-1) dX3_forget_23 (by decide) ?_
  obtain ⟨q24, eq24, h⟩ := px_b h
  refine px_n h (fun x_24 ex_24 h => ?_)
  refine xw_callNV (w' := w3 E o ad x_24) (u := (w3 E o ad x_15).take 3) (v := (w3 E o ad x_15).drop 4) C (ok_X5_put (a := (ad 2)) (nn := 64) (f := (x_15.2 2)) eq24) 3 gX3_forget_X5_put_n76 rfl ⟨rfl, rfl⟩ (by decide +kernel) (by decide +kernel) (by decide +kernel) (by decide +kernel) ⟨Nat.le_of_ble_eq_true rfl, Nat.le_of_ble_eq_true rfl⟩ rfl (Nat.le_of_ble_eq_true rfl) ⟨Nat.zero_le _, Nat.zero_le _⟩ rfl rfl (by rw [ex_24]; rfl) dX3_forget_24 ?_
  refine xw_aload_n C dX3_forget_27 rfl 0 rfl ?_
  refine xw_get C in3 0 rfl rfl 3 (by decide) m21 rfl rfl dX3_forget_28 ?_
  refine xw_iload_n C dX3_forget_31 rfl 1 rfl ?_
  refine xw_iconst C (0) dX3_forget_32 (by decide) ?_
  obtain ⟨q33, eq33, h⟩ := px_b h
  refine px_n h (fun x_33 ex_33 h => ?_)
  refine xw_callNV (w' := w3 E o ad x_33) (u := (w3 E o ad x_24).take 4) (v := (w3 E o ad x_24).drop 5) C (ok_X5_put (a := (ad 3)) (nn := 64) (f := (x_24.2 3)) eq33) 3 gX3_forget_X5_put_n76 rfl ⟨rfl, rfl⟩ (by decide +kernel) (by decide +kernel) (by decide +kernel) (by decide +kernel) ⟨Nat.le_of_ble_eq_true rfl, Nat.le_of_ble_eq_true rfl⟩ rfl (Nat.le_of_ble_eq_true rfl) ⟨Nat.zero_le _, Nat.zero_le _⟩ rfl rfl (by rw [ex_33]; rfl) dX3_forget_33 ?_
  cases h
  rw [hZ]
  exact xw_vret C hr dX3_forget_36
def fX3_takeOff_J45 (v1 : Int32) (v2 : Int32) (x : Ob) : Option (Ob) :=
  Option.bind (fX3_forget v1 x) (fun q47 =>
  Option.bind (fX3_resizeUpFrom v2 q47) (fun q52 =>
  some q52))
def fX3_takeOff (p1 : Int32) (x : Ob) : Option (Ob) :=
  Option.bind (fX3_upOf p1 x) (fun q2 =>
  (if q2 = (-1) then
    px_let (ob_i x 5 (-1)) (fun x_13 =>
    fX3_takeOff_J45 p1 q2 x_13)
  else
    (if q2 ≤ p1 then
      Option.bind (fX5_put 64 q2 (-1) (x.2 1)) (fun q42 =>
      px_let (ob_f x 1 q42) (fun x_42 =>
      fX3_takeOff_J45 p1 q2 x_42))
    else
      Option.bind (fX5_put 64 q2 (-1) (x.2 0)) (fun q30 =>
      px_let (ob_f x 0 q30) (fun x_30 =>
      fX3_takeOff_J45 p1 q2 x_30)))))
abbrev rmX3_takeOff : Room := { frames := 3, cells := 0, slots := 0, locals := 66 }
set_option maxHeartbeats 4000000 in
set_option maxRecDepth 100000 in
theorem ok_X3_takeOff {l : Launch} {E : En} {o : Nat} {ad : (Nat → Nat)} {p1 : Int32} {x : Ob} {r : Ob} (hf : fX3_takeOff p1 x = some r) : CV l yX3_takeOff wsX3_takeOff (rmX3_takeOff) [.ref o, .int p1] E (w3 E o ad x) (w3 E o ad r) := by
  refine xc_V (by decide) rfl (Nat.le_of_ble_eq_true rfl) [(0, .ref o), (1, .int p1)] rfl (fun p e s m below meth c A C hr => ?_)
  generalize ([.ref o, .int p1] : List Value).toArray = args at C ⊢
  obtain ⟨Z, hZ⟩ : ∃ Z, Z = ZV E (w3 E o ad r) A below args s 0 0 := ⟨_, rfl⟩
  rw [← hZ]
  have in3 : ∀ w ∈ wsX30, w ∈ wsX3_takeOff := by decide +kernel
  have m9 : Cond.fieldLink RX3 9 "TurningTrees$Shape" "left" "[I" ∈ wsX3_takeOff := by decide +kernel
  have m15 : Cond.fieldLink RX3 15 "TurningTrees$Shape" "right" "[I" ∈ wsX3_takeOff := by decide +kernel
  have m33 : Cond.fieldLink RX3 33 "TurningTrees$Shape" "root" "I" ∈ wsX3_takeOff := by decide +kernel
  have hJ45 : ∀ (v1 : Int32), ∀ (v2 : Int32), ∀ (x : Ob), fX3_takeOff_J45 v1 v2 x = some r → XW E p l e rmX3_takeOff s m args below meth c Z A 0 0 (w3 E o ad x) 45 3 [(0, .ref o), (1, .int v1), (2, .int v2)] [] := by
    intro v1 v2 x h
    rw [fX3_takeOff_J45] at h
    refine xw_aload_n C dX3_takeOff_45 rfl 0 rfl ?_
    refine xw_iload_n C dX3_takeOff_46 rfl 1 rfl ?_
    obtain ⟨q47, eq47, h⟩ := px_b h
    refine xw_callVV (w' := w3 E o ad q47) (u := []) (v := []) C (ok_X3_forget (o := o) (ad := ad) (x := x) eq47) 1 gX3_takeOff_X3_forget rfl ⟨rfl, rfl⟩ (by decide +kernel) ⟨Nat.le_of_ble_eq_true rfl, Nat.le_of_ble_eq_true rfl⟩ 0 3 rfl rfl rfl (Nat.le_of_ble_eq_true rfl) ⟨Nat.zero_le _, Nat.zero_le _⟩ rfl xe0 xe0.symm dX3_takeOff_47 ?_
    refine xw_aload_n C dX3_takeOff_50 rfl 0 rfl ?_
    refine xw_iload_n C dX3_takeOff_51 rfl 2 rfl ?_
    obtain ⟨q52, eq52, h⟩ := px_b h
    refine xw_callVV (w' := w3 E o ad q52) (u := []) (v := []) C (ok_X3_resizeUpFrom (o := o) (ad := ad) (x := q47) eq52) 1 gX3_takeOff_X3_resizeUpFrom rfl ⟨rfl, rfl⟩ (by decide +kernel) ⟨Nat.le_of_ble_eq_true rfl, Nat.le_of_ble_eq_true rfl⟩ 0 3 rfl rfl rfl (Nat.le_of_ble_eq_true rfl) ⟨Nat.zero_le _, Nat.zero_le _⟩ rfl xe0 xe0.symm dX3_takeOff_52 ?_
    cases h
    rw [hZ]
    exact xw_vret C hr dX3_takeOff_55
  rw [fX3_takeOff] at hf
  have h := hf
  refine xw_aload_n C dX3_takeOff_0 rfl 0 rfl ?_
  refine xw_iload_n C dX3_takeOff_1 rfl 1 rfl ?_
  obtain ⟨q2, eq2, h⟩ := px_b h
  refine xw_callVI (w' := w3 E o ad x) (u := []) (v := []) C (ok_X3_upOf (o := o) (ad := ad) (x := x) eq2) 1 gX3_takeOff_X3_upOf rfl ⟨rfl, rfl⟩ (by decide +kernel) ⟨Nat.le_of_ble_eq_true rfl, Nat.le_of_ble_eq_true rfl⟩ 0 3 rfl rfl rfl (Nat.le_of_ble_eq_true rfl) ⟨Nat.zero_le _, Nat.zero_le _⟩ rfl xe0 xe0.symm dX3_takeOff_2 ?_
  refine xw_istore_n C dX3_takeOff_5 rfl (by decide) (lv' := [(2, .int q2), (0, .ref o), (1, .int p1)]) rfl ?_
  refine xw_iload_n C dX3_takeOff_6 rfl 0 rfl ?_
  refine xw_iconst C (-1) dX3_takeOff_7 (by decide) ?_
  refine xw_icmp_ne C 19 dX3_takeOff_8 (by decide) (fun c8 => ?_) (fun c8 => ?_)
  · have h := px_f c8 h
    refine xw_iload_n C dX3_takeOff_19 rfl 2 rfl ?_
    refine xw_iload_n C dX3_takeOff_20 rfl 0 rfl ?_
    refine xw_icmp_ge C 36 dX3_takeOff_21 (by decide) (fun c21 => ?_) (fun c21 => ?_)
    · have h := px_t c21 h
      refine xw_aload_n C dX3_takeOff_36 rfl 1 rfl ?_
      refine xw_get C in3 0 rfl rfl 1 (by decide) m15 rfl rfl dX3_takeOff_37 ?_
      refine xw_iload_n C dX3_takeOff_40 rfl 0 rfl ?_
      refine xw_iconst C (-1) dX3_takeOff_41 (by decide) ?_
      obtain ⟨q42, eq42, h⟩ := px_b h
      refine px_n h (fun x_42 ex_42 h => ?_)
      refine xw_callNV (w' := w3 E o ad x_42) (u := (w3 E o ad x).take 2) (v := (w3 E o ad x).drop 3) C (ok_X5_put (a := (ad 1)) (nn := 64) (f := (x.2 1)) eq42) 3 gX3_takeOff_X5_put_n76 rfl ⟨rfl, rfl⟩ (by decide +kernel) (by decide +kernel) (by decide +kernel) (by decide +kernel) ⟨Nat.le_of_ble_eq_true rfl, Nat.le_of_ble_eq_true rfl⟩ rfl (Nat.le_of_ble_eq_true rfl) ⟨Nat.zero_le _, Nat.zero_le _⟩ rfl rfl (by rw [ex_42]; rfl) dX3_takeOff_42 ?_
      refine xw_perm [1, 2, 0] rfl ?_
      exact hJ45 _ _ _ h
    · have h := px_f c21 h
      refine xw_aload_n C dX3_takeOff_24 rfl 1 rfl ?_
      refine xw_get C in3 0 rfl rfl 0 (by decide) m9 rfl rfl dX3_takeOff_25 ?_
      refine xw_iload_n C dX3_takeOff_28 rfl 0 rfl ?_
      refine xw_iconst C (-1) dX3_takeOff_29 (by decide) ?_
      obtain ⟨q30, eq30, h⟩ := px_b h
      refine px_n h (fun x_30 ex_30 h => ?_)
      refine xw_callNV (w' := w3 E o ad x_30) (u := (w3 E o ad x).take 1) (v := (w3 E o ad x).drop 2) C (ok_X5_put (a := (ad 0)) (nn := 64) (f := (x.2 0)) eq30) 3 gX3_takeOff_X5_put_n76 rfl ⟨rfl, rfl⟩ (by decide +kernel) (by decide +kernel) (by decide +kernel) (by decide +kernel) ⟨Nat.le_of_ble_eq_true rfl, Nat.le_of_ble_eq_true rfl⟩ rfl (Nat.le_of_ble_eq_true rfl) ⟨Nat.zero_le _, Nat.zero_le _⟩ rfl rfl (by rw [ex_30]; rfl) dX3_takeOff_30 ?_
      refine xw_goto C 45 dX3_takeOff_33 (by decide) ?_
      refine xw_perm [1, 2, 0] rfl ?_
      exact hJ45 _ _ _ h
  · have h := px_t c8 h
    refine xw_aload_n C dX3_takeOff_11 rfl 1 rfl ?_
    refine xw_iconst C (-1) dX3_takeOff_12 (by decide) ?_
    refine px_n h (fun x_13 ex_13 h => ?_)
    refine xw_put (w' := w3 E o ad x_13) C in3 tyX3 tyX3_ok nmX3 0 rfl rfl 5 (by decide) m33 rfl rfl rfl (Nat.le_of_ble_eq_true rfl) (by rw [ex_13]; rfl) dX3_takeOff_13 ?_
    refine xw_goto C 45 dX3_takeOff_16 (by decide) ?_
    refine xw_perm [1, 2, 0] rfl ?_
    exact hJ45 _ _ _ h
def fX3_turn_J58 (v1 : Int32) (v2 : Int32) (v3 : Int32) (x : Ob) : Option (Ob) :=
  Option.bind (fX3_hang v1 v3 x) (fun q61 =>
  Option.bind (fX3_resize v2 q61) (fun q66 =>
  Option.bind (fX3_resize v1 q66) (fun q71 =>
  px_let (ob_i q71 6 ((q71.1 6) + (1))) (fun x_81 =>
  some x_81))))
def fX3_turn (p1 : Int32) (x : Ob) : Option (Ob) :=
  Option.bind (fX3_upOf p1 x) (fun q2 =>
  (if q2 = (-1) then
    some x
  else
    Option.bind (fX3_upOf q2 x) (fun q14 =>
    (if q2 ≤ p1 then
      Option.bind (fX3_leftOf p1 x) (fun q45 =>
      Option.bind (fX3_hangRight q45 q2 x) (fun q49 =>
      Option.bind (fX3_hangLeft q2 p1 q49) (fun q55 =>
      fX3_turn_J58 p1 q2 q14 q55)))
    else
      Option.bind (fX3_rightOf p1 x) (fun q26 =>
      Option.bind (fX3_hangLeft q26 q2 x) (fun q30 =>
      Option.bind (fX3_hangRight q2 p1 q30) (fun q36 =>
      fX3_turn_J58 p1 q2 q14 q36)))))))
abbrev rmX3_turn : Room := { frames := 2, cells := 0, slots := 0, locals := 44 }
set_option maxHeartbeats 4000000 in
set_option maxRecDepth 100000 in
theorem ok_X3_turn {l : Launch} {E : En} {o : Nat} {ad : (Nat → Nat)} {p1 : Int32} {x : Ob} {r : Ob} (hf : fX3_turn p1 x = some r) : CV l yX3_turn wsX3_turn (rmX3_turn) [.ref o, .int p1] E (w3 E o ad x) (w3 E o ad r) := by
  refine xc_V (by decide) rfl (Nat.le_of_ble_eq_true rfl) [(0, .ref o), (1, .int p1)] rfl (fun p e s m below meth c A C hr => ?_)
  generalize ([.ref o, .int p1] : List Value).toArray = args at C ⊢
  obtain ⟨Z, hZ⟩ : ∃ Z, Z = ZV E (w3 E o ad r) A below args s 0 0 := ⟨_, rfl⟩
  rw [← hZ]
  have in3 : ∀ w ∈ wsX30, w ∈ wsX3_turn := by decide +kernel
  have m37 : Cond.fieldLink RX3 37 "TurningTrees$Shape" "turns" "I" ∈ wsX3_turn := by decide +kernel
  have hJ58 : ∀ (v1 : Int32), ∀ (v2 : Int32), ∀ (v3 : Int32), ∀ (x : Ob), fX3_turn_J58 v1 v2 v3 x = some r → XW E p l e rmX3_turn s m args below meth c Z A 0 0 (w3 E o ad x) 58 4 [(0, .ref o), (1, .int v1), (2, .int v2), (3, .int v3)] [] := by
    intro v1 v2 v3 x h
    rw [fX3_turn_J58] at h
    refine xw_aload_n C dX3_turn_58 rfl 0 rfl ?_
    refine xw_iload_n C dX3_turn_59 rfl 1 rfl ?_
    refine xw_iload_n C dX3_turn_60 rfl 3 rfl ?_
    obtain ⟨q61, eq61, h⟩ := px_b h
    refine xw_callVV (w' := w3 E o ad q61) (u := []) (v := []) C (ok_X3_hang (o := o) (ad := ad) (x := x) eq61) 2 gX3_turn_X3_hang rfl ⟨rfl, rfl⟩ (by decide +kernel) ⟨Nat.le_of_ble_eq_true rfl, Nat.le_of_ble_eq_true rfl⟩ 0 3 rfl rfl rfl (Nat.le_of_ble_eq_true rfl) ⟨Nat.zero_le _, Nat.zero_le _⟩ rfl xe0 xe0.symm dX3_turn_61 ?_
    refine xw_aload_n C dX3_turn_64 rfl 0 rfl ?_
    refine xw_iload_n C dX3_turn_65 rfl 2 rfl ?_
    obtain ⟨q66, eq66, h⟩ := px_b h
    refine xw_callVV (w' := w3 E o ad q66) (u := []) (v := []) C (ok_X3_resize (o := o) (ad := ad) (x := q61) eq66) 1 gX3_turn_X3_resize rfl ⟨rfl, rfl⟩ (by decide +kernel) ⟨Nat.le_of_ble_eq_true rfl, Nat.le_of_ble_eq_true rfl⟩ 0 3 rfl rfl rfl (Nat.le_of_ble_eq_true rfl) ⟨Nat.zero_le _, Nat.zero_le _⟩ rfl xe0 xe0.symm dX3_turn_66 ?_
    refine xw_aload_n C dX3_turn_69 rfl 0 rfl ?_
    refine xw_iload_n C dX3_turn_70 rfl 1 rfl ?_
    obtain ⟨q71, eq71, h⟩ := px_b h
    refine xw_callVV (w' := w3 E o ad q71) (u := []) (v := []) C (ok_X3_resize (o := o) (ad := ad) (x := q66) eq71) 1 gX3_turn_X3_resize rfl ⟨rfl, rfl⟩ (by decide +kernel) ⟨Nat.le_of_ble_eq_true rfl, Nat.le_of_ble_eq_true rfl⟩ 0 3 rfl rfl rfl (Nat.le_of_ble_eq_true rfl) ⟨Nat.zero_le _, Nat.zero_le _⟩ rfl xe0 xe0.symm dX3_turn_71 ?_
    refine xw_aload_n C dX3_turn_74 rfl 0 rfl ?_
    refine xw_dup C dX3_turn_75 rfl ?_
    refine xw_get C in3 0 rfl rfl 6 (by decide) m37 rfl rfl dX3_turn_76 ?_
    refine xw_iconst C (1) dX3_turn_79 (by decide) ?_
    refine xw_iadd C dX3_turn_80 ?_
    refine px_n h (fun x_81 ex_81 h => ?_)
    refine xw_put (w' := w3 E o ad x_81) C in3 tyX3 tyX3_ok nmX3 0 rfl rfl 6 (by decide) m37 rfl rfl rfl (Nat.le_of_ble_eq_true rfl) (by rw [ex_81]; rfl) dX3_turn_81 ?_
    cases h
    rw [hZ]
    exact xw_vret C hr dX3_turn_84
  rw [fX3_turn] at hf
  have h := hf
  refine xw_aload_n C dX3_turn_0 rfl 0 rfl ?_
  refine xw_iload_n C dX3_turn_1 rfl 1 rfl ?_
  obtain ⟨q2, eq2, h⟩ := px_b h
  refine xw_callVI (w' := w3 E o ad x) (u := []) (v := []) C (ok_X3_upOf (o := o) (ad := ad) (x := x) eq2) 1 gX3_turn_X3_upOf rfl ⟨rfl, rfl⟩ (by decide +kernel) ⟨Nat.le_of_ble_eq_true rfl, Nat.le_of_ble_eq_true rfl⟩ 0 3 rfl rfl rfl (Nat.le_of_ble_eq_true rfl) ⟨Nat.zero_le _, Nat.zero_le _⟩ rfl xe0 xe0.symm dX3_turn_2 ?_
  refine xw_istore_n C dX3_turn_5 rfl (by decide) (lv' := [(2, .int q2), (0, .ref o), (1, .int p1)]) rfl ?_
  refine xw_iload_n C dX3_turn_6 rfl 0 rfl ?_
  refine xw_iconst C (-1) dX3_turn_7 (by decide) ?_
  refine xw_icmp_ne C 12 dX3_turn_8 (by decide) (fun c8 => ?_) (fun c8 => ?_)
  · have h := px_f c8 h
    refine xw_aload_n C dX3_turn_12 rfl 1 rfl ?_
    refine xw_iload_n C dX3_turn_13 rfl 0 rfl ?_
    obtain ⟨q14, eq14, h⟩ := px_b h
    refine xw_callVI (w' := w3 E o ad x) (u := []) (v := []) C (ok_X3_upOf (o := o) (ad := ad) (x := x) eq14) 1 gX3_turn_X3_upOf rfl ⟨rfl, rfl⟩ (by decide +kernel) ⟨Nat.le_of_ble_eq_true rfl, Nat.le_of_ble_eq_true rfl⟩ 0 3 rfl rfl rfl (Nat.le_of_ble_eq_true rfl) ⟨Nat.zero_le _, Nat.zero_le _⟩ rfl xe0 xe0.symm dX3_turn_14 ?_
    refine xw_istore_n C dX3_turn_17 rfl (by decide) (lv' := [(3, .int q14), (2, .int q2), (0, .ref o), (1, .int p1)]) rfl ?_
    refine xw_iload_n C dX3_turn_18 rfl 3 rfl ?_
    refine xw_iload_n C dX3_turn_19 rfl 1 rfl ?_
    refine xw_icmp_ge C 42 dX3_turn_20 (by decide) (fun c20 => ?_) (fun c20 => ?_)
    · have h := px_t c20 h
      refine xw_aload_n C dX3_turn_42 rfl 2 rfl ?_
      refine xw_aload_n C dX3_turn_43 rfl 2 rfl ?_
      refine xw_iload_n C dX3_turn_44 rfl 3 rfl ?_
      obtain ⟨q45, eq45, h⟩ := px_b h
      refine xw_callVI (w' := w3 E o ad x) (u := []) (v := []) C (ok_X3_leftOf (o := o) (ad := ad) (x := x) eq45) 1 gX3_turn_X3_leftOf rfl ⟨rfl, rfl⟩ (by decide +kernel) ⟨Nat.le_of_ble_eq_true rfl, Nat.le_of_ble_eq_true rfl⟩ 0 3 rfl rfl rfl (Nat.le_of_ble_eq_true rfl) ⟨Nat.zero_le _, Nat.zero_le _⟩ rfl xe0 xe0.symm dX3_turn_45 ?_
      refine xw_iload_n C dX3_turn_48 rfl 1 rfl ?_
      obtain ⟨q49, eq49, h⟩ := px_b h
      refine xw_callVV (w' := w3 E o ad q49) (u := []) (v := []) C (ok_X3_hangRight (o := o) (ad := ad) (x := x) eq49) 2 gX3_turn_X3_hangRight rfl ⟨rfl, rfl⟩ (by decide +kernel) ⟨Nat.le_of_ble_eq_true rfl, Nat.le_of_ble_eq_true rfl⟩ 0 3 rfl rfl rfl (Nat.le_of_ble_eq_true rfl) ⟨Nat.zero_le _, Nat.zero_le _⟩ rfl xe0 xe0.symm dX3_turn_49 ?_
      refine xw_aload_n C dX3_turn_52 rfl 2 rfl ?_
      refine xw_iload_n C dX3_turn_53 rfl 1 rfl ?_
      refine xw_iload_n C dX3_turn_54 rfl 3 rfl ?_
      obtain ⟨q55, eq55, h⟩ := px_b h
      refine xw_callVV (w' := w3 E o ad q55) (u := []) (v := []) C (ok_X3_hangLeft (o := o) (ad := ad) (x := q49) eq55) 2 gX3_turn_X3_hangLeft rfl ⟨rfl, rfl⟩ (by decide +kernel) ⟨Nat.le_of_ble_eq_true rfl, Nat.le_of_ble_eq_true rfl⟩ 0 3 rfl rfl rfl (Nat.le_of_ble_eq_true rfl) ⟨Nat.zero_le _, Nat.zero_le _⟩ rfl xe0 xe0.symm dX3_turn_55 ?_
      refine xw_perm [2, 3, 1, 0] rfl ?_
      exact hJ58 _ _ _ _ h
    · have h := px_f c20 h
      refine xw_aload_n C dX3_turn_23 rfl 2 rfl ?_
      refine xw_aload_n C dX3_turn_24 rfl 2 rfl ?_
      refine xw_iload_n C dX3_turn_25 rfl 3 rfl ?_
      obtain ⟨q26, eq26, h⟩ := px_b h
      refine xw_callVI (w' := w3 E o ad x) (u := []) (v := []) C (ok_X3_rightOf (o := o) (ad := ad) (x := x) eq26) 1 gX3_turn_X3_rightOf rfl ⟨rfl, rfl⟩ (by decide +kernel) ⟨Nat.le_of_ble_eq_true rfl, Nat.le_of_ble_eq_true rfl⟩ 0 3 rfl rfl rfl (Nat.le_of_ble_eq_true rfl) ⟨Nat.zero_le _, Nat.zero_le _⟩ rfl xe0 xe0.symm dX3_turn_26 ?_
      refine xw_iload_n C dX3_turn_29 rfl 1 rfl ?_
      obtain ⟨q30, eq30, h⟩ := px_b h
      refine xw_callVV (w' := w3 E o ad q30) (u := []) (v := []) C (ok_X3_hangLeft (o := o) (ad := ad) (x := x) eq30) 2 gX3_turn_X3_hangLeft rfl ⟨rfl, rfl⟩ (by decide +kernel) ⟨Nat.le_of_ble_eq_true rfl, Nat.le_of_ble_eq_true rfl⟩ 0 3 rfl rfl rfl (Nat.le_of_ble_eq_true rfl) ⟨Nat.zero_le _, Nat.zero_le _⟩ rfl xe0 xe0.symm dX3_turn_30 ?_
      refine xw_aload_n C dX3_turn_33 rfl 2 rfl ?_
      refine xw_iload_n C dX3_turn_34 rfl 1 rfl ?_
      refine xw_iload_n C dX3_turn_35 rfl 3 rfl ?_
      obtain ⟨q36, eq36, h⟩ := px_b h
      refine xw_callVV (w' := w3 E o ad q36) (u := []) (v := []) C (ok_X3_hangRight (o := o) (ad := ad) (x := q30) eq36) 2 gX3_turn_X3_hangRight rfl ⟨rfl, rfl⟩ (by decide +kernel) ⟨Nat.le_of_ble_eq_true rfl, Nat.le_of_ble_eq_true rfl⟩ 0 3 rfl rfl rfl (Nat.le_of_ble_eq_true rfl) ⟨Nat.zero_le _, Nat.zero_le _⟩ rfl xe0 xe0.symm dX3_turn_36 ?_
      refine xw_goto C 58 dX3_turn_39 (by decide) ?_
      refine xw_perm [2, 3, 1, 0] rfl ?_
      exact hJ58 _ _ _ _ h
  · have h := px_t c8 h
    cases h
    rw [hZ]
    exact xw_vret C hr dX3_turn_11
def fX3_evenOf : Nat → Int32 → Int32 → Int32 → Ob → Option (Int32 × Ob)
  | 0, _, _, _, _ => none
  | d + 1, p1, p2, p3, x =>
  (if p2 < p1 then
    some ((-1), x)
  else
    (if p3 ≤ (6) then
      px_let (((p1 + p2) / (2)) : Int32) (fun b18 =>
      Option.bind (fX5_at 64 b18 (x.2 4)) (fun q26 =>
      Option.bind (fX3_evenOf d p1 (b18 - (1)) (p3 + (1)) x) (fun q41 =>
      Option.bind (fX3_hangLeft q41.1 q26 q41.2) (fun q46 =>
      Option.bind (fX3_evenOf d (b18 + (1)) p2 (p3 + (1)) q46) (fun q59 =>
      Option.bind (fX3_hangRight q59.1 q26 q59.2) (fun q64 =>
      Option.bind (fX3_resize q26 q64) (fun q70 =>
      some (q26, q70))))))))
    else
      some ((-1), x)))
abbrev rmX3_evenOf (d : Nat) : Room := { frames := d + 2, cells := 0, slots := 0, locals := d * 25 + 44 }
set_option maxHeartbeats 4000000 in
set_option maxRecDepth 100000 in
theorem ok_X3_evenOf {l : Launch} {E : En} {o : Nat} {ad : (Nat → Nat)} : ∀ (d : Nat) {p1 : Int32} {p2 : Int32} {p3 : Int32} {x : Ob} {r : Int32 × Ob}, fX3_evenOf d p1 p2 p3 x = some r → CI l yX3_evenOf wsX3_evenOf (rmX3_evenOf d) [.ref o, .int p1, .int p2, .int p3] E (w3 E o ad x) (w3 E o ad r.2) (r.1) := by
  intro d
  induction d with
  | zero =>
    intro p1 p2 p3 x r hf
    rw [fX3_evenOf] at hf
    cases hf
  | succ d ih =>
    intro p1 p2 p3 x r hf
    refine xc_I (by decide) rfl (Nat.le_of_ble_eq_true rfl) [(0, .ref o), (1, .int p1), (2, .int p2), (3, .int p3)] rfl (fun p e s m below meth c A C hr => ?_)
    generalize ([.ref o, .int p1, .int p2, .int p3] : List Value).toArray = args at C ⊢
    obtain ⟨Z, hZ⟩ : ∃ Z, Z = ZI E (w3 E o ad r.2) (r.1) A below args s 0 0 := ⟨_, rfl⟩
    rw [← hZ]
    have in3 : ∀ w ∈ wsX30, w ∈ wsX3_evenOf := by decide +kernel
    have m24 : Cond.fieldLink RX3 24 "TurningTrees$Shape" "order" "[I" ∈ wsX3_evenOf := by decide +kernel
    rw [fX3_evenOf] at hf
    have h := hf
    refine xw_iload_n C dX3_evenOf_0 rfl 1 rfl ?_
    refine xw_iload_n C dX3_evenOf_1 rfl 2 rfl ?_
    refine xw_icmp_gt C 11 dX3_evenOf_2 (by decide) (fun c2 => ?_) (fun c2 => ?_)
    · have h := px_t c2 h
      refine xw_iconst C (-1) dX3_evenOf_11 (by decide) ?_
      cases h
      rw [hZ]
      exact xw_iret C hr dX3_evenOf_12
    · have h := px_f c2 h
      refine xw_iload_n C dX3_evenOf_5 rfl 3 rfl ?_
      refine xw_bipush C (6) dX3_evenOf_6 (by decide) ?_
      refine xw_icmp_le C 13 dX3_evenOf_8 (by decide) (fun c8 => ?_) (fun c8 => ?_)
      · have h := px_t c8 h
        refine xw_iload_n C dX3_evenOf_13 rfl 1 rfl ?_
        refine xw_iload_n C dX3_evenOf_14 rfl 2 rfl ?_
        refine xw_iadd C dX3_evenOf_15 ?_
        refine xw_iconst C (2) dX3_evenOf_16 (by decide) ?_
        refine xw_idiv C dX3_evenOf_17 (by decide) ?_
        refine xw_topi (fun b18 eb18 => ?_)
        have h := px_v h b18 eb18
        refine xw_istore C dX3_evenOf_18 (by decide) (lv' := [(4, .int b18), (0, .ref o), (1, .int p1), (2, .int p2), (3, .int p3)]) rfl ?_
        refine xw_aload_n C dX3_evenOf_20 rfl 1 rfl ?_
        refine xw_get C in3 0 rfl rfl 4 (by decide) m24 rfl rfl dX3_evenOf_21 ?_
        refine xw_iload C dX3_evenOf_24 0 rfl ?_
        obtain ⟨q26, eq26, h⟩ := px_b h
        refine xw_callNI (w' := w3 E o ad x) (u := (w3 E o ad x).take 5) (v := (w3 E o ad x).drop 6) C (ok_X5_at (a := (ad 4)) (nn := 64) (f := (x.2 4)) eq26) 2 gX3_evenOf_X5_at_n40 rfl ⟨rfl, rfl⟩ (by decide +kernel) (by decide +kernel) (by decide +kernel) (by decide +kernel) ⟨Nat.le_of_ble_eq_true rfl, Nat.le_of_ble_eq_true rfl⟩ rfl (Nat.le_of_ble_eq_true rfl) ⟨Nat.zero_le _, Nat.zero_le _⟩ rfl rfl (by rfl) dX3_evenOf_26 ?_
        refine xw_istore C dX3_evenOf_29 (by decide) (lv' := [(5, .int q26), (4, .int b18), (0, .ref o), (1, .int p1), (2, .int p2), (3, .int p3)]) rfl ?_
        refine xw_aload_n C dX3_evenOf_31 rfl 2 rfl ?_
        refine xw_aload_n C dX3_evenOf_32 rfl 2 rfl ?_
        refine xw_iload_n C dX3_evenOf_33 rfl 3 rfl ?_
        refine xw_iload C dX3_evenOf_34 1 rfl ?_
        refine xw_iconst C (1) dX3_evenOf_36 (by decide) ?_
        refine xw_isub C dX3_evenOf_37 ?_
        refine xw_iload_n C dX3_evenOf_38 rfl 5 rfl ?_
        refine xw_iconst C (1) dX3_evenOf_39 (by decide) ?_
        refine xw_iadd C dX3_evenOf_40 ?_
        obtain ⟨q41, eq41, h⟩ := px_b h
        refine xw_callSI (w' := w3 E o ad q41.2) (u := []) (v := []) C (ih eq41) 4 gX3_evenOf_X3_evenOf rfl ⟨rfl, rfl⟩ (by decide +kernel) ⟨by show d + 2 + 1 ≤ d + 1 + 2; omega, by show 8 + (6 + 11) + (d * 25 + 44) ≤ (d + 1) * 25 + 44; omega⟩ rfl (Nat.le_of_ble_eq_true rfl) ⟨Nat.zero_le _, Nat.zero_le _⟩ rfl xe0 xe0.symm dX3_evenOf_41 ?_
        refine xw_iload C dX3_evenOf_44 0 rfl ?_
        obtain ⟨q46, eq46, h⟩ := px_b h
        refine xw_callVV (w' := w3 E o ad q46) (u := []) (v := []) C (ok_X3_hangLeft (o := o) (ad := ad) (x := q41.2) eq46) 2 gX3_evenOf_X3_hangLeft rfl ⟨rfl, rfl⟩ (by decide +kernel) ⟨Nat.le_of_ble_eq_true rfl, Nat.le_of_ble_eq_true rfl⟩ 0 3 rfl rfl rfl (Nat.le_of_ble_eq_true rfl) ⟨Nat.zero_le _, Nat.zero_le _⟩ rfl xe0 xe0.symm dX3_evenOf_46 ?_
        refine xw_aload_n C dX3_evenOf_49 rfl 2 rfl ?_
        refine xw_aload_n C dX3_evenOf_50 rfl 2 rfl ?_
        refine xw_iload C dX3_evenOf_51 1 rfl ?_
        refine xw_iconst C (1) dX3_evenOf_53 (by decide) ?_
        refine xw_iadd C dX3_evenOf_54 ?_
        refine xw_iload_n C dX3_evenOf_55 rfl 4 rfl ?_
        refine xw_iload_n C dX3_evenOf_56 rfl 5 rfl ?_
        refine xw_iconst C (1) dX3_evenOf_57 (by decide) ?_
        refine xw_iadd C dX3_evenOf_58 ?_
        obtain ⟨q59, eq59, h⟩ := px_b h
        refine xw_callSI (w' := w3 E o ad q59.2) (u := []) (v := []) C (ih eq59) 4 gX3_evenOf_X3_evenOf rfl ⟨rfl, rfl⟩ (by decide +kernel) ⟨by show d + 2 + 1 ≤ d + 1 + 2; omega, by show 8 + (6 + 11) + (d * 25 + 44) ≤ (d + 1) * 25 + 44; omega⟩ rfl (Nat.le_of_ble_eq_true rfl) ⟨Nat.zero_le _, Nat.zero_le _⟩ rfl xe0 xe0.symm dX3_evenOf_59 ?_
        refine xw_iload C dX3_evenOf_62 0 rfl ?_
        obtain ⟨q64, eq64, h⟩ := px_b h
        refine xw_callVV (w' := w3 E o ad q64) (u := []) (v := []) C (ok_X3_hangRight (o := o) (ad := ad) (x := q59.2) eq64) 2 gX3_evenOf_X3_hangRight rfl ⟨rfl, rfl⟩ (by decide +kernel) ⟨Nat.le_of_ble_eq_true rfl, Nat.le_of_ble_eq_true rfl⟩ 0 3 rfl rfl rfl (Nat.le_of_ble_eq_true rfl) ⟨Nat.zero_le _, Nat.zero_le _⟩ rfl xe0 xe0.symm dX3_evenOf_64 ?_
        refine xw_aload_n C dX3_evenOf_67 rfl 2 rfl ?_
        refine xw_iload C dX3_evenOf_68 0 rfl ?_
        obtain ⟨q70, eq70, h⟩ := px_b h
        refine xw_callVV (w' := w3 E o ad q70) (u := []) (v := []) C (ok_X3_resize (o := o) (ad := ad) (x := q64) eq70) 1 gX3_evenOf_X3_resize rfl ⟨rfl, rfl⟩ (by decide +kernel) ⟨Nat.le_of_ble_eq_true rfl, Nat.le_of_ble_eq_true rfl⟩ 0 3 rfl rfl rfl (Nat.le_of_ble_eq_true rfl) ⟨Nat.zero_le _, Nat.zero_le _⟩ rfl xe0 xe0.symm dX3_evenOf_70 ?_
        refine xw_iload C dX3_evenOf_73 0 rfl ?_
        cases h
        rw [hZ]
        exact xw_iret C hr dX3_evenOf_75
      · have h := px_f c8 h
        refine xw_iconst C (-1) dX3_evenOf_11 (by decide) ?_
        cases h
        rw [hZ]
        exact xw_iret C hr dX3_evenOf_12
def fX3_makeEven_J74 (k31 : Int32 → Int32 → Int32 → Int32 → Int32 → Ob → Option (Ob)) (v2 : Int32) (v3 : Int32) (v4 : Int32) (v5 : Int32) (v6 : Int32) (x : Ob) : Option (Ob) :=
  px_let (v6 + (1) : Int32) (fun b74 =>
  k31 v2 v3 v4 v5 b74 x)
def fX3_makeEven_J80 (v2 : Int32) (v5 : Int32) (x : Ob) : Option (Ob) :=
  Option.bind (fX3_evenOf RD (0) (v5 - (1)) (0) x) (fun q88 =>
  Option.bind (fX3_hang q88.1 v2 q88.2) (fun q92 =>
  some q92))
def fX3_makeEven_L31 : Nat → Int32 → Int32 → Int32 → Int32 → Int32 → Ob → Option (Ob)
  | 0, _, _, _, _, _, _ => none
  | n + 1, v2, v3, v4, v5, v6, x =>
  (if (64) ≤ v6 then
    fX3_makeEven_J80 v2 v5 x
  else
    Option.bind (fX3_holds v6 x) (fun q41 =>
    (if q41 = 0 then
      fX3_makeEven_J74 (fX3_makeEven_L31 n) v2 v3 v4 v5 v6 x
    else
      (if v6 < v3 then
        fX3_makeEven_J74 (fX3_makeEven_L31 n) v2 v3 v4 v5 v6 x
      else
        (if v4 < v6 then
          fX3_makeEven_J74 (fX3_makeEven_L31 n) v2 v3 v4 v5 v6 x
        else
          Option.bind (fX5_put 64 v5 v6 (x.2 4)) (fun q68 =>
          px_let (ob_f x 4 q68) (fun x_68 =>
          px_let (v5 + (1) : Int32) (fun b71 =>
          fX3_makeEven_J74 (fX3_makeEven_L31 n) v2 v3 v4 b71 v6 x_68))))))))
def fX3_makeEven (p1 : Int32) (x : Ob) : Option (Ob) :=
  (if p1 = (-1) then
    some x
  else
    Option.bind (fX3_upOf p1 x) (fun q8 =>
    Option.bind (fX3_leastUnder p1 x) (fun q14 =>
    Option.bind (fX3_greatestUnder p1 x) (fun q20 =>
    fX3_makeEven_L31 FU q8 q14 q20 (0) (0) x))))
abbrev rmX3_makeEven : Room := { frames := 73, cells := 0, slots := 0, locals := 1819 }
set_option maxHeartbeats 4000000 in
set_option maxRecDepth 100000 in
theorem ok_X3_makeEven {l : Launch} {E : En} {o : Nat} {ad : (Nat → Nat)} {p1 : Int32} {x : Ob} {r : Ob} (hf : fX3_makeEven p1 x = some r) : CV l yX3_makeEven wsX3_makeEven (rmX3_makeEven) [.ref o, .int p1] E (w3 E o ad x) (w3 E o ad r) := by
  refine xc_V (by decide) rfl (Nat.le_of_ble_eq_true rfl) [(0, .ref o), (1, .int p1)] rfl (fun p e s m below meth c A C hr => ?_)
  generalize ([.ref o, .int p1] : List Value).toArray = args at C ⊢
  obtain ⟨Z, hZ⟩ : ∃ Z, Z = ZV E (w3 E o ad r) A below args s 0 0 := ⟨_, rfl⟩
  rw [← hZ]
  have in3 : ∀ w ∈ wsX30, w ∈ wsX3_makeEven := by decide +kernel
  have m24 : Cond.fieldLink RX3 24 "TurningTrees$Shape" "order" "[I" ∈ wsX3_makeEven := by decide +kernel
  have hJ74 : ∀ (k31 : Int32 → Int32 → Int32 → Int32 → Int32 → Ob → Option (Ob)), (∀ (v2 : Int32), ∀ (v3 : Int32), ∀ (v4 : Int32), ∀ (v5 : Int32), ∀ (v6 : Int32), ∀ (x : Ob), k31 v2 v3 v4 v5 v6 x = some r → XW E p l e rmX3_makeEven s m args below meth c Z A 0 0 (w3 E o ad x) 31 7 [(0, .ref o), (2, .int v2), (3, .int v3), (4, .int v4), (5, .int v5), (6, .int v6)] []) → ∀ (v2 : Int32), ∀ (v3 : Int32), ∀ (v4 : Int32), ∀ (v5 : Int32), ∀ (v6 : Int32), ∀ (x : Ob), fX3_makeEven_J74 k31 v2 v3 v4 v5 v6 x = some r → XW E p l e rmX3_makeEven s m args below meth c Z A 0 0 (w3 E o ad x) 74 7 [(0, .ref o), (2, .int v2), (3, .int v3), (4, .int v4), (5, .int v5), (6, .int v6)] [] := by
    intro k31 hk31 v2 v3 v4 v5 v6 x h
    rw [fX3_makeEven_J74] at h
    refine px_n h (fun b74 eb74 h => ?_)
    refine xw_iinc (v := b74) C dX3_makeEven_74 5 rfl eb74 (by decide) (lv' := [(6, .int b74), (0, .ref o), (2, .int v2), (3, .int v3), (4, .int v4), (5, .int v5)]) rfl ?_
    refine xw_goto C 31 dX3_makeEven_77 (by decide) ?_
    refine xw_perm [1, 2, 3, 4, 5, 0] rfl ?_
    exact hk31 _ _ _ _ _ _ h
  have hJ80 : ∀ (v2 : Int32), ∀ (v5 : Int32), ∀ (x : Ob), fX3_makeEven_J80 v2 v5 x = some r → XW E p l e rmX3_makeEven s m args below meth c Z A 0 0 (w3 E o ad x) 80 7 [(0, .ref o), (2, .int v2), (5, .int v5)] [] := by
    intro v2 v5 x h
    rw [fX3_makeEven_J80] at h
    refine xw_aload_n C dX3_makeEven_80 rfl 0 rfl ?_
    refine xw_aload_n C dX3_makeEven_81 rfl 0 rfl ?_
    refine xw_iconst C (0) dX3_makeEven_82 (by decide) ?_
    refine xw_iload C dX3_makeEven_83 2 rfl ?_
    refine xw_iconst C (1) dX3_makeEven_85 (by decide) ?_
    refine xw_isub C dX3_makeEven_86 ?_
    refine xw_iconst C (0) dX3_makeEven_87 (by decide) ?_
    obtain ⟨q88, eq88, h⟩ := px_b h
    refine xw_callSI (w' := w3 E o ad q88.2) (u := []) (v := []) C (ok_X3_evenOf (o := o) (ad := ad) RD eq88) 4 gX3_makeEven_X3_evenOf rfl ⟨rfl, rfl⟩ (by decide +kernel) ⟨Nat.le_of_ble_eq_true rfl, Nat.le_of_ble_eq_true rfl⟩ rfl (Nat.le_of_ble_eq_true rfl) ⟨Nat.zero_le _, Nat.zero_le _⟩ rfl xe0 xe0.symm dX3_makeEven_88 ?_
    refine xw_iload_n C dX3_makeEven_91 rfl 1 rfl ?_
    obtain ⟨q92, eq92, h⟩ := px_b h
    refine xw_callVV (w' := w3 E o ad q92) (u := []) (v := []) C (ok_X3_hang (o := o) (ad := ad) (x := q88.2) eq92) 2 gX3_makeEven_X3_hang rfl ⟨rfl, rfl⟩ (by decide +kernel) ⟨Nat.le_of_ble_eq_true rfl, Nat.le_of_ble_eq_true rfl⟩ 0 3 rfl rfl rfl (Nat.le_of_ble_eq_true rfl) ⟨Nat.zero_le _, Nat.zero_le _⟩ rfl xe0 xe0.symm dX3_makeEven_92 ?_
    cases h
    rw [hZ]
    exact xw_vret C hr dX3_makeEven_95
  have hL31 : ∀ n : Nat, ∀ (v2 : Int32), ∀ (v3 : Int32), ∀ (v4 : Int32), ∀ (v5 : Int32), ∀ (v6 : Int32), ∀ (x : Ob), fX3_makeEven_L31 n v2 v3 v4 v5 v6 x = some r → XW E p l e rmX3_makeEven s m args below meth c Z A 0 0 (w3 E o ad x) 31 7 [(0, .ref o), (2, .int v2), (3, .int v3), (4, .int v4), (5, .int v5), (6, .int v6)] [] := by
    intro n
    induction n with
    | zero =>
      intro v2 v3 v4 v5 v6 x h
      rw [fX3_makeEven_L31] at h
      cases h
    | succ n ih =>
      intro v2 v3 v4 v5 v6 x h
      rw [fX3_makeEven_L31] at h
      refine xw_iload C dX3_makeEven_31 5 rfl ?_
      refine xw_bipush C (64) dX3_makeEven_33 (by decide) ?_
      refine xw_icmp_ge C 80 dX3_makeEven_35 (by decide) (fun c35 => ?_) (fun c35 => ?_)
      · have h := px_t c35 h
        refine xw_perm [0, 1, 4] rfl ?_
        exact hJ80 _ _ _ h
      · have h := px_f c35 h
        refine xw_aload_n C dX3_makeEven_38 rfl 0 rfl ?_
        refine xw_iload C dX3_makeEven_39 5 rfl ?_
        obtain ⟨q41, eq41, h⟩ := px_b h
        refine xw_callVI (w' := w3 E o ad x) (u := []) (v := []) C (ok_X3_holds (o := o) (ad := ad) (x := x) eq41) 1 gX3_makeEven_X3_holds rfl ⟨rfl, rfl⟩ (by decide +kernel) ⟨Nat.le_of_ble_eq_true rfl, Nat.le_of_ble_eq_true rfl⟩ 0 3 rfl rfl rfl (Nat.le_of_ble_eq_true rfl) ⟨Nat.zero_le _, Nat.zero_le _⟩ rfl xe0 xe0.symm dX3_makeEven_41 ?_
        refine xw_if_eq C 74 dX3_makeEven_44 (by decide) (fun c44 => ?_) (fun c44 => ?_)
        · have h := px_t c44 h
          exact hJ74 _ ih _ _ _ _ _ _ h
        · have h := px_f c44 h
          refine xw_iload C dX3_makeEven_47 5 rfl ?_
          refine xw_iload_n C dX3_makeEven_49 rfl 2 rfl ?_
          refine xw_icmp_lt C 74 dX3_makeEven_50 (by decide) (fun c50 => ?_) (fun c50 => ?_)
          · have h := px_t c50 h
            exact hJ74 _ ih _ _ _ _ _ _ h
          · have h := px_f c50 h
            refine xw_iload C dX3_makeEven_53 5 rfl ?_
            refine xw_iload C dX3_makeEven_55 3 rfl ?_
            refine xw_icmp_gt C 74 dX3_makeEven_57 (by decide) (fun c57 => ?_) (fun c57 => ?_)
            · have h := px_t c57 h
              exact hJ74 _ ih _ _ _ _ _ _ h
            · have h := px_f c57 h
              refine xw_aload_n C dX3_makeEven_60 rfl 0 rfl ?_
              refine xw_get C in3 0 rfl rfl 4 (by decide) m24 rfl rfl dX3_makeEven_61 ?_
              refine xw_iload C dX3_makeEven_64 4 rfl ?_
              refine xw_iload C dX3_makeEven_66 5 rfl ?_
              obtain ⟨q68, eq68, h⟩ := px_b h
              refine px_n h (fun x_68 ex_68 h => ?_)
              refine xw_callNV (w' := w3 E o ad x_68) (u := (w3 E o ad x).take 5) (v := (w3 E o ad x).drop 6) C (ok_X5_put (a := (ad 4)) (nn := 64) (f := (x.2 4)) eq68) 3 gX3_makeEven_X5_put_n76 rfl ⟨rfl, rfl⟩ (by decide +kernel) (by decide +kernel) (by decide +kernel) (by decide +kernel) ⟨Nat.le_of_ble_eq_true rfl, Nat.le_of_ble_eq_true rfl⟩ rfl (Nat.le_of_ble_eq_true rfl) ⟨Nat.zero_le _, Nat.zero_le _⟩ rfl rfl (by rw [ex_68]; rfl) dX3_makeEven_68 ?_
              refine px_n h (fun b71 eb71 h => ?_)
              refine xw_iinc (v := b71) C dX3_makeEven_71 4 rfl eb71 (by decide) (lv' := [(5, .int b71), (0, .ref o), (2, .int v2), (3, .int v3), (4, .int v4), (6, .int v6)]) rfl ?_
              refine xw_perm [1, 2, 3, 4, 0, 5] rfl ?_
              exact hJ74 _ ih _ _ _ _ _ _ h
  rw [fX3_makeEven] at hf
  have h := hf
  refine xw_iload_n C dX3_makeEven_0 rfl 1 rfl ?_
  refine xw_iconst C (-1) dX3_makeEven_1 (by decide) ?_
  refine xw_icmp_ne C 6 dX3_makeEven_2 (by decide) (fun c2 => ?_) (fun c2 => ?_)
  · have h := px_f c2 h
    refine xw_aload_n C dX3_makeEven_6 rfl 0 rfl ?_
    refine xw_iload_n C dX3_makeEven_7 rfl 1 rfl ?_
    obtain ⟨q8, eq8, h⟩ := px_b h
    refine xw_callVI (w' := w3 E o ad x) (u := []) (v := []) C (ok_X3_upOf (o := o) (ad := ad) (x := x) eq8) 1 gX3_makeEven_X3_upOf rfl ⟨rfl, rfl⟩ (by decide +kernel) ⟨Nat.le_of_ble_eq_true rfl, Nat.le_of_ble_eq_true rfl⟩ 0 3 rfl rfl rfl (Nat.le_of_ble_eq_true rfl) ⟨Nat.zero_le _, Nat.zero_le _⟩ rfl xe0 xe0.symm dX3_makeEven_8 ?_
    refine xw_istore_n C dX3_makeEven_11 rfl (by decide) (lv' := [(2, .int q8), (0, .ref o), (1, .int p1)]) rfl ?_
    refine xw_aload_n C dX3_makeEven_12 rfl 1 rfl ?_
    refine xw_iload_n C dX3_makeEven_13 rfl 2 rfl ?_
    obtain ⟨q14, eq14, h⟩ := px_b h
    refine xw_callVI (w' := w3 E o ad x) (u := []) (v := []) C (ok_X3_leastUnder (o := o) (ad := ad) (x := x) eq14) 1 gX3_makeEven_X3_leastUnder rfl ⟨rfl, rfl⟩ (by decide +kernel) ⟨Nat.le_of_ble_eq_true rfl, Nat.le_of_ble_eq_true rfl⟩ 0 3 rfl rfl rfl (Nat.le_of_ble_eq_true rfl) ⟨Nat.zero_le _, Nat.zero_le _⟩ rfl xe0 xe0.symm dX3_makeEven_14 ?_
    refine xw_istore_n C dX3_makeEven_17 rfl (by decide) (lv' := [(3, .int q14), (2, .int q8), (0, .ref o), (1, .int p1)]) rfl ?_
    refine xw_aload_n C dX3_makeEven_18 rfl 2 rfl ?_
    refine xw_iload_n C dX3_makeEven_19 rfl 3 rfl ?_
    obtain ⟨q20, eq20, h⟩ := px_b h
    refine xw_callVI (w' := w3 E o ad x) (u := []) (v := []) C (ok_X3_greatestUnder (o := o) (ad := ad) (x := x) eq20) 1 gX3_makeEven_X3_greatestUnder rfl ⟨rfl, rfl⟩ (by decide +kernel) ⟨Nat.le_of_ble_eq_true rfl, Nat.le_of_ble_eq_true rfl⟩ 0 3 rfl rfl rfl (Nat.le_of_ble_eq_true rfl) ⟨Nat.zero_le _, Nat.zero_le _⟩ rfl xe0 xe0.symm dX3_makeEven_20 ?_
    refine xw_istore C dX3_makeEven_23 (by decide) (lv' := [(4, .int q20), (3, .int q14), (2, .int q8), (0, .ref o), (1, .int p1)]) rfl ?_
    refine xw_iconst C (0) dX3_makeEven_25 (by decide) ?_
    refine xw_istore C dX3_makeEven_26 (by decide) (lv' := [(5, .int (0)), (4, .int q20), (3, .int q14), (2, .int q8), (0, .ref o), (1, .int p1)]) rfl ?_
    refine xw_iconst C (0) dX3_makeEven_28 (by decide) ?_
    refine xw_istore C dX3_makeEven_29 (by decide) (lv' := [(6, .int (0)), (5, .int (0)), (4, .int q20), (3, .int q14), (2, .int q8), (0, .ref o), (1, .int p1)]) rfl ?_
    refine xw_perm [5, 4, 3, 2, 1, 0] rfl ?_
    exact hL31 _ _ _ _ _ _ _ h
  · have h := px_t c2 h
    cases h
    rw [hZ]
    exact xw_vret C hr dX3_makeEven_5
def fX3_moveKeys_J78 (k2 : Int32 → Int32 → Ob → Ob → Option (Ob × Ob)) (v1 : Int32) (v3 : Int32) (x : Ob) (x1 : Ob) : Option (Ob × Ob) :=
  px_let (v3 + (1) : Int32) (fun b78 =>
  k2 v1 b78 x x1)
def fX3_moveKeys_L2 : Nat → Int32 → Int32 → Ob → Ob → Option (Ob × Ob)
  | 0, _, _, _, _ => none
  | n + 1, v1, v3, x, x1 =>
  (if (64) ≤ v3 then
    some (x, x1)
  else
    (if v3 < v1 then
      fX3_moveKeys_J78 (fX3_moveKeys_L2 n) v1 v3 x x1
    else
      Option.bind (fX3_holds v3 x) (fun q15 =>
      (if q15 = 0 then
        fX3_moveKeys_J78 (fX3_moveKeys_L2 n) v1 v3 x x1
      else
        Option.bind (fX3_leftOf v3 x) (fun q28 =>
        Option.bind (fX5_put 64 v3 q28 (x1.2 0)) (fun q31 =>
        px_let (ob_f x1 0 q31) (fun x1_31 =>
        Option.bind (fX3_rightOf v3 x) (fun q41 =>
        Option.bind (fX5_put 64 v3 q41 (x1_31.2 1)) (fun q44 =>
        px_let (ob_f x1_31 1 q44) (fun x1_44 =>
        Option.bind (fX3_upOf v3 x) (fun q54 =>
        Option.bind (fX5_put 64 v3 q54 (x1_44.2 2)) (fun q57 =>
        px_let (ob_f x1_44 2 q57) (fun x1_57 =>
        Option.bind (fX3_sizeOf v3 x) (fun q67 =>
        Option.bind (fX5_put 64 v3 q67 (x1_57.2 3)) (fun q70 =>
        px_let (ob_f x1_57 3 q70) (fun x1_70 =>
        Option.bind (fX3_forget v3 x) (fun q75 =>
        fX3_moveKeys_J78 (fX3_moveKeys_L2 n) v1 v3 q75 x1_70)))))))))))))))))
def fX3_moveKeys (p1 : Int32) (x : Ob) (x1 : Ob) : Option (Ob × Ob) :=
  fX3_moveKeys_L2 FU p1 (0) x x1
abbrev rmX3_moveKeys : Room := { frames := 2, cells := 0, slots := 0, locals := 43 }
set_option maxHeartbeats 4000000 in
set_option maxRecDepth 100000 in
theorem ok_X3_moveKeys {l : Launch} {E : En} {o : Nat} {ad : (Nat → Nat)} {o1 : Nat} {ad1 : (Nat → Nat)} {p1 : Int32} {x : Ob} {x1 : Ob} {r : Ob × Ob} (hf : fX3_moveKeys p1 x x1 = some r) : CV l yX3_moveKeys wsX3_moveKeys (rmX3_moveKeys) [.ref o, .int p1, .ref o1] E (w3 E o ad x ++ w3 E o1 ad1 x1) (w3 E o ad r.1 ++ w3 E o1 ad1 r.2) := by
  refine xc_V (by decide) rfl (Nat.le_of_ble_eq_true rfl) [(0, .ref o), (1, .int p1), (2, .ref o1)] rfl (fun p e s m below meth c A C hr => ?_)
  generalize ([.ref o, .int p1, .ref o1] : List Value).toArray = args at C ⊢
  obtain ⟨Z, hZ⟩ : ∃ Z, Z = ZV E (w3 E o ad r.1 ++ w3 E o1 ad1 r.2) A below args s 0 0 := ⟨_, rfl⟩
  rw [← hZ]
  have in3 : ∀ w ∈ wsX30, w ∈ wsX3_moveKeys := by decide +kernel
  have m9 : Cond.fieldLink RX3 9 "TurningTrees$Shape" "left" "[I" ∈ wsX3_moveKeys := by decide +kernel
  have m15 : Cond.fieldLink RX3 15 "TurningTrees$Shape" "right" "[I" ∈ wsX3_moveKeys := by decide +kernel
  have m18 : Cond.fieldLink RX3 18 "TurningTrees$Shape" "up" "[I" ∈ wsX3_moveKeys := by decide +kernel
  have m21 : Cond.fieldLink RX3 21 "TurningTrees$Shape" "size" "[I" ∈ wsX3_moveKeys := by decide +kernel
  have hJ78 : ∀ (k2 : Int32 → Int32 → Ob → Ob → Option (Ob × Ob)), (∀ (v1 : Int32), ∀ (v3 : Int32), ∀ (x : Ob), ∀ (x1 : Ob), k2 v1 v3 x x1 = some r → XW E p l e rmX3_moveKeys s m args below meth c Z A 0 0 (w3 E o ad x ++ w3 E o1 ad1 x1) 2 4 [(0, .ref o), (1, .int v1), (2, .ref o1), (3, .int v3)] []) → ∀ (v1 : Int32), ∀ (v3 : Int32), ∀ (x : Ob), ∀ (x1 : Ob), fX3_moveKeys_J78 k2 v1 v3 x x1 = some r → XW E p l e rmX3_moveKeys s m args below meth c Z A 0 0 (w3 E o ad x ++ w3 E o1 ad1 x1) 78 4 [(0, .ref o), (1, .int v1), (2, .ref o1), (3, .int v3)] [] := by
    intro k2 hk2 v1 v3 x x1 h
    rw [fX3_moveKeys_J78] at h
    refine px_n h (fun b78 eb78 h => ?_)
    refine xw_iinc (v := b78) C dX3_moveKeys_78 3 rfl eb78 (by decide) (lv' := [(3, .int b78), (0, .ref o), (1, .int v1), (2, .ref o1)]) rfl ?_
    refine xw_goto C 2 dX3_moveKeys_81 (by decide) ?_
    refine xw_perm [1, 2, 3, 0] rfl ?_
    exact hk2 _ _ _ _ h
  have hL2 : ∀ n : Nat, ∀ (v1 : Int32), ∀ (v3 : Int32), ∀ (x : Ob), ∀ (x1 : Ob), fX3_moveKeys_L2 n v1 v3 x x1 = some r → XW E p l e rmX3_moveKeys s m args below meth c Z A 0 0 (w3 E o ad x ++ w3 E o1 ad1 x1) 2 4 [(0, .ref o), (1, .int v1), (2, .ref o1), (3, .int v3)] [] := by
    intro n
    induction n with
    | zero =>
      intro v1 v3 x x1 h
      rw [fX3_moveKeys_L2] at h
      cases h
    | succ n ih =>
      intro v1 v3 x x1 h
      rw [fX3_moveKeys_L2] at h
      refine xw_iload_n C dX3_moveKeys_2 rfl 3 rfl ?_
      refine xw_bipush C (64) dX3_moveKeys_3 (by decide) ?_
      refine xw_icmp_ge C 84 dX3_moveKeys_5 (by decide) (fun c5 => ?_) (fun c5 => ?_)
      · have h := px_t c5 h
        cases h
        rw [hZ]
        exact xw_vret C hr dX3_moveKeys_84
      · have h := px_f c5 h
        refine xw_iload_n C dX3_moveKeys_8 rfl 3 rfl ?_
        refine xw_iload_n C dX3_moveKeys_9 rfl 1 rfl ?_
        refine xw_icmp_lt C 78 dX3_moveKeys_10 (by decide) (fun c10 => ?_) (fun c10 => ?_)
        · have h := px_t c10 h
          exact hJ78 _ ih _ _ _ _ h
        · have h := px_f c10 h
          refine xw_aload_n C dX3_moveKeys_13 rfl 0 rfl ?_
          refine xw_iload_n C dX3_moveKeys_14 rfl 3 rfl ?_
          obtain ⟨q15, eq15, h⟩ := px_b h
          refine xw_callVI (w' := w3 E o ad x ++ w3 E o1 ad1 x1) (u := (w3 E o ad x ++ w3 E o1 ad1 x1).take 0) (v := (w3 E o ad x ++ w3 E o1 ad1 x1).drop 6) C (ok_X3_holds (o := o) (ad := ad) (x := x) eq15) 1 gX3_moveKeys_X3_holds rfl ⟨rfl, rfl⟩ (by decide +kernel) ⟨Nat.le_of_ble_eq_true rfl, Nat.le_of_ble_eq_true rfl⟩ 0 3 rfl rfl rfl (Nat.le_of_ble_eq_true rfl) ⟨Nat.zero_le _, Nat.zero_le _⟩ rfl rfl (by rfl) dX3_moveKeys_15 ?_
          refine xw_if_eq C 78 dX3_moveKeys_18 (by decide) (fun c18 => ?_) (fun c18 => ?_)
          · have h := px_t c18 h
            exact hJ78 _ ih _ _ _ _ h
          · have h := px_f c18 h
            refine xw_aload_n C dX3_moveKeys_21 rfl 2 rfl ?_
            refine xw_get C in3 6 rfl rfl 0 (by decide) m9 rfl rfl dX3_moveKeys_22 ?_
            refine xw_iload_n C dX3_moveKeys_25 rfl 3 rfl ?_
            refine xw_aload_n C dX3_moveKeys_26 rfl 0 rfl ?_
            refine xw_iload_n C dX3_moveKeys_27 rfl 3 rfl ?_
            obtain ⟨q28, eq28, h⟩ := px_b h
            refine xw_callVI (w' := w3 E o ad x ++ w3 E o1 ad1 x1) (u := (w3 E o ad x ++ w3 E o1 ad1 x1).take 0) (v := (w3 E o ad x ++ w3 E o1 ad1 x1).drop 6) C (ok_X3_leftOf (o := o) (ad := ad) (x := x) eq28) 1 gX3_moveKeys_X3_leftOf rfl ⟨rfl, rfl⟩ (by decide +kernel) ⟨Nat.le_of_ble_eq_true rfl, Nat.le_of_ble_eq_true rfl⟩ 0 3 rfl rfl rfl (Nat.le_of_ble_eq_true rfl) ⟨Nat.zero_le _, Nat.zero_le _⟩ rfl rfl (by rfl) dX3_moveKeys_28 ?_
            obtain ⟨q31, eq31, h⟩ := px_b h
            refine px_n h (fun x1_31 ex1_31 h => ?_)
            refine xw_callNV (w' := w3 E o ad x ++ w3 E o1 ad1 x1_31) (u := (w3 E o ad x ++ w3 E o1 ad1 x1).take 7) (v := (w3 E o ad x ++ w3 E o1 ad1 x1).drop 8) C (ok_X5_put (a := (ad1 0)) (nn := 64) (f := (x1.2 0)) eq31) 3 gX3_moveKeys_X5_put_n76 rfl ⟨rfl, rfl⟩ (by decide +kernel) (by decide +kernel) (by decide +kernel) (by decide +kernel) ⟨Nat.le_of_ble_eq_true rfl, Nat.le_of_ble_eq_true rfl⟩ rfl (Nat.le_of_ble_eq_true rfl) ⟨Nat.zero_le _, Nat.zero_le _⟩ rfl rfl (by rw [ex1_31]; rfl) dX3_moveKeys_31 ?_
            refine xw_aload_n C dX3_moveKeys_34 rfl 2 rfl ?_
            refine xw_get C in3 6 rfl rfl 1 (by decide) m15 rfl rfl dX3_moveKeys_35 ?_
            refine xw_iload_n C dX3_moveKeys_38 rfl 3 rfl ?_
            refine xw_aload_n C dX3_moveKeys_39 rfl 0 rfl ?_
            refine xw_iload_n C dX3_moveKeys_40 rfl 3 rfl ?_
            obtain ⟨q41, eq41, h⟩ := px_b h
            refine xw_callVI (w' := w3 E o ad x ++ w3 E o1 ad1 x1_31) (u := (w3 E o ad x ++ w3 E o1 ad1 x1_31).take 0) (v := (w3 E o ad x ++ w3 E o1 ad1 x1_31).drop 6) C (ok_X3_rightOf (o := o) (ad := ad) (x := x) eq41) 1 gX3_moveKeys_X3_rightOf rfl ⟨rfl, rfl⟩ (by decide +kernel) ⟨Nat.le_of_ble_eq_true rfl, Nat.le_of_ble_eq_true rfl⟩ 0 3 rfl rfl rfl (Nat.le_of_ble_eq_true rfl) ⟨Nat.zero_le _, Nat.zero_le _⟩ rfl rfl (by rfl) dX3_moveKeys_41 ?_
            obtain ⟨q44, eq44, h⟩ := px_b h
            refine px_n h (fun x1_44 ex1_44 h => ?_)
            refine xw_callNV (w' := w3 E o ad x ++ w3 E o1 ad1 x1_44) (u := (w3 E o ad x ++ w3 E o1 ad1 x1_31).take 8) (v := (w3 E o ad x ++ w3 E o1 ad1 x1_31).drop 9) C (ok_X5_put (a := (ad1 1)) (nn := 64) (f := (x1_31.2 1)) eq44) 3 gX3_moveKeys_X5_put_n76 rfl ⟨rfl, rfl⟩ (by decide +kernel) (by decide +kernel) (by decide +kernel) (by decide +kernel) ⟨Nat.le_of_ble_eq_true rfl, Nat.le_of_ble_eq_true rfl⟩ rfl (Nat.le_of_ble_eq_true rfl) ⟨Nat.zero_le _, Nat.zero_le _⟩ rfl rfl (by rw [ex1_44]; rfl) dX3_moveKeys_44 ?_
            refine xw_aload_n C dX3_moveKeys_47 rfl 2 rfl ?_
            refine xw_get C in3 6 rfl rfl 2 (by decide) m18 rfl rfl dX3_moveKeys_48 ?_
            refine xw_iload_n C dX3_moveKeys_51 rfl 3 rfl ?_
            refine xw_aload_n C dX3_moveKeys_52 rfl 0 rfl ?_
            refine xw_iload_n C dX3_moveKeys_53 rfl 3 rfl ?_
            obtain ⟨q54, eq54, h⟩ := px_b h
            refine xw_callVI (w' := w3 E o ad x ++ w3 E o1 ad1 x1_44) (u := (w3 E o ad x ++ w3 E o1 ad1 x1_44).take 0) (v := (w3 E o ad x ++ w3 E o1 ad1 x1_44).drop 6) C (ok_X3_upOf (o := o) (ad := ad) (x := x) eq54) 1 gX3_moveKeys_X3_upOf rfl ⟨rfl, rfl⟩ (by decide +kernel) ⟨Nat.le_of_ble_eq_true rfl, Nat.le_of_ble_eq_true rfl⟩ 0 3 rfl rfl rfl (Nat.le_of_ble_eq_true rfl) ⟨Nat.zero_le _, Nat.zero_le _⟩ rfl rfl (by rfl) dX3_moveKeys_54 ?_
            obtain ⟨q57, eq57, h⟩ := px_b h
            refine px_n h (fun x1_57 ex1_57 h => ?_)
            refine xw_callNV (w' := w3 E o ad x ++ w3 E o1 ad1 x1_57) (u := (w3 E o ad x ++ w3 E o1 ad1 x1_44).take 9) (v := (w3 E o ad x ++ w3 E o1 ad1 x1_44).drop 10) C (ok_X5_put (a := (ad1 2)) (nn := 64) (f := (x1_44.2 2)) eq57) 3 gX3_moveKeys_X5_put_n76 rfl ⟨rfl, rfl⟩ (by decide +kernel) (by decide +kernel) (by decide +kernel) (by decide +kernel) ⟨Nat.le_of_ble_eq_true rfl, Nat.le_of_ble_eq_true rfl⟩ rfl (Nat.le_of_ble_eq_true rfl) ⟨Nat.zero_le _, Nat.zero_le _⟩ rfl rfl (by rw [ex1_57]; rfl) dX3_moveKeys_57 ?_
            refine xw_aload_n C dX3_moveKeys_60 rfl 2 rfl ?_
            refine xw_get C in3 6 rfl rfl 3 (by decide) m21 rfl rfl dX3_moveKeys_61 ?_
            refine xw_iload_n C dX3_moveKeys_64 rfl 3 rfl ?_
            refine xw_aload_n C dX3_moveKeys_65 rfl 0 rfl ?_
            refine xw_iload_n C dX3_moveKeys_66 rfl 3 rfl ?_
            obtain ⟨q67, eq67, h⟩ := px_b h
            refine xw_callVI (w' := w3 E o ad x ++ w3 E o1 ad1 x1_57) (u := (w3 E o ad x ++ w3 E o1 ad1 x1_57).take 0) (v := (w3 E o ad x ++ w3 E o1 ad1 x1_57).drop 6) C (ok_X3_sizeOf (o := o) (ad := ad) (x := x) eq67) 1 gX3_moveKeys_X3_sizeOf rfl ⟨rfl, rfl⟩ (by decide +kernel) ⟨Nat.le_of_ble_eq_true rfl, Nat.le_of_ble_eq_true rfl⟩ 0 3 rfl rfl rfl (Nat.le_of_ble_eq_true rfl) ⟨Nat.zero_le _, Nat.zero_le _⟩ rfl rfl (by rfl) dX3_moveKeys_67 ?_
            obtain ⟨q70, eq70, h⟩ := px_b h
            refine px_n h (fun x1_70 ex1_70 h => ?_)
            refine xw_callNV (w' := w3 E o ad x ++ w3 E o1 ad1 x1_70) (u := (w3 E o ad x ++ w3 E o1 ad1 x1_57).take 10) (v := (w3 E o ad x ++ w3 E o1 ad1 x1_57).drop 11) C (ok_X5_put (a := (ad1 3)) (nn := 64) (f := (x1_57.2 3)) eq70) 3 gX3_moveKeys_X5_put_n76 rfl ⟨rfl, rfl⟩ (by decide +kernel) (by decide +kernel) (by decide +kernel) (by decide +kernel) ⟨Nat.le_of_ble_eq_true rfl, Nat.le_of_ble_eq_true rfl⟩ rfl (Nat.le_of_ble_eq_true rfl) ⟨Nat.zero_le _, Nat.zero_le _⟩ rfl rfl (by rw [ex1_70]; rfl) dX3_moveKeys_70 ?_
            refine xw_aload_n C dX3_moveKeys_73 rfl 0 rfl ?_
            refine xw_iload_n C dX3_moveKeys_74 rfl 3 rfl ?_
            obtain ⟨q75, eq75, h⟩ := px_b h
            refine xw_callVV (w' := w3 E o ad q75 ++ w3 E o1 ad1 x1_70) (u := (w3 E o ad x ++ w3 E o1 ad1 x1_70).take 0) (v := (w3 E o ad x ++ w3 E o1 ad1 x1_70).drop 6) C (ok_X3_forget (o := o) (ad := ad) (x := x) eq75) 1 gX3_moveKeys_X3_forget rfl ⟨rfl, rfl⟩ (by decide +kernel) ⟨Nat.le_of_ble_eq_true rfl, Nat.le_of_ble_eq_true rfl⟩ 0 3 rfl rfl rfl (Nat.le_of_ble_eq_true rfl) ⟨Nat.zero_le _, Nat.zero_le _⟩ rfl rfl (by rfl) dX3_moveKeys_75 ?_
            exact hJ78 _ ih _ _ _ _ h
  rw [fX3_moveKeys] at hf
  have h := hf
  refine xw_iconst C (0) dX3_moveKeys_0 (by decide) ?_
  refine xw_istore_n C dX3_moveKeys_1 rfl (by decide) (lv' := [(3, .int (0)), (0, .ref o), (1, .int p1), (2, .ref o1)]) rfl ?_
  refine xw_perm [1, 2, 3, 0] rfl ?_
  exact hL2 _ _ _ _ _ h
def fX3_cutAt_J100 (k19 : Int32 → Int32 → Int32 → Int32 → Int32 → Ob → Ob → Option (Ob × Ob)) (v1 : Int32) (v3 : Int32) (v4 : Int32) (v5 : Int32) (v6 : Int32) (x : Ob) (x1 : Ob) : Option (Ob × Ob) :=
  px_let (v6 + (1) : Int32) (fun b100 =>
  k19 v1 v3 v4 v5 b100 x x1)
def fX3_cutAt_J85 (k19 : Int32 → Int32 → Int32 → Int32 → Int32 → Ob → Ob → Option (Ob × Ob)) (v1 : Int32) (v3 : Int32) (v4 : Int32) (v5 : Int32) (v6 : Int32) (v7 : Int32) (s0 : Int32) (x : Ob) (x1 : Ob) : Option (Ob × Ob) :=
  px_let (ob_i x1 5 s0) (fun x1_85 =>
  Option.bind (fX3_hangLeft v7 v5 x) (fun q93 =>
  fX3_cutAt_J100 (k19) v1 v3 v4 v7 v6 q93 x1_85))
def fX3_cutAt_J106 (v1 : Int32) (v4 : Int32) (v5 : Int32) (x : Ob) (x1 : Ob) : Option (Ob × Ob) :=
  Option.bind (fX5_put 64 v4 (-1) (x.2 1)) (fun q113 =>
  px_let (ob_f x 1 q113) (fun x_113 =>
  Option.bind (fX5_put 64 v5 (-1) (x_113.2 0)) (fun q123 =>
  px_let (ob_f x_113 0 q123) (fun x_123 =>
  Option.bind (fX3_resizeUpFrom v4 x_123) (fun q129 =>
  Option.bind (fX3_resizeUpFrom v5 q129) (fun q135 =>
  Option.bind (fX3_moveKeys v1 q135 x1) (fun q141 =>
  some (q141.1, q141.2))))))))
def fX3_cutAt_L19 : Nat → Int32 → Int32 → Int32 → Int32 → Int32 → Ob → Ob → Option (Ob × Ob)
  | 0, _, _, _, _, _, _, _ => none
  | n + 1, v1, v3, v4, v5, v6, x, x1 =>
  (if (64) ≤ v6 then
    fX3_cutAt_J106 v1 v4 v5 x x1
  else
    (if v3 = (-1) then
      fX3_cutAt_J106 v1 v4 v5 x x1
    else
      (if v1 ≤ v3 then
        Option.bind (fX3_leftOf v3 x) (fun q65 =>
        (if v5 = (-1) then
          fX3_cutAt_J85 (fX3_cutAt_L19 n) v1 q65 v4 v5 v6 v3 v3 x x1
        else
          fX3_cutAt_J85 (fX3_cutAt_L19 n) v1 q65 v4 v5 v6 v3 ((x1.1 5)) x x1))
      else
        Option.bind (fX3_rightOf v3 x) (fun q43 =>
        Option.bind (fX3_hang v3 v4 x) (fun q52 =>
        fX3_cutAt_J100 (fX3_cutAt_L19 n) v1 q43 v3 v5 v6 q52 x1)))))
def fX3_cutAt (p1 : Int32) (x : Ob) (x1 : Ob) : Option (Ob × Ob) :=
  px_let ((x.1 5) : Int32) (fun b4 =>
  px_let (ob_i x 5 (-1)) (fun x_13 =>
  fX3_cutAt_L19 FU p1 b4 (-1) (-1) (0) x_13 x1))
abbrev rmX3_cutAt : Room := { frames := 3, cells := 0, slots := 0, locals := 66 }
set_option maxHeartbeats 4000000 in
set_option maxRecDepth 100000 in
theorem ok_X3_cutAt {l : Launch} {E : En} {o : Nat} {ad : (Nat → Nat)} {o1 : Nat} {ad1 : (Nat → Nat)} {p1 : Int32} {x : Ob} {x1 : Ob} {r : Ob × Ob} (hf : fX3_cutAt p1 x x1 = some r) : CV l yX3_cutAt wsX3_cutAt (rmX3_cutAt) [.ref o, .int p1, .ref o1] E (w3 E o ad x ++ w3 E o1 ad1 x1) (w3 E o ad r.1 ++ w3 E o1 ad1 r.2) := by
  refine xc_V (by decide) rfl (Nat.le_of_ble_eq_true rfl) [(0, .ref o), (1, .int p1), (2, .ref o1)] rfl (fun p e s m below meth c A C hr => ?_)
  generalize ([.ref o, .int p1, .ref o1] : List Value).toArray = args at C ⊢
  obtain ⟨Z, hZ⟩ : ∃ Z, Z = ZV E (w3 E o ad r.1 ++ w3 E o1 ad1 r.2) A below args s 0 0 := ⟨_, rfl⟩
  rw [← hZ]
  have in3 : ∀ w ∈ wsX30, w ∈ wsX3_cutAt := by decide +kernel
  have m9 : Cond.fieldLink RX3 9 "TurningTrees$Shape" "left" "[I" ∈ wsX3_cutAt := by decide +kernel
  have m15 : Cond.fieldLink RX3 15 "TurningTrees$Shape" "right" "[I" ∈ wsX3_cutAt := by decide +kernel
  have m33 : Cond.fieldLink RX3 33 "TurningTrees$Shape" "root" "I" ∈ wsX3_cutAt := by decide +kernel
  have hJ100 : ∀ (k19 : Int32 → Int32 → Int32 → Int32 → Int32 → Ob → Ob → Option (Ob × Ob)), (∀ (v1 : Int32), ∀ (v3 : Int32), ∀ (v4 : Int32), ∀ (v5 : Int32), ∀ (v6 : Int32), ∀ (x : Ob), ∀ (x1 : Ob), k19 v1 v3 v4 v5 v6 x x1 = some r → XW E p l e rmX3_cutAt s m args below meth c Z A 0 0 (w3 E o ad x ++ w3 E o1 ad1 x1) 19 8 [(0, .ref o), (1, .int v1), (2, .ref o1), (3, .int v3), (4, .int v4), (5, .int v5), (6, .int v6)] []) → ∀ (v1 : Int32), ∀ (v3 : Int32), ∀ (v4 : Int32), ∀ (v5 : Int32), ∀ (v6 : Int32), ∀ (x : Ob), ∀ (x1 : Ob), fX3_cutAt_J100 k19 v1 v3 v4 v5 v6 x x1 = some r → XW E p l e rmX3_cutAt s m args below meth c Z A 0 0 (w3 E o ad x ++ w3 E o1 ad1 x1) 100 8 [(0, .ref o), (1, .int v1), (2, .ref o1), (3, .int v3), (4, .int v4), (5, .int v5), (6, .int v6)] [] := by
    intro k19 hk19 v1 v3 v4 v5 v6 x x1 h
    rw [fX3_cutAt_J100] at h
    refine px_n h (fun b100 eb100 h => ?_)
    refine xw_iinc (v := b100) C dX3_cutAt_100 6 rfl eb100 (by decide) (lv' := [(6, .int b100), (0, .ref o), (1, .int v1), (2, .ref o1), (3, .int v3), (4, .int v4), (5, .int v5)]) rfl ?_
    refine xw_goto C 19 dX3_cutAt_103 (by decide) ?_
    refine xw_perm [1, 2, 3, 4, 5, 6, 0] rfl ?_
    exact hk19 _ _ _ _ _ _ _ h
  have hJ85 : ∀ (k19 : Int32 → Int32 → Int32 → Int32 → Int32 → Ob → Ob → Option (Ob × Ob)), (∀ (v1 : Int32), ∀ (v3 : Int32), ∀ (v4 : Int32), ∀ (v5 : Int32), ∀ (v6 : Int32), ∀ (x : Ob), ∀ (x1 : Ob), k19 v1 v3 v4 v5 v6 x x1 = some r → XW E p l e rmX3_cutAt s m args below meth c Z A 0 0 (w3 E o ad x ++ w3 E o1 ad1 x1) 19 8 [(0, .ref o), (1, .int v1), (2, .ref o1), (3, .int v3), (4, .int v4), (5, .int v5), (6, .int v6)] []) → ∀ (v1 : Int32), ∀ (v3 : Int32), ∀ (v4 : Int32), ∀ (v5 : Int32), ∀ (v6 : Int32), ∀ (v7 : Int32), ∀ (s0 : Int32), ∀ (x : Ob), ∀ (x1 : Ob), fX3_cutAt_J85 k19 v1 v3 v4 v5 v6 v7 s0 x x1 = some r → XW E p l e rmX3_cutAt s m args below meth c Z A 0 0 (w3 E o ad x ++ w3 E o1 ad1 x1) 85 8 [(0, .ref o), (1, .int v1), (2, .ref o1), (3, .int v3), (4, .int v4), (5, .int v5), (6, .int v6), (7, .int v7)] [.int s0, .ref o1] := by
    intro k19 hk19 v1 v3 v4 v5 v6 v7 s0 x x1 h
    rw [fX3_cutAt_J85] at h
    refine px_n h (fun x1_85 ex1_85 h => ?_)
    refine xw_put (w' := w3 E o ad x ++ w3 E o1 ad1 x1_85) C in3 tyX3 tyX3_ok nmX3 6 rfl rfl 5 (by decide) m33 rfl rfl rfl (Nat.le_of_ble_eq_true rfl) (by rw [ex1_85]; rfl) dX3_cutAt_85 ?_
    refine xw_aload_n C dX3_cutAt_88 rfl 0 rfl ?_
    refine xw_iload C dX3_cutAt_89 7 rfl ?_
    refine xw_iload C dX3_cutAt_91 5 rfl ?_
    obtain ⟨q93, eq93, h⟩ := px_b h
    refine xw_callVV (w' := w3 E o ad q93 ++ w3 E o1 ad1 x1_85) (u := (w3 E o ad x ++ w3 E o1 ad1 x1_85).take 0) (v := (w3 E o ad x ++ w3 E o1 ad1 x1_85).drop 6) C (ok_X3_hangLeft (o := o) (ad := ad) (x := x) eq93) 2 gX3_cutAt_X3_hangLeft rfl ⟨rfl, rfl⟩ (by decide +kernel) ⟨Nat.le_of_ble_eq_true rfl, Nat.le_of_ble_eq_true rfl⟩ 0 3 rfl rfl rfl (Nat.le_of_ble_eq_true rfl) ⟨Nat.zero_le _, Nat.zero_le _⟩ rfl rfl (by rfl) dX3_cutAt_93 ?_
    refine xw_iload C dX3_cutAt_96 7 rfl ?_
    refine xw_istore C dX3_cutAt_98 (by decide) (lv' := [(5, .int v7), (0, .ref o), (1, .int v1), (2, .ref o1), (3, .int v3), (4, .int v4), (6, .int v6), (7, .int v7)]) rfl ?_
    refine xw_perm [1, 2, 3, 4, 5, 0, 6] rfl ?_
    exact hJ100 _ hk19 _ _ _ _ _ _ _ h
  have hJ106 : ∀ (v1 : Int32), ∀ (v4 : Int32), ∀ (v5 : Int32), ∀ (x : Ob), ∀ (x1 : Ob), fX3_cutAt_J106 v1 v4 v5 x x1 = some r → XW E p l e rmX3_cutAt s m args below meth c Z A 0 0 (w3 E o ad x ++ w3 E o1 ad1 x1) 106 8 [(0, .ref o), (1, .int v1), (2, .ref o1), (4, .int v4), (5, .int v5)] [] := by
    intro v1 v4 v5 x x1 h
    rw [fX3_cutAt_J106] at h
    refine xw_aload_n C dX3_cutAt_106 rfl 0 rfl ?_
    refine xw_get C in3 0 rfl rfl 1 (by decide) m15 rfl rfl dX3_cutAt_107 ?_
    refine xw_iload C dX3_cutAt_110 3 rfl ?_
    refine xw_iconst C (-1) dX3_cutAt_112 (by decide) ?_
    obtain ⟨q113, eq113, h⟩ := px_b h
    refine px_n h (fun x_113 ex_113 h => ?_)
    refine xw_callNV (w' := w3 E o ad x_113 ++ w3 E o1 ad1 x1) (u := (w3 E o ad x ++ w3 E o1 ad1 x1).take 2) (v := (w3 E o ad x ++ w3 E o1 ad1 x1).drop 3) C (ok_X5_put (a := (ad 1)) (nn := 64) (f := (x.2 1)) eq113) 3 gX3_cutAt_X5_put_n76 rfl ⟨rfl, rfl⟩ (by decide +kernel) (by decide +kernel) (by decide +kernel) (by decide +kernel) ⟨Nat.le_of_ble_eq_true rfl, Nat.le_of_ble_eq_true rfl⟩ rfl (Nat.le_of_ble_eq_true rfl) ⟨Nat.zero_le _, Nat.zero_le _⟩ rfl rfl (by rw [ex_113]; rfl) dX3_cutAt_113 ?_
    refine xw_aload_n C dX3_cutAt_116 rfl 0 rfl ?_
    refine xw_get C in3 0 rfl rfl 0 (by decide) m9 rfl rfl dX3_cutAt_117 ?_
    refine xw_iload C dX3_cutAt_120 4 rfl ?_
    refine xw_iconst C (-1) dX3_cutAt_122 (by decide) ?_
    obtain ⟨q123, eq123, h⟩ := px_b h
    refine px_n h (fun x_123 ex_123 h => ?_)
    refine xw_callNV (w' := w3 E o ad x_123 ++ w3 E o1 ad1 x1) (u := (w3 E o ad x_113 ++ w3 E o1 ad1 x1).take 1) (v := (w3 E o ad x_113 ++ w3 E o1 ad1 x1).drop 2) C (ok_X5_put (a := (ad 0)) (nn := 64) (f := (x_113.2 0)) eq123) 3 gX3_cutAt_X5_put_n76 rfl ⟨rfl, rfl⟩ (by decide +kernel) (by decide +kernel) (by decide +kernel) (by decide +kernel) ⟨Nat.le_of_ble_eq_true rfl, Nat.le_of_ble_eq_true rfl⟩ rfl (Nat.le_of_ble_eq_true rfl) ⟨Nat.zero_le _, Nat.zero_le _⟩ rfl rfl (by rw [ex_123]; rfl) dX3_cutAt_123 ?_
    refine xw_aload_n C dX3_cutAt_126 rfl 0 rfl ?_
    refine xw_iload C dX3_cutAt_127 3 rfl ?_
    obtain ⟨q129, eq129, h⟩ := px_b h
    refine xw_callVV (w' := w3 E o ad q129 ++ w3 E o1 ad1 x1) (u := (w3 E o ad x_123 ++ w3 E o1 ad1 x1).take 0) (v := (w3 E o ad x_123 ++ w3 E o1 ad1 x1).drop 6) C (ok_X3_resizeUpFrom (o := o) (ad := ad) (x := x_123) eq129) 1 gX3_cutAt_X3_resizeUpFrom rfl ⟨rfl, rfl⟩ (by decide +kernel) ⟨Nat.le_of_ble_eq_true rfl, Nat.le_of_ble_eq_true rfl⟩ 0 3 rfl rfl rfl (Nat.le_of_ble_eq_true rfl) ⟨Nat.zero_le _, Nat.zero_le _⟩ rfl rfl (by rfl) dX3_cutAt_129 ?_
    refine xw_aload_n C dX3_cutAt_132 rfl 0 rfl ?_
    refine xw_iload C dX3_cutAt_133 4 rfl ?_
    obtain ⟨q135, eq135, h⟩ := px_b h
    refine xw_callVV (w' := w3 E o ad q135 ++ w3 E o1 ad1 x1) (u := (w3 E o ad q129 ++ w3 E o1 ad1 x1).take 0) (v := (w3 E o ad q129 ++ w3 E o1 ad1 x1).drop 6) C (ok_X3_resizeUpFrom (o := o) (ad := ad) (x := q129) eq135) 1 gX3_cutAt_X3_resizeUpFrom rfl ⟨rfl, rfl⟩ (by decide +kernel) ⟨Nat.le_of_ble_eq_true rfl, Nat.le_of_ble_eq_true rfl⟩ 0 3 rfl rfl rfl (Nat.le_of_ble_eq_true rfl) ⟨Nat.zero_le _, Nat.zero_le _⟩ rfl rfl (by rfl) dX3_cutAt_135 ?_
    refine xw_aload_n C dX3_cutAt_138 rfl 0 rfl ?_
    refine xw_iload_n C dX3_cutAt_139 rfl 1 rfl ?_
    refine xw_aload_n C dX3_cutAt_140 rfl 2 rfl ?_
    obtain ⟨q141, eq141, h⟩ := px_b h
    refine xw_callVV (w' := w3 E o ad q141.1 ++ w3 E o1 ad1 q141.2) (u := []) (v := []) C (ok_X3_moveKeys (o := o) (ad := ad) (o1 := o1) (ad1 := ad1) (x := q135) (x1 := x1) eq141) 2 gX3_cutAt_X3_moveKeys rfl ⟨rfl, rfl⟩ (by decide +kernel) ⟨Nat.le_of_ble_eq_true rfl, Nat.le_of_ble_eq_true rfl⟩ 0 3 rfl rfl rfl (Nat.le_of_ble_eq_true rfl) ⟨Nat.zero_le _, Nat.zero_le _⟩ rfl xe0 xe0.symm dX3_cutAt_141 ?_
    cases h
    rw [hZ]
    exact xw_vret C hr dX3_cutAt_144
  have hL19 : ∀ n : Nat, ∀ (v1 : Int32), ∀ (v3 : Int32), ∀ (v4 : Int32), ∀ (v5 : Int32), ∀ (v6 : Int32), ∀ (x : Ob), ∀ (x1 : Ob), fX3_cutAt_L19 n v1 v3 v4 v5 v6 x x1 = some r → XW E p l e rmX3_cutAt s m args below meth c Z A 0 0 (w3 E o ad x ++ w3 E o1 ad1 x1) 19 8 [(0, .ref o), (1, .int v1), (2, .ref o1), (3, .int v3), (4, .int v4), (5, .int v5), (6, .int v6)] [] := by
    intro n
    induction n with
    | zero =>
      intro v1 v3 v4 v5 v6 x x1 h
      rw [fX3_cutAt_L19] at h
      cases h
    | succ n ih =>
      intro v1 v3 v4 v5 v6 x x1 h
      rw [fX3_cutAt_L19] at h
      refine xw_iload C dX3_cutAt_19 6 rfl ?_
      refine xw_bipush C (64) dX3_cutAt_21 (by decide) ?_
      refine xw_icmp_ge C 106 dX3_cutAt_23 (by decide) (fun c23 => ?_) (fun c23 => ?_)
      · have h := px_t c23 h
        refine xw_perm [0, 1, 2, 4, 5] rfl ?_
        exact hJ106 _ _ _ _ _ h
      · have h := px_f c23 h
        refine xw_iload_n C dX3_cutAt_26 rfl 3 rfl ?_
        refine xw_iconst C (-1) dX3_cutAt_27 (by decide) ?_
        refine xw_icmp_eq C 106 dX3_cutAt_28 (by decide) (fun c28 => ?_) (fun c28 => ?_)
        · have h := px_t c28 h
          refine xw_perm [0, 1, 2, 4, 5] rfl ?_
          exact hJ106 _ _ _ _ _ h
        · have h := px_f c28 h
          refine xw_iload_n C dX3_cutAt_31 rfl 3 rfl ?_
          refine xw_istore C dX3_cutAt_32 (by decide) (lv' := [(7, .int v3), (0, .ref o), (1, .int v1), (2, .ref o1), (3, .int v3), (4, .int v4), (5, .int v5), (6, .int v6)]) rfl ?_
          refine xw_iload C dX3_cutAt_34 0 rfl ?_
          refine xw_iload_n C dX3_cutAt_36 rfl 2 rfl ?_
          refine xw_icmp_ge C 62 dX3_cutAt_37 (by decide) (fun c37 => ?_) (fun c37 => ?_)
          · have h := px_t c37 h
            refine xw_aload_n C dX3_cutAt_62 rfl 1 rfl ?_
            refine xw_iload C dX3_cutAt_63 0 rfl ?_
            obtain ⟨q65, eq65, h⟩ := px_b h
            refine xw_callVI (w' := w3 E o ad x ++ w3 E o1 ad1 x1) (u := (w3 E o ad x ++ w3 E o1 ad1 x1).take 0) (v := (w3 E o ad x ++ w3 E o1 ad1 x1).drop 6) C (ok_X3_leftOf (o := o) (ad := ad) (x := x) eq65) 1 gX3_cutAt_X3_leftOf rfl ⟨rfl, rfl⟩ (by decide +kernel) ⟨Nat.le_of_ble_eq_true rfl, Nat.le_of_ble_eq_true rfl⟩ 0 3 rfl rfl rfl (Nat.le_of_ble_eq_true rfl) ⟨Nat.zero_le _, Nat.zero_le _⟩ rfl rfl (by rfl) dX3_cutAt_65 ?_
            refine xw_istore_n C dX3_cutAt_68 rfl (by decide) (lv' := [(3, .int q65), (7, .int v3), (0, .ref o), (1, .int v1), (2, .ref o1), (4, .int v4), (5, .int v5), (6, .int v6)]) rfl ?_
            refine xw_aload_n C dX3_cutAt_69 rfl 4 rfl ?_
            refine xw_iload C dX3_cutAt_70 6 rfl ?_
            refine xw_iconst C (-1) dX3_cutAt_72 (by decide) ?_
            refine xw_icmp_ne C 81 dX3_cutAt_73 (by decide) (fun c73 => ?_) (fun c73 => ?_)
            · have h := px_f c73 h
              refine xw_aload_n C dX3_cutAt_81 rfl 4 rfl ?_
              refine xw_get C in3 6 rfl rfl 5 (by decide) m33 rfl rfl dX3_cutAt_82 ?_
              refine xw_perm [2, 3, 4, 0, 5, 6, 7, 1] rfl ?_
              exact hJ85 _ ih _ _ _ _ _ _ _ _ _ h
            · have h := px_t c73 h
              refine xw_iload C dX3_cutAt_76 1 rfl ?_
              refine xw_goto C 85 dX3_cutAt_78 (by decide) ?_
              refine xw_perm [2, 3, 4, 0, 5, 6, 7, 1] rfl ?_
              exact hJ85 _ ih _ _ _ _ _ _ _ _ _ h
          · have h := px_f c37 h
            refine xw_aload_n C dX3_cutAt_40 rfl 1 rfl ?_
            refine xw_iload C dX3_cutAt_41 0 rfl ?_
            obtain ⟨q43, eq43, h⟩ := px_b h
            refine xw_callVI (w' := w3 E o ad x ++ w3 E o1 ad1 x1) (u := (w3 E o ad x ++ w3 E o1 ad1 x1).take 0) (v := (w3 E o ad x ++ w3 E o1 ad1 x1).drop 6) C (ok_X3_rightOf (o := o) (ad := ad) (x := x) eq43) 1 gX3_cutAt_X3_rightOf rfl ⟨rfl, rfl⟩ (by decide +kernel) ⟨Nat.le_of_ble_eq_true rfl, Nat.le_of_ble_eq_true rfl⟩ 0 3 rfl rfl rfl (Nat.le_of_ble_eq_true rfl) ⟨Nat.zero_le _, Nat.zero_le _⟩ rfl rfl (by rfl) dX3_cutAt_43 ?_
            refine xw_istore_n C dX3_cutAt_46 rfl (by decide) (lv' := [(3, .int q43), (7, .int v3), (0, .ref o), (1, .int v1), (2, .ref o1), (4, .int v4), (5, .int v5), (6, .int v6)]) rfl ?_
            refine xw_aload_n C dX3_cutAt_47 rfl 2 rfl ?_
            refine xw_iload C dX3_cutAt_48 1 rfl ?_
            refine xw_iload C dX3_cutAt_50 5 rfl ?_
            obtain ⟨q52, eq52, h⟩ := px_b h
            refine xw_callVV (w' := w3 E o ad q52 ++ w3 E o1 ad1 x1) (u := (w3 E o ad x ++ w3 E o1 ad1 x1).take 0) (v := (w3 E o ad x ++ w3 E o1 ad1 x1).drop 6) C (ok_X3_hang (o := o) (ad := ad) (x := x) eq52) 2 gX3_cutAt_X3_hang rfl ⟨rfl, rfl⟩ (by decide +kernel) ⟨Nat.le_of_ble_eq_true rfl, Nat.le_of_ble_eq_true rfl⟩ 0 3 rfl rfl rfl (Nat.le_of_ble_eq_true rfl) ⟨Nat.zero_le _, Nat.zero_le _⟩ rfl rfl (by rfl) dX3_cutAt_52 ?_
            refine xw_iload C dX3_cutAt_55 1 rfl ?_
            refine xw_istore C dX3_cutAt_57 (by decide) (lv' := [(4, .int v3), (3, .int q43), (7, .int v3), (0, .ref o), (1, .int v1), (2, .ref o1), (5, .int v5), (6, .int v6)]) rfl ?_
            refine xw_goto C 100 dX3_cutAt_59 (by decide) ?_
            refine xw_perm [3, 4, 5, 1, 0, 6, 7] rfl ?_
            exact hJ100 _ ih _ _ _ _ _ _ _ h
  rw [fX3_cutAt] at hf
  have h := hf
  refine xw_aload_n C dX3_cutAt_0 rfl 0 rfl ?_
  refine xw_get C in3 0 rfl rfl 5 (by decide) m33 rfl rfl dX3_cutAt_1 ?_
  refine xw_topi (fun b4 eb4 => ?_)
  have h := px_v h b4 eb4
  refine xw_istore_n C dX3_cutAt_4 rfl (by decide) (lv' := [(3, .int b4), (0, .ref o), (1, .int p1), (2, .ref o1)]) rfl ?_
  refine xw_iconst C (-1) dX3_cutAt_5 (by decide) ?_
  refine xw_istore C dX3_cutAt_6 (by decide) (lv' := [(4, .int (-1)), (3, .int b4), (0, .ref o), (1, .int p1), (2, .ref o1)]) rfl ?_
  refine xw_iconst C (-1) dX3_cutAt_8 (by decide) ?_
  refine xw_istore C dX3_cutAt_9 (by decide) (lv' := [(5, .int (-1)), (4, .int (-1)), (3, .int b4), (0, .ref o), (1, .int p1), (2, .ref o1)]) rfl ?_
  refine xw_aload_n C dX3_cutAt_11 rfl 3 rfl ?_
  refine xw_iconst C (-1) dX3_cutAt_12 (by decide) ?_
  refine px_n h (fun x_13 ex_13 h => ?_)
  refine xw_put (w' := w3 E o ad x_13 ++ w3 E o1 ad1 x1) C in3 tyX3 tyX3_ok nmX3 0 rfl rfl 5 (by decide) m33 rfl rfl rfl (Nat.le_of_ble_eq_true rfl) (by rw [ex_13]; rfl) dX3_cutAt_13 ?_
  refine xw_iconst C (0) dX3_cutAt_16 (by decide) ?_
  refine xw_istore C dX3_cutAt_17 (by decide) (lv' := [(6, .int (0)), (5, .int (-1)), (4, .int (-1)), (3, .int b4), (0, .ref o), (1, .int p1), (2, .ref o1)]) rfl ?_
  refine xw_perm [4, 5, 6, 3, 2, 1, 0] rfl ?_
  exact hL19 _ _ _ _ _ _ _ _ h
def fX4_isTooDeep_L9 : Nat → Int32 → Int64 → Int64 → Int32 → Option (Int32)
  | 0, _, _, _, _ => none
  | n + 1, v0, v2, v4, v6 =>
  (if v0 ≤ v6 then
    some (0)
  else
    (if (64) ≤ v6 then
      some (0)
    else
      px_let ((v2 * (3)) : Int64) (fun b27 =>
      px_let ((v4 * (2)) : Int64) (fun b34 =>
      (if (lg_cmp b27 b34) ≤ 0 then
        px_let (v6 + (1) : Int32) (fun b45 =>
        fX4_isTooDeep_L9 n v0 b27 b34 b45)
      else
        some (1))))))
def fX4_isTooDeep (p0 : Int32) (p1 : Int32) : Option (Int32) :=
  px_let ((Int32.toInt64 p1) : Int64) (fun b4 =>
  fX4_isTooDeep_L9 FU p0 (1) b4 (1))
abbrev rmX4_isTooDeep : Room := { frames := 0, cells := 0, slots := 0, locals := 0 }
set_option maxHeartbeats 4000000 in
set_option maxRecDepth 100000 in
theorem ok_X4_isTooDeep {l : Launch} {E : En} {p0 : Int32} {p1 : Int32} {r : Int32} (hf : fX4_isTooDeep p0 p1 = some r) : CI l yX4_isTooDeep wsX4_isTooDeep (rmX4_isTooDeep) [.int p0, .int p1] E ([]) ([]) (r) := by
  refine xc_I (by decide) rfl (Nat.le_of_ble_eq_true rfl) [(0, .int p0), (1, .int p1)] rfl (fun p e s m below meth c A C hr => ?_)
  generalize ([.int p0, .int p1] : List Value).toArray = args at C ⊢
  obtain ⟨Z, hZ⟩ : ∃ Z, Z = ZI E ([]) (r) A below args s 0 0 := ⟨_, rfl⟩
  rw [← hZ]
  have hL9 : ∀ n : Nat, ∀ (v0 : Int32), ∀ (v2 : Int64), ∀ (v4 : Int64), ∀ (v6 : Int32), fX4_isTooDeep_L9 n v0 v2 v4 v6 = some r → XW E p l e rmX4_isTooDeep s m args below meth c Z A 0 0 ([]) 9 7 [(0, .int v0), (2, .long v2), (4, .long v4), (6, .int v6)] [] := by
    intro n
    induction n with
    | zero =>
      intro v0 v2 v4 v6 h
      rw [fX4_isTooDeep_L9] at h
      cases h
    | succ n ih =>
      intro v0 v2 v4 v6 h
      rw [fX4_isTooDeep_L9] at h
      refine xw_iload C dX4_isTooDeep_9 3 rfl ?_
      refine xw_iload_n C dX4_isTooDeep_11 rfl 0 rfl ?_
      refine xw_icmp_ge C 51 dX4_isTooDeep_12 (by decide) (fun c12 => ?_) (fun c12 => ?_)
      · have h := px_t c12 h
        refine xw_iconst C (0) dX4_isTooDeep_51 (by decide) ?_
        cases h
        rw [hZ]
        exact xw_zret C hr (Or.inl rfl) dX4_isTooDeep_52
      · have h := px_f c12 h
        refine xw_iload C dX4_isTooDeep_15 3 rfl ?_
        refine xw_bipush C (64) dX4_isTooDeep_17 (by decide) ?_
        refine xw_icmp_ge C 51 dX4_isTooDeep_19 (by decide) (fun c19 => ?_) (fun c19 => ?_)
        · have h := px_t c19 h
          refine xw_iconst C (0) dX4_isTooDeep_51 (by decide) ?_
          cases h
          rw [hZ]
          exact xw_zret C hr (Or.inl rfl) dX4_isTooDeep_52
        · have h := px_f c19 h
          refine xw_lload_n C dX4_isTooDeep_22 rfl 1 rfl ?_
          refine xw_ldc2 C (3) (by decide +kernel) dX4_isTooDeep_23 ?_
          refine xw_lmul C dX4_isTooDeep_26 ?_
          refine xw_topl (fun b27 eb27 => ?_)
          have h := px_v h b27 eb27
          refine xw_lstore_n C dX4_isTooDeep_27 rfl (by decide) (lv' := [(2, .long b27), (0, .int v0), (4, .long v4), (6, .int v6)]) rfl ?_
          refine xw_lload C dX4_isTooDeep_28 2 rfl ?_
          refine xw_ldc2 C (2) (by decide +kernel) dX4_isTooDeep_30 ?_
          refine xw_lmul C dX4_isTooDeep_33 ?_
          refine xw_topl (fun b34 eb34 => ?_)
          have h := px_v h b34 eb34
          refine xw_lstore C dX4_isTooDeep_34 (by decide) (lv' := [(4, .long b34), (2, .long b27), (0, .int v0), (6, .int v6)]) rfl ?_
          refine xw_lload_n C dX4_isTooDeep_36 rfl 1 rfl ?_
          refine xw_lload C dX4_isTooDeep_37 0 rfl ?_
          refine xw_lcmp C dX4_isTooDeep_39 ?_
          refine xw_if_le C 45 dX4_isTooDeep_40 (by decide) (fun c40 => ?_) (fun c40 => ?_)
          · have h := px_t c40 h
            refine px_n h (fun b45 eb45 h => ?_)
            refine xw_iinc (v := b45) C dX4_isTooDeep_45 3 rfl eb45 (by decide) (lv' := [(6, .int b45), (4, .long b34), (2, .long b27), (0, .int v0)]) rfl ?_
            refine xw_goto C 9 dX4_isTooDeep_48 (by decide) ?_
            refine xw_perm [3, 2, 1, 0] rfl ?_
            exact ih _ _ _ _ h
          · have h := px_f c40 h
            refine xw_iconst C (1) dX4_isTooDeep_43 (by decide) ?_
            cases h
            rw [hZ]
            exact xw_zret C hr (Or.inr rfl) dX4_isTooDeep_44
  rw [fX4_isTooDeep] at hf
  have h := hf
  refine xw_lconst C (1) dX4_isTooDeep_0 (by decide) ?_
  refine xw_lstore_n C dX4_isTooDeep_1 rfl (by decide) (lv' := [(2, .long (1)), (0, .int p0), (1, .int p1)]) rfl ?_
  refine xw_iload_n C dX4_isTooDeep_2 rfl 2 rfl ?_
  refine xw_i2l C dX4_isTooDeep_3 ?_
  refine xw_topl (fun b4 eb4 => ?_)
  have h := px_v h b4 eb4
  refine xw_lstore C dX4_isTooDeep_4 (by decide) (lv' := [(4, .long b4), (2, .long (1)), (0, .int p0), (1, .int p1)]) rfl ?_
  refine xw_iconst C (1) dX4_isTooDeep_6 (by decide) ?_
  refine xw_istore C dX4_isTooDeep_7 (by decide) (lv' := [(6, .int (1)), (4, .long b4), (2, .long (1)), (0, .int p0), (1, .int p1)]) rfl ?_
  refine xw_perm [3, 2, 1, 0] rfl ?_
  exact hL9 _ _ _ _ _ h
def fX4_isLopsided (p1 : Int32) (y : Ob) : Option (Int32) :=
  Option.bind (fX3_leftOf p1 y) (fun q9 =>
  Option.bind (fX3_sizeOf q9 y) (fun q12 =>
  Option.bind (fX3_rightOf p1 y) (fun q24 =>
  Option.bind (fX3_sizeOf q24 y) (fun q27 =>
  px_let ((if q12 < q27 then q27 else q12) : Int32) (fun b33 =>
  Option.bind (fX3_sizeOf p1 y) (fun q43 =>
  (if ((3) * b33) ≤ ((2) * q43) then
    some (0)
  else
    some (1))))))))
abbrev rmX4_isLopsided : Room := { frames := 2, cells := 0, slots := 0, locals := 42 }
set_option maxHeartbeats 4000000 in
set_option maxRecDepth 100000 in
theorem ok_X4_isLopsided {l : Launch} {E : En} {o : Nat} {q : Nat} {u : Nat} {ad : (Nat → Nat)} {bd : (Nat → Nat)} {p1 : Int32} {x : Ob} {y : Ob} {z : Ob} {r : Int32} (hf : fX4_isLopsided p1 y = some r) : CI l yX4_isLopsided wsX4_isLopsided (rmX4_isLopsided) [.ref o, .int p1] E (w4 E o q u ad bd x y z) (w4 E o q u ad bd x y z) (r) := by
  refine xc_I (by decide) rfl (Nat.le_of_ble_eq_true rfl) [(0, .ref o), (1, .int p1)] rfl (fun p e s m below meth c A C hr => ?_)
  generalize ([.ref o, .int p1] : List Value).toArray = args at C ⊢
  obtain ⟨Z, hZ⟩ : ∃ Z, Z = ZI E (w4 E o q u ad bd x y z) (r) A below args s 0 0 := ⟨_, rfl⟩
  rw [← hZ]
  have in4 : ∀ w ∈ wsX40, w ∈ wsX4_isLopsided := by decide +kernel
  have m18 : Cond.fieldLink RX4 18 "TurningTrees$Tree" "shape" "LTurningTrees$Shape;" ∈ wsX4_isLopsided := by decide +kernel
  rw [fX4_isLopsided] at hf
  have h := hf
  refine xw_aload_n C dX4_isLopsided_0 rfl 0 rfl ?_
  refine xw_get C in4 0 rfl rfl 1 (by decide) m18 rfl rfl dX4_isLopsided_1 ?_
  refine xw_aload_n C dX4_isLopsided_4 rfl 0 rfl ?_
  refine xw_get C in4 0 rfl rfl 1 (by decide) m18 rfl rfl dX4_isLopsided_5 ?_
  refine xw_iload_n C dX4_isLopsided_8 rfl 1 rfl ?_
  obtain ⟨q9, eq9, h⟩ := px_b h
  refine xw_callVI (w' := w4 E o q u ad bd x y z) (u := (w4 E o q u ad bd x y z).take 1) (v := (w4 E o q u ad bd x y z).drop 7) C (ok_X3_leftOf (o := q) (ad := ad) (x := y) eq9) 1 gX4_isLopsided_X3_leftOf rfl ⟨rfl, rfl⟩ (by decide +kernel) ⟨Nat.le_of_ble_eq_true rfl, Nat.le_of_ble_eq_true rfl⟩ 0 3 rfl rfl rfl (Nat.le_of_ble_eq_true rfl) ⟨Nat.zero_le _, Nat.zero_le _⟩ rfl rfl (by rfl) dX4_isLopsided_9 ?_
  obtain ⟨q12, eq12, h⟩ := px_b h
  refine xw_callVI (w' := w4 E o q u ad bd x y z) (u := (w4 E o q u ad bd x y z).take 1) (v := (w4 E o q u ad bd x y z).drop 7) C (ok_X3_sizeOf (o := q) (ad := ad) (x := y) eq12) 1 gX4_isLopsided_X3_sizeOf rfl ⟨rfl, rfl⟩ (by decide +kernel) ⟨Nat.le_of_ble_eq_true rfl, Nat.le_of_ble_eq_true rfl⟩ 0 3 rfl rfl rfl (Nat.le_of_ble_eq_true rfl) ⟨Nat.zero_le _, Nat.zero_le _⟩ rfl rfl (by rfl) dX4_isLopsided_12 ?_
  refine xw_aload_n C dX4_isLopsided_15 rfl 0 rfl ?_
  refine xw_get C in4 0 rfl rfl 1 (by decide) m18 rfl rfl dX4_isLopsided_16 ?_
  refine xw_aload_n C dX4_isLopsided_19 rfl 0 rfl ?_
  refine xw_get C in4 0 rfl rfl 1 (by decide) m18 rfl rfl dX4_isLopsided_20 ?_
  refine xw_iload_n C dX4_isLopsided_23 rfl 1 rfl ?_
  obtain ⟨q24, eq24, h⟩ := px_b h
  refine xw_callVI (w' := w4 E o q u ad bd x y z) (u := (w4 E o q u ad bd x y z).take 1) (v := (w4 E o q u ad bd x y z).drop 7) C (ok_X3_rightOf (o := q) (ad := ad) (x := y) eq24) 1 gX4_isLopsided_X3_rightOf rfl ⟨rfl, rfl⟩ (by decide +kernel) ⟨Nat.le_of_ble_eq_true rfl, Nat.le_of_ble_eq_true rfl⟩ 0 3 rfl rfl rfl (Nat.le_of_ble_eq_true rfl) ⟨Nat.zero_le _, Nat.zero_le _⟩ rfl rfl (by rfl) dX4_isLopsided_24 ?_
  obtain ⟨q27, eq27, h⟩ := px_b h
  refine xw_callVI (w' := w4 E o q u ad bd x y z) (u := (w4 E o q u ad bd x y z).take 1) (v := (w4 E o q u ad bd x y z).drop 7) C (ok_X3_sizeOf (o := q) (ad := ad) (x := y) eq27) 1 gX4_isLopsided_X3_sizeOf rfl ⟨rfl, rfl⟩ (by decide +kernel) ⟨Nat.le_of_ble_eq_true rfl, Nat.le_of_ble_eq_true rfl⟩ 0 3 rfl rfl rfl (Nat.le_of_ble_eq_true rfl) ⟨Nat.zero_le _, Nat.zero_le _⟩ rfl rfl (by rfl) dX4_isLopsided_27 ?_
  refine xw_max C (by decide +kernel) (by decide +kernel) (by decide +kernel) (by decide +kernel) (Nat.le_of_ble_eq_true rfl) (Nat.le_of_ble_eq_true rfl) ⟨Nat.zero_le _, Nat.zero_le _⟩ dX4_isLopsided_30 ?_
  refine xw_topi (fun b33 eb33 => ?_)
  have h := px_v h b33 eb33
  refine xw_istore_n C dX4_isLopsided_33 rfl (by decide) (lv' := [(2, .int b33), (0, .ref o), (1, .int p1)]) rfl ?_
  refine xw_iconst C (3) dX4_isLopsided_34 (by decide) ?_
  refine xw_iload_n C dX4_isLopsided_35 rfl 0 rfl ?_
  refine xw_imul C dX4_isLopsided_36 ?_
  refine xw_iconst C (2) dX4_isLopsided_37 (by decide) ?_
  refine xw_aload_n C dX4_isLopsided_38 rfl 1 rfl ?_
  refine xw_get C in4 0 rfl rfl 1 (by decide) m18 rfl rfl dX4_isLopsided_39 ?_
  refine xw_iload_n C dX4_isLopsided_42 rfl 2 rfl ?_
  obtain ⟨q43, eq43, h⟩ := px_b h
  refine xw_callVI (w' := w4 E o q u ad bd x y z) (u := (w4 E o q u ad bd x y z).take 1) (v := (w4 E o q u ad bd x y z).drop 7) C (ok_X3_sizeOf (o := q) (ad := ad) (x := y) eq43) 1 gX4_isLopsided_X3_sizeOf rfl ⟨rfl, rfl⟩ (by decide +kernel) ⟨Nat.le_of_ble_eq_true rfl, Nat.le_of_ble_eq_true rfl⟩ 0 3 rfl rfl rfl (Nat.le_of_ble_eq_true rfl) ⟨Nat.zero_le _, Nat.zero_le _⟩ rfl rfl (by rfl) dX4_isLopsided_43 ?_
  refine xw_imul C dX4_isLopsided_46 ?_
  refine xw_icmp_le C 54 dX4_isLopsided_47 (by decide) (fun c47 => ?_) (fun c47 => ?_)
  · have h := px_t c47 h
    refine xw_iconst C (0) dX4_isLopsided_54 (by decide) ?_
    cases h
    rw [hZ]
    exact xw_zret C hr (Or.inl rfl) dX4_isLopsided_55
  · have h := px_f c47 h
    refine xw_iconst C (1) dX4_isLopsided_50 (by decide) ?_
    refine xw_goto C 55 dX4_isLopsided_51 (by decide) ?_
    cases h
    rw [hZ]
    exact xw_zret C hr (Or.inr rfl) dX4_isLopsided_55
